/-! What is given of the start and never changes: the enum's constants, their words, static rows, words of the nest -/
def sh_acn : List String := ["PUT", "CUT", "TURN", "BITS", "KEY", "FOLD", "PLAIN", "TEAR", "BUILD"]
def sh_acF : List (String × String × String × List Int32) := [("java/lang/Enum", "ordinal", "I", [0, 1, 2, 3, 4, 5, 6, 7, 8]), ("SteadyShelf$Act", "nameCount", "I", [1, 1, 2, 0, 0, 0, 0, 0, 0]), ("SteadyShelf$Act", "least", "I", [0, 0, 0, 1, 0, 0, 0, 0, 0]), ("SteadyShelf$Act", "most", "I", [999, -1, -1, 12, 65535, -1, -1, 39, -1]), ("SteadyShelf$Act", "tunes", "Z", [0, 0, 0, 1, 1, 1, 1, 0, 0])]
def sh_len : List Nat := [3, 3, 4, 4, 3, 4, 5, 4, 5]
def sh_byt : List (List Int32) := [[112, 117, 116], [99, 117, 116], [116, 117, 114, 110], [98, 105, 116, 115], [107, 101, 121], [102, 111, 108, 100], [112, 108, 97, 105, 110], [116, 101, 97, 114], [98, 117, 105, 108, 100]]
def sh_swm : List Int32 := [1, 2, 3, 0, 0, 5, 0, 4, 6]
def sh_msg : List (Nat × String) := [(100, "the text is wrong"), (111, "no NODE"), (367, "the ACT is refused"), (146, "no such what"), (149, "no FOLD"), (172, "no BITS, or no KEY"), (180, "no such BLOCK"), (191, "no ACT is remembered"), (237, "no such BLOCK, or no such SLOT"), (255, "no such BLOCK, no INDEX, or no such ROW"), (285, "no KEY"), (290, "no KEY, or n is none"), (299, "no such READER"), (307, "the READER is not OPEN")]
def sh_ldm : List (Nat × String × Nat) := [(295, "put", 0), (311, "cut", 1), (316, "turn", 2), (322, "bits", 3), (327, "key", 4), (329, "fold", 5), (331, "plain", 6), (333, "tear", 7), (338, "build", 8)]
def sh_nest : List Cond := [.methodLinkNest "SteadyShelf" 11 ⟨"SteadyShelf$Tape", "<init>", "()V"⟩ "SteadyShelf", .methodLinkNest "SteadyShelf$Keeper" 11 ⟨"SteadyShelf$Order", "<init>", "()V"⟩ "SteadyShelf", .methodLinkNest "SteadyShelf$Keeper" 20 ⟨"SteadyShelf$Way", "<init>", "()V"⟩ "SteadyShelf", .methodLinkNest "SteadyShelf$Keeper" 27 ⟨"SteadyShelf$Pool", "<init>", "()V"⟩ "SteadyShelf", .methodLinkNest "SteadyShelf" 77 ⟨"SteadyShelf$Cursor", "<init>", "()V"⟩ "SteadyShelf", .fieldLinkNest "SteadyShelf$Text" 73 "SteadyShelf" "ALL_ACTS" "[LSteadyShelf$Act;" "SteadyShelf", .methodLinkNest "SteadyShelf$Keeper" 89 ⟨"SteadyShelf", "areOne", "(JJZ)Z"⟩ "SteadyShelf", .methodLinkNest "SteadyShelf$Store" 60 ⟨"SteadyShelf", "hashBy", "(JIIZ)I"⟩ "SteadyShelf", .methodLinkNest "SteadyShelf$Keeper" 242 ⟨"SteadyShelf", "groupsOf", "(I)I"⟩ "SteadyShelf", .methodLinkNest "SteadyShelf$Survey" 145 ⟨"SteadyShelf", "stirred", "(II)I"⟩ "SteadyShelf", .methodLinkNest "SteadyShelf$Survey" 122 ⟨"SteadyShelf", "hashBy", "(JIIZ)I"⟩ "SteadyShelf", .methodLinkNest "SteadyShelf$Survey" 77 ⟨"SteadyShelf", "groupsOf", "(I)I"⟩ "SteadyShelf", .declares ⟨"java/lang/Enum", "ordinal", "()I"⟩, .castable "java/lang/IllegalArgumentException" "java/lang/IllegalArgumentException", .declares ⟨"java/lang/RuntimeException", "<init>", "()V"⟩, .declares ⟨"java/lang/RuntimeException", "<init>", "(Ljava/lang/String;)V"⟩, .declares ⟨"java/lang/Exception", "<init>", "()V"⟩, .declares ⟨"java/lang/Exception", "<init>", "(Ljava/lang/String;)V"⟩, .declares ⟨"java/lang/Throwable", "<init>", "()V"⟩, .declares ⟨"java/lang/Throwable", "<init>", "(Ljava/lang/String;)V"⟩, .castable "java/lang/IllegalStateException" "java/lang/IllegalStateException", .castable "java/util/NoSuchElementException" "java/util/NoSuchElementException", .castable "java/lang/IndexOutOfBoundsException" "java/lang/IndexOutOfBoundsException"]
def sh_Sf (G : sh_Ev) (A : Nat → Prop) (U : State) (H : Heap) : Prop :=
  va_En "SteadyShelf$Act" "LSteadyShelf$Act;" sh_acn sh_acF G.2.2.1 A U H ∧
  va_Ef 9 "SteadyShelf$Act" "word" "Ljava/lang/String;" (fun i => .ref (G.2.2.2.2 i)) G.2.2.1 A U H ∧
  vk_S 9 sh_len sh_byt G.2.2.2.2 (fun i => G.2.2.2.2 (100 + i)) A U H ∧
  (va_Z "SteadyShelf" "ALL_ACTS" "[LSteadyShelf$Act;" (.ref (G.2.2.2.2 200)) A U H ∧ va_T (.object "SteadyShelf$Act") (G.2.2.2.2 200) 9 (fun j => .ref (G.2.2.1 j)) A U H) ∧
  (∃ t : Nat, va_Z "SteadyShelf$1" "$SwitchMap$SteadyShelf$Act" "[I" (.ref t) A U H ∧ va_T .int t 9 (fun j => .int (sh_swm.getD j 0)) A U H) ∧
  (vx_Zq Bundle.tN "UNASSIGNED_STACK" Bundle.steD A U H ∧ vx_Zq Bundle.tN "SUPPRESSED_SENTINEL" Bundle.listD A U H) ∧
  (∀ q ∈ sh_msg, ∃ sa : Nat, vk_R "SteadyShelf" q.1 q.2 sa U) ∧
  (∀ q ∈ sh_ldm, vk_R "SteadyShelfModel" q.1 q.2.1 (G.2.2.2.2 q.2.2) U) ∧
  (va_Z "java/lang/String" "COMPACT_STRINGS" "Z" (.int 1) A U H ∧ va_Zq "jdk/internal/util/Preconditions" "SIOOBE_FORMATTER" "Ljava/util/function/BiFunction;" A U H) ∧
  (∀ w ∈ sh_nest, va_Nw w U)
theorem sh_Sf_kept {G : sh_Ev} {A : Nat → Prop} {U : State} {H H1 : Heap} (h : sh_Sf G A U H) (hq : ∀ a : Nat, a < H.size → ¬ A a → H1[a]? = H[a]?) : sh_Sf G A U H1 := by
  obtain ⟨h1, h2, h3, ⟨h4, h4'⟩, ⟨t5, h5, h5'⟩, ⟨h6, h6'⟩, h7, h8, ⟨h9, h9'⟩, h10⟩ := h
  exact ⟨h1.kept hq, h2.kept hq, h3.kept hq, ⟨h4.kept hq, h4'.kept hq⟩, ⟨t5, h5.kept hq, h5'.kept hq⟩, ⟨h6.kept hq, h6'.kept hq⟩, h7, h8, ⟨h9.kept hq, h9'.kept hq⟩, h10⟩
theorem sh_Sf_narrow {G : sh_Ev} {A B : Nat → Prop} {U : State} {H : Heap} (h : sh_Sf G A U H) (hq : ∀ q, B q → A q) : sh_Sf G B U H := by
  obtain ⟨h1, h2, h3, ⟨h4, h4'⟩, ⟨t5, h5, h5'⟩, ⟨h6, h6'⟩, h7, h8, ⟨h9, h9'⟩, h10⟩ := h
  exact ⟨h1.narrow hq, h2.narrow hq, h3.narrow hq, ⟨h4.narrow hq, h4'.narrow hq⟩, ⟨t5, h5.narrow hq, h5'.narrow hq⟩, ⟨h6.narrow hq, h6'.narrow hq⟩, h7, h8, ⟨h9.narrow hq, h9'.narrow hq⟩, h10⟩
theorem sh_nest_warm {s U : State} (hW : s.WarmedH U.vm) (h : ∀ w ∈ sh_nest, va_Nw w s) : ∀ w ∈ sh_nest, va_Nw w U := by
  intro w hw
  have h1 := h w hw
  simp only [sh_nest, List.mem_cons, List.not_mem_nil, or_false] at hw
  rcases hw with rfl | rfl | rfl | rfl | rfl | rfl | rfl | rfl | rfl | rfl | rfl | rfl | rfl | rfl | rfl | rfl | rfl | rfl | rfl | rfl | rfl | rfl | rfl <;> first | exact va_Nw.warmM hW h1 | exact va_Nw.warmF hW h1 | exact va_Nw.warmD hW h1 | exact va_Nw.warmC hW h1
theorem sh_Sf_warm {G : sh_Ev} {A : Nat → Prop} {s U : State} {H : Heap} (hW : s.WarmedH U.vm) (h : sh_Sf G A s H) : sh_Sf G A U H := by
  obtain ⟨h1, h2, h3, ⟨h4, h4'⟩, ⟨t5, h5, h5'⟩, ⟨h6, h6'⟩, h7, h8, ⟨h9, h9'⟩, h10⟩ := h
  have hq := hW.alike
  exact ⟨va_En.moved hq h1, va_Ef.moved hq h2, vk_S.moved hq h3, ⟨va_Z.moved hq h4, va_T.moved hq h4'⟩, ⟨t5, va_Z.moved hq h5, va_T.moved hq h5'⟩, ⟨vx_Zq.moved hq h6, vx_Zq.moved hq h6'⟩, fun q hq' => (h7 q hq').elim fun sa h => ⟨sa, vk_R.warm hW h⟩, fun q hq' => vk_R.warm hW (h8 q hq'), ⟨va_Z.moved hq h9, va_Zq.moved hq h9'⟩, sh_nest_warm hW h10⟩
theorem sh_nest_tab : ∀ w ∈ sh_nest, w.onTables = true := by decide +kernel
theorem sh_Sf_same {G : sh_Ev} {A : Nat → Prop} {s U : State} {H : Heap} (hv : U.vm = s.vm) (h : sh_Sf G A s H) : sh_Sf G A U H := by
  obtain ⟨h1, h2, h3, ⟨h4, h4'⟩, ⟨t5, h5, h5'⟩, ⟨h6, h6'⟩, h7, h8, ⟨h9, h9'⟩, h10⟩ := h
  have hq : s.vm.Alike U.vm := by rw [hv]; exact Vm.Alike.refl s.vm
  exact ⟨va_En.moved hq h1, va_Ef.moved hq h2, vk_S.moved hq h3, ⟨va_Z.moved hq h4, va_T.moved hq h4'⟩, ⟨t5, va_Z.moved hq h5, va_T.moved hq h5'⟩, ⟨vx_Zq.moved hq h6, vx_Zq.moved hq h6'⟩, fun q hq' => (h7 q hq').elim fun sa h => ⟨sa, vk_R.same hv h⟩, fun q hq' => vk_R.same hv (h8 q hq'), ⟨va_Z.moved hq h9, va_Zq.moved hq h9'⟩, fun w hw => va_Nw.same (sh_nest_tab w hw) hv.symm (h10 w hw)⟩
/-! the words of every method: those of the tables that a call keeps -/
def sh_ws : List Cond := lw_tbl.filter goodWord
def sh_wq (y : MethodName) (cc : ByteArray) (mL : Nat) (ret : Option FieldType) : List Cond := Cond.code y cc mL ret :: sh_ws
theorem sh_in {w : Cond} (h : w ∈ lw_tbl) (g : goodWord w = true) : w ∈ sh_ws := List.mem_filter.mpr ⟨h, g⟩
theorem sh_tin {w : Cond} {i : Nat} (h : tables_1[i]? = some w) (g : goodWord w = true) : w ∈ sh_ws := sh_in (List.mem_append_right _ (List.mem_of_getElem? h)) g
theorem sh_t1 {w : Cond} {i : Nat} (h : tables_1_1[i]? = some w) (g : goodWord w = true) : w ∈ sh_ws := sh_in (List.mem_append_right _ (List.mem_append_left _ (List.mem_of_getElem? h))) g
theorem sh_t2 {w : Cond} {i : Nat} (h : tables_1_2[i]? = some w) (g : goodWord w = true) : w ∈ sh_ws := sh_in (List.mem_append_right _ (List.mem_append_right _ (List.mem_append_left _ (List.mem_of_getElem? h)))) g
theorem sh_t3 {w : Cond} {i : Nat} (h : tables_1_3[i]? = some w) (g : goodWord w = true) : w ∈ sh_ws := sh_in (List.mem_append_right _ (List.mem_append_right _ (List.mem_append_right _ (List.mem_append_left _ (List.mem_of_getElem? h))))) g
theorem sh_t4 {w : Cond} {i : Nat} (h : tables_1_4[i]? = some w) (g : goodWord w = true) : w ∈ sh_ws := sh_in (List.mem_append_right _ (List.mem_append_right _ (List.mem_append_right _ (List.mem_append_right _ (List.mem_append_left _ (List.mem_of_getElem? h)))))) g
theorem sh_t5 {w : Cond} {i : Nat} (h : tables_1_5[i]? = some w) (g : goodWord w = true) : w ∈ sh_ws := sh_in (List.mem_append_right _ (List.mem_append_right _ (List.mem_append_right _ (List.mem_append_right _ (List.mem_append_right _ (List.mem_append_left _ (List.mem_of_getElem? h))))))) g
theorem sh_t6 {w : Cond} {i : Nat} (h : tables_1_6[i]? = some w) (g : goodWord w = true) : w ∈ sh_ws := sh_in (List.mem_append_right _ (List.mem_append_right _ (List.mem_append_right _ (List.mem_append_right _ (List.mem_append_right _ (List.mem_append_right _ (List.mem_append_left _ (List.mem_of_getElem? h)))))))) g
theorem sh_t7 {w : Cond} {i : Nat} (h : tables_1_7[i]? = some w) (g : goodWord w = true) : w ∈ sh_ws := sh_in (List.mem_append_right _ (List.mem_append_right _ (List.mem_append_right _ (List.mem_append_right _ (List.mem_append_right _ (List.mem_append_right _ (List.mem_append_right _ (List.mem_append_left _ (List.mem_of_getElem? h))))))))) g
theorem sh_t8 {w : Cond} {i : Nat} (h : tables_1_8[i]? = some w) (g : goodWord w = true) : w ∈ sh_ws := sh_in (List.mem_append_right _ (List.mem_append_right _ (List.mem_append_right _ (List.mem_append_right _ (List.mem_append_right _ (List.mem_append_right _ (List.mem_append_right _ (List.mem_append_right _ (List.mem_of_getElem? h))))))))) g
theorem sh_pin {q : MethodName × Nat} {i : Nat} (h : lw_privs[i]? = some q) (g : goodWord (Cond.selects q.1.cls q.1 q.1) = true) : Cond.selects q.1.cls q.1 q.1 ∈ sh_ws := sh_in (List.mem_append_left _ (List.mem_map.mpr ⟨q, List.mem_of_getElem? h, rfl⟩)) g
theorem sh_good {y : MethodName} {cc : ByteArray} {mL : Nat} {ret : Option FieldType} (h : Cond.code y cc mL ret ∈ sh_ws) : GoodIn sh_ws (sh_wq y cc mL ret) := by
  intro w hw
  rcases List.mem_cons.mp hw with rfl | hw
  · exact ⟨h, good_of_word (List.mem_filter.mp h).2⟩
  · exact ⟨hw, good_of_word (List.mem_filter.mp hw).2⟩
def sh_rm (d : Nat) : Room := { frames := d, cells := 0, slots := 0, locals := 40 * d }
def sh_ty (G : sh_Ev) : List (ClassId × FieldType) := [(G.2.2.2.1 0, .int), (G.2.2.2.1 1, .long), (G.2.2.2.1 2, .boolean), (G.2.2.2.1 3, .object "SteadyShelf$Store"), (G.2.2.2.1 4, .object "SteadyShelf$Cursor")]
