/-! the law's helpers: a call in a try, what it throws is told as a number -/
def tbO : List sh_Ds := [.inr (1, 1, 0, 0)]
def tbL : List sh_Ds := tbX ++ (tbM.map (sh_sd 140) ++ tbO)
set_option maxRecDepth 100000 in
theorem tbX_len : tbX.length = 140 := by decide +kernel
set_option maxRecDepth 100000 in
theorem tbM_len : tbM.length = 22 := by decide +kernel
theorem sh_sd_0 (d : sh_Ds) : sh_sd 0 d = d := by
  match d with
  | .inl q =>
    show (Sum.inl (q.1, q.2.map (fun f => (f.1, 0 + f.2))) : sh_Ds) = Sum.inl q
    have e : (fun f : Nat × Nat => (f.1, 0 + f.2)) = id := by
      funext f
      show (f.1, 0 + f.2) = f
      rw [Nat.zero_add]
    rw [e, List.map_id]
  | .inr q =>
    show (Sum.inr (q.1, q.2.1, 0 + q.2.2.1, q.2.2.2) : sh_Ds) = Sum.inr q
    rw [Nat.zero_add]
theorem sub_X : sh_Sub 0 tbX tbL := by
  intro k d h
  have hk := (List.getElem?_eq_some_iff.mp h).1
  rw [sh_sd_0, Nat.zero_add]
  unfold tbL
  rw [List.getElem?_append_left hk]
  exact h
theorem sub_M : sh_Sub 140 tbM tbL := by
  intro k d h
  have hk := (List.getElem?_eq_some_iff.mp h).1
  unfold tbL
  rw [List.getElem?_append_right (by rw [tbX_len]; omega), tbX_len, Nat.add_sub_cancel_left, List.getElem?_append_left (by rw [List.length_map]; exact hk), List.getElem?_map, h]
  rfl
theorem tbL_o : tbL[162]? = some (.inr (1, 1, 0, 0)) := by
  unfold tbL
  rw [List.getElem?_append_right (by rw [tbX_len]; omega), tbX_len, List.getElem?_append_right (by rw [List.length_map, tbM_len]; omega), List.length_map, tbM_len]
  rfl
/-- which exception is not which -/
def sh_ncp : List (String × String) := [("java/lang/IllegalStateException", "java/lang/IllegalArgumentException"), ("java/lang/IllegalArgumentException", "java/util/NoSuchElementException"), ("java/lang/IllegalStateException", "java/util/NoSuchElementException"), ("java/lang/IllegalStateException", "java/lang/IndexOutOfBoundsException"), ("java/util/NoSuchElementException", "java/lang/IndexOutOfBoundsException")]
def sh_Nq (U : State) : Prop := ∀ q ∈ sh_ncp, va_Nc q.1 q.2 U
def sh_wh (y : MethodName) (cc : ByteArray) (mL : Nat) (ret : Option FieldType) (hh : List (Nat × Nat × Nat × Nat)) : List Cond := Cond.codeWith y cc mL ret hh :: sh_ws
def sh_Hi (l : Launch) (y : MethodName) (cc : ByteArray) (mL : Nat) (hh : List (Nat × Nat × Nat × Nat)) (d kc ks : Nat) (tb : List sh_Ds) (vs : sh_Ev → List Value) (F : sh_St → Option (Int32 × sh_St)) : Prop :=
  ∀ (G : sh_Ev) (sz : Nat) (S : sh_St) (res : Int32 × sh_St), F S = some res → Met l y (sh_wh y cc mL (some .int) hh) (sh_rx d kc ks) (va_Pc (vs G) (fun U => sh_Pr G tb sz S U ∧ sh_Nq U)) (va_Qi (fun r u => (r, u) = res) (sh_Bx G tb (va_A (sh_wz G S 0 tb) sz)) (va_A (sh_wz G S 0 tb) sz)) kc ks (va_A (sh_wz G S 0 tb) sz)
abbrev sh_Qh (below : List Frame) (args : Array Value) (s : State) (G : sh_Ev) (tb : List sh_Ds) (A : Nat → Prop) (kc ks : Nat) (res : Int32 × sh_St) : State → Prop := MQ below (va_Qi (fun r u => (r, u) = res) (sh_Bx G tb A) A) args s kc ks A
theorem sh_mkh {l : Launch} {y : MethodName} {cc : ByteArray} {mL : Nat} {hh : List (Nat × Nat × Nat × Nat)} {d kc ks : Nat} {tb : List sh_Ds} {vs : sh_Ev → List Value} {F : sh_St → Option (Int32 × sh_St)} (hy : plainName y.cls = true) (hvs : ∀ G, (lg_sl (vs G)).length ≤ mL)
    (body : ∀ (p : Program) (e : Env) (s : State) (m : MethodId) (args : Array Value) (below : List Frame) (meth : Method) (c : Code) (G : sh_Ev) (A : Nat → Prop) (S : sh_St) (res : Int32 × sh_St) (ls : Array Slot), F S = some res → sh_Cx p s m args meth c cc mL y.cls G A → meth.sig.returnType = some .int → c.exceptionTable.toList = tableOf hh → sh_Nq s → sh_Wx G tb A s s.heap [] S → lv_has ls mL (lv_args 0 (vs G)) → W p l e (sh_rx d kc ks) s m args below meth c s.heap [] 0 0 (sh_Qh below args s G tb A kc ks res) (F0 m 0 ls [])) : sh_Hi l y cc mL hh d kc ks tb vs F := by
  intro G sz S res hF
  refine va_MetW (cc := cc) (maxL := mL) (ret := some .int) (hh := hh) hy rfl ?_
  intro p e s m args below meth c s₁ B hml hv
  obtain ⟨rfl, ⟨hsz, hP, hK, hD0, hSf⟩, hNq⟩ := hv
  have hts := atoms_spec (ws := sh_wh y cc mL (some .int) hh) B.pre
  have hown : s.vm.findClass y.cls = some m.cls := findClass_of_methodNamed B.named
  have htab := vx_table (x := y) B (hts _ List.mem_cons_self)
  subst hsz
  have hl := lv_entry (vs G) (n := mL) (hvs G)
  rw [lg_entry_eq]
  exact body p e s m _ below meth c G _ S res _ hF ⟨B.exec, B.bytes, hml, hown, fun w hw => hts w (List.mem_cons_of_mem _ hw), hK, fun q h => Or.inr h, B.notSynchronized, hSf⟩ B.returns htab hNq ⟨hP, hD0.self, va_S.rf⟩ hl
section ShH
variable {p : Program} {l : Launch} {e : Env} {d d' kc ks cells slots : Nat} {s : State} {m : MethodId} {args : Array Value} {below : List Frame} {meth : Method} {c : Code} {H : Heap} {locs : List Loc} {Q : State → Prop}
variable {cc : ByteArray} {nL : Nat} {own : String} {G : sh_Ev} {A : Nat → Prop} {tb : List sh_Ds} {S : sh_St} {pc : Nat} {ls : Array Slot} {rest st0 : List Value}
theorem sh_HV (C : sh_Cx p s m args meth c cc nL own G A) (h : sh_Wx G tb A s H locs S) {y : MethodName} {cy : ByteArray} {mL n idx i ci kc' ks' : Nat} {rt : FieldType} {vs : sh_Ev → List Value} {F : sh_St → Option ((Int32 ⊕ String) × sh_St)} (M : sh_Ti l y cy mL rt d' kc' ks' tb vs F) (Y : sh_Y y cy mL (some rt) n) (V : sh_YV y) (L : Cond.methodLink own idx y ∈ sh_ws)
    {β : Type} {res : β} {f : (Int32 ⊕ String) → sh_St → Option β} (hf : sh_c (F S) f = some res) {ds : List (Nat × Nat)} {T : u_T} {N : Nat} (ht : tb[i]? = some (.inl (ci, ds))) (hc : vwCl[ci]? = some (y.cls, T, N)) {As : List Value} (hvs : vs G = .ref (G.2.1 i) :: As) (hn : As.length = n) (hst : st0 = As.reverse ++ .ref (G.2.1 i) :: rest) (hrest : (rest.map fun v => v.category).sum ≤ 8) (hd : d' < d) (hkc : cells + kc' ≤ kc) (hks : slots + ks' ≤ ks) (hls : ls.size = nL) (hdg : decode cc pc = .ok (.invokevirtual idx, 3))
    (kx : ∀ (E : String) (S' : sh_St) (H1 : Heap) (locs1 : List Loc) (q : Addr) (ce : Cell), sh_Wx G tb A s H1 locs1 S' → f (.inr E) S' = some res → H1[q]? = some ce → ce.vm = .none → s.vm.findClass E = some ce.cls → vx_W p l e (sh_rx d kc ks) s m args below meth c H1 locs1 (cells + kc') (slots + ks') Q (F0 m pc ls rest) q)
    (kk : ∀ (r : Int32) (S' : sh_St) (H1 : Heap) (locs1 : List Loc), sh_Wx G tb A s H1 locs1 S' → f (.inl r) S' = some res → W p l e (sh_rx d kc ks) s m args below meth c H1 locs1 (cells + kc') (slots + ks') Q (F0 m (pc + 3) ls (.int r :: rest))) : W p l e (sh_rx d kc ks) s m args below meth c H locs cells slots Q (F0 m pc ls st0) := by
  obtain ⟨x, S', hF, hf⟩ : ∃ x S', F S = some (x, S') ∧ f x S' = some res := by
    match hFS : F S, hf with
    | some (x, S'), hf => exact ⟨x, S', rfl, hf⟩
  have hM := M G H.size S (x, S') hF
  rw [hvs] at hM
  refine vx_calli (vx_runV (As := As) (rest := rest) ⟨C.1, C.2.1, C.2.2.1, C.2.2.2.1, C.2.2.2.2.1⟩ hM (sh_xtV C Y V L hd) ⟨sh_blind _ G tb _ S, sh_recv C h ht hc, fun U hU hW => ⟨rfl, sh_before C h U hU hW⟩⟩ rfl hn hls hst (lv_room hrest) hdg ⟨hkc, hks⟩) h.2.2 (fun q _ hq => sh_freeA C h q hq) (sh_freeA C h) (fun q _ hq => sh_freeA C h q hq) (fun E1 ce q9 u1 t H1 locs1 ht1 hvm hpx hBX hz1 hk1 hS hce hcv hcl => ?_) (fun r1 u1 t H1 locs1 ht1 hvm hw hB hz1 hk1 hS => ?_)
  · obtain ⟨e1, hB⟩ := hBX
    cases e1
    exact kx E1 _ H1 locs1 q9 ce (sh_behind C h ht1 hB hS) hf hce hcv hcl
  · cases hw
    exact kk _ _ H1 locs1 (sh_behind C h ht1 hB hS) hf
theorem sh_hri {res : Int32 × sh_St} (C : sh_Cx p s m args meth c cc nL own G A) (h : sh_Wx G tb A s H locs S) (hr : meth.sig.returnType = some .int) {v : Int32} (hf : some (v, S) = some res) (hkc : cells ≤ kc) (hks : slots ≤ ks) (hdg : decode cc pc = .ok (.ireturn, 1)) : W p l e (sh_rx d kc ks) s m args below meth c H locs cells slots (sh_Qh below args s G tb A kc ks res) (F0 m pc ls [.int v]) := by
  obtain ⟨hx, hb, hml, hown, hts, hK, hA, hlocks, hSf⟩ := C
  refine W.widen (k := kc) (n := ks) hkc hks ?_
  exact W.iret (v := v) hx hb hr (fun t ht hW => ⟨⟨v, S, rfl, Option.some.inj hf, by rw [ht]; exact h.1, va_K.moved hW.alike hK, h.2.1⟩, h.2.2.F ht⟩) h.2.2.2.2 hdg
end ShH
/-- what a helper answers: 0 and the answer laid, or the exception's number -/
def sh_hf (ex : List String) (F : sh_St → Option ((Int32 ⊕ String) × sh_St)) (S : sh_St) : Option (Int32 × sh_St) :=
  sh_c (F S) fun x S' => match x with
  | .inl r => sh_g 0 1 (sh_t (sh_L S' 162 (0 : Int32).toNatClampNeg r.toInt64) fun S2 => some (0, S2))
  | .inr E => if ex[0]? = some E then some (1, S') else if ex[1]? = some E then some (2, S') else if ex[2]? = some E then some (3, S') else none
