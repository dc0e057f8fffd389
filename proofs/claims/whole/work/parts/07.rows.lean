/-! Contracts over the picture, and rows that carry 'what the function answers' along -/
/-- before a method -/
def sh_Pr (G : sh_Ev) (tb : List sh_Ds) (sz : Nat) (S : sh_St) (U : State) : Prop := U.heap.size = sz ∧ va_P G.1 vwCl (sh_wz G S 0 tb) U.heap ∧ va_K G.1 vwCl (sh_ty G) U ∧ va_D (fun _ => True) (sh_wz G S 0 tb) ∧ sh_Sf G (va_A (sh_wz G S 0 tb) sz) U U.heap
/-- behind it -/
def sh_Bx (G : sh_Ev) (tb : List sh_Ds) (A : Nat → Prop) (S : sh_St) (t : State) : Prop := va_P G.1 vwCl (sh_wz G S 0 tb) t.heap ∧ va_K G.1 vwCl (sh_ty G) t ∧ va_D A (sh_wz G S 0 tb)
def sh_Mi (l : Launch) (y : MethodName) (cc : ByteArray) (mL : Nat) (rt : FieldType) (d : Nat) (tb : List sh_Ds) (vs : sh_Ev → List Value) (F : sh_St → Option (Int32 × sh_St)) : Prop :=
  ∀ (G : sh_Ev) (sz : Nat) (S : sh_St) (res : Int32 × sh_St), F S = some res → Met l y (sh_wq y cc mL (some rt)) (sh_rm d) (va_Pc (vs G) (sh_Pr G tb sz S)) (va_Qi (fun r u => (r, u) = res) (sh_Bx G tb (va_A (sh_wz G S 0 tb) sz)) (va_A (sh_wz G S 0 tb) sz)) 0 0 (va_A (sh_wz G S 0 tb) sz)
def sh_Ml (l : Launch) (y : MethodName) (cc : ByteArray) (mL : Nat) (d : Nat) (tb : List sh_Ds) (vs : sh_Ev → List Value) (F : sh_St → Option (Int64 × sh_St)) : Prop :=
  ∀ (G : sh_Ev) (sz : Nat) (S : sh_St) (res : Int64 × sh_St), F S = some res → Met l y (sh_wq y cc mL (some .long)) (sh_rm d) (va_Pc (vs G) (sh_Pr G tb sz S)) (va_Ql (fun r u => (r, u) = res) (sh_Bx G tb (va_A (sh_wz G S 0 tb) sz)) (va_A (sh_wz G S 0 tb) sz)) 0 0 (va_A (sh_wz G S 0 tb) sz)
def sh_Mv (l : Launch) (y : MethodName) (cc : ByteArray) (mL : Nat) (d : Nat) (tb : List sh_Ds) (vs : sh_Ev → List Value) (F : sh_St → Option (Unit × sh_St)) : Prop :=
  ∀ (G : sh_Ev) (sz : Nat) (S : sh_St) (res : Unit × sh_St), F S = some res → Met l y (sh_wq y cc mL none) (sh_rm d) (va_Pc (vs G) (sh_Pr G tb sz S)) (va_Qv (fun u => ((), u) = res) (sh_Bx G tb (va_A (sh_wz G S 0 tb) sz)) (va_A (sh_wz G S 0 tb) sz)) 0 0 (va_A (sh_wz G S 0 tb) sz)
/-- what holds all along a method's body -/
def sh_Cx (p : Program) (s : State) (m : MethodId) (args : Array Value) (meth : Method) (c : Code) (cc : ByteArray) (nL : Nat) (own : String) (G : sh_Ev) (A : Nat → Prop) : Prop :=
  p.tables.exec = Jvm.exec ∧ c.code = cc ∧ c.maxLocals = nL ∧ s.vm.findClass own = some m.cls ∧ (∀ w ∈ sh_ws, w.before args s = true) ∧ va_K G.1 vwCl (sh_ty G) s ∧ (∀ q, s.heap.size ≤ q → A q) ∧ meth.locks = false ∧ sh_Sf G A s s.heap
def sh_Wx (G : sh_Ev) (tb : List sh_Ds) (A : Nat → Prop) (s : State) (H : Heap) (locs : List Loc) (S : sh_St) : Prop := va_P G.1 vwCl (sh_wz G S 0 tb) H ∧ va_D A (sh_wz G S 0 tb) ∧ va_S A s.heap H locs
abbrev sh_Qi (below : List Frame) (args : Array Value) (s : State) (G : sh_Ev) (tb : List sh_Ds) (A : Nat → Prop) (res : Int32 × sh_St) : State → Prop := MQ below (va_Qi (fun r u => (r, u) = res) (sh_Bx G tb A) A) args s 0 0 A
abbrev sh_Ql (below : List Frame) (args : Array Value) (s : State) (G : sh_Ev) (tb : List sh_Ds) (A : Nat → Prop) (res : Int64 × sh_St) : State → Prop := MQ below (va_Ql (fun r u => (r, u) = res) (sh_Bx G tb A) A) args s 0 0 A
abbrev sh_Qv (below : List Frame) (args : Array Value) (s : State) (G : sh_Ev) (tb : List sh_Ds) (A : Nat → Prop) (res : Unit × sh_St) : State → Prop := MQ below (va_Qv (fun u => ((), u) = res) (sh_Bx G tb A) A) args s 0 0 A
theorem sh_blind (vs : List Value) (G : sh_Ev) (tb : List sh_Ds) (sz : Nat) (S : sh_St) : FrameBlind (va_Pc vs (sh_Pr G tb sz S)) := by
  intro a U g mk h
  obtain ⟨h0, h1, h2, h3, h4, h5⟩ := h
  exact ⟨h0, h1, h2, va_K.moved (u := U) (U := U.calling g mk a) (Vm.Alike.refl U.vm) h3, h4, sh_Sf_same (s := U) (U := U.calling g mk a) rfl h5⟩
section ShRows
variable {p : Program} {l : Launch} {e : Env} {R : Room} {s : State} {m : MethodId} {args : Array Value} {below : List Frame} {meth : Method} {c : Code} {H : Heap} {locs : List Loc} {cells slots : Nat} {Q : State → Prop}
variable {cc : ByteArray} {nL : Nat} {own : String} {G : sh_Ev} {A : Nat → Prop} {tb : List sh_Ds} {S : sh_St} {pc : Nat} {ls : Array Slot} {rest : List Value} {β : Type} {res : β}
/-- a field's link: the class that asks, the entry; the class that has it, by its place in vwCl, and its number there -/
def sh_FL (own : String) (idx ci k : Nat) : Prop := ∃ (C : String) (T : u_T) (N : Nat), vwCl[ci]? = some (C, T, N) ∧ k < N ∧ (∀ w ∈ u_ws C T N, w ∈ sh_ws) ∧ Cond.fieldLink own idx (T k).1 (T k).2.1 (T k).2.2.1 ∈ sh_ws
def sh_FP (ci k : Nat) (ty : FieldType) : Prop := ∃ (C : String) (T : u_T) (N : Nat) (ty0 : Nat → FieldType), vwCl[ci]? = some (C, T, N) ∧ (∀ k, k < N → parseFieldDescriptor (T k).2.2.1 = some (ty0 k)) ∧ (∀ a, a < N → ∀ b, b < N → a ≠ b → (T a).2.1 ≠ (T b).2.1) ∧ (T k).2.2.2 = false ∧ parseFieldDescriptor (T k).2.2.1 = some ty
theorem sh_get_d (C : sh_Cx p s m args meth c cc nL own G A) (h : sh_Wx G tb A s H locs S) {i k ci idx : Nat} (F : sh_FL own idx ci k) {ds : List (Nat × Nat)} {d : Nat × Nat} (ht : tb[i]? = some (.inl (ci, ds))) (hd : ds[k]? = some d) (hdg : decode cc pc = .ok (.getfield idx, 3))
    (kk : W p l e R s m args below meth c H locs cells slots Q (F0 m (pc + 3) ls (sh_fv G d k (S.1 i) (S.2 i) :: rest))) : W p l e R s m args below meth c H locs cells slots Q (F0 m pc ls (.ref (G.2.1 i) :: rest)) := by
  obtain ⟨hx, hb, hml, hown, hts, hK, hA, hlocks, hSf⟩ := C
  obtain ⟨C0, T, N, hc, hk, hin, hl⟩ := F
  have hv := sh_fvs_get G (S.1 i) (S.2 i) ds 0 k d hd
  rw [Nat.zero_add] at hv
  exact va_get hx hb hts hin hown hK h.1 i (sh_get G S ht) hc k hk (hts _ hl) (fun _ h9 => h9) hv hdg kk
theorem sh_geti (C : sh_Cx p s m args meth c cc nL own G A) (h : sh_Wx G tb A s H locs S) {i k ci idx z : Nat} (F : sh_FL own idx ci k) {ds : List (Nat × Nat)} (ht : tb[i]? = some (.inl (ci, ds))) (hd : ds[k]? = some (0, z)) (hdg : decode cc pc = .ok (.getfield idx, 3))
    (kk : W p l e R s m args below meth c H locs cells slots Q (F0 m (pc + 3) ls (.int (S.1 i k) :: rest))) : W p l e R s m args below meth c H locs cells slots Q (F0 m pc ls (.ref (G.2.1 i) :: rest)) := sh_get_d C h F ht hd hdg kk
theorem sh_getl (C : sh_Cx p s m args meth c cc nL own G A) (h : sh_Wx G tb A s H locs S) {i k ci idx z : Nat} (F : sh_FL own idx ci k) {ds : List (Nat × Nat)} (ht : tb[i]? = some (.inl (ci, ds))) (hd : ds[k]? = some (1, z)) (hdg : decode cc pc = .ok (.getfield idx, 3))
    (kk : W p l e R s m args below meth c H locs cells slots Q (F0 m (pc + 3) ls (.long (S.2 i k) :: rest))) : W p l e R s m args below meth c H locs cells slots Q (F0 m pc ls (.ref (G.2.1 i) :: rest)) := sh_get_d C h F ht hd hdg kk
theorem sh_getr (C : sh_Cx p s m args meth c cc nL own G A) (h : sh_Wx G tb A s H locs S) {i k ci idx z : Nat} (F : sh_FL own idx ci k) {ds : List (Nat × Nat)} (ht : tb[i]? = some (.inl (ci, ds))) (hd : ds[k]? = some (2, z)) (hdg : decode cc pc = .ok (.getfield idx, 3))
    (kk : W p l e R s m args below meth c H locs cells slots Q (F0 m (pc + 3) ls (.ref (G.2.1 z) :: rest))) : W p l e R s m args below meth c H locs cells slots Q (F0 m pc ls (.ref (G.2.1 i) :: rest)) := sh_get_d C h F ht hd hdg kk
theorem sh_geta (C : sh_Cx p s m args meth c cc nL own G A) (h : sh_Wx G tb A s H locs S) {i k ci idx z : Nat} (F : sh_FL own idx ci k) {ds : List (Nat × Nat)} (ht : tb[i]? = some (.inl (ci, ds))) (hd : ds[k]? = some (3, z)) (hdg : decode cc pc = .ok (.getfield idx, 3))
    (kk : W p l e R s m args below meth c H locs cells slots Q (F0 m (pc + 3) ls (.ref (G.2.2.1 (S.1 i k).toNatClampNeg) :: rest))) : W p l e R s m args below meth c H locs cells slots Q (F0 m pc ls (.ref (G.2.1 i) :: rest)) := sh_get_d C h F ht hd hdg kk
theorem sh_put_d (C : sh_Cx p s m args meth c cc nL own G A) (h : sh_Wx G tb A s H locs S) {i k ci idx : Nat} (F : sh_FL own idx ci k) {ty : FieldType} (FP : sh_FP ci k ty) {ds : List (Nat × Nat)} {d : Nat × Nat} {v : Value} {S' : sh_St} (ht : tb[i]? = some (.inl (ci, ds))) (hd : ds[k]? = some d)
    (hS1 : ∀ j, j ≠ i → S'.1 j = S.1 j ∧ S'.2 j = S.2 j) (hS2 : ∀ j, j ≠ k → S'.1 i j = S.1 i j ∧ S'.2 i j = S.2 i j) (hv : sh_fv G d k (S'.1 i) (S'.2 i) = v) (hn : narrow ty v = v) (hfit : fits ty v = true) (hdg : decode cc pc = .ok (.putfield idx, 3))
    (kk : ∀ (H1 : Heap) (locs1 : List Loc), sh_Wx G tb A s H1 locs1 S' → W p l e R s m args below meth c H1 locs1 cells slots Q (F0 m (pc + 3) ls rest)) : W p l e R s m args below meth c H locs cells slots Q (F0 m pc ls (v :: .ref (G.2.1 i) :: rest)) := by
  obtain ⟨hx, hb, hml, hown, hts, hK, hA, hlocks, hSf⟩ := C
  obtain ⟨C0, T, N, hc, hk, hin, hl⟩ := F
  obtain ⟨C1, T1, N1, ty0, hc1, hty, hnm, hfin, hpd⟩ := FP
  cases hc.symm.trans hc1
  have hlen : k < (sh_fvs G ds 0 (S.1 i) (S.2 i)).length := by
    rw [sh_fvs_len]
    exact (List.getElem?_eq_some_iff.mp hd).1
  refine va_put hx hb hts hin ty0 hty hnm hown hK h.1 h.2.1 h.2.2 i (sh_get G S ht) hc k hk (hts _ hl) (fun _ h9 => h9) hfin hpd hn hfit hlen hdg (fun H1 locs1 hP hD hS => ?_)
  have e1 := sh_set G S S' ht hS1
  have e2 := sh_fvs_set G (S.1 i) (S'.1 i) (S.2 i) (S'.2 i) ds 0 k d hd (fun j hj => hS2 j (by omega))
  rw [Nat.zero_add, hv] at e2
  have e3 : sh_cell G (.inl (ci, ds)) (S'.1 i) (S'.2 i) = .inr (ci, (sh_fvs G ds 0 (S.1 i) (S.2 i)).set k v) := by
    show Sum.inr (ci, sh_fvs G ds 0 (S'.1 i) (S'.2 i)) = _
    rw [e2]
  rw [e3] at e1
  refine kk H1 locs1 ⟨?_, ?_, hS⟩
  · rw [e1]; exact hP
  · rw [e1]; exact hD
/-- an int field is laid; the function goes on with the new state -/
theorem sh_puti (C : sh_Cx p s m args meth c cc nL own G A) (h : sh_Wx G tb A s H locs S) {i k ci idx z : Nat} (F : sh_FL own idx ci k) (FP : sh_FP ci k .int) {ds : List (Nat × Nat)} {v : Int32} {f : sh_St → Option β} (hf : sh_t (sh_I S i k v) f = some res) (ht : tb[i]? = some (.inl (ci, ds))) (hd : ds[k]? = some (0, z)) (hdg : decode cc pc = .ok (.putfield idx, 3))
    (kk : ∀ (S' : sh_St) (H1 : Heap) (locs1 : List Loc), sh_Wx G tb A s H1 locs1 S' → f S' = some res → W p l e R s m args below meth c H1 locs1 cells slots Q (F0 m (pc + 3) ls rest)) : W p l e R s m args below meth c H locs cells slots Q (F0 m pc ls (.int v :: .ref (G.2.1 i) :: rest)) :=
  sh_put_d C h F FP (S' := sh_I S i k v) ht hd (fun j hj => sh_I_ne S i k v j hj) (fun j hj => by rw [sh_I_at]; exact ⟨pk_un hj, rfl⟩) (by rw [sh_I_at]; show Value.int (upd (S.1 i) k v k) = _; rw [pk_us]) rfl rfl hdg (fun H1 locs1 hW => kk _ H1 locs1 hW hf)
theorem sh_putz (C : sh_Cx p s m args meth c cc nL own G A) (h : sh_Wx G tb A s H locs S) {i k ci idx z : Nat} (F : sh_FL own idx ci k) (FP : sh_FP ci k .boolean) {ds : List (Nat × Nat)} {v : Int32} {f : sh_St → Option β} (hf : sh_b v (sh_t (sh_I S i k v) f) = some res) (ht : tb[i]? = some (.inl (ci, ds))) (hd : ds[k]? = some (0, z)) (hdg : decode cc pc = .ok (.putfield idx, 3))
    (kk : ∀ (S' : sh_St) (H1 : Heap) (locs1 : List Loc), sh_Wx G tb A s H1 locs1 S' → f S' = some res → W p l e R s m args below meth c H1 locs1 cells slots Q (F0 m (pc + 3) ls rest)) : W p l e R s m args below meth c H locs cells slots Q (F0 m pc ls (.int v :: .ref (G.2.1 i) :: rest)) := by
  obtain ⟨hv, hf⟩ := sh_b_of hf
  refine sh_put_d C h F FP (S' := sh_I S i k v) ht hd (fun j hj => sh_I_ne S i k v j hj) (fun j hj => by rw [sh_I_at]; exact ⟨pk_un hj, rfl⟩) (by rw [sh_I_at]; show Value.int (upd (S.1 i) k v k) = _; rw [pk_us]) ?_ ?_ hdg (fun H1 locs1 hW => kk _ H1 locs1 hW hf)
  · rcases hv with rfl | rfl <;> decide
  · rcases hv with rfl | rfl <;> decide
theorem sh_putl (C : sh_Cx p s m args meth c cc nL own G A) (h : sh_Wx G tb A s H locs S) {i k ci idx z : Nat} (F : sh_FL own idx ci k) (FP : sh_FP ci k .long) {ds : List (Nat × Nat)} {v : Int64} {f : sh_St → Option β} (hf : sh_t (sh_L S i k v) f = some res) (ht : tb[i]? = some (.inl (ci, ds))) (hd : ds[k]? = some (1, z)) (hdg : decode cc pc = .ok (.putfield idx, 3))
    (kk : ∀ (S' : sh_St) (H1 : Heap) (locs1 : List Loc), sh_Wx G tb A s H1 locs1 S' → f S' = some res → W p l e R s m args below meth c H1 locs1 cells slots Q (F0 m (pc + 3) ls rest)) : W p l e R s m args below meth c H locs cells slots Q (F0 m pc ls (.long v :: .ref (G.2.1 i) :: rest)) :=
  sh_put_d C h F FP (S' := sh_L S i k v) ht hd (fun j hj => sh_L_ne S i k v j hj) (fun j hj => by rw [sh_L_at]; exact ⟨rfl, pk_uLn hj⟩) (by rw [sh_L_at]; show Value.long (vp_updL (S.2 i) k v k) = _; rw [pk_uLs]) rfl rfl hdg (fun H1 locs1 hW => kk _ H1 locs1 hW hf)
theorem sh_puta (C : sh_Cx p s m args meth c cc nL own G A) (h : sh_Wx G tb A s H locs S) {i k ci idx z : Nat} (F : sh_FL own idx ci k) {E : String} (FP : sh_FP ci k (.object E)) {ds : List (Nat × Nat)} {v : Int32} {f : sh_St → Option β} (hf : sh_t (sh_I S i k v) f = some res) (ht : tb[i]? = some (.inl (ci, ds))) (hd : ds[k]? = some (3, z)) (hdg : decode cc pc = .ok (.putfield idx, 3))
    (kk : ∀ (S' : sh_St) (H1 : Heap) (locs1 : List Loc), sh_Wx G tb A s H1 locs1 S' → f S' = some res → W p l e R s m args below meth c H1 locs1 cells slots Q (F0 m (pc + 3) ls rest)) : W p l e R s m args below meth c H locs cells slots Q (F0 m pc ls (.ref (G.2.2.1 v.toNatClampNeg) :: .ref (G.2.1 i) :: rest)) :=
  sh_put_d C h F FP (S' := sh_I S i k v) ht hd (fun j hj => sh_I_ne S i k v j hj) (fun j hj => by rw [sh_I_at]; exact ⟨pk_un hj, rfl⟩) (by rw [sh_I_at]; show Value.ref (G.2.2.1 (upd (S.1 i) k v k).toNatClampNeg) = _; rw [pk_us]) rfl rfl hdg (fun H1 locs1 hW => kk _ H1 locs1 hW hf)
theorem sh_iald (C : sh_Cx p s m args meth c cc nL own G A) (h : sh_Wx G tb A s H locs S) {i n b st : Nat} {j : Int32} {k : Option β} (hf : sh_g j n k = some res) (ht : tb[i]? = some (.inr (0, n, b, st))) (hdg : decode cc pc = .ok (.iaload, 1))
    (kk : k = some res → W p l e R s m args below meth c H locs cells slots Q (F0 m (pc + 1) ls (.int (S.1 i j.toNatClampNeg) :: rest))) : W p l e R s m args below meth c H locs cells slots Q (F0 m pc ls (.int j :: .ref (G.2.1 i) :: rest)) := by
  obtain ⟨hx, hb, hml, hown, hts, hK, hA, hlocks, hSf⟩ := C
  obtain ⟨hin, hf⟩ := sh_g_of hf
  exact va_iald hx hb hK h.1 i 0 (sh_get G S ht) rfl hin hdg (kk hf)
theorem sh_lald (C : sh_Cx p s m args meth c cc nL own G A) (h : sh_Wx G tb A s H locs S) {i n b st : Nat} {j : Int32} {k : Option β} (hf : sh_g j n k = some res) (ht : tb[i]? = some (.inr (1, n, b, st))) (hdg : decode cc pc = .ok (.laload, 1))
    (kk : k = some res → W p l e R s m args below meth c H locs cells slots Q (F0 m (pc + 1) ls (.long (S.2 i j.toNatClampNeg) :: rest))) : W p l e R s m args below meth c H locs cells slots Q (F0 m pc ls (.int j :: .ref (G.2.1 i) :: rest)) := by
  obtain ⟨hx, hb, hml, hown, hts, hK, hA, hlocks, hSf⟩ := C
  obtain ⟨hin, hf⟩ := sh_g_of hf
  exact va_lald hx hb hK h.1 i 1 (sh_get G S ht) rfl hin hdg (kk hf)
theorem sh_zald (C : sh_Cx p s m args meth c cc nL own G A) (h : sh_Wx G tb A s H locs S) {i n b st : Nat} {j : Int32} {k : Option β} (hf : sh_g j n k = some res) (ht : tb[i]? = some (.inr (2, n, b, st))) (hdg : decode cc pc = .ok (.baload, 1))
    (kk : k = some res → W p l e R s m args below meth c H locs cells slots Q (F0 m (pc + 1) ls (.int (S.1 i j.toNatClampNeg) :: rest))) : W p l e R s m args below meth c H locs cells slots Q (F0 m pc ls (.int j :: .ref (G.2.1 i) :: rest)) := by
  obtain ⟨hx, hb, hml, hown, hts, hK, hA, hlocks, hSf⟩ := C
  obtain ⟨hin, hf⟩ := sh_g_of hf
  exact va_zald hx hb hK h.1 i 2 (sh_get G S ht) rfl hin hdg (kk hf)
theorem sh_iast (C : sh_Cx p s m args meth c cc nL own G A) (h : sh_Wx G tb A s H locs S) {i n b st : Nat} {j v : Int32} {f : sh_St → Option β} (hf : sh_g j n (sh_t (sh_I S i j.toNatClampNeg v) f) = some res) (ht : tb[i]? = some (.inr (0, n, b, st))) (hdg : decode cc pc = .ok (.iastore, 1))
    (kk : ∀ (S' : sh_St) (H1 : Heap) (locs1 : List Loc), sh_Wx G tb A s H1 locs1 S' → f S' = some res → W p l e R s m args below meth c H1 locs1 cells slots Q (F0 m (pc + 1) ls rest)) : W p l e R s m args below meth c H locs cells slots Q (F0 m pc ls (.int v :: .int j :: .ref (G.2.1 i) :: rest)) := by
  obtain ⟨hx, hb, hml, hown, hts, hK, hA, hlocks, hSf⟩ := C
  obtain ⟨hin, hf⟩ := sh_g_of hf
  refine va_iast hx hb hK h.1 h.2.1 h.2.2 i 0 (sh_get G S ht) rfl hin hdg (fun H1 locs1 hP hD hS => ?_)
  have e1 := sh_set G S (sh_I S i j.toNatClampNeg v) ht (fun q hq => sh_I_ne S i _ v q hq)
  rw [sh_I_at] at e1
  refine kk (sh_I S i j.toNatClampNeg v) H1 locs1 ⟨?_, ?_, hS⟩ hf
  · rw [e1]; exact hP
  · rw [e1]; exact hD
theorem sh_last (C : sh_Cx p s m args meth c cc nL own G A) (h : sh_Wx G tb A s H locs S) {i n b st : Nat} {j : Int32} {v : Int64} {f : sh_St → Option β} (hf : sh_g j n (sh_t (sh_L S i j.toNatClampNeg v) f) = some res) (ht : tb[i]? = some (.inr (1, n, b, st))) (hdg : decode cc pc = .ok (.lastore, 1))
    (kk : ∀ (S' : sh_St) (H1 : Heap) (locs1 : List Loc), sh_Wx G tb A s H1 locs1 S' → f S' = some res → W p l e R s m args below meth c H1 locs1 cells slots Q (F0 m (pc + 1) ls rest)) : W p l e R s m args below meth c H locs cells slots Q (F0 m pc ls (.long v :: .int j :: .ref (G.2.1 i) :: rest)) := by
  obtain ⟨hx, hb, hml, hown, hts, hK, hA, hlocks, hSf⟩ := C
  obtain ⟨hin, hf⟩ := sh_g_of hf
  refine va_last hx hb hK h.1 h.2.1 h.2.2 i 1 (sh_get G S ht) rfl hin hdg (fun H1 locs1 hP hD hS => ?_)
  have e1 := sh_set G S (sh_L S i j.toNatClampNeg v) ht (fun q hq => sh_L_ne S i _ v q hq)
  rw [sh_L_at] at e1
  refine kk (sh_L S i j.toNatClampNeg v) H1 locs1 ⟨?_, ?_, hS⟩ hf
  · rw [e1]; exact hP
  · rw [e1]; exact hD
end ShRows
