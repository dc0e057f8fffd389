/-! a contract over some cells is one over more cells -/
def sh_sG (o : Nat) (G : sh_Ev) : sh_Ev := (G.1, fun i => G.2.1 (o + i), G.2.2)
def sh_sS (o : Nat) (S : sh_St) : sh_St := (fun i => S.1 (o + i), fun i => S.2 (o + i))
def sh_sd (o : Nat) (d : sh_Ds) : sh_Ds := match d with
  | .inl q => .inl (q.1, q.2.map (fun f => (f.1, o + f.2)))
  | .inr q => .inr (q.1, q.2.1, o + q.2.2.1, q.2.2.2)
def sh_cb (o n : Nat) (S S1 : sh_St) : sh_St := (fun i => if o ≤ i ∧ i < o + n then S1.1 (i - o) else S.1 i, fun i => if o ≤ i ∧ i < o + n then S1.2 (i - o) else S.2 i)
theorem sh_fv_s (o : Nat) (G : sh_Ev) (d : Nat × Nat) (k : Nat) (fi : Nat → Int32) (fl : Nat → Int64) : sh_fv G (d.1, o + d.2) k fi fl = sh_fv (sh_sG o G) d k fi fl := by
  obtain ⟨t, z⟩ := d
  match t with
  | 0 => rfl
  | 1 => rfl
  | 2 => rfl
  | t + 3 => rfl
theorem sh_fvs_s (o : Nat) (G : sh_Ev) : ∀ (ds : List (Nat × Nat)) (k : Nat) (fi : Nat → Int32) (fl : Nat → Int64), sh_fvs G (ds.map (fun f => (f.1, o + f.2))) k fi fl = sh_fvs (sh_sG o G) ds k fi fl := by
  intro ds
  induction ds with
  | nil => intro k fi fl; rfl
  | cons d ds ih =>
    intro k fi fl
    show sh_fv G (d.1, o + d.2) k fi fl :: sh_fvs G (ds.map (fun f => (f.1, o + f.2))) (k + 1) fi fl = sh_fv (sh_sG o G) d k fi fl :: sh_fvs (sh_sG o G) ds (k + 1) fi fl
    rw [sh_fv_s, ih]
theorem sh_arr_s (o : Nat) (G : sh_Ev) (t b st : Nat) (fi : Nat → Int32) (fl : Nat → Int64) : sh_arr G t (o + b) st fi fl = sh_arr (sh_sG o G) t b st fi fl := by
  match t with
  | 0 => rfl
  | 1 => rfl
  | 2 => rfl
  | t + 3 =>
    show (Sum.inr (Sum.inr (Sum.inr (Sum.inr (fun j => some (G.2.1 (o + b + st * j)))))) : (Nat → Int32) ⊕ (Nat → Int64) ⊕ (Nat → UInt32) ⊕ (Nat → UInt64) ⊕ (Nat → Option Nat)) = Sum.inr (Sum.inr (Sum.inr (Sum.inr (fun j => some (G.2.1 (o + (b + st * j)))))))
    simp only [Nat.add_assoc]
theorem sh_cell_s (o : Nat) (G : sh_Ev) (d : sh_Ds) (fi : Nat → Int32) (fl : Nat → Int64) : sh_cell G (sh_sd o d) fi fl = sh_cell (sh_sG o G) d fi fl := by
  match d with
  | .inl q =>
    show (Sum.inr (q.1, sh_fvs G (q.2.map (fun f => (f.1, o + f.2))) 0 fi fl) : va_E) = Sum.inr (q.1, sh_fvs (sh_sG o G) q.2 0 fi fl)
    rw [sh_fvs_s]
  | .inr q =>
    show (Sum.inl (G.2.2.2.1 q.1, q.2.1, sh_arr G q.1 (o + q.2.2.1) q.2.2.2 fi fl) : va_E) = Sum.inl (G.2.2.2.1 q.1, q.2.1, sh_arr (sh_sG o G) q.1 q.2.2.1 q.2.2.2 fi fl)
    rw [sh_arr_s]
theorem sh_wz_at (G : sh_Ev) (S : sh_St) : ∀ (ds : List sh_Ds) (i k : Nat) (q : Nat × va_E), (sh_wz G S i ds)[k]? = some q → ∃ d, ds[k]? = some d ∧ q = (G.2.1 (i + k), sh_cell G d (S.1 (i + k)) (S.2 (i + k))) := by
  intro ds
  induction ds with
  | nil => intro i k q h; simp [sh_wz] at h
  | cons d0 ds ih =>
    intro i k q h
    cases k with
    | zero =>
      have h1 : some (G.2.1 i, sh_cell G d0 (S.1 i) (S.2 i)) = some q := h
      exact ⟨d0, rfl, (Option.some.inj h1).symm⟩
    | succ k =>
      have h1 : (sh_wz G S (i + 1) ds)[k]? = some q := h
      obtain ⟨d, e1, e2⟩ := ih (i + 1) k q h1
      refine ⟨d, e1, ?_⟩
      rw [e2, show i + 1 + k = i + (k + 1) by omega]
def sh_Sub (o : Nat) (tb tbL : List sh_Ds) : Prop := ∀ (k : Nat) (d : sh_Ds), tb[k]? = some d → tbL[o + k]? = some (sh_sd o d)
section ShLift
variable {o : Nat} {tb tbL : List sh_Ds} {G : sh_Ev} {S S1 : sh_St}
theorem sh_up (hs : sh_Sub o tb tbL) {k : Nat} {q : Nat × va_E} (h : (sh_wz (sh_sG o G) (sh_sS o S) 0 tb)[k]? = some q) : (sh_wz G S 0 tbL)[o + k]? = some q := by
  obtain ⟨d, e1, e2⟩ := sh_wz_at _ _ _ _ _ _ h
  have h1 := sh_wz_get G S tbL 0 (o + k) _ (hs k d e1)
  rw [h1, e2, sh_cell_s]
  simp only [Nat.zero_add]
  rfl
theorem sh_upA (hs : sh_Sub o tb tbL) {sz q : Nat} (h : va_A (sh_wz (sh_sG o G) (sh_sS o S) 0 tb) sz q) : va_A (sh_wz G S 0 tbL) sz q := by
  rcases h with ⟨k, e, hk⟩ | h
  · exact Or.inl ⟨o + k, e, sh_up hs hk⟩
  · exact Or.inr h
theorem sh_subD (hs : sh_Sub o tb tbL) {A : Nat → Prop} (h : va_D A (sh_wz G S 0 tbL)) : va_D A (sh_wz (sh_sG o G) (sh_sS o S) 0 tb) := ⟨fun i j p q hi hj e => by
  have := h.1 (o + i) (o + j) p q (sh_up hs hi) (sh_up hs hj) e
  omega, fun k q hk => h.2 (o + k) q (sh_up hs hk)⟩
theorem sh_sameD {A : Nat → Prop} {S' : sh_St} (h : va_D A (sh_wz G S 0 tbL)) : va_D A (sh_wz G S' 0 tbL) := by
  have key : ∀ (k : Nat) (q : Nat × va_E), (sh_wz G S' 0 tbL)[k]? = some q → ∃ q', (sh_wz G S 0 tbL)[k]? = some q' ∧ q'.1 = q.1 := fun k q hk => by
    obtain ⟨d, e1, e2⟩ := sh_wz_at _ _ _ _ _ _ hk
    exact ⟨_, sh_wz_get G S tbL 0 k d e1, by rw [e2]⟩
  refine ⟨fun i j p q hi hj e => ?_, fun k q hk => ?_⟩
  · obtain ⟨p', a1, a2⟩ := key i p hi
    obtain ⟨q', b1, b2⟩ := key j q hj
    exact h.1 i j p' q' a1 b1 (a2.trans (e.trans b2.symm))
  · obtain ⟨q', b1, b2⟩ := key k q hk
    rw [← b2]
    exact h.2 k q' b1
theorem sh_subPr (hs : sh_Sub o tb tbL) {sz : Nat} {U : State} (h : sh_Pr G tbL sz S U) : sh_Pr (sh_sG o G) tb sz (sh_sS o S) U := by
  obtain ⟨h1, h2, h3, h4, h5⟩ := h
  exact ⟨h1, fun k q hk => h2 (o + k) q (sh_up hs hk), h3, sh_subD hs h4, sh_Sf_narrow (G := sh_sG o G) (A := va_A (sh_wz G S 0 tbL) sz) h5 (fun q hq => sh_upA hs hq)⟩
theorem sh_supF (hs : sh_Sub o tb tbL) {sz : Nat} {st t : State} (h : va_F (va_A (sh_wz (sh_sG o G) (sh_sS o S) 0 tb) sz) st t) : va_F (va_A (sh_wz G S 0 tbL) sz) st t := ⟨h.1, fun q h1 h2 => h.2 q h1 (fun w => h2 (sh_upA hs w))⟩
theorem sh_supB (hs : sh_Sub o tb tbL) {sz : Nat} {st t : State} (h0 : sh_Pr G tbL sz S st) (hF : va_F (va_A (sh_wz (sh_sG o G) (sh_sS o S) 0 tb) sz) st t) (hB : sh_Bx (sh_sG o G) tb (va_A (sh_wz (sh_sG o G) (sh_sS o S) 0 tb) sz) S1 t) : sh_Bx G tbL (va_A (sh_wz G S 0 tbL) sz) (sh_cb o tb.length S S1) t := by
  obtain ⟨g1, g2, g3, g4, g5⟩ := h0
  obtain ⟨b1, b2, b3⟩ := hB
  refine ⟨fun k q hk => ?_, b2, sh_sameD g4.self⟩
  obtain ⟨d, e1, e2⟩ := sh_wz_at _ _ _ _ _ _ hk
  rw [Nat.zero_add] at e2
  by_cases c : o ≤ k ∧ k < o + tb.length
  · obtain ⟨j, hj⟩ : ∃ j, k = o + j := ⟨k - o, by omega⟩
    subst hj
    have hjl : j < tb.length := by omega
    have ed : tbL[o + j]? = some (sh_sd o tb[j]) := hs j _ (List.getElem?_eq_getElem hjl)
    have ed2 : d = sh_sd o tb[j] := Option.some.inj (e1.symm.trans ed)
    have eI : (sh_cb o tb.length S S1).1 (o + j) = S1.1 j := by
      show (if o ≤ o + j ∧ o + j < o + tb.length then S1.1 (o + j - o) else S.1 (o + j)) = S1.1 j
      rw [if_pos c, Nat.add_sub_cancel_left]
    have eL : (sh_cb o tb.length S S1).2 (o + j) = S1.2 j := by
      show (if o ≤ o + j ∧ o + j < o + tb.length then S1.2 (o + j - o) else S.2 (o + j)) = S1.2 j
      rw [if_pos c, Nat.add_sub_cancel_left]
    have h1 := b1 j _ (sh_wz_get (sh_sG o G) S1 tb 0 j _ (List.getElem?_eq_getElem hjl))
    rw [Nat.zero_add] at h1
    rw [e2, ed2, eI, eL, sh_cell_s]
    exact h1
  · have eI : (sh_cb o tb.length S S1).1 k = S.1 k := if_neg c
    have eL : (sh_cb o tb.length S S1).2 k = S.2 k := if_neg c
    have hw : (sh_wz G S 0 tbL)[k]? = some q := by
      have h1 := sh_wz_get G S tbL 0 k d e1
      rw [Nat.zero_add] at h1
      rw [h1, e2, eI, eL]
    have ha := g2 k q hw
    refine ha.kept (hF.2 q.1 ha.lt (fun w => ?_))
    rcases w with ⟨j, e, hj⟩ | w
    · have hj2 := sh_up hs hj
      have := g4.1 (o + j) k _ _ hj2 hw rfl
      have hjl : j < tb.length := by
        obtain ⟨d9, e9, _⟩ := sh_wz_at _ _ _ _ _ _ hj
        exact (List.getElem?_eq_some_iff.mp e9).1
      omega
    · have := ha.lt
      omega
end ShLift
/-- what a call answers, seen over all cells -/
def sh_lf {α : Type} (o n : Nat) (F : sh_St → Option (α × sh_St)) (S : sh_St) : Option (α × sh_St) := match F (sh_sS o S) with
  | none => none
  | some r => some (r.1, sh_cb o n S r.2)
theorem sh_lf_of {α : Type} {o n : Nat} {F : sh_St → Option (α × sh_St)} {S : sh_St} {res : α × sh_St} (h : sh_lf o n F S = some res) : ∃ r, F (sh_sS o S) = some r ∧ res = (r.1, sh_cb o n S r.2) := by
  unfold sh_lf at h
  split at h
  · cases h
  · rename_i r e
    exact ⟨r, e, (Option.some.inj h).symm⟩
theorem sh_Mi_up {l : Launch} {y : MethodName} {cc : ByteArray} {mL : Nat} {rt : FieldType} {d o : Nat} {tb tbL : List sh_Ds} {vs : sh_Ev → List Value} {F : sh_St → Option (Int32 × sh_St)} (hs : sh_Sub o tb tbL) (M : sh_Mi l y cc mL rt d tb vs F) : sh_Mi l y cc mL rt d tbL (fun G => vs (sh_sG o G)) (sh_lf o tb.length F) := by
  intro G sz S res hF
  obtain ⟨r, h1, h2⟩ := sh_lf_of hF
  have h := M (sh_sG o G) sz (sh_sS o S) r h1
  intro p e ha hc hk s m args below hf hap hP hK
  obtain ⟨n, oc, q1, q2, q3, ⟨⟨r9, u, e1, e2, e3⟩, e4⟩, L, e5, e6⟩ := h p e ha hc hk s m args below hf hap ⟨hP.1, sh_subPr hs hP.2⟩ hK
  refine ⟨n, oc, q1, q2, q3, ⟨⟨r9, sh_cb o tb.length S u, e1, ?_, sh_supB hs hP.2 e4 e3⟩, sh_supF hs e4⟩, L, e5, fun q hq => sh_upA hs (e6 q hq)⟩
  have e2' : (r9, u) = r := e2
  rw [h2, ← e2']
theorem sh_Mv_up {l : Launch} {y : MethodName} {cc : ByteArray} {mL : Nat} {d o : Nat} {tb tbL : List sh_Ds} {vs : sh_Ev → List Value} {F : sh_St → Option (Unit × sh_St)} (hs : sh_Sub o tb tbL) (M : sh_Mv l y cc mL d tb vs F) : sh_Mv l y cc mL d tbL (fun G => vs (sh_sG o G)) (sh_lf o tb.length F) := by
  intro G sz S res hF
  obtain ⟨r, h1, h2⟩ := sh_lf_of hF
  have h := M (sh_sG o G) sz (sh_sS o S) r h1
  intro p e ha hc hk s m args below hf hap hP hK
  obtain ⟨n, oc, q1, q2, q3, ⟨⟨u, e1, e2, e3⟩, e4⟩, L, e5, e6⟩ := h p e ha hc hk s m args below hf hap ⟨hP.1, sh_subPr hs hP.2⟩ hK
  refine ⟨n, oc, q1, q2, q3, ⟨⟨sh_cb o tb.length S u, e1, ?_, sh_supB hs hP.2 e4 e3⟩, sh_supF hs e4⟩, L, e5, fun q hq => sh_upA hs (e6 q hq)⟩
  have e2' : ((), u) = r := e2
  rw [h2, ← e2']
theorem sh_Ti_up {l : Launch} {y : MethodName} {cc : ByteArray} {mL : Nat} {rt : FieldType} {d kc ks o : Nat} {tb tbL : List sh_Ds} {vs : sh_Ev → List Value} {F : sh_St → Option ((Int32 ⊕ String) × sh_St)} (hs : sh_Sub o tb tbL) (M : sh_Ti l y cc mL rt d kc ks tb vs F) : sh_Ti l y cc mL rt d kc ks tbL (fun G => vs (sh_sG o G)) (sh_lf o tb.length F) := by
  intro G sz S res hF
  obtain ⟨r, h1, h2⟩ := sh_lf_of hF
  have h := M (sh_sG o G) sz (sh_sS o S) r h1
  intro p e ha hc hk s m args below hf hap hP hK
  obtain ⟨n, oc, q1, q2, q3, hQ⟩ := h p e ha hc hk s m args below hf hap ⟨hP.1, sh_subPr hs hP.2⟩ hK
  refine ⟨n, oc, q1, q2, q3, ?_⟩
  rcases hQ with ⟨⟨⟨r9, u, e1, e2, e3⟩, e4⟩, L, e5, e6⟩ | ⟨q, e1, E, ce, L, ⟨u, e2, ⟨e3, e4⟩, e5⟩, e6, e7, e8, e9, e10, e11⟩
  · refine Or.inl ⟨⟨⟨r9, sh_cb o tb.length S u, e1, ?_, sh_supB hs hP.2 e4 e3⟩, sh_supF hs e4⟩, L, e5, fun q hq => sh_upA hs (e6 q hq)⟩
    have e2' : (Sum.inl r9, u) = r := e2
    rw [h2, ← e2']
  · refine Or.inr ⟨q, e1, E, ce, L, ⟨sh_cb o tb.length S u, trivial, ⟨?_, sh_supB hs hP.2 e5 e4⟩, sh_supF hs e5⟩, e6, e7, e8, e9, e10, fun q hq => sh_upA hs (e11 q hq)⟩
    have e3' : (Sum.inr E, u) = r := e3
    rw [h2, ← e3']
