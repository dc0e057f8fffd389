/-! changes of the tree and their pictures -/
def zwT (T : zT) (i k v : Nat) : zT := (fun i' => if i' = i then (fun k' => if k' = k then v else T.1 i' k') else T.1 i', T.2)
def zeT (T : zT) (k : Nat) (n : Int64) (d : Nat) : zT := (fun i' => if i' = 3 then (fun k' => if k' = k then d else T.1 i' k') else T.1 i', fun k' => if k' = k then n else T.2 k')
theorem zwT_s (T : zT) (i k v : Nat) : (zwT T i k v).1 i k = v := by unfold zwT; simp
theorem zwT_k (T : zT) (i k v : Nat) {k' : Nat} (h : k' ≠ k) : (zwT T i k v).1 i k' = T.1 i k' := by unfold zwT; simp [h]
theorem zwT_i (T : zT) (i k v : Nat) {i' : Nat} (h : i' ≠ i) : (zwT T i k v).1 i' = T.1 i' := by unfold zwT; simp [h]
theorem zwT_2 (T : zT) (i k v : Nat) : (zwT T i k v).2 = T.2 := rfl
theorem zeT_i (T : zT) (k : Nat) (n : Int64) (d : Nat) {i' : Nat} (h : i' ≠ 3) : (zeT T k n d).1 i' = T.1 i' := by unfold zeT; simp [h]
theorem zeT_s (T : zT) (k : Nat) (n : Int64) (d : Nat) : (zeT T k n d).1 3 k = d := by unfold zeT; simp
theorem zeT_k (T : zT) (k : Nat) (n : Int64) (d : Nat) {k' : Nat} (h : k' ≠ k) : (zeT T k n d).1 3 k' = T.1 3 k' := by unfold zeT; simp [h]
theorem zeT_2s (T : zT) (k : Nat) (n : Int64) (d : Nat) : (zeT T k n d).2 k = n := by unfold zeT; simp
theorem zeT_2k (T : zT) (k : Nat) (n : Int64) (d : Nat) {k' : Nat} (h : k' ≠ k) : (zeT T k n d).2 k' = T.2 k' := by unfold zeT; simp [h]
theorem zha_w {T : zT} {i k v : Nat} (h : i ≠ 7 ∨ k = 0) (n : Int64) : zha (zwT T i k v) n = zha T n := by
  unfold zha
  by_cases h7 : i = 7
  · subst h7
    have hk : k = 0 := by omega
    subst hk
    rw [zwT_k T 7 0 v (by omega), zwT_k T 7 0 v (by omega), zwT_k T 7 0 v (by omega)]
  · rw [zwT_i T i k v (by omega)]
theorem zha_e (T : zT) (k : Nat) (n : Int64) (d : Nat) (m : Int64) : zha (zeT T k n d) m = zha T m := by
  unfold zha
  rw [zeT_i T k n d (by omega)]
/-- trees that no picture tells apart -/
def zeq (T T' : zT) : Prop := (∀ i k, i ≠ 3 → T'.1 i k = T.1 i k) ∧ (∀ k, T'.2 k = T.2 k) ∧ (∀ k, T.2 k ≠ 0 → T'.1 3 k = T.1 3 k)
theorem zeq_rf (T : zT) : zeq T T := ⟨fun _ _ _ => rfl, fun _ => rfl, fun _ _ => rfl⟩
theorem zeq_sy {T T' : zT} (h : zeq T T') : zeq T' T := ⟨fun i k hi => (h.1 i k hi).symm, fun k => (h.2.1 k).symm, fun k hk => (h.2.2 k (by rw [h.2.1 k] at hk; exact hk)).symm⟩
theorem zeq_tr {T T1 T2 : zT} (h : zeq T T1) (h' : zeq T1 T2) : zeq T T2 := ⟨fun i k hi => (h'.1 i k hi).trans (h.1 i k hi), fun k => (h'.2.1 k).trans (h.2.1 k), fun k hk => (h'.2.2 k (by rw [h.2.1 k]; exact hk)).trans (h.2.2 k hk)⟩
theorem zeq_ha {T T' : zT} (h : zeq T T') (n : Int64) : zha T' n = zha T n := by
  unfold zha
  rw [h.1 7 1 (by omega), h.1 7 2 (by omega), h.1 7 3 (by omega)]
theorem zVX_eq {S : sh_St} {o : Nat} {T T' : zT} (h : zeq T T') (hv : zVX S o T) : zVX S o T' := by
  obtain ⟨h1, h2, h3, h4, h5, h6, h7⟩ := hv
  refine ⟨fun b hb => ?_, fun k hk => ⟨?_, fun hn => ⟨?_, ?_⟩⟩, fun j hj => ?_, ?_, ?_, ?_, ?_⟩
  · rw [h.1 0 b (by omega), h.1 1 b (by omega), h.1 2 b (by omega)]; exact h1 b hb
  · rw [h.2.1 k]; exact (h2 k hk).1
  · rw [h.2.1 k] at hn; rw [h.2.2 k hn]; exact ((h2 k hk).2 hn).1
  · rw [h.2.1 k] at hn; rw [zeq_ha h, h.2.1 k]; exact ((h2 k hk).2 hn).2
  · rw [h.1 4 j (by omega), h.1 5 j (by omega), h.1 6 j (by omega)]; exact h3 j hj
  · rw [h.1 7 1 (by omega)]; exact h4
  · rw [h.1 7 2 (by omega)]; exact h5
  · rw [h.1 7 3 (by omega)]; exact h6
  · rw [h.1 7 0 (by omega)]; exact h7
theorem zVM_eq {f : Nat → Int32} {g : Nat → Int64} {T T' : zT} (h : zeq T T') (hv : zVM f g T) : zVM f g T' := by
  obtain ⟨h1, h2, h3, h4, h5, h6, h7⟩ := hv
  refine ⟨fun b hb => ?_, fun k hk => ⟨?_, ?_⟩, fun j hj => ?_, ?_, ?_, ?_, ?_⟩
  · rw [h.1 0 b (by omega), h.1 1 b (by omega), h.1 2 b (by omega)]; exact h1 b hb
  · rw [h.2.1 k]; exact (h2 k hk).1
  · rw [(h2 k hk).2, h.2.1 k]
    by_cases hn : T.2 k = 0
    · rw [if_pos hn, if_pos hn]
    · rw [if_neg hn, if_neg hn, h.2.2 k hn]
  · rw [h.1 4 j (by omega), h.1 5 j (by omega), h.1 6 j (by omega)]; exact h3 j hj
  · rw [h.1 7 0 (by omega)]; exact h4
  · rw [h.1 7 1 (by omega)]; exact h5
  · rw [h.1 7 2 (by omega)]; exact h6
  · rw [h.1 7 3 (by omega)]; exact h7
/-! the class's writes -/
theorem zXw0 {S : sh_St} {T : zT} (h : zVX S 4 T) (b v : Nat) : zVX (sh_I S 5 b (nI v)) 4 (zwT T 0 b v) := by
  obtain ⟨h1, h2, h3, h4, h5, h6, h7⟩ := h
  refine ⟨fun b' hb' => ?_, h2, h3, h4, h5, h6, h7⟩
  obtain ⟨a1, a2, a3, a4⟩ := h1 b' hb'
  refine ⟨?_, a2, a3, a4⟩
  by_cases e : b' = b
  · subst e; rw [zwT_s]; exact zI_s _ _ _ _
  · rw [zwT_k T 0 b v e]; exact (zI_k S 5 b (nI v) e).trans a1
theorem zXw1 {S : sh_St} {T : zT} (h : zVX S 4 T) (b : Nat) {v : Nat} (hv : v ≤ 6) : zVX (sh_I S 6 b (nI v)) 4 (zwT T 1 b v) := by
  obtain ⟨h1, h2, h3, h4, h5, h6, h7⟩ := h
  refine ⟨fun b' hb' => ?_, h2, h3, h4, h5, h6, h7⟩
  obtain ⟨a1, a2, a3, a4⟩ := h1 b' hb'
  refine ⟨a1, ?_, a3, ?_⟩
  · by_cases e : b' = b
    · subst e; rw [zwT_s]; exact zI_s _ _ _ _
    · rw [zwT_k T 1 b v e]; exact (zI_k S 6 b (nI v) e).trans a2
  · by_cases e : b' = b
    · subst e; rw [zwT_s]; exact hv
    · rw [zwT_k T 1 b v e]; exact a4
theorem zXw2 {S : sh_St} {T : zT} (h : zVX S 4 T) (b v : Nat) : zVX (sh_I S 7 b (nI v)) 4 (zwT T 2 b v) := by
  obtain ⟨h1, h2, h3, h4, h5, h6, h7⟩ := h
  refine ⟨fun b' hb' => ?_, h2, h3, h4, h5, h6, h7⟩
  obtain ⟨a1, a2, a3, a4⟩ := h1 b' hb'
  refine ⟨a1, a2, ?_, a4⟩
  by_cases e : b' = b
  · subst e; rw [zwT_s]; exact zI_s _ _ _ _
  · rw [zwT_k T 2 b v e]; exact (zI_k S 7 b (nI v) e).trans a3
theorem zXw4 {S : sh_St} {T : zT} (h : zVX S 4 T) (j v : Nat) : zVX (sh_I S 11 j (nI v)) 4 (zwT T 4 j v) := by
  obtain ⟨h1, h2, h3, h4, h5, h6, h7⟩ := h
  refine ⟨h1, h2, fun j' hj' => ?_, h4, h5, h6, h7⟩
  obtain ⟨a1, a2, a3⟩ := h3 j' hj'
  refine ⟨?_, a2, a3⟩
  by_cases e : j' = j
  · subst e; rw [zwT_s]; exact zI_s _ _ _ _
  · rw [zwT_k T 4 j v e]; exact (zI_k S 11 j (nI v) e).trans a1
theorem zXw5 {S : sh_St} {T : zT} (h : zVX S 4 T) (j v : Nat) : zVX (sh_I S 12 j (nI v)) 4 (zwT T 5 j v) := by
  obtain ⟨h1, h2, h3, h4, h5, h6, h7⟩ := h
  refine ⟨h1, h2, fun j' hj' => ?_, h4, h5, h6, h7⟩
  obtain ⟨a1, a2, a3⟩ := h3 j' hj'
  refine ⟨a1, ?_, a3⟩
  by_cases e : j' = j
  · subst e; rw [zwT_s]; exact zI_s _ _ _ _
  · rw [zwT_k T 5 j v e]; exact (zI_k S 12 j (nI v) e).trans a2
theorem zXw6 {S : sh_St} {T : zT} (h : zVX S 4 T) (j v : Nat) : zVX (sh_I S 13 j (nI v)) 4 (zwT T 6 j v) := by
  obtain ⟨h1, h2, h3, h4, h5, h6, h7⟩ := h
  refine ⟨h1, h2, fun j' hj' => ?_, h4, h5, h6, h7⟩
  obtain ⟨a1, a2, a3⟩ := h3 j' hj'
  refine ⟨a1, a2, ?_⟩
  by_cases e : j' = j
  · subst e; rw [zwT_s]; exact zI_s _ _ _ _
  · rw [zwT_k T 6 j v e]; exact (zI_k S 13 j (nI v) e).trans a3
theorem zXw7 {S : sh_St} {T : zT} (h : zVX S 4 T) (v : Nat) : zVX (sh_I S 4 3 (nI v)) 4 (zwT T 7 0 v) := by
  obtain ⟨h1, h2, h3, h4, h5, h6, h7⟩ := h
  refine ⟨h1, fun k hk => ⟨(h2 k hk).1, fun hn => ⟨((h2 k hk).2 hn).1, ?_⟩⟩, h3, h4, h5, h6, ?_⟩
  · rw [zha_w (Or.inr rfl)]; exact ((h2 k hk).2 hn).2
  · rw [zwT_s]; exact zI_s _ _ _ _
/-- an entry is laid; one is taken away -/
theorem zXe {S : sh_St} {T : zT} (h : zVX S 4 T) (k : Nat) (n : Int64) (d : Nat) : zVX (sh_I (sh_I (sh_L S 8 k n) 9 k (nI d)) 10 k (nI (zha T n))) 4 (zeT T k n d) := by
  obtain ⟨h1, h2, h3, h4, h5, h6, h7⟩ := h
  refine ⟨h1, fun k' hk' => ?_, h3, h4, h5, h6, h7⟩
  by_cases e : k' = k
  · subst e
    rw [zeT_2s, zeT_s, zha_e]
    exact ⟨zL_s S 8 k' n, fun _ => ⟨zI_s (sh_L S 8 k' n) 9 k' (nI d), zI_s _ _ _ _⟩⟩
  · rw [zeT_2k T k n d e, zeT_k T k n d e, zha_e]
    refine ⟨(zL_k S 8 k n e).trans (h2 k' hk').1, fun hn => ⟨?_, ?_⟩⟩
    · exact ((zI_k (sh_L S 8 k n) 9 k (nI d) e : _)).trans ((h2 k' hk').2 hn).1
    · exact (zI_k (sh_I (sh_L S 8 k n) 9 k (nI d)) 10 k _ e).trans ((h2 k' hk').2 hn).2
theorem zXr {S : sh_St} {T : zT} (h : zVX S 4 T) (k d : Nat) : zVX (sh_L S 8 k 0) 4 (zeT T k 0 d) := by
  obtain ⟨h1, h2, h3, h4, h5, h6, h7⟩ := h
  refine ⟨h1, fun k' hk' => ?_, h3, h4, h5, h6, h7⟩
  by_cases e : k' = k
  · subst e
    rw [zeT_2s]
    exact ⟨zL_s _ _ _ _, fun q => absurd rfl q⟩
  · rw [zeT_2k T k 0 d e, zeT_k T k 0 d e, zha_e]
    exact ⟨(zL_k S 8 k 0 e).trans (h2 k' hk').1, (h2 k' hk').2⟩
theorem zx_setEntry {S : sh_St} {T : zT} (h : zVX S 4 T) {k : Nat} (hk : k < 240) (n : Int64) (d : Nat) : ∃ S', fX7_setEntry S (nI k) n (nI d) (nI (zha T n)) = some ((), S') ∧ zVX S' 4 (zeT T k n d) ∧ zFr 8 10 S S' := by
  refine ⟨_, ?_, zXe h k n d, zFr_tr (zFr_tr (zFr_L S _ _ (by omega) (by omega)) (zFr_I _ _ _ (by omega) (by omega))) (zFr_I _ _ _ (by omega) (by omega))⟩
  rw [fX7_setEntry]
  simp (disch := omega) only [zq_l2, pk_mul, nI_add, zq_t, zq_c, zq_bz, zq_bo, zq_g, zq_cl, zq_leT, zq_leF, zq_ltT, zq_ltF, zq_eqT, zq_eqF, zq_em, zq_me, zq_pm, zq_mm, zq_gm, pk_sub, zI_s, zI_k, zI_c, zI_2, zL_s, zL_k, zL_c, zL_1, if_true, if_false, eq_self, Nat.zero_add, Nat.add_zero]
/-- a row is laid -/
def zrw (T : zT) (j l m t : Nat) : zT := zwT (zwT (zwT T 4 j l) 5 j m) 6 j t
theorem zXrw {S : sh_St} {T : zT} (h : zVX S 4 T) (j l m t : Nat) : zVX (sh_I (sh_I (sh_I S 11 j (nI l)) 12 j (nI m)) 13 j (nI t)) 4 (zrw T j l m t) := zXw6 (zXw5 (zXw4 h j l) j m) j t
def zcR (T : zT) (a c : Nat) : zT := zrw T c (T.1 4 a) (T.1 5 a) (T.1 6 a)
theorem zx_copyRow {S : sh_St} {T : zT} (h : zVX S 4 T) {a c : Nat} (ha : a < 240) (hc : c < 240) : ∃ S', fX7_copyRow S (nI a) (nI c) = some ((), S') ∧ zVX S' 4 (zcR T a c) ∧ zFr 11 13 S S' := by
  obtain ⟨a1, a2, a3⟩ := h.2.2.1 a ha
  have b1 : S.1 11 a = nI (T.1 4 a) := a1
  have b2 : S.1 12 a = nI (T.1 5 a) := a2
  have b3 : S.1 13 a = nI (T.1 6 a) := a3
  refine ⟨_, ?_, zXrw h c (T.1 4 a) (T.1 5 a) (T.1 6 a), zFr_tr (zFr_tr (zFr_I S _ _ (by omega) (by omega)) (zFr_I _ _ _ (by omega) (by omega))) (zFr_I _ _ _ (by omega) (by omega))⟩
  rw [fX7_copyRow]
  simp (disch := omega) only [zq_l2, pk_mul, nI_add, zq_t, zq_c, zq_bz, zq_bo, zq_g, zq_cl, zq_leT, zq_leF, zq_ltT, zq_ltF, zq_eqT, zq_eqF, zq_em, zq_me, zq_pm, zq_mm, zq_gm, pk_sub, zI_s, zI_k, zI_c, zI_2, zL_s, zL_k, zL_c, zL_1, if_true, if_false, eq_self, Nat.zero_add, Nat.add_zero, b1, b2, b3]
/-- rows behind a place move on -/
def zsh (b p : Nat) : Nat → zT → zT
  | 0, T => T
  | k + 1, T => if p < k + 1 then zsh b p k (zcR T (b * 6 + k) (b * 6 + (k + 1))) else T
def zIn (T : zT) (b p l m t : Nat) : zT := zwT (zrw (zsh b p (T.1 1 b) T) (b * 6 + p) l m t) 1 b (T.1 1 b + 1)
theorem zcR_1 (T : zT) (a c : Nat) : (zcR T a c).1 1 = T.1 1 := rfl
theorem zx_insert_l {b p : Nat} (hb : b < 40) (l m t n0 : Nat) (hp : p < 6) (hn0 : n0 ≤ 5) : ∀ (n k : Nat) (S : sh_St) (T : zT), zVX S 4 T → T.1 1 b = n0 → k ≤ 5 → k < n →
    ∃ S', fX7_insertRow_18 n S (nI b) (nI p) (nI l) (nI m) (nI t) (nI (b * 6)) (nI k) = some ((), S') ∧ zVX S' 4 (zwT (zrw (zsh b p k T) (b * 6 + p) l m t) 1 b (n0 + 1)) ∧ zFr 6 13 S S' := by
  intro n
  induction n with
  | zero => intro k S T _ _ _ h; omega
  | succ n ih =>
    intro k S T hv hc hk h
    rw [fX7_insertRow_18]
    have fin : T.1 1 b = n0 → ∃ S', (sh_g (nI (b * 6) + nI p) 240 (sh_t (sh_I S 11 (nI (b * 6) + nI p).toNatClampNeg (nI l)) fun S3 => sh_g (nI (b * 6) + nI p) 240 (sh_t (sh_I S3 12 (nI (b * 6) + nI p).toNatClampNeg (nI m)) fun S4 => sh_g (nI (b * 6) + nI p) 240 (sh_t (sh_I S4 13 (nI (b * 6) + nI p).toNatClampNeg (nI t)) fun S5 => sh_g (nI b) 40 (sh_g (nI b) 40 (sh_t (sh_I S5 6 (nI b).toNatClampNeg (if 6 < ((S5.1 6 (nI b).toNatClampNeg) + 1) then 6 else ((S5.1 6 (nI b).toNatClampNeg) + 1))) fun S6 => some ((), S6))))))) = some ((), S') ∧ zVX S' 4 (zwT (zrw T (b * 6 + p) l m t) 1 b (n0 + 1)) ∧ zFr 6 13 S S' := by
      intro hc
      refine ⟨_, ?_, zXw1 (zXrw hv (b * 6 + p) l m t) b (v := n0 + 1) (by omega), zFr_tr (zFr_tr (zFr_tr (zFr_I S _ _ (by omega) (by omega)) (zFr_I _ _ _ (by omega) (by omega))) (zFr_I _ _ _ (by omega) (by omega))) (zFr_I _ _ _ (by omega) (by omega))⟩
      simp (disch := omega) only [zq_l2, pk_mul, nI_add, zq_t, zq_c, zq_bz, zq_bo, zq_g, zq_cl, zq_leT, zq_leF, zq_ltT, zq_ltF, zq_eqT, zq_eqF, zq_em, zq_me, zq_pm, zq_mm, zq_gm, pk_sub, zI_s, zI_k, zI_c, zI_2, zL_s, zL_k, zL_c, zL_1, if_true, if_false, eq_self, Nat.zero_add, Nat.add_zero, zX_c hv, hc]
    cases k with
    | zero =>
      obtain ⟨S', f1, f2, f3⟩ := fin hc
      refine ⟨S', ?_, f2, f3⟩
      rw [if_pos (nI_le (by omega) (by omega))]
      exact f1
    | succ k =>
      unfold zsh
      by_cases h1 : p < k + 1
      · rw [if_pos h1]
        obtain ⟨S1, e1, e2, e3⟩ := zx_copyRow hv (show b * 6 + k < 240 by omega) (show b * 6 + (k + 1) < 240 by omega)
        obtain ⟨S', f1, f2, f3⟩ := ih k S1 _ e2 hc (by omega) (by omega)
        refine ⟨S', ?_, f2, zFr_tr (zFr_wd e3 (by omega) (by omega)) f3⟩
        simp (disch := omega) only [zq_l2, pk_mul, nI_add, zq_t, zq_c, zq_bz, zq_bo, zq_g, zq_cl, zq_leT, zq_leF, zq_ltT, zq_ltF, zq_eqT, zq_eqF, zq_em, zq_me, zq_pm, zq_mm, zq_gm, pk_sub, zI_s, zI_k, zI_c, zI_2, zL_s, zL_k, zL_c, zL_1, if_true, if_false, eq_self, Nat.zero_add, Nat.add_zero, show b * 6 + (k + 1) - 1 = b * 6 + k from by omega, e1, show k + 1 - 1 = k from by omega]
        exact f1
      · rw [if_neg h1]
        obtain ⟨S', f1, f2, f3⟩ := fin hc
        refine ⟨S', ?_, f2, f3⟩
        rw [if_pos (nI_le (by omega) (by omega))]
        exact f1
theorem zx_insert {S : sh_St} {T : zT} (hv : zVX S 4 T) {b p : Nat} (hb : b < 40) (l m t : Nat) (hp : p < 6) (hn0 : T.1 1 b ≤ 5) : ∃ S', fX7_insertRow S (nI b) (nI p) (nI l) (nI m) (nI t) = some ((), S') ∧ zVX S' 4 (zIn T b p l m t) ∧ zFr 6 13 S S' := by
  obtain ⟨S', f1, f2, f3⟩ := zx_insert_l hb l m t (T.1 1 b) hp hn0 sh_FU (T.1 1 b) S T hv rfl hn0 (by have : sh_FU = 100000 := rfl; omega)
  refine ⟨S', ?_, f2, f3⟩
  rw [fX7_insertRow]
  simp (disch := omega) only [zq_l2, pk_mul, nI_add, zq_t, zq_c, zq_bz, zq_bo, zq_g, zq_cl, zq_leT, zq_leF, zq_ltT, zq_ltF, zq_eqT, zq_eqF, zq_em, zq_me, zq_pm, zq_mm, zq_gm, pk_sub, zI_s, zI_k, zI_c, zI_2, zL_s, zL_k, zL_c, zL_1, if_true, if_false, eq_self, Nat.zero_add, Nat.add_zero, zX_c hv]
  exact f1
/-- rows are copied into a new index -/
def zcp (a c f : Nat) : Nat → zT → zT
  | 0, T => T
  | k + 1, T => zcR (zcp a c f k T) (a * 6 + (f + k)) (c * 6 + k)
def zCp (T : zT) (a c f : Nat) : zT := zwT (zcp a c f 3 T) 1 c 3
theorem zx_copy_l {a c f : Nat} (ha : a < 40) (hc : c < 40) (hf : f ≤ 3) {T : zT} : ∀ (n k : Nat) (S : sh_St), zVX S 4 (zcp a c f k T) → k ≤ 3 → 3 - k < n →
    ∃ S', fX7_copyRows_3 n S (nI a) (nI f) (nI (f + 3)) (nI c) (nI (f + k)) = some ((), S') ∧ zVX S' 4 (zCp T a c f) ∧ zFr 6 13 S S' := by
  intro n
  induction n with
  | zero => intro k S _ _ h; omega
  | succ n ih =>
    intro k S hv h1 h2
    rw [fX7_copyRows_3]
    by_cases h : k = 3
    · subst h
      refine ⟨_, ?_, zXw1 hv c (v := 3) (by omega), zFr_I S _ _ (by omega) (by omega)⟩
      simp (disch := omega) only [zq_l2, pk_mul, nI_add, zq_t, zq_c, zq_bz, zq_bo, zq_g, zq_cl, zq_leT, zq_leF, zq_ltT, zq_ltF, zq_eqT, zq_eqF, zq_em, zq_me, zq_pm, zq_mm, zq_gm, pk_sub, zI_s, zI_k, zI_c, zI_2, zL_s, zL_k, zL_c, zL_1, if_true, if_false, eq_self, Nat.zero_add, Nat.add_zero, show f + 3 - f = 3 from by omega]
    · obtain ⟨S1, e1, e2, e3⟩ := zx_copyRow hv (show a * 6 + (f + k) < 240 by omega) (show c * 6 + k < 240 by omega)
      obtain ⟨S', f1, f2, f3⟩ := ih (k + 1) S1 e2 (by omega) (by omega)
      refine ⟨S', ?_, f2, zFr_tr (zFr_wd e3 (by omega) (by omega)) f3⟩
      simp (disch := omega) only [zq_l2, pk_mul, nI_add, zq_t, zq_c, zq_bz, zq_bo, zq_g, zq_cl, zq_leT, zq_leF, zq_ltT, zq_ltF, zq_eqT, zq_eqF, zq_em, zq_me, zq_pm, zq_mm, zq_gm, pk_sub, zI_s, zI_k, zI_c, zI_2, zL_s, zL_k, zL_c, zL_1, if_true, if_false, eq_self, Nat.zero_add, Nat.add_zero, show c * 6 + (f + k) - f = c * 6 + k from by omega, e1]
      exact f1
theorem zx_copy {S : sh_St} {T : zT} (hv : zVX S 4 T) {a c f : Nat} (ha : a < 40) (hc : c < 40) (hf : f ≤ 3) : ∃ S', fX7_copyRows S (nI a) (nI f) (nI (f + 3)) (nI c) = some ((), S') ∧ zVX S' 4 (zCp T a c f) ∧ zFr 6 13 S S' := by
  obtain ⟨S', f1, f2, f3⟩ := zx_copy_l ha hc hf sh_FU 0 S hv (by omega) (by decide)
  exact ⟨S', f1, f2, f3⟩
/-- the root is emptied; it becomes an index of two rows -/
def zer (T : zT) : Nat → zT
  | 0 => T
  | s + 1 => zeT (zer T s) s 0 0
def zRz (T : zT) (fr bh l m : Nat) : zT := zwT (zIn (zIn (zwT (zwT (zer T 6) 0 0 2) 1 0 0) 0 0 0 0 fr) 0 1 l m bh) 7 0 (T.1 7 0 + 1)
theorem zer_i (T : zT) (s : Nat) {i : Nat} (h : i ≠ 3) : (zer T s).1 i = T.1 i := by
  induction s with
  | zero => rfl
  | succ s ih => exact (zeT_i (zer T s) s 0 0 h).trans ih
theorem zsh_i (b p : Nat) {i : Nat} (h : i < 4 ∨ 6 < i) : ∀ (k : Nat) (T : zT), (zsh b p k T).1 i = T.1 i := by
  intro k
  induction k with
  | zero => intro T; rfl
  | succ k ih =>
    intro T
    unfold zsh
    split
    · rw [ih]
      unfold zcR zrw
      rw [zwT_i _ _ _ _ (by omega), zwT_i _ _ _ _ (by omega), zwT_i _ _ _ _ (by omega)]
    · rfl
theorem zIn_i (T : zT) (b p l m t : Nat) {i : Nat} (h : i < 4 ∨ 6 < i) (h1 : i ≠ 1) : (zIn T b p l m t).1 i = T.1 i := by
  unfold zIn zrw
  rw [zwT_i _ _ _ _ h1, zwT_i _ _ _ _ (by omega), zwT_i _ _ _ _ (by omega), zwT_i _ _ _ _ (by omega), zsh_i b p h]
theorem zIn_2 (T : zT) (b p l m t : Nat) : (zIn T b p l m t).2 = T.2 := by
  have : ∀ (k : Nat) (T : zT), (zsh b p k T).2 = T.2 := by
    intro k
    induction k with
    | zero => intro T; rfl
    | succ k ih =>
      intro T
      unfold zsh
      split
      · rw [ih]; rfl
      · rfl
  exact this _ T
theorem zIn_c (T : zT) (b p l m t : Nat) : (zIn T b p l m t).1 1 b = T.1 1 b + 1 := zwT_s _ _ _ _
theorem zIn_d (T : zT) (b p l m t : Nat) {b' : Nat} (h : b' ≠ b) : (zIn T b p l m t).1 1 b' = T.1 1 b' := by
  unfold zIn zrw
  rw [zwT_k _ _ _ _ h, zwT_i _ _ _ _ (by omega), zwT_i _ _ _ _ (by omega), zwT_i _ _ _ _ (by omega), zsh_i b p (by omega)]
theorem zx_raise_l {T : zT} (fr bh l m : Nat) (hv7 : T.1 7 0 ≤ 2) : ∀ (n s : Nat) (S : sh_St), zVX S 4 (zer T s) → s ≤ 6 → 6 - s < n → ∃ S', fX7_raiseRoot_3 n S (nI fr) (nI bh) (nI l) (nI m) (nI s) = some ((), S') ∧ zVX S' 4 (zRz T fr bh l m) ∧ zFr 4 13 S S' := by
  intro n
  induction n with
  | zero => intro s S _ _ h; omega
  | succ n ih =>
    intro s S hv h1 h2
    rw [fX7_raiseRoot_3]
    by_cases h : s = 6
    · subst h
      have hv1 := zXw1 (zXw0 hv 0 2) 0 (v := 0) (by omega)
      obtain ⟨S1, e1, e2, e3⟩ := zx_insert hv1 (b := 0) (p := 0) (by omega) 0 0 fr (by omega) (by rw [zwT_s]; omega)
      have c1 : (zIn (zwT (zwT (zer T 6) 0 0 2) 1 0 0) 0 0 0 0 fr).1 1 0 = 1 := by rw [zIn_c, zwT_s]
      obtain ⟨S2, f1, f2, f3⟩ := zx_insert e2 (b := 0) (p := 1) (by omega) l m bh (by omega) (by rw [c1]; omega)
      have c7 : (zIn (zIn (zwT (zwT (zer T 6) 0 0 2) 1 0 0) 0 0 0 0 fr) 0 1 l m bh).1 7 0 = T.1 7 0 := by
        rw [zIn_i _ _ _ _ _ _ (by omega) (by omega), zIn_i _ _ _ _ _ _ (by omega) (by omega), zwT_i _ _ _ _ (by omega), zwT_i _ _ _ _ (by omega), zer_i T 6 (by omega)]
      refine ⟨_, ?_, zXw7 f2 (T.1 7 0 + 1), ?_⟩
      · have v7 := zX_v f2
        rw [c7] at v7
        simp (disch := omega) only [zq_l2, pk_mul, nI_add, zq_t, zq_c, zq_bz, zq_bo, zq_g, zq_cl, zq_leT, zq_leF, zq_ltT, zq_ltF, zq_eqT, zq_eqF, zq_em, zq_me, zq_pm, zq_mm, zq_gm, pk_sub, zI_s, zI_k, zI_c, zI_2, zL_s, zL_k, zL_c, zL_1, if_true, if_false, eq_self, Nat.zero_add, Nat.add_zero, e1, f1, v7]
      · exact zFr_tr (zFr_tr (zFr_tr (zFr_tr (zFr_I S _ _ (by omega) (by omega)) (zFr_I _ _ _ (by omega) (by omega))) (zFr_wd e3 (by omega) (by omega))) (zFr_wd f3 (by omega) (by omega))) (zFr_I _ _ _ (by omega) (by omega))
    · obtain ⟨S', f1, f2, f3⟩ := ih (s + 1) _ (zXr hv s 0) (by omega) (by omega)
      refine ⟨S', ?_, f2, zFr_tr (zFr_L S _ _ (by omega) (by omega)) f3⟩
      simp (disch := omega) only [zq_l2, pk_mul, nI_add, zq_t, zq_c, zq_bz, zq_bo, zq_g, zq_cl, zq_leT, zq_leF, zq_ltT, zq_ltF, zq_eqT, zq_eqF, zq_em, zq_me, zq_pm, zq_mm, zq_gm, pk_sub, zI_s, zI_k, zI_c, zI_2, zL_s, zL_k, zL_c, zL_1, if_true, if_false, eq_self, Nat.zero_add, Nat.add_zero]
      exact f1
theorem zx_raise {S : sh_St} {T : zT} (hv : zVX S 4 T) (fr bh l m : Nat) (hv7 : T.1 7 0 ≤ 2) : ∃ S', fX7_raiseRoot S (nI fr) (nI bh) (nI l) (nI m) = some ((), S') ∧ zVX S' 4 (zRz T fr bh l m) ∧ zFr 4 13 S S' := by
  rw [fX7_raiseRoot]
  exact zx_raise_l fr bh l m hv7 sh_FU 0 S hv (by omega) (by decide)
/-- a leaf is laid anew -/
def zgr (T : zT) (b : Nat) (g : Nat → Int64 × Nat) : Nat → zT
  | 0 => T
  | s + 1 => zeT (zgr T b g s) (b * 6 + s) (g s).1 (g s).2
def zlg (P : List zE) (f t s : Nat) : Int64 × Nat := if f + s < t then ((P.getD (f + s) (0, 0, 0)).2.1, (P.getD (f + s) (0, 0, 0)).2.2) else (0, 0)
theorem zgr_i (T : zT) (b : Nat) (g : Nat → Int64 × Nat) (s : Nat) {i : Nat} (h : i ≠ 3) : (zgr T b g s).1 i = T.1 i := by
  induction s with
  | zero => rfl
  | succ s ih => exact (zeT_i (zgr T b g s) (b * 6 + s) _ _ h).trans ih
theorem zgr_ha (T : zT) (b : Nat) (g : Nat → Int64 × Nat) (s : Nat) (n : Int64) : zha (zgr T b g s) n = zha T n := by
  unfold zha
  rw [zgr_i T b g s (by omega)]
theorem zP_at {P : List zE} {k : Nat} (h : k < P.length) : P[k]? = some (P.getD k (0, 0, 0)) := by
  rw [List.getD_eq_getElem?_getD, List.getElem?_eq_getElem h]
  rfl
theorem zPX_fr {lo hi : Nat} {S S' : sh_St} {P : List zE} (h : zFr lo hi S S') (hh : hi < 124) (hP : zPX S P) : zPX S' P := by
  unfold zPX zatX
  rw [(h 124 (by omega)).1, (h 125 (by omega)).2, (h 126 (by omega)).1, (h 127 (by omega)).1]
  exact hP
theorem zx_layLeaf_l {T : zT} {P : List zE} (hPl : P.length ≤ 240) (hPh : ∀ x, x ∈ P → x.1 = zha T x.2.1) {b f t : Nat} (hb : b < 40) (hf : f ≤ 240) (ht : t ≤ 300) : ∀ (n s : Nat) (S : sh_St), zVX S 4 (zgr T b (zlg P f (min t P.length)) s) → zPX S P → s ≤ 6 → 6 - s < n →
    ∃ S', fX7_layLeaf_10 n S (nI b) (nI f) (nI t) (nI s) = some ((), S') ∧ zVX S' 4 (zgr T b (zlg P f (min t P.length)) 6) ∧ zFr 8 10 S S' := by
  intro n
  induction n with
  | zero => intro s S _ _ _ h; omega
  | succ n ih =>
    intro s S hv hP h1 h2
    rw [fX7_layLeaf_10]
    by_cases h : s = 6
    · subst h
      refine ⟨S, ?_, hv, zFr_rf _ _ S⟩
      simp (disch := omega) only [zq_l2, pk_mul, nI_add, zq_t, zq_c, zq_bz, zq_bo, zq_g, zq_cl, zq_leT, zq_leF, zq_ltT, zq_ltF, zq_eqT, zq_eqF, zq_em, zq_me, zq_pm, zq_mm, zq_gm, pk_sub, zI_s, zI_k, zI_c, zI_2, zL_s, zL_k, zL_c, zL_1, if_true, if_false, eq_self, Nat.zero_add, Nat.add_zero]
    · by_cases c : f + s < min t P.length
      · have hk : f + s < P.length := by omega
        have ht' : f + s < t := by omega
        have hat := hP.2 (f + s) _ (zP_at hk)
        have hm := hPh _ (List.mem_of_getElem? (zP_at hk))
        have hg : zlg P f (min t P.length) s = ((P.getD (f + s) (0, 0, 0)).2.1, (P.getD (f + s) (0, 0, 0)).2.2) := if_pos c
        obtain ⟨S1, e1, e2, e3⟩ := zx_setEntry hv (show b * 6 + s < 240 by omega) (P.getD (f + s) (0, 0, 0)).2.1 (P.getD (f + s) (0, 0, 0)).2.2
        rw [zgr_ha, ← hm] at e1
        have e2' : zVX S1 4 (zgr T b (zlg P f (min t P.length)) (s + 1)) := by
          show zVX S1 4 (zeT _ _ _ _)
          rw [hg]
          exact e2
        obtain ⟨S', f1, f2, f3⟩ := ih (s + 1) S1 e2' (zPX_fr e3 (by omega) hP) (by omega) (by omega)
        refine ⟨S', ?_, f2, zFr_tr e3 f3⟩
        simp (disch := omega) only [zq_l2, pk_mul, nI_add, zq_t, zq_c, zq_bz, zq_bo, zq_g, zq_cl, zq_leT, zq_leF, zq_ltT, zq_ltF, zq_eqT, zq_eqF, zq_em, zq_me, zq_pm, zq_mm, zq_gm, pk_sub, zI_s, zI_k, zI_c, zI_2, zL_s, zL_k, zL_c, zL_1, if_true, if_false, eq_self, Nat.zero_add, Nat.add_zero, hP.1, hat.1, hat.2.1, hat.2.2, e1, fX7_layLeaf_87]
        exact f1
      · have hg : zlg P f (min t P.length) s = (0, 0) := if_neg c
        have e2' : zVX (sh_L S 8 (b * 6 + s) 0) 4 (zgr T b (zlg P f (min t P.length)) (s + 1)) := by
          show zVX _ 4 (zeT _ _ _ _)
          rw [hg]
          exact zXr hv (b * 6 + s) 0
        have e3 : zFr 8 10 S (sh_L S 8 (b * 6 + s) 0) := zFr_L S _ _ (by omega) (by omega)
        obtain ⟨S', f1, f2, f3⟩ := ih (s + 1) _ e2' (zPX_fr e3 (by omega) hP) (by omega) (by omega)
        refine ⟨S', ?_, f2, zFr_tr e3 f3⟩
        by_cases c1 : t ≤ f + s
        · simp (disch := omega) only [zq_l2, pk_mul, nI_add, zq_t, zq_c, zq_bz, zq_bo, zq_g, zq_cl, zq_leT, zq_leF, zq_ltT, zq_ltF, zq_eqT, zq_eqF, zq_em, zq_me, zq_pm, zq_mm, zq_gm, pk_sub, zI_s, zI_k, zI_c, zI_2, zL_s, zL_k, zL_c, zL_1, if_true, if_false, eq_self, Nat.zero_add, Nat.add_zero, fX7_layLeaf_74, fX7_layLeaf_87]
          exact f1
        · simp (disch := omega) only [zq_l2, pk_mul, nI_add, zq_t, zq_c, zq_bz, zq_bo, zq_g, zq_cl, zq_leT, zq_leF, zq_ltT, zq_ltF, zq_eqT, zq_eqF, zq_em, zq_me, zq_pm, zq_mm, zq_gm, pk_sub, zI_s, zI_k, zI_c, zI_2, zL_s, zL_k, zL_c, zL_1, if_true, if_false, eq_self, Nat.zero_add, Nat.add_zero, hP.1, fX7_layLeaf_74, fX7_layLeaf_87]
          exact f1
/-- the kind is told, the leaf laid -/
def zLf (T : zT) (b : Nat) (g : Nat → Int64 × Nat) : zT := zgr (zwT T 0 b 1) b g 6
theorem zx_layLeaf_1 {S : sh_St} {b : Nat} (f t : Int32) : fX7_layLeaf S (nI b) f t = sh_g (nI b) 40 (sh_t (sh_I S 5 (nI b).toNatClampNeg 1) fun S1 => fX7_layLeaf_10 sh_FU S1 (nI b) f t 0) := by
  unfold fX7_layLeaf
  exact Eq.refl _
theorem zx_layLeaf_2 {S : sh_St} {b : Nat} (hb : b < 40) (f t : Int32) : sh_g (nI b) 40 (sh_t (sh_I S 5 (nI b).toNatClampNeg 1) fun S1 => fX7_layLeaf_10 sh_FU S1 (nI b) f t 0) = sh_t (sh_I S 5 (nI b).toNatClampNeg 1) fun S1 => fX7_layLeaf_10 sh_FU S1 (nI b) f t 0 := zq_g hb (by decide)
theorem zx_layLeaf_3 {S : sh_St} {b : Nat} (hb : b < 40) (f t : Int32) : (sh_t (sh_I S 5 (nI b).toNatClampNeg 1) fun S1 => fX7_layLeaf_10 sh_FU S1 (nI b) f t 0) = fX7_layLeaf_10 sh_FU (sh_I S 5 b (nI 1)) (nI b) f t (nI 0) := by
  rw [zq_t, zq_cl (show b < 2 ^ 31 by omega), zq_l2, zq_l2]
theorem zx_layLeaf_e {S : sh_St} {b : Nat} (hb : b < 40) (f t : Int32) : fX7_layLeaf S (nI b) f t = fX7_layLeaf_10 sh_FU (sh_I S 5 b (nI 1)) (nI b) f t (nI 0) := ((zx_layLeaf_1 f t).trans (zx_layLeaf_2 hb f t)).trans (zx_layLeaf_3 hb f t)
theorem zx_layLeaf {S : sh_St} {T : zT} (hv : zVX S 4 T) {P : List zE} (hP : zPX S P) (hPl : P.length ≤ 240) (hPh : ∀ x, x ∈ P → x.1 = zha T x.2.1) {b f t : Nat} (hb : b < 40) (hf : f ≤ 240) (ht : t ≤ 300) : ∃ S', fX7_layLeaf S (nI b) (nI f) (nI t) = some ((), S') ∧ zVX S' 4 (zLf T b (zlg P f (min t P.length))) ∧ zFr 5 10 S S' := by
  have e3 : zFr 5 10 S (sh_I S 5 b (nI 1)) := zFr_I S _ _ (by omega) (by omega)
  have hph : ∀ x, x ∈ P → x.1 = zha (zwT T 0 b 1) x.2.1 := fun x hx => by rw [zha_w (Or.inl (by omega))]; exact hPh x hx
  have hv0 : zVX (sh_I S 5 b (nI 1)) 4 (zgr (zwT T 0 b 1) b (zlg P f (min t P.length)) 0) := zXw0 hv b 1
  have hfu : 6 - 0 < sh_FU := by decide
  obtain ⟨S', f1, f2, f3⟩ := zx_layLeaf_l hPl hph hb hf ht sh_FU 0 (sh_I S 5 b (nI 1)) hv0 (zPX_fr e3 (by omega) hP) (by omega) hfu
  exact ⟨S', (zx_layLeaf_e hb _ _).trans f1, f2, zFr_tr e3 (zFr_wd f3 (by omega) (by omega))⟩
/-- the least free block -/
def zfr (T : zT) : Nat := zfi (fun b => decide (T.1 0 b = 0)) 40 0
theorem zx_take_l {S : sh_St} {T : zT} (hv : zVX S 4 T) (hk2 : ∀ b, b < 40 → T.1 0 b ≤ 2) (c : Nat) : ∀ (n k : Nat), k ≤ 39 → k < n → fX7_takeLeastFree_6 n S (nI c) (nI (min (zfi (fun b => decide (T.1 0 b = 0)) (39 - k) (k + 1)) 39)) (nI k) = some (nI (min (zfi (fun b => decide (T.1 0 b = 0)) 39 1) 39), sh_I S 5 (min (zfi (fun b => decide (T.1 0 b = 0)) 39 1) 39) (nI c)) := by
  intro n
  induction n with
  | zero => intro k _ h; omega
  | succ n ih =>
    intro k h1 h2
    rw [fX7_takeLeastFree_6]
    cases k with
    | zero => simp (disch := omega) only [zq_l2, pk_mul, nI_add, zq_t, zq_c, zq_bz, zq_bo, zq_g, zq_cl, zq_leT, zq_leF, zq_ltT, zq_ltF, zq_eqT, zq_eqF, zq_em, zq_me, zq_pm, zq_mm, zq_gm, pk_sub, zI_s, zI_k, zI_c, zI_2, zL_s, zL_k, zL_c, zL_1, if_true, if_false, eq_self, Nat.zero_add, Nat.add_zero]
    | succ k =>
      have e := ih k (by omega) (by omega)
      have hm : 39 - k = (39 - (k + 1)) + 1 := by omega
      rw [hm] at e
      have hkk := hk2 (k + 1) (by omega)
      by_cases c0 : T.1 0 (k + 1) = 0
      · rw [zfi_t (p := fun b => decide (T.1 0 b = 0)) (decide_eq_true c0), show min (k + 1) 39 = k + 1 by omega] at e
        simp (disch := omega) only [zq_l2, pk_mul, nI_add, zq_t, zq_c, zq_bz, zq_bo, zq_g, zq_cl, zq_leT, zq_leF, zq_ltT, zq_ltF, zq_eqT, zq_eqF, zq_em, zq_me, zq_pm, zq_mm, zq_gm, pk_sub, zI_s, zI_k, zI_c, zI_2, zL_s, zL_k, zL_c, zL_1, if_true, if_false, eq_self, Nat.zero_add, Nat.add_zero, zX_k hv, fX7_takeLeastFree_21, show k + 1 - 1 = k from by omega]
        exact e
      · rw [zfi_f (p := fun b => decide (T.1 0 b = 0)) (by simpa using c0)] at e
        simp (disch := omega) only [zq_l2, pk_mul, nI_add, zq_t, zq_c, zq_bz, zq_bo, zq_g, zq_cl, zq_leT, zq_leF, zq_ltT, zq_ltF, zq_eqT, zq_eqF, zq_em, zq_me, zq_pm, zq_mm, zq_gm, pk_sub, zI_s, zI_k, zI_c, zI_2, zL_s, zL_k, zL_c, zL_1, if_true, if_false, eq_self, Nat.zero_add, Nat.add_zero, zX_k hv, fX7_takeLeastFree_21, show k + 1 - 1 = k from by omega]
        exact e
theorem zx_take {S : sh_St} {T : zT} (hv : zVX S 4 T) (hk2 : ∀ b, b < 40 → T.1 0 b ≤ 2) (h0 : T.1 0 0 ≠ 0) (hfr : zfr T < 40) (c : Nat) : ∃ S', fX7_takeLeastFree S (nI c) = some (nI (zfr T), S') ∧ zVX S' 4 (zwT T 0 (zfr T) c) ∧ zFr 5 5 S S' := by
  have e0 : zfr T = zfi (fun b => decide (T.1 0 b = 0)) 39 1 := zfi_f (p := fun b => decide (T.1 0 b = 0)) (by simpa using h0)
  have e := zx_take_l hv hk2 c sh_FU 39 (by omega) (by decide)
  rw [← e0, show min (zfr T) 39 = zfr T by omega] at e
  refine ⟨_, ?_, zXw0 hv (zfr T) c, zFr_I S _ _ (by omega) (by omega)⟩
  rw [fX7_takeLeastFree]
  exact e
