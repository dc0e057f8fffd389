/-! acts: the class -/
def zFc (S S' : sh_St) : Prop := ∀ i, (i < 4 ∨ (13 < i ∧ i < 116) ∨ 127 < i) → S'.1 i = S.1 i ∧ S'.2 i = S.2 i
theorem zFc_rf (S : sh_St) : zFc S S := fun _ _ => ⟨rfl, rfl⟩
theorem zFc_tr {S S1 S2 : sh_St} (h1 : zFc S S1) (h2 : zFc S1 S2) : zFc S S2 := fun i hi => ⟨(h2 i hi).1.trans (h1 i hi).1, (h2 i hi).2.trans (h1 i hi).2⟩
theorem zFc_fr {lo hi : Nat} {S S' : sh_St} (h : zFr lo hi S S') (h1 : (4 ≤ lo ∧ hi ≤ 13) ∨ (116 ≤ lo ∧ hi ≤ 127)) : zFc S S' := fun i hi => h i (by omega)
theorem zFc_2 {S S' : sh_St} (h : zFr 4 127 S S') (h2 : ∀ i, 14 ≤ i → i ≤ 115 → S'.1 i = S.1 i ∧ S'.2 i = S.2 i) : zFc S S' := fun i hi => by
  by_cases c : 13 < i ∧ i < 116
  · exact h2 i (by omega) (by omega)
  · exact h i (by omega)
/-- an entry is taken away -/
theorem zInv_cut {T : zT} (hI : zInv T) (k d : Nat) : zInv (zeT T k 0 d) := by
  obtain ⟨a, b, c, d', e, f, g⟩ := hI
  have e0 : ∀ i, i ≠ 3 → (zeT T k 0 d).1 i = T.1 i := fun i hi => zeT_i T k 0 d hi
  refine ⟨?_, ?_, ?_, ?_, ?_, ?_, ?_⟩
  · rw [e0 7 (by omega)]; exact a
  · rw [e0 0 (by omega), e0 1 (by omega), e0 2 (by omega)]; exact b
  · exact zSC_e (T := T) c (fun q => absurd rfl q)
  · rw [e0 1 (by omega), e0 4 (by omega), e0 5 (by omega), e0 6 (by omega)]; exact d'
  · rw [e0 1 (by omega), e0 6 (by omega)]; exact e
  · rw [e0 0 (by omega), e0 1 (by omega), e0 6 (by omega), e0 7 (by omega)]; exact f
  · rw [e0 0 (by omega), e0 1 (by omega), e0 6 (by omega)]; exact g
/-- the numbers by which put, cut, turn are refused -/
def zrP (T : zT) (n : Int64) : Nat := if (zsk T n).1 < 240 then 1 else zpco T n
def zrC (T : zT) (n : Int64) : Nat := if (zsk T n).1 < 240 then 0 else 4
def zrT (T : zT) (n m : Int64) : Nat := if (zsk T n).1 < 240 then (if (zsk T m).1 < 240 ∧ (zsk T m).1 ≠ (zsk T n).1 then 1 else zpco (zeT T (zsk T n).1 0 0) m) else 4
theorem zlw_le (T : zT) (hI : zInv T) (n : Int64) (p : Nat) : ∀ m i c, p + i + m ≤ zln T → (zlw T n p m i c).1 ≤ 240 := by
  intro m
  induction m with
  | zero => intro i c _; exact Nat.le_refl _
  | succ m ih =>
    intro i c h
    unfold zlw
    by_cases q : zsl T n (zlq T (p + i)).1 < 6
    · rw [if_pos q]
      have := (zlq_ok hI (show p + i < zln T by omega)).1
      show (zlq T (p + i)).1 * 6 + zsl T n (zlq T (p + i)).1 ≤ 240
      omega
    · rw [if_neg q]
      exact ih (i + 1) (c + 1) (by omega)
theorem zle_le (T : zT) (n : Int64) : ∀ m b c, b + m ≤ 40 → (zle T n m b c).1 ≤ 240 := by
  intro m
  induction m with
  | zero => intro b c _; exact Nat.le_refl _
  | succ m ih =>
    intro b c h
    unfold zle
    by_cases q1 : T.1 0 b = 1
    · rw [if_pos q1]
      by_cases q : zsl T n b < 6
      · rw [if_pos q]
        show b * 6 + zsl T n b ≤ 240
        omega
      · rw [if_neg q]
        exact ih (b + 1) (c + 1) (by omega)
    · rw [if_neg q1]
      exact ih (b + 1) c (by omega)
theorem zsk_le {T : zT} (hI : zInv T) (n : Int64) : (zsk T n).1 ≤ 240 := by
  unfold zsk
  by_cases c : ztor T = 0
  · rw [if_pos c]
    exact zlw_le T hI n _ _ 0 _ (by have := (zwn_le hI (zha T n)).1; omega)
  · rw [if_neg c]
    exact zle_le T n 40 0 1 (by omega)
theorem zx_refPut {S : sh_St} {T : zT} (hv : zVX S 4 T) (hI : zInv T) (n : Int64) : ∃ S', fX4_refusalOfPut S n = some (nI (zrP T n), S') ∧ zFr 116 123 S S' := by
  rw [fX4_refusalOfPut]
  obtain ⟨S1, g1, g2, g3⟩ := zx_look hv hI n
  have hv1 := zVX_f4 g3 (by omega) hv
  unfold zrP
  by_cases c : (zsk T n).1 < 240
  · rw [if_pos c]
    refine ⟨S1, ?_, g3⟩
    rw [zsp_t c] at g1
    simp (disch := omega) only [zq_l9, pk_mul, nI_add, zq_t9, zq_c9, zq_bz9, zq_bo9, zq_g, zq_cl, zq_leT, zq_leF, zq_ltT, zq_ltF, zq_eqT, zq_eqF, zq_em, zq_me, zq_pm, zq_mm, zq_gm, pk_sub, zI_s, zI_k, zI_c, zI_2, zL_s, zL_k, zL_c, zL_1, if_true, if_false, eq_self, Nat.zero_add, Nat.add_zero, g1]
  · rw [if_neg c]
    rw [zsp_f c] at g1
    have ht := zx_tor hv1 hI
    have htl := ztor_le T
    unfold zpco
    by_cases t : ztor T = 0
    · rw [if_neg (by omega)]
      obtain ⟨S2, k1, _, _, k4⟩ := zx_need hv1 hI n
      by_cases q : zned T (zha T n) = 9
      · rw [if_pos q]
        refine ⟨S2, ?_, zFr_tr g3 (zFr_wd k4 (by omega) (by omega))⟩
        rw [zsp_f (by omega)] at k1
        simp (disch := omega) only [zq_l9, pk_mul, nI_add, zq_t9, zq_c9, zq_bz9, zq_bo9, zq_g, zq_cl, zq_leT, zq_leF, zq_ltT, zq_ltF, zq_eqT, zq_eqF, zq_em, zq_me, zq_pm, zq_mm, zq_gm, pk_sub, zI_s, zI_k, zI_c, zI_2, zL_s, zL_k, zL_c, zL_1, if_true, if_false, eq_self, Nat.zero_add, Nat.add_zero, g1, ht, k1]
      · rw [if_neg q]
        have q9 : zned T (zha T n) < 9 := by
          have : zned T (zha T n) ≤ 9 := by unfold zned; (repeat' split) <;> omega
          omega
        refine ⟨S2, ?_, zFr_tr g3 (zFr_wd k4 (by omega) (by omega))⟩
        rw [zsp_t q9] at k1
        simp (disch := omega) only [zq_l9, pk_mul, nI_add, zq_t9, zq_c9, zq_bz9, zq_bo9, zq_g, zq_cl, zq_leT, zq_leF, zq_ltT, zq_ltF, zq_eqT, zq_eqF, zq_em, zq_me, zq_pm, zq_mm, zq_gm, pk_sub, zI_s, zI_k, zI_c, zI_2, zL_s, zL_k, zL_c, zL_1, if_true, if_false, eq_self, Nat.zero_add, Nat.add_zero, g1, ht, k1]
    · rw [if_pos (show ztor T ≠ 0 from t)]
      refine ⟨S1, ?_, g3⟩
      simp (disch := omega) only [zq_l9, pk_mul, nI_add, zq_t9, zq_c9, zq_bz9, zq_bo9, zq_g, zq_cl, zq_leT, zq_leF, zq_ltT, zq_ltF, zq_eqT, zq_eqF, zq_em, zq_me, zq_pm, zq_mm, zq_gm, pk_sub, zI_s, zI_k, zI_c, zI_2, zL_s, zL_k, zL_c, zL_1, if_true, if_false, eq_self, Nat.zero_add, Nat.add_zero, g1, ht]
theorem zned_le (T : zT) (h : Nat) : zned T h ≤ 9 := by unfold zned; (repeat' split) <;> omega
theorem ztor_e (T : zT) (k : Nat) (n : Int64) (d : Nat) : ztor (zeT T k n d) = ztor T := by
  unfold ztor
  rw [zeT_i T k n d (by omega)]
theorem zFr_L2 {S S1 : sh_St} {k : Nat} (h : zFr 116 123 (sh_L S 8 k 0) S1) : zFr 116 123 S (sh_L S1 8 k (S.2 8 k)) := by
  intro i hi
  by_cases c : i = 8
  · subst c
    have a := h 8 (by omega)
    refine ⟨a.1, ?_⟩
    funext j
    by_cases e : j = k
    · subst e; exact zL_s _ _ _ _
    · rw [zL_k S1 8 k _ e, a.2, zL_k S 8 k 0 e]
  · have a := h i hi
    rw [zL_1, zL_c S1 8 k _ c]
    refine ⟨a.1, ?_⟩
    rw [a.2, zL_c S 8 k 0 c]
theorem zx_refT37 {S : sh_St} {T : zT} (hv : zVX S 4 T) (hI : zInv T) (m : Int64) {k : Nat} (hk : k < 240) : ∃ S', fX4_refusalOfTurn_37 S m (nI k) = some (nI (zpco (zeT T k 0 0) m), S') ∧ zFr 116 123 S S' := by
  rw [fX4_refusalOfTurn_37]
  have ht := zx_tor hv hI
  have htl := ztor_le T
  unfold zpco
  rw [ztor_e]
  by_cases t : ztor T = 0
  · rw [if_neg (by omega)]
    obtain ⟨S2, k1, _, _, k4⟩ := zx_need (zXr hv k 0) (zInv_cut hI k 0) m
    have k4' : zFr 116 123 (sh_L S 8 k 0) S2 := zFr_wd k4 (by omega) (by omega)
    by_cases q : zned (zeT T k 0 0) (zha (zeT T k 0 0) m) = 9
    · rw [if_pos q]
      refine ⟨_, ?_, zFr_L2 k4'⟩
      rw [zsp_f (by omega)] at k1
      simp (disch := omega) only [zq_l9, pk_mul, nI_add, zq_t9, zq_c9, zq_bz9, zq_bo9, zq_g, zq_cl, zq_leT, zq_leF, zq_ltT, zq_ltF, zq_eqT, zq_eqF, zq_em, zq_me, zq_pm, zq_mm, zq_gm, pk_sub, zI_s, zI_k, zI_c, zI_2, zL_s, zL_k, zL_c, zL_1, if_true, if_false, eq_self, Nat.zero_add, Nat.add_zero, ht, k1]
    · rw [if_neg q]
      have q9 := zned_le (zeT T k 0 0) (zha (zeT T k 0 0) m)
      refine ⟨_, ?_, zFr_L2 k4'⟩
      rw [zsp_t (by omega)] at k1
      simp (disch := omega) only [zq_l9, pk_mul, nI_add, zq_t9, zq_c9, zq_bz9, zq_bo9, zq_g, zq_cl, zq_leT, zq_leF, zq_ltT, zq_ltF, zq_eqT, zq_eqF, zq_em, zq_me, zq_pm, zq_mm, zq_gm, pk_sub, zI_s, zI_k, zI_c, zI_2, zL_s, zL_k, zL_c, zL_1, if_true, if_false, eq_self, Nat.zero_add, Nat.add_zero, ht, k1]
  · rw [if_pos (show ztor T ≠ 0 from t)]
    refine ⟨S, ?_, zFr_rf _ _ S⟩
    simp (disch := omega) only [zq_l9, pk_mul, nI_add, zq_t9, zq_c9, zq_bz9, zq_bo9, zq_g, zq_cl, zq_leT, zq_leF, zq_ltT, zq_ltF, zq_eqT, zq_eqF, zq_em, zq_me, zq_pm, zq_mm, zq_gm, pk_sub, zI_s, zI_k, zI_c, zI_2, zL_s, zL_k, zL_c, zL_1, if_true, if_false, eq_self, Nat.zero_add, Nat.add_zero, ht]
theorem zx_refTurn {S : sh_St} {T : zT} (hv : zVX S 4 T) (hI : zInv T) (n m : Int64) : ∃ S', fX4_refusalOfTurn S n m = some (nI (zrT T n m), S') ∧ zFr 116 123 S S' := by
  rw [fX4_refusalOfTurn]
  obtain ⟨S1, g1, _, g3⟩ := zx_look hv hI n
  have hv1 := zVX_f4 g3 (by omega) hv
  unfold zrT
  by_cases c : (zsk T n).1 < 240
  · rw [if_pos c]
    rw [zsp_t c] at g1
    obtain ⟨S2, k1, _, k3⟩ := zx_look hv1 hI m
    have hv2 := zVX_f4 k3 (by omega) hv1
    obtain ⟨S3, j1, j2⟩ := zx_refT37 hv2 hI m c
    have hf : zFr 116 123 S S3 := zFr_tr (zFr_tr g3 k3) j2
    by_cases q : (zsk T m).1 < 240
    · rw [zsp_t q] at k1
      by_cases e : (zsk T m).1 = (zsk T n).1
      · rw [if_neg (fun w => w.2 e)]
        refine ⟨S3, ?_, hf⟩
        simp (disch := omega) only [zq_l9, pk_mul, nI_add, zq_t9, zq_c9, zq_bz9, zq_bo9, zq_g, zq_cl, zq_leT, zq_leF, zq_ltT, zq_ltF, zq_eqT, zq_eqF, zq_em, zq_me, zq_pm, zq_mm, zq_gm, pk_sub, zI_s, zI_k, zI_c, zI_2, zL_s, zL_k, zL_c, zL_1, if_true, if_false, eq_self, Nat.zero_add, Nat.add_zero, g1, k1]
        exact j1
      · rw [if_pos ⟨q, e⟩]
        refine ⟨S2, ?_, zFr_tr g3 k3⟩
        simp (disch := omega) only [zq_l9, pk_mul, nI_add, zq_t9, zq_c9, zq_bz9, zq_bo9, zq_g, zq_cl, zq_leT, zq_leF, zq_ltT, zq_ltF, zq_eqT, zq_eqF, zq_em, zq_me, zq_pm, zq_mm, zq_gm, pk_sub, zI_s, zI_k, zI_c, zI_2, zL_s, zL_k, zL_c, zL_1, if_true, if_false, eq_self, Nat.zero_add, Nat.add_zero, g1, k1]
    · rw [if_neg (fun w => q w.1)]
      rw [zsp_f q] at k1
      refine ⟨S3, ?_, hf⟩
      simp (disch := omega) only [zq_l9, pk_mul, nI_add, zq_t9, zq_c9, zq_bz9, zq_bo9, zq_g, zq_cl, zq_leT, zq_leF, zq_ltT, zq_ltF, zq_eqT, zq_eqF, zq_em, zq_me, zq_pm, zq_mm, zq_gm, pk_sub, zI_s, zI_k, zI_c, zI_2, zL_s, zL_k, zL_c, zL_1, if_true, if_false, eq_self, Nat.zero_add, Nat.add_zero, g1, k1]
      exact j1
  · rw [if_neg c]
    rw [zsp_f c] at g1
    refine ⟨S1, ?_, g3⟩
    simp (disch := omega) only [zq_l9, pk_mul, nI_add, zq_t9, zq_c9, zq_bz9, zq_bo9, zq_g, zq_cl, zq_leT, zq_leF, zq_ltT, zq_ltF, zq_eqT, zq_eqF, zq_em, zq_me, zq_pm, zq_mm, zq_gm, pk_sub, zI_s, zI_k, zI_c, zI_2, zL_s, zL_k, zL_c, zL_1, if_true, if_false, eq_self, Nat.zero_add, Nat.add_zero, g1]
theorem zx_tooMuch {S : sh_St} {T : zT} (hv : zVX S 4 T) : fX4_isTooMuchToBuild S = some (nI (if 80 < zall T then 1 else 0), S) := by
  rw [fX4_isTooMuchToBuild]
  have h := zx_all hv
  have hle : zall T ≤ 240 := zcnt_le _ _
  by_cases c : 80 < zall T
  · rw [if_pos c]
    simp (disch := omega) only [zq_l9, pk_mul, nI_add, zq_t9, zq_c9, zq_bz9, zq_bo9, zq_g, zq_cl, zq_leT, zq_leF, zq_ltT, zq_ltF, zq_eqT, zq_eqF, zq_em, zq_me, zq_pm, zq_mm, zq_gm, pk_sub, zI_s, zI_k, zI_c, zI_2, zL_s, zL_k, zL_c, zL_1, if_true, if_false, eq_self, Nat.zero_add, Nat.add_zero, h]
  · rw [if_neg c]
    simp (disch := omega) only [zq_l9, pk_mul, nI_add, zq_t9, zq_c9, zq_bz9, zq_bo9, zq_g, zq_cl, zq_leT, zq_leF, zq_ltT, zq_ltF, zq_eqT, zq_eqF, zq_em, zq_me, zq_pm, zq_mm, zq_gm, pk_sub, zI_s, zI_k, zI_c, zI_2, zL_s, zL_k, zL_c, zL_1, if_true, if_false, eq_self, Nat.zero_add, Nat.add_zero, h]
/-- the number by which an act is refused (acts: put, cut, turn, bits, key, fold, plain, tear, build) -/
noncomputable def zref (T : zT) (a : Nat) (n m : Int64) (v : Nat) : Nat :=
  if a = 0 then zrP T n else if a = 1 then zrC T n else if a = 2 then zrT T n m else if a = 7 then (if T.1 0 v = 2 then 0 else 5)
  else if 80 < zall T then 3 else if a = 5 ∧ @decide (zuq T) (Classical.propDecidable _) = false then 1 else 0
theorem zx_refusal {S : sh_St} {T : zT} (hv : zVX S 4 T) (hI : zInv T) {a v : Nat} (ha : a < 9) (n m : Int64) (hv7 : a = 7 → v < 40) : ∃ S', fX4_refusalOf S (nI a) n m (nI v) = some (nI (zref T a n m v), S') ∧ zFr 116 127 S S' := by
  rw [fX4_refusalOf]
  unfold zref
  have hsw : sh_swm = [1, 2, 3, 0, 0, 5, 0, 4, 6] := rfl
  have htm := zx_tooMuch hv
  by_cases a0 : a = 0
  · subst a0
    obtain ⟨S', f1, f2⟩ := zx_refPut hv hI n
    refine ⟨S', ?_, zFr_wd f2 (by omega) (by omega)⟩
    simp only [if_true]
    simp (disch := omega) only [zq_l9, pk_mul, nI_add, zq_t9, zq_c9, zq_bz9, zq_bo9, zq_g, zq_cl, zq_leT, zq_leF, zq_ltT, zq_ltF, zq_eqT, zq_eqF, zq_em, zq_me, zq_pm, zq_mm, zq_gm, pk_sub, zI_s, zI_k, zI_c, zI_2, zL_s, zL_k, zL_c, zL_1, if_true, if_false, eq_self, Nat.zero_add, Nat.add_zero, hsw, List.getD_cons_zero, f1]
  rw [if_neg a0]
  by_cases a1 : a = 1
  · subst a1
    obtain ⟨S1, g1, _, g3⟩ := zx_look hv hI n
    refine ⟨S1, ?_, zFr_wd g3 (by omega) (by omega)⟩
    simp only [if_true]
    unfold zrC
    by_cases c : (zsk T n).1 < 240
    · rw [zsp_t c] at g1
      rw [if_pos c]
      simp (disch := omega) only [zq_l9, pk_mul, nI_add, zq_t9, zq_c9, zq_bz9, zq_bo9, zq_g, zq_cl, zq_leT, zq_leF, zq_ltT, zq_ltF, zq_eqT, zq_eqF, zq_em, zq_me, zq_pm, zq_mm, zq_gm, pk_sub, zI_s, zI_k, zI_c, zI_2, zL_s, zL_k, zL_c, zL_1, if_true, if_false, eq_self, Nat.zero_add, Nat.add_zero, hsw, List.getD_cons_zero, List.getD_cons_succ, g1]
    · rw [zsp_f c] at g1
      rw [if_neg c]
      simp (disch := omega) only [zq_l9, pk_mul, nI_add, zq_t9, zq_c9, zq_bz9, zq_bo9, zq_g, zq_cl, zq_leT, zq_leF, zq_ltT, zq_ltF, zq_eqT, zq_eqF, zq_em, zq_me, zq_pm, zq_mm, zq_gm, pk_sub, zI_s, zI_k, zI_c, zI_2, zL_s, zL_k, zL_c, zL_1, if_true, if_false, eq_self, Nat.zero_add, Nat.add_zero, hsw, List.getD_cons_zero, List.getD_cons_succ, g1]
  rw [if_neg a1]
  by_cases a2 : a = 2
  · subst a2
    obtain ⟨S', f1, f2⟩ := zx_refTurn hv hI n m
    refine ⟨S', ?_, zFr_wd f2 (by omega) (by omega)⟩
    simp only [if_true]
    simp (disch := omega) only [zq_l9, pk_mul, nI_add, zq_t9, zq_c9, zq_bz9, zq_bo9, zq_g, zq_cl, zq_leT, zq_leF, zq_ltT, zq_ltF, zq_eqT, zq_eqF, zq_em, zq_me, zq_pm, zq_mm, zq_gm, pk_sub, zI_s, zI_k, zI_c, zI_2, zL_s, zL_k, zL_c, zL_1, if_true, if_false, eq_self, Nat.zero_add, Nat.add_zero, hsw, List.getD_cons_zero, List.getD_cons_succ, f1]
  rw [if_neg a2]
  by_cases a7 : a = 7
  · subst a7
    have hv4 := hv7 rfl
    have hk := zX_k hv hv4
    have hk2 : T.1 0 v ≤ 2 := (hI.2.1 v hv4).1
    refine ⟨S, ?_, zFr_rf _ _ S⟩
    simp only [if_true]
    by_cases c : T.1 0 v = 2
    · rw [if_pos c]
      simp (disch := omega) only [zq_l9, pk_mul, nI_add, zq_t9, zq_c9, zq_bz9, zq_bo9, zq_g, zq_cl, zq_leT, zq_leF, zq_ltT, zq_ltF, zq_eqT, zq_eqF, zq_em, zq_me, zq_pm, zq_mm, zq_gm, pk_sub, zI_s, zI_k, zI_c, zI_2, zL_s, zL_k, zL_c, zL_1, if_true, if_false, eq_self, Nat.zero_add, Nat.add_zero, hsw, List.getD_cons_zero, List.getD_cons_succ, hk, c]
    · rw [if_neg c]
      simp (disch := omega) only [zq_l9, pk_mul, nI_add, zq_t9, zq_c9, zq_bz9, zq_bo9, zq_g, zq_cl, zq_leT, zq_leF, zq_ltT, zq_ltF, zq_eqT, zq_eqF, zq_em, zq_me, zq_pm, zq_mm, zq_gm, pk_sub, zI_s, zI_k, zI_c, zI_2, zL_s, zL_k, zL_c, zL_1, if_true, if_false, eq_self, Nat.zero_add, Nat.add_zero, hsw, List.getD_cons_zero, List.getD_cons_succ, hk]
  rw [if_neg a7]
  by_cases a5 : a = 5
  · subst a5
    by_cases c : 80 < zall T
    · rw [if_pos c] at htm ⊢
      refine ⟨S, ?_, zFr_rf _ _ S⟩
      simp (disch := omega) only [zq_l9, pk_mul, nI_add, zq_t9, zq_c9, zq_bz9, zq_bo9, zq_g, zq_cl, zq_leT, zq_leF, zq_ltT, zq_ltF, zq_eqT, zq_eqF, zq_em, zq_me, zq_pm, zq_mm, zq_gm, pk_sub, zI_s, zI_k, zI_c, zI_2, zL_s, zL_k, zL_c, zL_1, if_true, if_false, eq_self, Nat.zero_add, Nat.add_zero, hsw, List.getD_cons_zero, List.getD_cons_succ, htm]
    · rw [if_neg c] at htm ⊢
      obtain ⟨r, S1, r1, r2, r3, r4⟩ := zx_foldMeet hv
      refine ⟨S1, ?_, zFr_wd r4 (by omega) (by omega)⟩
      by_cases u : zuq T
      · have ev : (if (5 : Nat) = 5 ∧ @decide (zuq T) (Classical.propDecidable _) = false then 1 else 0) = (0 : Nat) := if_neg (fun q => by have := q.2; rw [decide_eq_false_iff_not] at this; exact this u)
        rw [ev]
        rw [r3.2 u] at r1
        simp (disch := omega) only [zq_l9, pk_mul, nI_add, zq_t9, zq_c9, zq_bz9, zq_bo9, zq_g, zq_cl, zq_leT, zq_leF, zq_ltT, zq_ltF, zq_eqT, zq_eqF, zq_em, zq_me, zq_pm, zq_mm, zq_gm, pk_sub, zI_s, zI_k, zI_c, zI_2, zL_s, zL_k, zL_c, zL_1, if_true, if_false, eq_self, Nat.zero_add, Nat.add_zero, hsw, List.getD_cons_zero, List.getD_cons_succ, htm, r1]
      · have ev : (if (5 : Nat) = 5 ∧ @decide (zuq T) (Classical.propDecidable _) = false then 1 else 0) = (1 : Nat) := if_pos ⟨rfl, by rw [decide_eq_false_iff_not]; exact u⟩
        rw [ev]
        have er : r = 1 := by
          have : r ≠ 0 := fun q => u (r3.1 q)
          omega
        rw [er] at r1
        simp (disch := omega) only [zq_l9, pk_mul, nI_add, zq_t9, zq_c9, zq_bz9, zq_bo9, zq_g, zq_cl, zq_leT, zq_leF, zq_ltT, zq_ltF, zq_eqT, zq_eqF, zq_em, zq_me, zq_pm, zq_mm, zq_gm, pk_sub, zI_s, zI_k, zI_c, zI_2, zL_s, zL_k, zL_c, zL_1, if_true, if_false, eq_self, Nat.zero_add, Nat.add_zero, hsw, List.getD_cons_zero, List.getD_cons_succ, htm, r1]
  have hrest : a = 3 ∨ a = 4 ∨ a = 6 ∨ a = 8 := by omega
  refine ⟨S, ?_, zFr_rf _ _ S⟩
  by_cases c : 80 < zall T
  · rw [if_pos c] at htm ⊢
    rcases hrest with q | q | q | q <;> subst q <;> simp (disch := omega) only [zq_l9, pk_mul, nI_add, zq_t9, zq_c9, zq_bz9, zq_bo9, zq_g, zq_cl, zq_leT, zq_leF, zq_ltT, zq_ltF, zq_eqT, zq_eqF, zq_em, zq_me, zq_pm, zq_mm, zq_gm, pk_sub, zI_s, zI_k, zI_c, zI_2, zL_s, zL_k, zL_c, zL_1, if_true, if_false, eq_self, Nat.zero_add, Nat.add_zero, hsw, List.getD_cons_zero, List.getD_cons_succ, htm]
  · rw [if_neg c] at htm ⊢
    have ev : (if a = 5 ∧ @decide (zuq T) (Classical.propDecidable _) = false then 1 else 0) = (0 : Nat) := if_neg (fun q => a5 q.1)
    rw [ev]
    rcases hrest with q | q | q | q <;> subst q <;> simp (disch := omega) only [zq_l9, pk_mul, nI_add, zq_t9, zq_c9, zq_bz9, zq_bo9, zq_g, zq_cl, zq_leT, zq_leF, zq_ltT, zq_ltF, zq_eqT, zq_eqF, zq_em, zq_me, zq_pm, zq_mm, zq_gm, pk_sub, zI_s, zI_k, zI_c, zI_2, zL_s, zL_k, zL_c, zL_1, if_true, if_false, eq_self, Nat.zero_add, Nat.add_zero, hsw, List.getD_cons_zero, List.getD_cons_succ, htm]
