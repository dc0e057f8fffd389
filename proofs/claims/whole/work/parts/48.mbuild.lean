/-! the reference builds -/
theorem zli_m {S : sh_St} {P : List zE} (hP : zPM S P) {k : Nat} (hk : 4 * k < P.length ∨ k = 0) (h4 : P.length ≤ 240) : fX13_limitOf S (nI k) = some (nI (zli P k), S) := by
  rw [fX13_limitOf]
  unfold zli
  by_cases h : k = 0
  · rw [if_pos h]
    simp (disch := omega) only [zq_l9, pk_mul, nI_add, zq_t9, zq_c9, zq_bz9, zq_bo9, zq_g, zq_cl, zq_leT, zq_leF, zq_ltT, zq_ltF, zq_eqT, zq_eqF, zq_em, zq_me, zq_pm, zq_mm, zq_gm, pk_sub, zI_s, zI_k, zI_c, zI_2, zL_s, zL_k, zL_c, zL_1, if_true, if_false, eq_self, Nat.zero_add, Nat.add_zero, h]
  · rw [show (if k = 0 then 0 else (P.getD (4 * k) (0, 0, 0)).1) = (P.getD (4 * k) (0, 0, 0)).1 from if_neg h]
    have hlt : 4 * k < P.length := by omega
    have a := (hP.2 (4 * k) _ (zP_at hlt)).1
    simp (disch := omega) only [zq_l9, pk_mul, nI_add, zq_t9, zq_c9, zq_bz9, zq_bo9, zq_g, zq_cl, zq_leT, zq_leF, zq_ltT, zq_ltF, zq_eqT, zq_eqF, zq_em, zq_me, zq_pm, zq_mm, zq_gm, pk_sub, zI_s, zI_k, zI_c, zI_2, zL_s, zL_k, zL_c, zL_1, if_true, if_false, eq_self, Nat.zero_add, Nat.add_zero, a]
theorem zmk_m {S : sh_St} {P : List zE} (hP : zPM S P) (hl : ∀ x, x ∈ P → x.1 < 4096) {k : Nat} (hk : 4 * k < P.length ∨ k = 0) (h4 : P.length ≤ 240) : fX13_markOf S (nI k) = some (nI (zmk P k), S) := by
  rw [fX13_markOf]
  unfold zmk
  by_cases h : k = 0
  · rw [if_neg (show ¬ (0 < k ∧ (P.getD (4 * k) (0, 0, 0)).1 = (P.getD (4 * k - 1) (0, 0, 0)).1) by omega)]
    simp (disch := omega) only [zq_l9, pk_mul, nI_add, zq_t9, zq_c9, zq_bz9, zq_bo9, zq_g, zq_cl, zq_leT, zq_leF, zq_ltT, zq_ltF, zq_eqT, zq_eqF, zq_em, zq_me, zq_pm, zq_mm, zq_gm, pk_sub, zI_s, zI_k, zI_c, zI_2, zL_s, zL_k, zL_c, zL_1, if_true, if_false, eq_self, Nat.zero_add, Nat.add_zero]
  · have hlt : 4 * k < P.length := by omega
    have a := (hP.2 (4 * k) _ (zP_at hlt)).1
    have a' := (hP.2 (4 * k - 1) _ (zP_at (by omega))).1
    have l1 := hl _ (List.mem_of_getElem? (zP_at hlt))
    have l2 := hl _ (List.mem_of_getElem? (zP_at (show 4 * k - 1 < P.length by omega)))
    by_cases c : (P.getD (4 * k) (0, 0, 0)).1 = (P.getD (4 * k - 1) (0, 0, 0)).1
    · rw [if_pos (show (0 < k ∧ (P.getD (4 * k) (0, 0, 0)).1 = (P.getD (4 * k - 1) (0, 0, 0)).1) from ⟨by omega, c⟩)]
      simp (disch := omega) only [zq_l9, pk_mul, nI_add, zq_t9, zq_c9, zq_bz9, zq_bo9, zq_g, zq_cl, zq_leT, zq_leF, zq_ltT, zq_ltF, zq_eqT, zq_eqF, zq_em, zq_me, zq_pm, zq_mm, zq_gm, pk_sub, zI_s, zI_k, zI_c, zI_2, zL_s, zL_k, zL_c, zL_1, if_true, if_false, eq_self, Nat.zero_add, Nat.add_zero, a, a']
    · rw [if_neg (show ¬ (0 < k ∧ (P.getD (4 * k) (0, 0, 0)).1 = (P.getD (4 * k - 1) (0, 0, 0)).1) from fun q => c q.2)]
      simp (disch := omega) only [zq_l9, pk_mul, nI_add, zq_t9, zq_c9, zq_bz9, zq_bo9, zq_g, zq_cl, zq_leT, zq_leF, zq_ltT, zq_ltF, zq_eqT, zq_eqF, zq_em, zq_me, zq_pm, zq_mm, zq_gm, pk_sub, zI_s, zI_k, zI_c, zI_2, zL_s, zL_k, zL_c, zL_1, if_true, if_false, eq_self, Nat.zero_add, Nat.add_zero, a, a']
theorem zm_b260 {P : List zE} (hl : ∀ x, x ∈ P → x.1 < 4096) (h4 : P.length ≤ 80) (h5 : zgs P.length ≤ 5) {U : zT} : ∀ (n k : Nat) (S : sh_St), zVN S (zrs 0 0 P k U) → zPM S P → k ≤ zgs P.length → zgs P.length - k < n → ∃ S', fX13_build0_260 n S (nI (zgs P.length)) (nI k) = some (nI 0, S') ∧ zVN S' (zrs 0 0 P (zgs P.length) U) ∧ zFk 0 S S' := by
  intro n
  induction n with
  | zero => intro k S _ _ _ h; omega
  | succ n ih =>
    intro k S hv hP h1 h2
    have hg : zgs P.length = (P.length + 3) / 4 := rfl
    rw [fX13_build0_260]
    by_cases h : k = zgs P.length
    · subst h
      refine ⟨S, ?_, hv, zFk_rf S⟩
      simp (disch := omega) only [zq_l9, pk_mul, nI_add, zq_t9, zq_c9, zq_bz9, zq_bo9, zq_g, zq_cl, zq_leT, zq_leF, zq_ltT, zq_ltF, zq_eqT, zq_eqF, zq_em, zq_me, zq_pm, zq_mm, zq_gm, pk_sub, zI_s, zI_k, zI_c, zI_2, zL_s, zL_k, zL_c, zL_1, if_true, if_false, eq_self, Nat.zero_add, Nat.add_zero]
    · have e1 := zli_m hP (k := k) (by omega) (by omega)
      have e2 := zmk_m hP hl (k := k) (by omega) (by omega)
      obtain ⟨S1, g1, g2, g3⟩ := zm_laysRow hv (b := 0) (r := k) (zli P k) (zmk P k) (1 + k) (by omega) (by omega)
      have g2' : zVN S1 (zrs 0 0 P (k + 1) U) := by
        unfold zrs
        simp only [Nat.zero_mul, Nat.zero_add] at g2 ⊢
        exact g2
      obtain ⟨S', f1, f2, f3⟩ := ih (k + 1) S1 g2' (zPM_fk g3 hP) (by omega) (by omega)
      refine ⟨S', ?_, f2, zFk_t0 g3 f3⟩
      simp (disch := omega) only [zq_l9, pk_mul, nI_add, zq_t9, zq_c9, zq_bz9, zq_bo9, zq_g, zq_cl, zq_leT, zq_leF, zq_ltT, zq_ltF, zq_eqT, zq_eqF, zq_em, zq_me, zq_pm, zq_mm, zq_gm, pk_sub, zI_s, zI_k, zI_c, zI_2, zL_s, zL_k, zL_c, zL_1, if_true, if_false, eq_self, Nat.zero_add, Nat.add_zero, e1, e2, g1]
      exact f1
theorem zixf_m0 (A R V : Nat → Nat) {L k : Nat} (hL : 6 ≤ L) (hL2 : L ≤ 20) (h3 : k < L) (hk : k % 4 = 0) (j : Nat) : (if j = (1 + L + k / 4) * 6 + k % 4 then A k else if j = 0 * 6 + k / 4 then R (k / 4) else zixf A R V L k j) = zixf A R V L (k + 1) j := by
  unfold zixf
  by_cases c1 : j = (1 + L + k / 4) * 6 + k % 4
  · have d : j / 6 = 1 + L + k / 4 := by omega
    rw [if_pos c1, if_neg (by omega), if_pos (by omega), d]
    exact congrArg A (by omega)
  · rw [if_neg c1]
    by_cases c2 : j = 0 * 6 + k / 4
    · rw [if_pos c2, if_pos (by omega), show j = k / 4 by omega]
    · rw [if_neg c2]
      by_cases c3 : j < (k + 3) / 4
      · rw [if_pos c3, if_pos (by omega)]
      · rw [if_neg c3, if_neg (show ¬ j < (k + 1 + 3) / 4 by omega)]
        by_cases c4 : L < j / 6 ∧ j % 6 < 4 ∧ 4 * (j / 6 - 1 - L) + j % 6 < k
        · rw [if_pos c4, if_pos (by omega)]
        · rw [if_neg c4, if_neg (by omega)]
theorem zixf_m1 (A R V : Nat → Nat) {L k : Nat} (hL : 6 ≤ L) (hL2 : L ≤ 20) (h3 : k < L) (hk : k % 4 ≠ 0) (j : Nat) : (if j = (1 + L + k / 4) * 6 + k % 4 then A k else zixf A R V L k j) = zixf A R V L (k + 1) j := by
  unfold zixf
  by_cases c1 : j = (1 + L + k / 4) * 6 + k % 4
  · have d : j / 6 = 1 + L + k / 4 := by omega
    rw [if_pos c1, if_neg (by omega), if_pos (by omega), d]
    exact congrArg A (by omega)
  · rw [if_neg c1]
    by_cases c3 : j < (k + 3) / 4
    · rw [if_pos c3, if_pos (by omega)]
    · rw [if_neg c3, if_neg (show ¬ j < (k + 1 + 3) / 4 by omega)]
      by_cases c4 : L < j / 6 ∧ j % 6 < 4 ∧ 4 * (j / 6 - 1 - L) + j % 6 < k
      · rw [if_pos c4, if_pos (by omega)]
      · rw [if_neg c4, if_neg (by omega)]
theorem zix_m1 {U : zT} {P : List zE} {L k : Nat} (hL : 6 ≤ L) (hL2 : L ≤ 20) (h3 : k < L) (hk : k % 4 ≠ 0) :
    zwT (zrw (zix U P L k) ((1 + L + k / 4) * 6 + k % 4) (zli P k) (zmk P k) (1 + k)) 1 (1 + L + k / 4) (k % 4 + 1) = zix U P L (k + 1) := by
  refine zT_ext (fun i j => ?_) rfl
  by_cases i0 : i = 0
  · subst i0
    unfold zrw
    rw [zwT_i _ _ _ _ (by omega), zwT_i _ _ _ _ (by omega), zwT_i _ _ _ _ (by omega), zwT_i _ _ _ _ (by omega), zix_0, zix_0]
    by_cases c2 : L < j ∧ j < 1 + L + (k + 3) / 4
    · rw [if_pos c2, if_pos (by omega)]
    · rw [if_neg c2, if_neg (by omega)]
  by_cases i1 : i = 1
  · subst i1
    rw [zwT_v]
    unfold zrw
    rw [zwT_i _ _ _ _ (by omega), zwT_i _ _ _ _ (by omega), zwT_i _ _ _ _ (by omega), zix_1, zix_1]
    by_cases c : j = 1 + L + k / 4
    · rw [if_pos c, if_neg (by omega), if_pos (by omega)]; omega
    · rw [if_neg c]
      by_cases c0 : j = 0
      · simp only [if_pos c0]; omega
      · simp only [if_neg c0]
        by_cases c2 : L < j ∧ j < 1 + L + (k + 3) / 4
        · rw [if_pos c2, if_pos (by omega)]; omega
        · rw [if_neg c2, if_neg (by omega)]
  by_cases i4 : i = 4
  · subst i4
    unfold zrw
    rw [zwT_i _ _ _ _ (by omega), zwT_i _ _ _ _ (by omega), zwT_i _ _ _ _ (by omega), zwT_v, zix_4, zix_4]
    exact zixf_m1 (zli P) (fun j => zli P (4 * j)) (U.1 4) hL hL2 h3 hk j
  by_cases i5 : i = 5
  · subst i5
    unfold zrw
    rw [zwT_i _ _ _ _ (by omega), zwT_i _ _ _ _ (by omega), zwT_v, zwT_i _ _ _ _ (by omega), zix_5, zix_5]
    exact zixf_m1 (zmk P) (fun j => zmk P (4 * j)) (U.1 5) hL hL2 h3 hk j
  by_cases i6 : i = 6
  · subst i6
    unfold zrw
    rw [zwT_i _ _ _ _ (by omega), zwT_v, zwT_i _ _ _ _ (by omega), zwT_i _ _ _ _ (by omega), zix_6, zix_6]
    exact zixf_m1 (fun x => 1 + x) (fun j => 1 + L + j) (U.1 6) hL hL2 h3 hk j
  unfold zrw
  rw [zix_o U P L (k + 1) i0 i1 i4 i5 i6, zwT_i _ _ _ _ i1, zwT_i _ _ _ _ i6, zwT_i _ _ _ _ i5, zwT_i _ _ _ _ i4, zix_o U P L k i0 i1 i4 i5 i6]
theorem zix_m0 {U : zT} {P : List zE} {L k : Nat} (hL : 6 ≤ L) (hL2 : L ≤ 20) (h3 : k < L) (hk : k % 4 = 0) (hU : U.1 1 (1 + L + k / 4) = 0) :
    zwT (zrw (zwT (zrw (zwT (zix U P L k) 0 (1 + L + k / 4) 2) (0 * 6 + k / 4) (zli P k) (zmk P k) (1 + L + k / 4)) 1 0 (k / 4 + 1)) ((1 + L + k / 4) * 6 + k % 4) (zli P k) (zmk P k) (1 + k)) 1 (1 + L + k / 4) (0 + 1) = zix U P L (k + 1) := by
  have k4 : 4 * (k / 4) = k := by omega
  refine zT_ext (fun i j => ?_) rfl
  by_cases i0 : i = 0
  · subst i0
    unfold zrw
    rw [zwT_i _ _ _ _ (by omega), zwT_i _ _ _ _ (by omega), zwT_i _ _ _ _ (by omega), zwT_i _ _ _ _ (by omega), zwT_i _ _ _ _ (by omega), zwT_i _ _ _ _ (by omega), zwT_i _ _ _ _ (by omega), zwT_i _ _ _ _ (by omega), zwT_v, zix_0, zix_0]
    by_cases c : j = 1 + L + k / 4
    · rw [if_pos c, if_pos (by omega)]
    · rw [if_neg c]
      by_cases c2 : L < j ∧ j < 1 + L + (k + 3) / 4
      · rw [if_pos c2, if_pos (by omega)]
      · rw [if_neg c2, if_neg (by omega)]
  by_cases i1 : i = 1
  · subst i1
    rw [zwT_v]
    unfold zrw
    rw [zwT_i _ _ _ _ (by omega), zwT_i _ _ _ _ (by omega), zwT_i _ _ _ _ (by omega), zwT_v, zwT_i _ _ _ _ (by omega), zwT_i _ _ _ _ (by omega), zwT_i _ _ _ _ (by omega), zwT_i _ _ _ _ (by omega), zix_1, zix_1]
    by_cases c : j = 1 + L + k / 4
    · rw [if_pos c, if_neg (by omega), if_pos (by omega)]; omega
    · rw [if_neg c]
      by_cases c0 : j = 0
      · simp only [if_pos c0]; omega
      · simp only [if_neg c0]
        by_cases c2 : L < j ∧ j < 1 + L + (k + 3) / 4
        · rw [if_pos c2, if_pos (by omega)]; omega
        · rw [if_neg c2, if_neg (by omega)]
  by_cases i4 : i = 4
  · subst i4
    unfold zrw
    rw [zwT_i _ _ _ _ (by omega), zwT_i _ _ _ _ (by omega), zwT_i _ _ _ _ (by omega), zwT_v, zwT_i _ _ _ _ (by omega), zwT_i _ _ _ _ (by omega), zwT_i _ _ _ _ (by omega), zwT_v, zwT_i _ _ _ _ (by omega), zix_4, zix_4]
    have q := zixf_m0 (zli P) (fun j => zli P (4 * j)) (U.1 4) hL hL2 h3 hk j
    simp only [k4] at q
    exact q
  by_cases i5 : i = 5
  · subst i5
    unfold zrw
    rw [zwT_i _ _ _ _ (by omega), zwT_i _ _ _ _ (by omega), zwT_v, zwT_i _ _ _ _ (by omega), zwT_i _ _ _ _ (by omega), zwT_i _ _ _ _ (by omega), zwT_v, zwT_i _ _ _ _ (by omega), zwT_i _ _ _ _ (by omega), zix_5, zix_5]
    have q := zixf_m0 (zmk P) (fun j => zmk P (4 * j)) (U.1 5) hL hL2 h3 hk j
    simp only [k4] at q
    exact q
  by_cases i6 : i = 6
  · subst i6
    unfold zrw
    rw [zwT_i _ _ _ _ (by omega), zwT_v, zwT_i _ _ _ _ (by omega), zwT_i _ _ _ _ (by omega), zwT_i _ _ _ _ (by omega), zwT_v, zwT_i _ _ _ _ (by omega), zwT_i _ _ _ _ (by omega), zwT_i _ _ _ _ (by omega), zix_6, zix_6]
    exact zixf_m0 (fun x => 1 + x) (fun j => 1 + L + j) (U.1 6) hL hL2 h3 hk j
  unfold zrw
  rw [zix_o U P L (k + 1) i0 i1 i4 i5 i6, zwT_i _ _ _ _ i1, zwT_i _ _ _ _ i6, zwT_i _ _ _ _ i5, zwT_i _ _ _ _ i4, zwT_i _ _ _ _ i1, zwT_i _ _ _ _ i6, zwT_i _ _ _ _ i5, zwT_i _ _ _ _ i4, zwT_i _ _ _ _ i0, zix_o U P L k i0 i1 i4 i5 i6]
theorem zm_b379 {P : List zE} (hl : ∀ x, x ∈ P → x.1 < 4096) {L k c : Nat} (h4 : P.length ≤ 80) (hL : L = zgs P.length) (hk : k < L) {V : zT} {S : sh_St} (hv : zVN S V) (hP : zPM S P) (hc : V.1 1 (1 + L + k / 4) = c) (hc5 : c ≤ 4) (rk : sh_St → Int32 → Int32 → Option (Int32 × sh_St)) : ∃ S', fX13_build0_379 rk S (nI L) (nI k) (nI (1 + L + k / 4)) = rk S' (nI L) (nI (k + 1)) ∧ zVN S' (zwT (zrw V ((1 + L + k / 4) * 6 + k % 4) (zli P k) (zmk P k) (1 + k)) 1 (1 + L + k / 4) (c + 1)) ∧ zFk 0 S S' := by
  have hg : zgs P.length = (P.length + 3) / 4 := rfl
  rw [fX13_build0_379]
  have e1 := zli_m hP (k := k) (by omega) (by omega)
  have e2 := zmk_m hP hl (k := k) (by omega) (by omega)
  obtain ⟨S1, g1, g2, g3⟩ := zm_laysRow hv (b := 1 + L + k / 4) (r := k % 4) (zli P k) (zmk P k) (1 + k) (by omega) (by omega)
  have hcc : S1.1 1 (80 + (1 + L + k / 4)) = nI c := by
    rw [zM_c g2 (show 1 + L + k / 4 < 40 by omega)]
    unfold zrw
    rw [zwT_i _ _ _ _ (by omega), zwT_i _ _ _ _ (by omega), zwT_i _ _ _ _ (by omega), hc]
  refine ⟨sh_I S1 1 (80 + (1 + L + k / 4)) (nI (c + 1)), ?_, zMw1 g2 (by omega) (by omega), zFk_t0 g3 (zFk_I _ _ _)⟩
  have hrem : nI k - nI k / nI 4 * nI 4 = nI (k % 4) := pk_rem (by omega) (by decide) (by decide)
  simp only [zq_l9, hrem]
  simp (disch := omega) only [zq_l9, pk_mul, nI_add, zq_t9, zq_c9, zq_bz9, zq_bo9, zq_g, zq_cl, zq_leT, zq_leF, zq_ltT, zq_ltF, zq_eqT, zq_eqF, zq_em, zq_me, zq_pm, zq_mm, zq_gm, pk_sub, zI_s, zI_k, zI_c, zI_2, zL_s, zL_k, zL_c, zL_1, if_true, if_false, eq_self, Nat.zero_add, Nat.add_zero, e1, e2, g1, hcc]
theorem zm_b310 {P : List zE} (hl : ∀ x, x ∈ P → x.1 < 4096) {L : Nat} (h4 : P.length ≤ 80) (hL : L = zgs P.length) (h6 : 6 ≤ L) {U : zT} (hU : ∀ b, U.1 1 b = 0) : ∀ (n k : Nat) (S : sh_St), zVN S (zix U P L k) → zPM S P → k ≤ L → L - k < n → ∃ S', fX13_build0_310 n S (nI L) (nI k) = some (nI 0, S') ∧ zVN S' (zix U P L L) ∧ zFk 0 S S' := by
  intro n
  induction n with
  | zero => intro k S _ _ _ h; omega
  | succ n ih =>
    intro k S hv hP h1 h2
    have hg : zgs P.length = (P.length + 3) / 4 := rfl
    rw [fX13_build0_310]
    by_cases h : k = L
    · subst h
      refine ⟨S, ?_, hv, zFk_rf S⟩
      simp (disch := omega) only [zq_l9, pk_mul, nI_add, zq_t9, zq_c9, zq_bz9, zq_bo9, zq_g, zq_cl, zq_leT, zq_leF, zq_ltT, zq_ltF, zq_eqT, zq_eqF, zq_em, zq_me, zq_pm, zq_mm, zq_gm, pk_sub, zI_s, zI_k, zI_c, zI_2, zL_s, zL_k, zL_c, zL_1, if_true, if_false, eq_self, Nat.zero_add, Nat.add_zero]
    · have hdiv : nI k / nI 4 = nI (k / 4) := pk_div (by omega) (by decide) (by decide)
      have hrem : nI k - nI (k / 4) * nI 4 = nI (k % 4) := by rw [← hdiv]; exact pk_rem (by omega) (by decide) (by decide)
      by_cases c : k % 4 = 0
      · have e1 : ∀ S, zPM S P → fX13_limitOf S (nI k) = some (nI (zli P k), S) := fun S hP => zli_m hP (k := k) (by omega) (by omega)
        have e2 : ∀ S, zPM S P → fX13_markOf S (nI k) = some (nI (zmk P k), S) := fun S hP => zmk_m hP hl (k := k) (by omega) (by omega)
        have hv1 := zMw0 hv (b := 1 + L + k / 4) 2 (by omega)
        have hP1 : zPM (sh_I S 1 (1 + L + k / 4) (nI 2)) P := zPM_fk (zFk_I S _ _) hP
        obtain ⟨S1, g1, g2, g3⟩ := zm_laysRow hv1 (b := 0) (r := k / 4) (zli P k) (zmk P k) (1 + L + k / 4) (by omega) (by omega)
        have hcc : S1.1 1 80 = nI (k / 4) := by
          rw [zM_c0 g2]
          unfold zrw
          rw [zwT_i _ _ _ _ (by omega), zwT_i _ _ _ _ (by omega), zwT_i _ _ _ _ (by omega), zwT_i _ _ _ _ (by omega), zix_1, if_pos rfl, show (k + 3) / 4 = k / 4 by omega]
        have hv2 := zMw1 g2 (b := 0) (v := k / 4 + 1) (by omega) (by omega)
        have hP2 : zPM (sh_I S1 1 (80 + 0) (nI (k / 4 + 1))) P := zPM_fk (zFk_I _ _ _) (zPM_fk g3 hP1)
        obtain ⟨S2, k1, k2, k3⟩ := zm_b379 hl (k := k) h4 hL (by omega) hv2 hP2 (c := 0) (by
          unfold zrw
          rw [zwT_k _ _ _ _ (by omega), zwT_i _ _ _ _ (by omega), zwT_i _ _ _ _ (by omega), zwT_i _ _ _ _ (by omega), zwT_i _ _ _ _ (by omega), zix_1, if_neg (by omega), if_neg (by omega), hU]) (by omega) (fX13_build0_310 n)
        rw [zix_m0 h6 (by omega) (by omega) c (hU _)] at k2
        obtain ⟨S', f1, f2, f3⟩ := ih (k + 1) S2 k2 (zPM_fk k3 hP2) (by omega) (by omega)
        refine ⟨S', ?_, f2, zFk_t0 (zFk_t0 (zFk_t0 (zFk_t0 (zFk_I S _ _) g3) (zFk_I _ _ _)) k3) f3⟩
        simp only [zq_l9, hdiv, hrem]
        simp (disch := omega) only [zq_l9, pk_mul, nI_add, zq_t9, zq_c9, zq_bz9, zq_bo9, zq_g, zq_cl, zq_leT, zq_leF, zq_ltT, zq_ltF, zq_eqT, zq_eqF, zq_em, zq_me, zq_pm, zq_mm, zq_gm, pk_sub, zI_s, zI_k, zI_c, zI_2, zL_s, zL_k, zL_c, zL_1, if_true, if_false, eq_self, Nat.zero_add, Nat.add_zero, e1 _ hP1, e2 _ hP1, c, g1, hcc]
        exact k1.trans f1
      · obtain ⟨S2, k1, k2, k3⟩ := zm_b379 hl (k := k) h4 hL (by omega) hv hP (c := k % 4) (by
          rw [zix_1, if_neg (by omega), if_pos (by omega)]; omega) (by omega) (fX13_build0_310 n)
        rw [zix_m1 h6 (by omega) (by omega) c] at k2
        obtain ⟨S', f1, f2, f3⟩ := ih (k + 1) S2 k2 (zPM_fk k3 hP) (by omega) (by omega)
        refine ⟨S', ?_, f2, zFk_t0 k3 f3⟩
        simp only [zq_l9, hdiv, hrem]
        simp (disch := omega) only [zq_l9, pk_mul, nI_add, zq_t9, zq_c9, zq_bz9, zq_bo9, zq_g, zq_cl, zq_leT, zq_leF, zq_ltT, zq_ltF, zq_eqT, zq_eqF, zq_em, zq_me, zq_pm, zq_mm, zq_gm, pk_sub, zI_s, zI_k, zI_c, zI_2, zL_s, zL_k, zL_c, zL_1, if_true, if_false, eq_self, Nat.zero_add, Nat.add_zero]
        exact k1.trans f1
