/-! the class builds -/
theorem zT_ext {T T' : zT} (h : ∀ i j, T.1 i j = T'.1 i j) (h2 : T.2 = T'.2) : T = T' := Prod.ext (funext fun i => funext fun j => h i j) h2
theorem zrs_v4 (b f : Nat) (P : List zE) (U : zT) (j : Nat) : ∀ m, (zrs b f P m U).1 4 j = if b * 6 ≤ j ∧ j < b * 6 + m then zli P (f + (j - b * 6)) else U.1 4 j := by
  intro m
  induction m with
  | zero => rw [if_neg (by omega)]; rfl
  | succ m ih =>
    unfold zrs zrw
    rw [zwT_i _ _ _ _ (by omega), zwT_i _ _ _ _ (by omega), zwT_v, ih]
    by_cases e : j = b * 6 + m
    · rw [if_pos e, if_pos (by omega), show j - b * 6 = m by omega]
    · rw [if_neg e]
      by_cases e2 : b * 6 ≤ j ∧ j < b * 6 + m
      · rw [if_pos e2, if_pos (by omega)]
      · rw [if_neg e2, if_neg (by omega)]
theorem zrs_v5 (b f : Nat) (P : List zE) (U : zT) (j : Nat) : ∀ m, (zrs b f P m U).1 5 j = if b * 6 ≤ j ∧ j < b * 6 + m then zmk P (f + (j - b * 6)) else U.1 5 j := by
  intro m
  induction m with
  | zero => rw [if_neg (by omega)]; rfl
  | succ m ih =>
    unfold zrs zrw
    rw [zwT_i _ _ _ _ (by omega), zwT_v, zwT_i _ _ _ _ (by omega), ih]
    by_cases e : j = b * 6 + m
    · rw [if_pos e, if_pos (by omega), show j - b * 6 = m by omega]
    · rw [if_neg e]
      by_cases e2 : b * 6 ≤ j ∧ j < b * 6 + m
      · rw [if_pos e2, if_pos (by omega)]
      · rw [if_neg e2, if_neg (by omega)]
theorem zrs_v6 (b f : Nat) (P : List zE) (U : zT) (j : Nat) : ∀ m, (zrs b f P m U).1 6 j = if b * 6 ≤ j ∧ j < b * 6 + m then 1 + (f + (j - b * 6)) else U.1 6 j := by
  intro m
  induction m with
  | zero => rw [if_neg (by omega)]; rfl
  | succ m ih =>
    unfold zrs zrw
    rw [zwT_v, zwT_i _ _ _ _ (by omega), zwT_i _ _ _ _ (by omega), ih]
    by_cases e : j = b * 6 + m
    · rw [if_pos e, if_pos (by omega), show j - b * 6 = m by omega]
    · rw [if_neg e]
      by_cases e2 : b * 6 ≤ j ∧ j < b * 6 + m
      · rw [if_pos e2, if_pos (by omega)]
      · rw [if_neg e2, if_neg (by omega)]
/-- the indexes' rows, one at a time -/
def zixf (A R V : Nat → Nat) (L k j : Nat) : Nat := if j < (k + 3) / 4 then R j else if L < j / 6 ∧ j % 6 < 4 ∧ 4 * (j / 6 - 1 - L) + j % 6 < k then A (4 * (j / 6 - 1 - L) + j % 6) else V j
theorem zixf_c (A R V : Nat → Nat) {L k t : Nat} (hL : 6 ≤ L) (hL2 : L ≤ 20) (h1 : 4 * k < t) (h2 : t ≤ 4 * k + 4) (h3 : t ≤ L) (j : Nat) : (if j = 0 * 6 + k then R k else if (1 + L + k) * 6 ≤ j ∧ j < (1 + L + k) * 6 + (t - 4 * k) then A (4 * k + (j - (1 + L + k) * 6)) else zixf A R V L (4 * k) j) = zixf A R V L t j := by
  unfold zixf
  by_cases c1 : j = 0 * 6 + k
  · rw [if_pos c1, if_pos (by omega), show j = k by omega]
  · rw [if_neg c1]
    by_cases c2 : (1 + L + k) * 6 ≤ j ∧ j < (1 + L + k) * 6 + (t - 4 * k)
    · have d : j / 6 = 1 + L + k := by omega
      rw [if_pos c2, if_neg (by omega), if_pos (by omega), d]
      exact congrArg A (by omega)
    · rw [if_neg c2]
      by_cases c3 : j < (4 * k + 3) / 4
      · rw [if_pos c3, if_pos (by omega)]
      · rw [if_neg c3, if_neg (show ¬ j < (t + 3) / 4 by omega)]
        by_cases c4 : L < j / 6 ∧ j % 6 < 4 ∧ 4 * (j / 6 - 1 - L) + j % 6 < 4 * k
        · rw [if_pos c4, if_pos (by omega)]
        · rw [if_neg c4, if_neg (by omega)]
theorem zix_4 (U : zT) (P : List zE) (L k j : Nat) : (zix U P L k).1 4 j = zixf (zli P) (fun j => zli P (4 * j)) (U.1 4) L k j := rfl
theorem zix_5 (U : zT) (P : List zE) (L k j : Nat) : (zix U P L k).1 5 j = zixf (zmk P) (fun j => zmk P (4 * j)) (U.1 5) L k j := rfl
theorem zix_6 (U : zT) (P : List zE) (L k j : Nat) : (zix U P L k).1 6 j = zixf (fun x => 1 + x) (fun j => 1 + L + j) (U.1 6) L k j := rfl
theorem zix_0 (U : zT) (P : List zE) (L k j : Nat) : (zix U P L k).1 0 j = if L < j ∧ j < 1 + L + (k + 3) / 4 then 2 else U.1 0 j := rfl
theorem zix_1 (U : zT) (P : List zE) (L k j : Nat) : (zix U P L k).1 1 j = if j = 0 then (k + 3) / 4 else if L < j ∧ j < 1 + L + (k + 3) / 4 then min 4 (k - 4 * (j - 1 - L)) else U.1 1 j := rfl
theorem zix_o (U : zT) (P : List zE) (L k : Nat) {i : Nat} (h0 : i ≠ 0) (h1 : i ≠ 1) (h4 : i ≠ 4) (h5 : i ≠ 5) (h6 : i ≠ 6) : (zix U P L k).1 i = U.1 i := by
  funext j
  unfold zix
  simp only
  rw [if_neg h0, if_neg h1, if_neg h4, if_neg h5, if_neg h6]
theorem zix_z {U : zT} {P : List zE} {L : Nat} (hU : U.1 1 0 = 0) : zix U P L 0 = U := by
  refine zT_ext (fun i j => ?_) rfl
  by_cases i0 : i = 0
  · subst i0; rw [zix_0, if_neg (by omega)]
  by_cases i1 : i = 1
  · subst i1; rw [zix_1]
    by_cases j0 : j = 0
    · subst j0; rw [if_pos rfl, hU]
    · rw [if_neg j0, if_neg (by omega)]
  by_cases i4 : i = 4
  · subst i4; rw [zix_4]; unfold zixf; rw [if_neg (by omega), if_neg (by omega)]
  by_cases i5 : i = 5
  · subst i5; rw [zix_5]; unfold zixf; rw [if_neg (by omega), if_neg (by omega)]
  by_cases i6 : i = 6
  · subst i6; rw [zix_6]; unfold zixf; rw [if_neg (by omega), if_neg (by omega)]
  rw [zix_o U P L 0 i0 i1 i4 i5 i6]
theorem zix_sc {U : zT} {P : List zE} {L k t : Nat} (hL : 6 ≤ L) (hL2 : L ≤ 20) (h1 : 4 * k < t) (h2 : t ≤ 4 * k + 4) (h3 : t ≤ L) (h4 : t = 4 * k + 4 ∨ t = L) :
    zwT (zrw (zwT (zrs (1 + L + k) (4 * k) P (t - 4 * k) (zwT (zix U P L (4 * k)) 0 (1 + L + k) 2)) 1 (1 + L + k) (t - 4 * k)) (0 * 6 + k) (zli P (4 * k)) (zmk P (4 * k)) (1 + L + k)) 1 0 (k + 1) = zix U P L t := by
  refine zT_ext (fun i j => ?_) ?_
  · by_cases i0 : i = 0
    · subst i0
      unfold zrw
      rw [zwT_i _ _ _ _ (by omega), zwT_i _ _ _ _ (by omega), zwT_i _ _ _ _ (by omega), zwT_i _ _ _ _ (by omega), zwT_i _ _ _ _ (by omega), zrs_i _ _ _ _ _ (by omega), zwT_v, zix_0, zix_0]
      by_cases c : j = 1 + L + k
      · rw [if_pos c, if_pos (by omega)]
      · rw [if_neg c]
        by_cases c2 : L < j ∧ j < 1 + L + (4 * k + 3) / 4
        · rw [if_pos c2, if_pos (by omega)]
        · rw [if_neg c2, if_neg (by omega)]
    by_cases i1 : i = 1
    · subst i1
      rw [zwT_v]
      unfold zrw
      rw [zwT_i _ _ _ _ (by omega), zwT_i _ _ _ _ (by omega), zwT_i _ _ _ _ (by omega), zwT_v, zrs_i _ _ _ _ _ (by omega), zwT_i _ _ _ _ (by omega), zix_1, zix_1]
      by_cases c0 : j = 0
      · simp only [if_pos c0]; omega
      · simp only [if_neg c0]
        by_cases c : j = 1 + L + k
        · rw [if_pos c, if_pos (by omega)]; omega
        · rw [if_neg c]
          by_cases c2 : L < j ∧ j < 1 + L + (4 * k + 3) / 4
          · rw [if_pos c2, if_pos (by omega)]; omega
          · rw [if_neg c2, if_neg (by omega)]
    by_cases i4 : i = 4
    · subst i4
      unfold zrw
      rw [zwT_i _ _ _ _ (by omega), zwT_i _ _ _ _ (by omega), zwT_i _ _ _ _ (by omega), zwT_v, zwT_i _ _ _ _ (by omega), zrs_v4, zwT_i _ _ _ _ (by omega), zix_4, zix_4]
      exact zixf_c (zli P) (fun j => zli P (4 * j)) (U.1 4) hL hL2 h1 h2 h3 j
    by_cases i5 : i = 5
    · subst i5
      unfold zrw
      rw [zwT_i _ _ _ _ (by omega), zwT_i _ _ _ _ (by omega), zwT_v, zwT_i _ _ _ _ (by omega), zwT_i _ _ _ _ (by omega), zrs_v5, zwT_i _ _ _ _ (by omega), zix_5, zix_5]
      exact zixf_c (zmk P) (fun j => zmk P (4 * j)) (U.1 5) hL hL2 h1 h2 h3 j
    by_cases i6 : i = 6
    · subst i6
      unfold zrw
      rw [zwT_i _ _ _ _ (by omega), zwT_v, zwT_i _ _ _ _ (by omega), zwT_i _ _ _ _ (by omega), zwT_i _ _ _ _ (by omega), zrs_v6, zwT_i _ _ _ _ (by omega), zix_6, zix_6]
      exact zixf_c (fun x => 1 + x) (fun j => 1 + L + j) (U.1 6) hL hL2 h1 h2 h3 j
    unfold zrw
    rw [zix_o U P L t i0 i1 i4 i5 i6, zwT_i _ _ _ _ i1, zwT_i _ _ _ _ i6, zwT_i _ _ _ _ i5, zwT_i _ _ _ _ i4, zwT_i _ _ _ _ i1, zrs_i _ _ _ _ _ (by omega), zwT_i _ _ _ _ i0, zix_o U P L (4 * k) i0 i1 i4 i5 i6]
  · show (zrs (1 + L + k) (4 * k) P (t - 4 * k) (zwT (zix U P L (4 * k)) 0 (1 + L + k) 2)).2 = _
    rw [zrs_2]
    rfl
theorem zx_layIx_l {P : List zE} (hl : ∀ x, x ∈ P → x.1 < 4096) {L : Nat} (h4 : P.length ≤ 80) (hL : L = zgs P.length) (h6 : 6 ≤ L) {U : zT} (hU : ∀ b, U.1 1 b = 0) : ∀ (n k : Nat) (S : sh_St), zVX S 4 (zix U P L (min (4 * k) L)) → zPX S P → k ≤ zgs L → zgs L - k < n → ∃ S', fX4_layIndexes_46 n S (nI L) (nI (zgs L)) (nI k) = some ((), S') ∧ zVX S' 4 (zix U P L L) ∧ zFr 4 13 S S' := by
  intro n
  induction n with
  | zero => intro k S _ _ _ h; omega
  | succ n ih =>
    intro k S hv hP h1 h2
    rw [fX4_layIndexes_46]
    unfold zgs at h1 h2 hL
    have hg : zgs L = (L + 3) / 4 := rfl
    by_cases h : k = (L + 3) / 4
    · refine ⟨S, ?_, by rw [show min (4 * k) L = L by omega] at hv; exact hv, zFr_rf _ _ S⟩
      rw [hg]
      simp (disch := omega) only [zq_l9, pk_mul, nI_add, zq_t9, zq_c9, zq_bz9, zq_bo9, zq_g, zq_cl, zq_leT, zq_leF, zq_ltT, zq_ltF, zq_eqT, zq_eqF, zq_em, zq_me, zq_pm, zq_mm, zq_gm, pk_sub, zI_s, zI_k, zI_c, zI_2, zL_s, zL_k, zL_c, zL_1, if_true, if_false, eq_self, Nat.zero_add, Nat.add_zero]
    · have hm : min (4 * k) L = 4 * k := by omega
      rw [hm] at hv
      have hb : 1 + L + k < 40 := by omega
      have hv1 := zXw0 hv (1 + L + k) 2
      have hP1 : zPX (sh_I S 5 (1 + L + k) (nI 2)) P := zPX_fr (zFr_I (lo := 5) (hi := 5) S (c := 5) (1 + L + k) (nI 2) (by omega) (by omega)) (by omega) hP
      have hc0 : (zwT (zix U P L (4 * k)) 0 (1 + L + k) 2).1 1 (1 + L + k) = 0 := by
        rw [zwT_i _ _ _ _ (by omega), zix_1, if_neg (by omega), if_neg (by omega), hU]
      obtain ⟨S1, g1, g2, g3⟩ := zx_layRows hv1 hP1 hl (by omega) hb (f := 4 * k) (t := min (4 * k + 4) L) (by omega) (by omega) (by omega) hc0
      have hP2 := zPX_fr g3 (by omega) hP1
      have e1 := zli_x hP2 (k := 4 * k) (by omega) (by omega)
      have e2 := zmk_x hP2 hl (k := 4 * k) (by omega) (by omega)
      have hc1 : (zwT (zrs (1 + L + k) (4 * k) P (min (4 * k + 4) L - 4 * k) (zwT (zix U P L (4 * k)) 0 (1 + L + k) 2)) 1 (1 + L + k) (min (4 * k + 4) L - 4 * k)).1 1 0 = k := by
        rw [zwT_k _ _ _ _ (by omega), zrs_i _ _ _ _ _ (by omega), zwT_i _ _ _ _ (by omega), zix_1, if_pos rfl]
        omega
      obtain ⟨S2, k1, k2, k3⟩ := zx_insert g2 (b := 0) (p := k) (by omega) (zli P (4 * k)) (zmk P (4 * k)) (1 + L + k) (by omega) (by rw [hc1]; omega)
      rw [zIn_c9 _ _ _ hc1, zix_sc h6 (by omega) (by omega) (by omega) (by omega) (by omega), show min (4 * k + 4) L = min (4 * (k + 1)) L by omega] at k2
      obtain ⟨S', f1, f2, f3⟩ := ih (k + 1) S2 k2 (zPX_fr k3 (by omega) hP2) (by unfold zgs; omega) (by unfold zgs; omega)
      refine ⟨S', ?_, f2, zFr_tr (zFr_tr (zFr_tr (zFr_I S _ _ (by omega) (by omega)) (zFr_wd g3 (by omega) (by omega))) (zFr_wd k3 (by omega) (by omega))) f3⟩
      have hmin : (if nI L < nI (4 * k + 4) then nI L else nI (4 * k + 4)) = nI (min (4 * k + 4) L) := by
        by_cases c : L < 4 * k + 4
        · rw [if_pos (by rw [zq_ltT c (by omega)]; trivial), show min (4 * k + 4) L = L by omega]
        · rw [if_neg (by rw [zq_ltF (by omega) (by omega)]; exact fun q => q), show min (4 * k + 4) L = 4 * k + 4 by omega]
      rw [hg] at f1 ⊢
      simp (disch := omega) only [zq_l9, pk_mul, nI_add, zq_t9, zq_c9, zq_bz9, zq_bo9, zq_g, zq_cl, zq_leT, zq_leF, zq_ltT, zq_ltF, zq_eqT, zq_eqF, zq_em, zq_me, zq_pm, zq_mm, zq_gm, pk_sub, zI_s, zI_k, zI_c, zI_2, zL_s, zL_k, zL_c, zL_1, if_true, if_false, eq_self, Nat.zero_add, Nat.add_zero, show k * 4 = 4 * k from by omega, hmin, g1, e1, e2, k1]
      exact f1
theorem zq_div4 {a : Nat} (h : a < 2 ^ 31) : nI a / nI 4 = nI (a / 4) := pk_div h (by decide) (by decide)
theorem zx_groups (S : sh_St) {a : Nat} (h : a < 1000) : fX12_groupsOf S (nI a) = some (nI (zgs a), S) := by
  rw [fX12_groupsOf]
  simp (disch := omega) only [zq_l9, pk_mul, nI_add, zq_t9, zq_c9, zq_bz9, zq_bo9, zq_g, zq_cl, zq_leT, zq_leF, zq_ltT, zq_ltF, zq_eqT, zq_eqF, zq_em, zq_me, zq_pm, zq_mm, zq_gm, pk_sub, zI_s, zI_k, zI_c, zI_2, zL_s, zL_k, zL_c, zL_1, if_true, if_false, eq_self, Nat.zero_add, Nat.add_zero]
  rw [show a + 4 - 1 = a + 3 by omega, zq_div4 (by omega)]
  rfl
theorem zx_layIx {S : sh_St} {U : zT} (hv : zVX S 4 U) {P : List zE} (hP : zPX S P) (hl : ∀ x, x ∈ P → x.1 < 4096) (h4 : P.length ≤ 80) (h2 : 2 ≤ zgs P.length) (hU : ∀ b, U.1 1 b = 0) : ∃ S', fX4_layIndexes S (nI (zgs P.length)) = some ((), S') ∧ zVX S' 4 (if zgs P.length ≤ 5 then zwT (zrs 0 0 P (zgs P.length) (zwT (zwT U 0 0 2) 7 0 1)) 1 0 (zgs P.length) else zix (zwT (zwT U 0 0 2) 7 0 2) P (zgs P.length) (zgs P.length)) ∧ zFr 4 13 S S' := by
  have hg : zgs P.length = (P.length + 3) / 4 := rfl
  rw [fX4_layIndexes]
  have hv1 := zXw0 hv 0 2
  by_cases c : zgs P.length ≤ 5
  · rw [if_pos c]
    have hv2 := zXw7 hv1 1
    have hP2 : zPX (sh_I (sh_I S 5 0 (nI 2)) 4 3 (nI 1)) P := zPX_fr (zFr_tr (zFr_I (lo := 4) (hi := 5) S (c := 5) 0 (nI 2) (by omega) (by omega)) (zFr_I _ (c := 4) 3 (nI 1) (by omega) (by omega))) (by omega) hP
    obtain ⟨S', f1, f2, f3⟩ := zx_layRows hv2 hP2 hl (by omega) (b := 0) (f := 0) (t := zgs P.length) (by omega) (by omega) (by omega) (by omega) (by rw [zwT_i _ _ _ _ (by omega), zwT_i _ _ _ _ (by omega), hU])
    refine ⟨S', ?_, f2, zFr_tr (zFr_tr (zFr_I S _ _ (by omega) (by omega)) (zFr_I _ _ _ (by omega) (by omega))) (zFr_wd f3 (by omega) (by omega))⟩
    simp (disch := omega) only [zq_l9, pk_mul, nI_add, zq_t9, zq_c9, zq_bz9, zq_bo9, zq_g, zq_cl, zq_leT, zq_leF, zq_ltT, zq_ltF, zq_eqT, zq_eqF, zq_em, zq_me, zq_pm, zq_mm, zq_gm, pk_sub, zI_s, zI_k, zI_c, zI_2, zL_s, zL_k, zL_c, zL_1, if_true, if_false, eq_self, Nat.zero_add, Nat.add_zero, f1]
  · rw [if_neg c]
    have hv2 := zXw7 hv1 2
    have hP2 : zPX (sh_I (sh_I S 5 0 (nI 2)) 4 3 (nI 2)) P := zPX_fr (zFr_tr (zFr_I (lo := 4) (hi := 5) S (c := 5) 0 (nI 2) (by omega) (by omega)) (zFr_I _ (c := 4) 3 (nI 2) (by omega) (by omega))) (by omega) hP
    have hU2 : ∀ b, (zwT (zwT U 0 0 2) 7 0 2).1 1 b = 0 := fun b => by rw [zwT_i _ _ _ _ (by omega), zwT_i _ _ _ _ (by omega), hU]
    rw [← zix_z (P := P) (L := zgs P.length) (hU2 0)] at hv2
    obtain ⟨S', f1, f2, f3⟩ := zx_layIx_l hl h4 rfl (by omega) hU2 sh_FU 0 _ (by rw [Nat.mul_zero, Nat.zero_min]; exact hv2) hP2 (by omega) (by unfold zgs; have : sh_FU = 100000 := rfl; omega)
    refine ⟨S', ?_, f2, zFr_tr (zFr_tr (zFr_I S _ _ (by omega) (by omega)) (zFr_I _ _ _ (by omega) (by omega))) f3⟩
    simp (disch := omega) only [zq_l9, pk_mul, nI_add, zq_t9, zq_c9, zq_bz9, zq_bo9, zq_g, zq_cl, zq_leT, zq_leF, zq_ltT, zq_ltF, zq_eqT, zq_eqF, zq_em, zq_me, zq_pm, zq_mm, zq_gm, pk_sub, zI_s, zI_k, zI_c, zI_2, zL_s, zL_k, zL_c, zL_1, if_true, if_false, eq_self, Nat.zero_add, Nat.add_zero, zx_groups _ (show zgs P.length < 1000 by omega)]
    exact f1
theorem zFre_ha (T : zT) (n : Int64) : zha (zFre T) n = zha T n := rfl
theorem zlv_i (U : zT) (P : List zE) (k : Nat) {i : Nat} (h0 : i ≠ 0) (h3 : i ≠ 3) : (zlv U P k).1 i = U.1 i := by
  induction k with
  | zero => rfl
  | succ k ih =>
    unfold zlv
    rw [zgr_i _ _ _ _ h3, zwT_i _ _ _ _ h0, ih]
theorem zlv_ha (U : zT) (P : List zE) (k : Nat) (n : Int64) : zha (zlv U P k) n = zha U n := by
  unfold zha
  rw [zlv_i U P k (by omega) (by omega)]
theorem zx_layAll {T : zT} {P : List zE} (hl : ∀ x, x ∈ P → x.1 < 4096) (h4 : P.length ≤ 80) (h2 : 2 ≤ zgs P.length) (hPh : ∀ x, x ∈ P → x.1 = zha T x.2.1) : ∀ (n k : Nat) (S : sh_St), zVX S 4 (zlv (zFre T) P k) → zPX S P → k ≤ zgs P.length → zgs P.length - k < n → ∃ S', fX4_layAnew_132 n S (nI (zgs P.length)) (nI k) = some ((), S') ∧ zVX S' 4 (zbu T P) ∧ zFr 4 13 S S' := by
  intro n
  induction n with
  | zero => intro k S _ _ _ h; omega
  | succ n ih =>
    intro k S hv hP h1 h3
    have hg : zgs P.length = (P.length + 3) / 4 := rfl
    rw [fX4_layAnew_132]
    by_cases h : k = zgs P.length
    · subst h
      obtain ⟨S', f1, f2, f3⟩ := zx_layIx hv hP hl h4 h2 (fun b => by rw [zlv_i _ _ _ (by omega) (by omega)]; rfl)
      refine ⟨S', ?_, ?_, f3⟩
      · simp (disch := omega) only [zq_l9, pk_mul, nI_add, zq_t9, zq_c9, zq_bz9, zq_bo9, zq_g, zq_cl, zq_leT, zq_leF, zq_ltT, zq_ltF, zq_eqT, zq_eqF, zq_em, zq_me, zq_pm, zq_mm, zq_gm, pk_sub, zI_s, zI_k, zI_c, zI_2, zL_s, zL_k, zL_c, zL_1, if_true, if_false, eq_self, Nat.zero_add, Nat.add_zero, f1]
      · unfold zbu
        rw [if_neg (by omega)]
        exact f2
    · obtain ⟨S1, g1, g2, g3⟩ := zx_layLeaf hv hP (by omega) (fun x hx => by rw [zlv_ha, zFre_ha]; exact hPh x hx) (b := 1 + k) (f := 4 * k) (t := 4 * k + 4) (by omega) (by omega) (by omega)
      obtain ⟨S', f1, f2, f3⟩ := ih (k + 1) S1 g2 (zPX_fr g3 (by omega) hP) (by omega) (by omega)
      refine ⟨S', ?_, f2, zFr_tr (zFr_wd g3 (by omega) (by omega)) f3⟩
      simp (disch := omega) only [zq_l9, pk_mul, nI_add, zq_t9, zq_c9, zq_bz9, zq_bo9, zq_g, zq_cl, zq_leT, zq_leF, zq_ltT, zq_ltF, zq_eqT, zq_eqF, zq_em, zq_me, zq_pm, zq_mm, zq_gm, pk_sub, zI_s, zI_k, zI_c, zI_2, zL_s, zL_k, zL_c, zL_1, if_true, if_false, eq_self, Nat.zero_add, Nat.add_zero, show k * 4 = 4 * k from by omega, g1]
      exact f1
/-- all entries by the tree's numbers -/
def zPA (T : zT) : List zE := zpc (znz T) (zen T (T.1 7 1) (T.1 7 2) (T.1 7 3)) 240
theorem zPA_len (T : zT) : (zPA T).length = zall T := zpc_len _ _ _
theorem zPA_h (T : zT) : ∀ x, x ∈ zPA T → x.1 = zha T x.2.1 := by
  intro x hx
  obtain ⟨k, _, _, e⟩ := zpc_mem hx
  rw [e]
  rfl
theorem zPA_l {T : zT} (hI : zInv T) : ∀ x, x ∈ zPA T → x.1 < 4096 := zpc_lt (by have := hI.1; omega)
theorem zx_layAnew {S : sh_St} {T : zT} (hv : zXv S T) (hI : zInv T) (h80 : zall T ≤ 80) : ∃ S', fX4_layAnew S = some ((), S') ∧ zVX S' 4 (zbu T (zPA T)) ∧ zFr 4 127 S S' ∧ (∀ i, 14 ≤ i → i ≤ 123 → S'.1 i = S.1 i ∧ S'.2 i = S.2 i) := by
  rw [fX4_layAnew]
  have hP0 : zPX (sh_I S 124 3 (nI 0)) (zpc (znz T) (zen T (T.1 7 1) (T.1 7 2) (T.1 7 3)) 0) := ⟨zI_s _ _ _ _, fun k e h => by simp [zpc] at h⟩
  have hf0 : zFr 124 127 S (sh_I S 124 3 (nI 0)) := zFr_I S _ _ (by omega) (by omega)
  obtain ⟨S1, g1, g2, g3⟩ := zx_lay_c hI sh_FU 0 (sh_I S 124 3 (nI 0)) (zXw_fr hf0 (by omega) hv.1) (by omega) (by decide) hP0
  have hv1 : zXv S1 T := zXv_fr (zFr_tr hf0 g3) (by omega) hv
  obtain ⟨S2, k1, k2, k3⟩ := zx_fre hv1
  have hP2 : zPX S2 (zPA T) := zPX_fr k3 (by omega) g2
  have hlen : (zPA T).length ≤ 80 := by rw [zPA_len]; exact h80
  have hg : zgs (zPA T).length = ((zPA T).length + 3) / 4 := rfl
  have hn : S2.1 124 3 = nI (zPA T).length := hP2.1
  have hgr := zx_groups S2 (show (zPA T).length < 1000 by omega)
  have hfin : ∀ S', zFr 4 13 S2 S' → zFr 4 127 S S' ∧ (∀ i, 14 ≤ i → i ≤ 123 → S'.1 i = S.1 i ∧ S'.2 i = S.2 i) := fun S' hf => by
    refine ⟨zFr_tr (zFr_wd (zFr_tr hf0 g3) (by omega) (by omega)) (zFr_tr (zFr_wd k3 (by omega) (by omega)) (zFr_wd hf (by omega) (by omega))), fun i hi hi2 => ?_⟩
    have a := zFr_tr hf0 g3 i (by omega)
    have b := k3 i (by omega)
    have c := hf i (by omega)
    exact ⟨c.1.trans (b.1.trans a.1), c.2.trans (b.2.trans a.2)⟩
  by_cases c : zgs (zPA T).length ≤ 1
  · have hv3 := zXw7 k2 0
    have hP3 : zPX (sh_I S2 4 3 (nI 0)) (zPA T) := zPX_fr (zFr_I (lo := 4) (hi := 4) S2 (c := 4) 3 (nI 0) (by omega) (by omega)) (by omega) hP2
    obtain ⟨S', f1, f2, f3⟩ := zx_layLeaf hv3 hP3 (by omega) (fun x hx => by rw [zha_w (by omega), zFre_ha]; exact zPA_h T x hx) (b := 0) (f := 0) (t := (zPA T).length) (by omega) (by omega) (by omega)
    rw [Nat.min_self] at f2
    have ff : zFr 4 13 S2 S' := zFr_tr (zFr_I (lo := 4) (hi := 13) S2 (c := 4) 3 (nI 0) (by omega) (by omega)) (zFr_wd f3 (by omega) (by omega))
    refine ⟨S', ?_, ?_, hfin S' ff⟩
    · simp (disch := omega) only [zq_l9, pk_mul, nI_add, zq_t9, zq_c9, zq_bz9, zq_bo9, zq_g, zq_cl, zq_leT, zq_leF, zq_ltT, zq_ltF, zq_eqT, zq_eqF, zq_em, zq_me, zq_pm, zq_mm, zq_gm, pk_sub, zI_s, zI_k, zI_c, zI_2, zL_s, zL_k, zL_c, zL_1, if_true, if_false, eq_self, Nat.zero_add, Nat.add_zero]
      rw [g1, fX4_layAnew_10]
      simp (disch := omega) only [zq_l9, pk_mul, nI_add, zq_t9, zq_c9, zq_bz9, zq_bo9, zq_g, zq_cl, zq_leT, zq_leF, zq_ltT, zq_ltF, zq_eqT, zq_eqF, zq_em, zq_me, zq_pm, zq_mm, zq_gm, pk_sub, zI_s, zI_k, zI_c, zI_2, zL_s, zL_k, zL_c, zL_1, if_true, if_false, eq_self, Nat.zero_add, Nat.add_zero, k1, hn, hgr, f1]
    · unfold zbu
      rw [if_pos c]
      exact f2
  · obtain ⟨S', f1, f2, f3⟩ := zx_layAll (zPA_l hI) hlen (by omega) (zPA_h T) sh_FU 0 S2 k2 hP2 (by omega) (by have : sh_FU = 100000 := rfl; omega)
    refine ⟨S', ?_, f2, hfin S' f3⟩
    simp (disch := omega) only [zq_l9, pk_mul, nI_add, zq_t9, zq_c9, zq_bz9, zq_bo9, zq_g, zq_cl, zq_leT, zq_leF, zq_ltT, zq_ltF, zq_eqT, zq_eqF, zq_em, zq_me, zq_pm, zq_mm, zq_gm, pk_sub, zI_s, zI_k, zI_c, zI_2, zL_s, zL_k, zL_c, zL_1, if_true, if_false, eq_self, Nat.zero_add, Nat.add_zero]
    rw [g1, fX4_layAnew_10]
    simp (disch := omega) only [zq_l9, pk_mul, nI_add, zq_t9, zq_c9, zq_bz9, zq_bo9, zq_g, zq_cl, zq_leT, zq_leF, zq_ltT, zq_ltF, zq_eqT, zq_eqF, zq_em, zq_me, zq_pm, zq_mm, zq_gm, pk_sub, zI_s, zI_k, zI_c, zI_2, zL_s, zL_k, zL_c, zL_1, if_true, if_false, eq_self, Nat.zero_add, Nat.add_zero, k1, hn, hgr]
    exact f1
