/-! copies: the reference -/
theorem zVM_cg {f f' : Nat → Int32} {g g' : Nat → Int64} {T : zT} (hf : ∀ k, k < 1084 → f' k = f k) (hg : ∀ k, k < 240 → g' k = g k) (h : zVM f g T) : zVM f' g' T := by
  obtain ⟨h1, h2, h3, h4, h5, h6, h7⟩ := h
  refine ⟨fun b hb => ?_, fun k hk => ?_, fun j hj => ?_, ?_, ?_, ?_, ?_⟩
  · rw [hf b (by omega), hf (40 + b) (by omega), hf (80 + b) (by omega)]; exact h1 b hb
  · rw [hg k hk, hf (840 + k) (by omega)]; exact h2 k hk
  · rw [hf (120 + 3 * j) (by omega), hf (120 + 3 * j + 1) (by omega), hf (120 + 3 * j + 2) (by omega)]; exact h3 j hj
  · rw [hf 1080 (by omega)]; exact h4
  · rw [hf 1081 (by omega)]; exact h5
  · rw [hf 1082 (by omega)]; exact h6
  · rw [hf 1083 (by omega)]; exact h7
theorem zc_pa1 : ∀ (n k : Nat) (S : sh_St), k ≤ 1084 → 1084 - k < n → ∃ S', fX13_putsAside_2 n S (nI k) = fX13_putsAside_29 sh_FU S' (nI 0) ∧ (∀ j, k ≤ j → j < 1084 → S'.1 5 (j) = S.1 1 (j)) ∧ (∀ j, (∀ i, k ≤ i → i < 1084 → j ≠ i) → S'.1 5 j = S.1 5 j) ∧ S'.2 = S.2 ∧ ∀ i, i ≠ 5 → S'.1 i = S.1 i := by
  intro n
  induction n with
  | zero => intro k S h1 h2; omega
  | succ n ih =>
    intro k S h1 h2
    rw [fX13_putsAside_2]
    by_cases h : k = 1084
    · subst h
      refine ⟨S, ?_, fun j a b => by omega, fun j _ => rfl, rfl, fun _ _ => rfl⟩
      simp (disch := omega) only [zq_l9, pk_mul, nI_add, zq_t9, zq_c9, zq_bz9, zq_bo9, zq_g, zq_cl, zq_leT, zq_leF, zq_ltT, zq_ltF, zq_eqT, zq_eqF, zq_em, zq_me, zq_pm, zq_mm, zq_gm, pk_sub, zI_s, zI_k, zI_c, zI_2, zL_s, zL_k, zL_c, zL_1, if_true, if_false, eq_self, Nat.zero_add, Nat.add_zero]
    · obtain ⟨S', f1, f2, f3, f4, f5⟩ := ih (k + 1) (sh_I S 5 (k) (S.1 1 (k))) (by omega) (by omega)
      refine ⟨S', ?_, fun j a b => ?_, fun j a => ?_, f4, fun i hi => ?_⟩
      · simp (disch := omega) only [zq_l9, pk_mul, nI_add, zq_t9, zq_c9, zq_bz9, zq_bo9, zq_g, zq_cl, zq_leT, zq_leF, zq_ltT, zq_ltF, zq_eqT, zq_eqF, zq_em, zq_me, zq_pm, zq_mm, zq_gm, pk_sub, zI_s, zI_k, zI_c, zI_2, zL_s, zL_k, zL_c, zL_1, if_true, if_false, eq_self, Nat.zero_add, Nat.add_zero]
        exact f1
      · by_cases e : j = k
        · subst e
          rw [f3 (j) (fun i a b => by omega), zI_s]
        · rw [f2 j (by omega) b, zI_c S 5 _ _ (by omega)]
      · rw [f3 j (fun i x y => a i (by omega) y), zI_k S 5 _ _ (a k (by omega) (by omega))]
      · rw [f5 i hi, zI_c S 5 _ _ hi]
theorem zc_pa2 : ∀ (n k : Nat) (S : sh_St), k ≤ 240 → 240 - k < n → ∃ S', fX13_putsAside_29 n S (nI k) = some ((), S') ∧ (∀ j, k ≤ j → j < 240 → S'.2 6 (j) = S.2 2 (j)) ∧ (∀ j, (∀ i, k ≤ i → i < 240 → j ≠ i) → S'.2 6 j = S.2 6 j) ∧ S'.1 = S.1 ∧ ∀ i, i ≠ 6 → S'.2 i = S.2 i := by
  intro n
  induction n with
  | zero => intro k S h1 h2; omega
  | succ n ih =>
    intro k S h1 h2
    rw [fX13_putsAside_29]
    by_cases h : k = 240
    · subst h
      refine ⟨S, ?_, fun j a b => by omega, fun j _ => rfl, rfl, fun _ _ => rfl⟩
      simp (disch := omega) only [zq_l9, pk_mul, nI_add, zq_t9, zq_c9, zq_bz9, zq_bo9, zq_g, zq_cl, zq_leT, zq_leF, zq_ltT, zq_ltF, zq_eqT, zq_eqF, zq_em, zq_me, zq_pm, zq_mm, zq_gm, pk_sub, zI_s, zI_k, zI_c, zI_2, zL_s, zL_k, zL_c, zL_1, if_true, if_false, eq_self, Nat.zero_add, Nat.add_zero]
    · obtain ⟨S', f1, f2, f3, f4, f5⟩ := ih (k + 1) (sh_L S 6 (k) (S.2 2 (k))) (by omega) (by omega)
      refine ⟨S', ?_, fun j a b => ?_, fun j a => ?_, f4, fun i hi => ?_⟩
      · simp (disch := omega) only [zq_l9, pk_mul, nI_add, zq_t9, zq_c9, zq_bz9, zq_bo9, zq_g, zq_cl, zq_leT, zq_leF, zq_ltT, zq_ltF, zq_eqT, zq_eqF, zq_em, zq_me, zq_pm, zq_mm, zq_gm, pk_sub, zI_s, zI_k, zI_c, zI_2, zL_s, zL_k, zL_c, zL_1, if_true, if_false, eq_self, Nat.zero_add, Nat.add_zero]
        exact f1
      · by_cases e : j = k
        · subst e
          rw [f3 (j) (fun i a b => by omega), zL_s]
        · rw [f2 j (by omega) b, zL_c S 6 _ _ (by omega)]
      · rw [f3 j (fun i x y => a i (by omega) y), zL_k S 6 _ _ (a k (by omega) (by omega))]
      · rw [f5 i hi, zL_c S 6 _ _ hi]
theorem zc_cb1 : ∀ (n k : Nat) (S : sh_St), k ≤ 1084 → 1084 - k < n → ∃ S', fX13_comesBack_2 n S (nI k) = fX13_comesBack_29 sh_FU S' (nI 0) ∧ (∀ j, k ≤ j → j < 1084 → S'.1 1 (j) = S.1 5 (j)) ∧ (∀ j, (∀ i, k ≤ i → i < 1084 → j ≠ i) → S'.1 1 j = S.1 1 j) ∧ S'.2 = S.2 ∧ ∀ i, i ≠ 1 → S'.1 i = S.1 i := by
  intro n
  induction n with
  | zero => intro k S h1 h2; omega
  | succ n ih =>
    intro k S h1 h2
    rw [fX13_comesBack_2]
    by_cases h : k = 1084
    · subst h
      refine ⟨S, ?_, fun j a b => by omega, fun j _ => rfl, rfl, fun _ _ => rfl⟩
      simp (disch := omega) only [zq_l9, pk_mul, nI_add, zq_t9, zq_c9, zq_bz9, zq_bo9, zq_g, zq_cl, zq_leT, zq_leF, zq_ltT, zq_ltF, zq_eqT, zq_eqF, zq_em, zq_me, zq_pm, zq_mm, zq_gm, pk_sub, zI_s, zI_k, zI_c, zI_2, zL_s, zL_k, zL_c, zL_1, if_true, if_false, eq_self, Nat.zero_add, Nat.add_zero]
    · obtain ⟨S', f1, f2, f3, f4, f5⟩ := ih (k + 1) (sh_I S 1 (k) (S.1 5 (k))) (by omega) (by omega)
      refine ⟨S', ?_, fun j a b => ?_, fun j a => ?_, f4, fun i hi => ?_⟩
      · simp (disch := omega) only [zq_l9, pk_mul, nI_add, zq_t9, zq_c9, zq_bz9, zq_bo9, zq_g, zq_cl, zq_leT, zq_leF, zq_ltT, zq_ltF, zq_eqT, zq_eqF, zq_em, zq_me, zq_pm, zq_mm, zq_gm, pk_sub, zI_s, zI_k, zI_c, zI_2, zL_s, zL_k, zL_c, zL_1, if_true, if_false, eq_self, Nat.zero_add, Nat.add_zero]
        exact f1
      · by_cases e : j = k
        · subst e
          rw [f3 (j) (fun i a b => by omega), zI_s]
        · rw [f2 j (by omega) b, zI_c S 1 _ _ (by omega)]
      · rw [f3 j (fun i x y => a i (by omega) y), zI_k S 1 _ _ (a k (by omega) (by omega))]
      · rw [f5 i hi, zI_c S 1 _ _ hi]
theorem zc_cb2 : ∀ (n k : Nat) (S : sh_St), k ≤ 240 → 240 - k < n → ∃ S', fX13_comesBack_29 n S (nI k) = some ((), S') ∧ (∀ j, k ≤ j → j < 240 → S'.2 2 (j) = S.2 6 (j)) ∧ (∀ j, (∀ i, k ≤ i → i < 240 → j ≠ i) → S'.2 2 j = S.2 2 j) ∧ S'.1 = S.1 ∧ ∀ i, i ≠ 2 → S'.2 i = S.2 i := by
  intro n
  induction n with
  | zero => intro k S h1 h2; omega
  | succ n ih =>
    intro k S h1 h2
    rw [fX13_comesBack_29]
    by_cases h : k = 240
    · subst h
      refine ⟨S, ?_, fun j a b => by omega, fun j _ => rfl, rfl, fun _ _ => rfl⟩
      simp (disch := omega) only [zq_l9, pk_mul, nI_add, zq_t9, zq_c9, zq_bz9, zq_bo9, zq_g, zq_cl, zq_leT, zq_leF, zq_ltT, zq_ltF, zq_eqT, zq_eqF, zq_em, zq_me, zq_pm, zq_mm, zq_gm, pk_sub, zI_s, zI_k, zI_c, zI_2, zL_s, zL_k, zL_c, zL_1, if_true, if_false, eq_self, Nat.zero_add, Nat.add_zero]
    · obtain ⟨S', f1, f2, f3, f4, f5⟩ := ih (k + 1) (sh_L S 2 (k) (S.2 6 (k))) (by omega) (by omega)
      refine ⟨S', ?_, fun j a b => ?_, fun j a => ?_, f4, fun i hi => ?_⟩
      · simp (disch := omega) only [zq_l9, pk_mul, nI_add, zq_t9, zq_c9, zq_bz9, zq_bo9, zq_g, zq_cl, zq_leT, zq_leF, zq_ltT, zq_ltF, zq_eqT, zq_eqF, zq_em, zq_me, zq_pm, zq_mm, zq_gm, pk_sub, zI_s, zI_k, zI_c, zI_2, zL_s, zL_k, zL_c, zL_1, if_true, if_false, eq_self, Nat.zero_add, Nat.add_zero]
        exact f1
      · by_cases e : j = k
        · subst e
          rw [f3 (j) (fun i a b => by omega), zL_s]
        · rw [f2 j (by omega) b, zL_c S 2 _ _ (by omega)]
      · rw [f3 j (fun i x y => a i (by omega) y), zL_k S 2 _ _ (a k (by omega) (by omega))]
      · rw [f5 i hi, zL_c S 2 _ _ hi]
theorem zc_rm1 {u : Nat} (hu8 : u < 8) : ∀ (n k : Nat) (S : sh_St), k ≤ 1084 → 1084 - k < n → S.1 0 5 = nI u → ∃ S', fX13_remembers_83 n S (nI k) = fX13_remembers_119 sh_FU S' (nI 0) ∧ (∀ j, k ≤ j → j < 1084 → S'.1 3 (1084 * u + j) = S.1 5 (j)) ∧ (∀ j, (∀ i, k ≤ i → i < 1084 → j ≠ 1084 * u + i) → S'.1 3 j = S.1 3 j) ∧ S'.2 = S.2 ∧ ∀ i, i ≠ 3 → S'.1 i = S.1 i := by
  intro n
  induction n with
  | zero => intro k S h1 h2; omega
  | succ n ih =>
    intro k S h1 h2 hu
    rw [fX13_remembers_83]
    by_cases h : k = 1084
    · subst h
      refine ⟨S, ?_, fun j a b => by omega, fun j _ => rfl, rfl, fun _ _ => rfl⟩
      simp (disch := omega) only [zq_l9, pk_mul, nI_add, zq_t9, zq_c9, zq_bz9, zq_bo9, zq_g, zq_cl, zq_leT, zq_leF, zq_ltT, zq_ltF, zq_eqT, zq_eqF, zq_em, zq_me, zq_pm, zq_mm, zq_gm, pk_sub, zI_s, zI_k, zI_c, zI_2, zL_s, zL_k, zL_c, zL_1, if_true, if_false, eq_self, Nat.zero_add, Nat.add_zero, hu]
    · obtain ⟨S', f1, f2, f3, f4, f5⟩ := ih (k + 1) (sh_I S 3 (1084 * u + k) (S.1 5 (k))) (by omega) (by omega) (by rw [zI_c S 3 _ _ (by omega)]; exact hu)
      refine ⟨S', ?_, fun j a b => ?_, fun j a => ?_, f4, fun i hi => ?_⟩
      · simp (disch := omega) only [zq_l9, pk_mul, nI_add, zq_t9, zq_c9, zq_bz9, zq_bo9, zq_g, zq_cl, zq_leT, zq_leF, zq_ltT, zq_ltF, zq_eqT, zq_eqF, zq_em, zq_me, zq_pm, zq_mm, zq_gm, pk_sub, zI_s, zI_k, zI_c, zI_2, zL_s, zL_k, zL_c, zL_1, if_true, if_false, eq_self, Nat.zero_add, Nat.add_zero, hu]
        exact f1
      · by_cases e : j = k
        · subst e
          rw [f3 (1084 * u + j) (fun i a b => by omega), zI_s]
        · rw [f2 j (by omega) b, zI_c S 3 _ _ (by omega)]
      · rw [f3 j (fun i x y => a i (by omega) y), zI_k S 3 _ _ (a k (by omega) (by omega))]
      · rw [f5 i hi, zI_c S 3 _ _ hi]
theorem zc_rm2 {u : Nat} (hu8 : u < 8) : ∀ (n k : Nat) (S : sh_St), k ≤ 240 → 240 - k < n → S.1 0 5 = nI u → ∃ S', fX13_remembers_119 n S (nI k) = some ((), sh_I S' 0 5 (nI (u + 1))) ∧ (∀ j, k ≤ j → j < 240 → S'.2 4 (240 * u + j) = S.2 6 (j)) ∧ (∀ j, (∀ i, k ≤ i → i < 240 → j ≠ 240 * u + i) → S'.2 4 j = S.2 4 j) ∧ S'.1 = S.1 ∧ ∀ i, i ≠ 4 → S'.2 i = S.2 i := by
  intro n
  induction n with
  | zero => intro k S h1 h2; omega
  | succ n ih =>
    intro k S h1 h2 hu
    rw [fX13_remembers_119]
    by_cases h : k = 240
    · subst h
      refine ⟨S, ?_, fun j a b => by omega, fun j _ => rfl, rfl, fun _ _ => rfl⟩
      simp (disch := omega) only [zq_l9, pk_mul, nI_add, zq_t9, zq_c9, zq_bz9, zq_bo9, zq_g, zq_cl, zq_leT, zq_leF, zq_ltT, zq_ltF, zq_eqT, zq_eqF, zq_em, zq_me, zq_pm, zq_mm, zq_gm, pk_sub, zI_s, zI_k, zI_c, zI_2, zL_s, zL_k, zL_c, zL_1, if_true, if_false, eq_self, Nat.zero_add, Nat.add_zero, hu]
    · obtain ⟨S', f1, f2, f3, f4, f5⟩ := ih (k + 1) (sh_L S 4 (240 * u + k) (S.2 6 (k))) (by omega) (by omega) hu
      refine ⟨S', ?_, fun j a b => ?_, fun j a => ?_, f4, fun i hi => ?_⟩
      · simp (disch := omega) only [zq_l9, pk_mul, nI_add, zq_t9, zq_c9, zq_bz9, zq_bo9, zq_g, zq_cl, zq_leT, zq_leF, zq_ltT, zq_ltF, zq_eqT, zq_eqF, zq_em, zq_me, zq_pm, zq_mm, zq_gm, pk_sub, zI_s, zI_k, zI_c, zI_2, zL_s, zL_k, zL_c, zL_1, if_true, if_false, eq_self, Nat.zero_add, Nat.add_zero, hu]
        exact f1
      · by_cases e : j = k
        · subst e
          rw [f3 (240 * u + j) (fun i a b => by omega), zL_s]
        · rw [f2 j (by omega) b, zL_c S 4 _ _ (by omega)]
      · rw [f3 j (fun i x y => a i (by omega) y), zL_k S 4 _ _ (a k (by omega) (by omega))]
      · rw [f5 i hi, zL_c S 4 _ _ hi]
theorem zc_un1 {u : Nat} (hu8 : u < 8) : ∀ (n k : Nat) (S : sh_St), k ≤ 1084 → 1084 - k < n → S.1 0 5 = nI u → ∃ S', fX13_undo_37 n S (nI k) = fX13_undo_73 sh_FU S' (nI 0) ∧ (∀ j, k ≤ j → j < 1084 → S'.1 1 (j) = S.1 3 (1084 * u + j)) ∧ (∀ j, (∀ i, k ≤ i → i < 1084 → j ≠ i) → S'.1 1 j = S.1 1 j) ∧ S'.2 = S.2 ∧ ∀ i, i ≠ 1 → S'.1 i = S.1 i := by
  intro n
  induction n with
  | zero => intro k S h1 h2; omega
  | succ n ih =>
    intro k S h1 h2 hu
    rw [fX13_undo_37]
    by_cases h : k = 1084
    · subst h
      refine ⟨S, ?_, fun j a b => by omega, fun j _ => rfl, rfl, fun _ _ => rfl⟩
      simp (disch := omega) only [zq_l9, pk_mul, nI_add, zq_t9, zq_c9, zq_bz9, zq_bo9, zq_g, zq_cl, zq_leT, zq_leF, zq_ltT, zq_ltF, zq_eqT, zq_eqF, zq_em, zq_me, zq_pm, zq_mm, zq_gm, pk_sub, zI_s, zI_k, zI_c, zI_2, zL_s, zL_k, zL_c, zL_1, if_true, if_false, eq_self, Nat.zero_add, Nat.add_zero, hu]
    · obtain ⟨S', f1, f2, f3, f4, f5⟩ := ih (k + 1) (sh_I S 1 (k) (S.1 3 (1084 * u + k))) (by omega) (by omega) (by rw [zI_c S 1 _ _ (by omega)]; exact hu)
      refine ⟨S', ?_, fun j a b => ?_, fun j a => ?_, f4, fun i hi => ?_⟩
      · simp (disch := omega) only [zq_l9, pk_mul, nI_add, zq_t9, zq_c9, zq_bz9, zq_bo9, zq_g, zq_cl, zq_leT, zq_leF, zq_ltT, zq_ltF, zq_eqT, zq_eqF, zq_em, zq_me, zq_pm, zq_mm, zq_gm, pk_sub, zI_s, zI_k, zI_c, zI_2, zL_s, zL_k, zL_c, zL_1, if_true, if_false, eq_self, Nat.zero_add, Nat.add_zero, hu]
        exact f1
      · by_cases e : j = k
        · subst e
          rw [f3 (j) (fun i a b => by omega), zI_s]
        · rw [f2 j (by omega) b, zI_c S 1 _ _ (by omega)]
      · rw [f3 j (fun i x y => a i (by omega) y), zI_k S 1 _ _ (a k (by omega) (by omega))]
      · rw [f5 i hi, zI_c S 1 _ _ hi]
theorem zc_un2 {u : Nat} (hu8 : u < 8) : ∀ (n k : Nat) (S : sh_St), k ≤ 240 → 240 - k < n → S.1 0 5 = nI u → ∃ S', fX13_undo_73 n S (nI k) = some (nI u, S') ∧ (∀ j, k ≤ j → j < 240 → S'.2 2 (j) = S.2 4 (240 * u + j)) ∧ (∀ j, (∀ i, k ≤ i → i < 240 → j ≠ i) → S'.2 2 j = S.2 2 j) ∧ S'.1 = S.1 ∧ ∀ i, i ≠ 2 → S'.2 i = S.2 i := by
  intro n
  induction n with
  | zero => intro k S h1 h2; omega
  | succ n ih =>
    intro k S h1 h2 hu
    rw [fX13_undo_73]
    by_cases h : k = 240
    · subst h
      refine ⟨S, ?_, fun j a b => by omega, fun j _ => rfl, rfl, fun _ _ => rfl⟩
      simp (disch := omega) only [zq_l9, pk_mul, nI_add, zq_t9, zq_c9, zq_bz9, zq_bo9, zq_g, zq_cl, zq_leT, zq_leF, zq_ltT, zq_ltF, zq_eqT, zq_eqF, zq_em, zq_me, zq_pm, zq_mm, zq_gm, pk_sub, zI_s, zI_k, zI_c, zI_2, zL_s, zL_k, zL_c, zL_1, if_true, if_false, eq_self, Nat.zero_add, Nat.add_zero, hu]
    · obtain ⟨S', f1, f2, f3, f4, f5⟩ := ih (k + 1) (sh_L S 2 (k) (S.2 4 (240 * u + k))) (by omega) (by omega) hu
      refine ⟨S', ?_, fun j a b => ?_, fun j a => ?_, f4, fun i hi => ?_⟩
      · simp (disch := omega) only [zq_l9, pk_mul, nI_add, zq_t9, zq_c9, zq_bz9, zq_bo9, zq_g, zq_cl, zq_leT, zq_leF, zq_ltT, zq_ltF, zq_eqT, zq_eqF, zq_em, zq_me, zq_pm, zq_mm, zq_gm, pk_sub, zI_s, zI_k, zI_c, zI_2, zL_s, zL_k, zL_c, zL_1, if_true, if_false, eq_self, Nat.zero_add, Nat.add_zero, hu]
        exact f1
      · by_cases e : j = k
        · subst e
          rw [f3 (j) (fun i a b => by omega), zL_s]
        · rw [f2 j (by omega) b, zL_c S 2 _ _ (by omega)]
      · rw [f3 j (fun i x y => a i (by omega) y), zL_k S 2 _ _ (a k (by omega) (by omega))]
      · rw [f5 i hi, zL_c S 2 _ _ hi]
theorem zc_im1 : ∀ (n k : Nat) (S : sh_St), k ≤ 1084 → 1084 - k < n → ∃ S', fX13_image_7 n S (nI k) = fX13_image_34 sh_FU S' (nI 0) ∧ (∀ j, k ≤ j → j < 1084 → S'.1 7 (j) = S.1 1 (j)) ∧ (∀ j, (∀ i, k ≤ i → i < 1084 → j ≠ i) → S'.1 7 j = S.1 7 j) ∧ S'.2 = S.2 ∧ ∀ i, i ≠ 7 → S'.1 i = S.1 i := by
  intro n
  induction n with
  | zero => intro k S h1 h2; omega
  | succ n ih =>
    intro k S h1 h2
    rw [fX13_image_7]
    by_cases h : k = 1084
    · subst h
      refine ⟨S, ?_, fun j a b => by omega, fun j _ => rfl, rfl, fun _ _ => rfl⟩
      simp (disch := omega) only [zq_l9, pk_mul, nI_add, zq_t9, zq_c9, zq_bz9, zq_bo9, zq_g, zq_cl, zq_leT, zq_leF, zq_ltT, zq_ltF, zq_eqT, zq_eqF, zq_em, zq_me, zq_pm, zq_mm, zq_gm, pk_sub, zI_s, zI_k, zI_c, zI_2, zL_s, zL_k, zL_c, zL_1, if_true, if_false, eq_self, Nat.zero_add, Nat.add_zero]
    · obtain ⟨S', f1, f2, f3, f4, f5⟩ := ih (k + 1) (sh_I S 7 (k) (S.1 1 (k))) (by omega) (by omega)
      refine ⟨S', ?_, fun j a b => ?_, fun j a => ?_, f4, fun i hi => ?_⟩
      · simp (disch := omega) only [zq_l9, pk_mul, nI_add, zq_t9, zq_c9, zq_bz9, zq_bo9, zq_g, zq_cl, zq_leT, zq_leF, zq_ltT, zq_ltF, zq_eqT, zq_eqF, zq_em, zq_me, zq_pm, zq_mm, zq_gm, pk_sub, zI_s, zI_k, zI_c, zI_2, zL_s, zL_k, zL_c, zL_1, if_true, if_false, eq_self, Nat.zero_add, Nat.add_zero]
        exact f1
      · by_cases e : j = k
        · subst e
          rw [f3 (j) (fun i a b => by omega), zI_s]
        · rw [f2 j (by omega) b, zI_c S 7 _ _ (by omega)]
      · rw [f3 j (fun i x y => a i (by omega) y), zI_k S 7 _ _ (a k (by omega) (by omega))]
      · rw [f5 i hi, zI_c S 7 _ _ hi]
theorem zc_im2 : ∀ (n k : Nat) (S : sh_St), k ≤ 240 → 240 - k < n → ∃ S', fX13_image_34 n S (nI k) = some ((), sh_I S' 0 10 (nI 1)) ∧ (∀ j, k ≤ j → j < 240 → S'.2 8 (j) = S.2 2 (j)) ∧ (∀ j, (∀ i, k ≤ i → i < 240 → j ≠ i) → S'.2 8 j = S.2 8 j) ∧ S'.1 = S.1 ∧ ∀ i, i ≠ 8 → S'.2 i = S.2 i := by
  intro n
  induction n with
  | zero => intro k S h1 h2; omega
  | succ n ih =>
    intro k S h1 h2
    rw [fX13_image_34]
    by_cases h : k = 240
    · subst h
      refine ⟨S, ?_, fun j a b => by omega, fun j _ => rfl, rfl, fun _ _ => rfl⟩
      simp (disch := omega) only [zq_l9, pk_mul, nI_add, zq_t9, zq_c9, zq_bz9, zq_bo9, zq_g, zq_cl, zq_leT, zq_leF, zq_ltT, zq_ltF, zq_eqT, zq_eqF, zq_em, zq_me, zq_pm, zq_mm, zq_gm, pk_sub, zI_s, zI_k, zI_c, zI_2, zL_s, zL_k, zL_c, zL_1, if_true, if_false, eq_self, Nat.zero_add, Nat.add_zero]
    · obtain ⟨S', f1, f2, f3, f4, f5⟩ := ih (k + 1) (sh_L S 8 (k) (S.2 2 (k))) (by omega) (by omega)
      refine ⟨S', ?_, fun j a b => ?_, fun j a => ?_, f4, fun i hi => ?_⟩
      · simp (disch := omega) only [zq_l9, pk_mul, nI_add, zq_t9, zq_c9, zq_bz9, zq_bo9, zq_g, zq_cl, zq_leT, zq_leF, zq_ltT, zq_ltF, zq_eqT, zq_eqF, zq_em, zq_me, zq_pm, zq_mm, zq_gm, pk_sub, zI_s, zI_k, zI_c, zI_2, zL_s, zL_k, zL_c, zL_1, if_true, if_false, eq_self, Nat.zero_add, Nat.add_zero]
        exact f1
      · by_cases e : j = k
        · subst e
          rw [f3 (j) (fun i a b => by omega), zL_s]
        · rw [f2 j (by omega) b, zL_c S 8 _ _ (by omega)]
      · rw [f3 j (fun i x y => a i (by omega) y), zL_k S 8 _ _ (a k (by omega) (by omega))]
      · rw [f5 i hi, zL_c S 8 _ _ hi]
theorem zc_bk1 : ∀ (n k : Nat) (S : sh_St), k ≤ 1084 → 1084 - k < n → ∃ S', fX13_back_16 n S (nI k) = fX13_back_43 sh_FU S' (nI 0) ∧ (∀ j, k ≤ j → j < 1084 → S'.1 1 (j) = S.1 7 (j)) ∧ (∀ j, (∀ i, k ≤ i → i < 1084 → j ≠ i) → S'.1 1 j = S.1 1 j) ∧ S'.2 = S.2 ∧ ∀ i, i ≠ 1 → S'.1 i = S.1 i := by
  intro n
  induction n with
  | zero => intro k S h1 h2; omega
  | succ n ih =>
    intro k S h1 h2
    rw [fX13_back_16]
    by_cases h : k = 1084
    · subst h
      refine ⟨S, ?_, fun j a b => by omega, fun j _ => rfl, rfl, fun _ _ => rfl⟩
      simp (disch := omega) only [zq_l9, pk_mul, nI_add, zq_t9, zq_c9, zq_bz9, zq_bo9, zq_g, zq_cl, zq_leT, zq_leF, zq_ltT, zq_ltF, zq_eqT, zq_eqF, zq_em, zq_me, zq_pm, zq_mm, zq_gm, pk_sub, zI_s, zI_k, zI_c, zI_2, zL_s, zL_k, zL_c, zL_1, if_true, if_false, eq_self, Nat.zero_add, Nat.add_zero]
    · obtain ⟨S', f1, f2, f3, f4, f5⟩ := ih (k + 1) (sh_I S 1 (k) (S.1 7 (k))) (by omega) (by omega)
      refine ⟨S', ?_, fun j a b => ?_, fun j a => ?_, f4, fun i hi => ?_⟩
      · simp (disch := omega) only [zq_l9, pk_mul, nI_add, zq_t9, zq_c9, zq_bz9, zq_bo9, zq_g, zq_cl, zq_leT, zq_leF, zq_ltT, zq_ltF, zq_eqT, zq_eqF, zq_em, zq_me, zq_pm, zq_mm, zq_gm, pk_sub, zI_s, zI_k, zI_c, zI_2, zL_s, zL_k, zL_c, zL_1, if_true, if_false, eq_self, Nat.zero_add, Nat.add_zero]
        exact f1
      · by_cases e : j = k
        · subst e
          rw [f3 (j) (fun i a b => by omega), zI_s]
        · rw [f2 j (by omega) b, zI_c S 1 _ _ (by omega)]
      · rw [f3 j (fun i x y => a i (by omega) y), zI_k S 1 _ _ (a k (by omega) (by omega))]
      · rw [f5 i hi, zI_c S 1 _ _ hi]
theorem zc_bk2 : ∀ (n k : Nat) (S : sh_St), k ≤ 240 → 240 - k < n → ∃ S', fX13_back_43 n S (nI k) = fX13_back_70 sh_FU S' (nI 0) ∧ (∀ j, k ≤ j → j < 240 → S'.2 2 (j) = S.2 8 (j)) ∧ (∀ j, (∀ i, k ≤ i → i < 240 → j ≠ i) → S'.2 2 j = S.2 2 j) ∧ S'.1 = S.1 ∧ ∀ i, i ≠ 2 → S'.2 i = S.2 i := by
  intro n
  induction n with
  | zero => intro k S h1 h2; omega
  | succ n ih =>
    intro k S h1 h2
    rw [fX13_back_43]
    by_cases h : k = 240
    · subst h
      refine ⟨S, ?_, fun j a b => by omega, fun j _ => rfl, rfl, fun _ _ => rfl⟩
      simp (disch := omega) only [zq_l9, pk_mul, nI_add, zq_t9, zq_c9, zq_bz9, zq_bo9, zq_g, zq_cl, zq_leT, zq_leF, zq_ltT, zq_ltF, zq_eqT, zq_eqF, zq_em, zq_me, zq_pm, zq_mm, zq_gm, pk_sub, zI_s, zI_k, zI_c, zI_2, zL_s, zL_k, zL_c, zL_1, if_true, if_false, eq_self, Nat.zero_add, Nat.add_zero]
    · obtain ⟨S', f1, f2, f3, f4, f5⟩ := ih (k + 1) (sh_L S 2 (k) (S.2 8 (k))) (by omega) (by omega)
      refine ⟨S', ?_, fun j a b => ?_, fun j a => ?_, f4, fun i hi => ?_⟩
      · simp (disch := omega) only [zq_l9, pk_mul, nI_add, zq_t9, zq_c9, zq_bz9, zq_bo9, zq_g, zq_cl, zq_leT, zq_leF, zq_ltT, zq_ltF, zq_eqT, zq_eqF, zq_em, zq_me, zq_pm, zq_mm, zq_gm, pk_sub, zI_s, zI_k, zI_c, zI_2, zL_s, zL_k, zL_c, zL_1, if_true, if_false, eq_self, Nat.zero_add, Nat.add_zero]
        exact f1
      · by_cases e : j = k
        · subst e
          rw [f3 (j) (fun i a b => by omega), zL_s]
        · rw [f2 j (by omega) b, zL_c S 2 _ _ (by omega)]
      · rw [f3 j (fun i x y => a i (by omega) y), zL_k S 2 _ _ (a k (by omega) (by omega))]
      · rw [f5 i hi, zL_c S 2 _ _ hi]
theorem zc_FU (a : Nat) (h : a < 100000) : a < sh_FU := by have : sh_FU = 100000 := rfl; omega
theorem zm_aside (S : sh_St) : ∃ S', fX13_putsAside S = some ((), S') ∧ (∀ k, k < 1084 → S'.1 5 k = S.1 1 k) ∧ (∀ k, k < 240 → S'.2 6 k = S.2 2 k) ∧ (∀ i, i ≠ 5 → S'.1 i = S.1 i) ∧ ∀ i, i ≠ 6 → S'.2 i = S.2 i := by
  obtain ⟨S1, f1, f2, _, f4, f5⟩ := zc_pa1 sh_FU 0 S (by omega) (zc_FU _ (by omega))
  obtain ⟨S2, g1, g2, _, g4, g5⟩ := zc_pa2 sh_FU 0 S1 (by omega) (zc_FU _ (by omega))
  refine ⟨S2, ?_, fun k hk => ?_, fun k hk => ?_, fun i hi => ?_, fun i hi => ?_⟩
  · rw [fX13_putsAside]; exact f1.trans g1
  · rw [g4]; exact f2 k (by omega) hk
  · rw [g2 k (by omega) hk, f4]
  · rw [g4, f5 i hi]
  · rw [g5 i hi, f4]
theorem zm_comesBack (S : sh_St) : ∃ S', fX13_comesBack S = some ((), S') ∧ (∀ k, k < 1084 → S'.1 1 k = S.1 5 k) ∧ (∀ k, k < 240 → S'.2 2 k = S.2 6 k) ∧ (∀ i, i ≠ 1 → S'.1 i = S.1 i) ∧ ∀ i, i ≠ 2 → S'.2 i = S.2 i := by
  obtain ⟨S1, f1, f2, _, f4, f5⟩ := zc_cb1 sh_FU 0 S (by omega) (zc_FU _ (by omega))
  obtain ⟨S2, g1, g2, _, g4, g5⟩ := zc_cb2 sh_FU 0 S1 (by omega) (zc_FU _ (by omega))
  refine ⟨S2, ?_, fun k hk => ?_, fun k hk => ?_, fun i hi => ?_, fun i hi => ?_⟩
  · rw [fX13_comesBack]; exact f1.trans g1
  · rw [g4]; exact f2 k (by omega) hk
  · rw [g2 k (by omega) hk, f4]
  · rw [g4, f5 i hi]
  · rw [g5 i hi, f4]
theorem zm_image (S : sh_St) : ∃ S', fX13_image S = some ((), S') ∧ (∀ k, k < 1084 → S'.1 7 k = S.1 1 k) ∧ (∀ k, k < 240 → S'.2 8 k = S.2 2 k) ∧ S'.1 0 10 = nI 1 ∧ S'.1 0 0 = nI 0 ∧ (∀ k, k ≠ 0 → k ≠ 10 → S'.1 0 k = S.1 0 k) ∧ (∀ i, i ≠ 0 → i ≠ 7 → S'.1 i = S.1 i) ∧ ∀ i, i ≠ 8 → S'.2 i = S.2 i := by
  obtain ⟨S1, f1, f2, _, f4, f5⟩ := zc_im1 sh_FU 0 (sh_I S 0 0 (nI 0)) (by omega) (zc_FU _ (by omega))
  obtain ⟨S2, g1, g2, _, g4, g5⟩ := zc_im2 sh_FU 0 S1 (by omega) (zc_FU _ (by omega))
  refine ⟨sh_I S2 0 10 (nI 1), ?_, fun k hk => ?_, fun k hk => ?_, zI_s _ _ _ _, ?_, fun k h0 h10 => ?_, fun i h0 h7 => ?_, fun i hi => ?_⟩
  · rw [fX13_image]
    simp (disch := omega) only [zq_l9, pk_mul, nI_add, zq_t9, zq_c9, zq_bz9, zq_bo9, zq_g, zq_cl, zq_leT, zq_leF, zq_ltT, zq_ltF, zq_eqT, zq_eqF, zq_em, zq_me, zq_pm, zq_mm, zq_gm, pk_sub, zI_s, zI_k, zI_c, zI_2, zL_s, zL_k, zL_c, zL_1, if_true, if_false, eq_self, Nat.zero_add, Nat.add_zero]
    exact f1.trans g1
  · rw [zI_c S2 0 10 _ (by omega), g4, f2 k (by omega) hk, zI_c S 0 0 _ (by omega)]
  · rw [zI_2, g2 k (by omega) hk, f4, zI_2]
  · rw [zI_k S2 0 10 _ (by omega), g4, f5 0 (by omega), zI_s]
  · rw [zI_k S2 0 10 _ h10, g4, f5 0 (by omega), zI_k S 0 0 _ h0]
  · rw [zI_c S2 0 10 _ h0, g4, f5 i h7, zI_c S 0 0 _ h0]
  · rw [zI_2, g5 i hi, f4, zI_2]
theorem zc_bk3 : ∀ (n r : Nat) (S : sh_St), r ≤ 4 → 4 - r < n → ∃ S', fX13_back_70 n S (nI r) = some (nI 1, S') ∧ (∀ j, r ≤ j → j < 4 → S'.1 9 j = nI 0) ∧ (∀ j, j < r → S'.1 9 j = S.1 9 j) ∧ S'.1 0 5 = nI 0 ∧ (∀ k, k ≠ 5 → S'.1 0 k = S.1 0 k) ∧ S'.2 = S.2 ∧ ∀ i, i ≠ 0 → i ≠ 9 → S'.1 i = S.1 i := by
  intro n
  induction n with
  | zero => intro r S h1 h2; omega
  | succ n ih =>
    intro r S h1 h2
    rw [fX13_back_70]
    by_cases h : r = 4
    · subst h
      refine ⟨sh_I S 0 5 (nI 0), ?_, fun j a b => by omega, fun j _ => by rw [zI_c S 0 5 _ (by omega)], zI_s _ _ _ _, fun k hk => zI_k S 0 5 _ hk, rfl, fun i h0 _ => zI_c S 0 5 _ h0⟩
      simp (disch := omega) only [zq_l9, pk_mul, nI_add, zq_t9, zq_c9, zq_bz9, zq_bo9, zq_g, zq_cl, zq_leT, zq_leF, zq_ltT, zq_ltF, zq_eqT, zq_eqF, zq_em, zq_me, zq_pm, zq_mm, zq_gm, pk_sub, zI_s, zI_k, zI_c, zI_2, zL_s, zL_k, zL_c, zL_1, if_true, if_false, eq_self, Nat.zero_add, Nat.add_zero]
    · obtain ⟨S', f1, f2, f3, f4, f5, f6, f7⟩ := ih (r + 1) (sh_I S 9 r (nI 0)) (by omega) (by omega)
      refine ⟨S', ?_, fun j a b => ?_, fun j a => ?_, f4, fun k hk => ?_, f6, fun i h0 h9 => ?_⟩
      · simp (disch := omega) only [zq_l9, pk_mul, nI_add, zq_t9, zq_c9, zq_bz9, zq_bo9, zq_g, zq_cl, zq_leT, zq_leF, zq_ltT, zq_ltF, zq_eqT, zq_eqF, zq_em, zq_me, zq_pm, zq_mm, zq_gm, pk_sub, zI_s, zI_k, zI_c, zI_2, zL_s, zL_k, zL_c, zL_1, if_true, if_false, eq_self, Nat.zero_add, Nat.add_zero, f1]
      · by_cases e : j = r
        · subst e; rw [f3 j (by omega), zI_s]
        · exact f2 j (by omega) b
      · rw [f3 j (by omega), zI_k S 9 r _ (by omega)]
      · rw [f5 k hk, zI_c S 9 r _ (by omega)]
      · rw [f7 i h0 h9, zI_c S 9 r _ h9]
theorem zm_back (S : sh_St) (h10 : S.1 0 10 = nI 1) : ∃ S', fX13_back S = some (nI 1, S') ∧ (∀ k, k < 1084 → S'.1 1 k = S.1 7 k) ∧ (∀ k, k < 240 → S'.2 2 k = S.2 8 k) ∧ (∀ j, j < 4 → S'.1 9 j = nI 0) ∧ S'.1 0 5 = nI 0 ∧ S'.1 0 0 = nI 0 ∧ (∀ k, k ≠ 0 → k ≠ 5 → S'.1 0 k = S.1 0 k) ∧ (∀ i, i ≠ 0 → i ≠ 1 → i ≠ 9 → S'.1 i = S.1 i) ∧ ∀ i, i ≠ 2 → S'.2 i = S.2 i := by
  obtain ⟨S1, f1, f2, _, f4, f5⟩ := zc_bk1 sh_FU 0 (sh_I S 0 0 (nI 0)) (by omega) (zc_FU _ (by omega))
  obtain ⟨S2, g1, g2, _, g4, g5⟩ := zc_bk2 sh_FU 0 S1 (by omega) (zc_FU _ (by omega))
  obtain ⟨S3, k1, k2, k3, k4, k5, k6, k7⟩ := zc_bk3 sh_FU 0 S2 (by omega) (zc_FU _ (by omega))
  refine ⟨S3, ?_, fun k hk => ?_, fun k hk => ?_, fun j hj => k2 j (by omega) hj, k4, ?_, fun k h0 h5 => ?_, fun i h0 h1 h9 => ?_, fun i hi => ?_⟩
  · rw [fX13_back]
    simp (disch := omega) only [zq_l9, pk_mul, nI_add, zq_t9, zq_c9, zq_bz9, zq_bo9, zq_g, zq_cl, zq_leT, zq_leF, zq_ltT, zq_ltF, zq_eqT, zq_eqF, zq_em, zq_me, zq_pm, zq_mm, zq_gm, pk_sub, zI_s, zI_k, zI_c, zI_2, zL_s, zL_k, zL_c, zL_1, if_true, if_false, eq_self, Nat.zero_add, Nat.add_zero, h10]
    exact (f1.trans g1).trans k1
  · rw [k7 1 (by omega) (by omega), g4, f2 k (by omega) hk, zI_c S 0 0 _ (by omega)]
  · rw [k6, g2 k (by omega) hk, f4, zI_2]
  · rw [k5 0 (by omega), g4, f5 0 (by omega), zI_s]
  · rw [k5 k h5, g4, f5 0 (by omega), zI_k S 0 0 _ h0]
  · rw [k7 i h0 h9, g4, f5 i h1, zI_c S 0 0 _ h0]
  · rw [k6, g5 i hi, f4, zI_2]
theorem zm_undo {S : sh_St} {u : Nat} (hu8 : u < 8) (h5 : S.1 0 5 = nI (u + 1)) : ∃ S', fX13_undo S = some (nI u, S') ∧ (∀ k, k < 1084 → S'.1 1 k = S.1 3 (1084 * u + k)) ∧ (∀ k, k < 240 → S'.2 2 k = S.2 4 (240 * u + k)) ∧ S'.1 0 5 = nI u ∧ S'.1 0 0 = nI 0 ∧ (∀ k, k ≠ 0 → k ≠ 5 → S'.1 0 k = S.1 0 k) ∧ (∀ i, i ≠ 0 → i ≠ 1 → S'.1 i = S.1 i) ∧ ∀ i, i ≠ 2 → S'.2 i = S.2 i := by
  have hu : (sh_I (sh_I S 0 0 (nI 0)) 0 5 (nI u)).1 0 5 = nI u := zI_s _ _ _ _
  obtain ⟨S1, f1, f2, _, f4, f5⟩ := zc_un1 hu8 sh_FU 0 (sh_I (sh_I S 0 0 (nI 0)) 0 5 (nI u)) (by omega) (zc_FU _ (by omega)) hu
  have hu1 : S1.1 0 5 = nI u := by rw [f5 0 (by omega)]; exact hu
  obtain ⟨S2, g1, g2, _, g4, g5⟩ := zc_un2 hu8 sh_FU 0 S1 (by omega) (zc_FU _ (by omega)) hu1
  refine ⟨S2, ?_, fun k hk => ?_, fun k hk => ?_, by rw [g4]; exact hu1, ?_, fun k h0 h5 => ?_, fun i h0 h1 => ?_, fun i hi => ?_⟩
  · rw [fX13_undo]
    simp (disch := omega) only [zq_l9, pk_mul, nI_add, zq_t9, zq_c9, zq_bz9, zq_bo9, zq_g, zq_cl, zq_leT, zq_leF, zq_ltT, zq_ltF, zq_eqT, zq_eqF, zq_em, zq_me, zq_pm, zq_mm, zq_gm, pk_sub, zI_s, zI_k, zI_c, zI_2, zL_s, zL_k, zL_c, zL_1, if_true, if_false, eq_self, Nat.zero_add, Nat.add_zero, h5, fX13_undo_13, Nat.add_sub_cancel]
    exact f1.trans g1
  · rw [g4, f2 k (by omega) hk, zI_c _ 0 5 _ (by omega), zI_c S 0 0 _ (by omega)]
  · rw [g2 k (by omega) hk, f4, zI_2, zI_2]
  · rw [g4, f5 0 (by omega), zI_k _ 0 5 _ (by omega), zI_s]
  · rw [g4, f5 0 (by omega), zI_k _ 0 5 _ h5, zI_k S 0 0 _ h0]
  · rw [g4, f5 i h1, zI_c _ 0 5 _ h0, zI_c S 0 0 _ h0]
  · rw [g5 i hi, f4, zI_2, zI_2]
/-! what is remembered -/
theorem zc_sh1 (f : Nat → Int32) : ∀ (n k : Nat) (S : sh_St), k ≤ 7588 → 7588 - k < n → (∀ j, j < k → S.1 3 j = f (j + 1084)) → (∀ j, k ≤ j → S.1 3 j = f j) → ∃ S', fX13_remembers_11 n S (nI k) = fX13_remembers_42 sh_FU S' (nI 0) ∧ (∀ j, j < 7588 → S'.1 3 j = f (j + 1084)) ∧ S'.2 = S.2 ∧ ∀ i, i ≠ 3 → S'.1 i = S.1 i := by
  intro n
  induction n with
  | zero => intro k S h1 h2; omega
  | succ n ih =>
    intro k S h1 h2 h3 h4
    rw [fX13_remembers_11]
    by_cases h : k = 7588
    · subst h
      refine ⟨S, ?_, fun j hj => h3 j hj, rfl, fun _ _ => rfl⟩
      simp (disch := omega) only [zq_l9, pk_mul, nI_add, zq_t9, zq_c9, zq_bz9, zq_bo9, zq_g, zq_cl, zq_leT, zq_leF, zq_ltT, zq_ltF, zq_eqT, zq_eqF, zq_em, zq_me, zq_pm, zq_mm, zq_gm, pk_sub, zI_s, zI_k, zI_c, zI_2, zL_s, zL_k, zL_c, zL_1, if_true, if_false, eq_self, Nat.zero_add, Nat.add_zero]
    · obtain ⟨S', f1, f2, f3, f4⟩ := ih (k + 1) (sh_I S 3 k (S.1 3 (k + 1084))) (by omega) (by omega) (fun j hj => by
        by_cases e : j = k
        · subst e; rw [zI_s]; exact h4 _ (by omega)
        · rw [zI_k S 3 k _ e]; exact h3 j (by omega)) (fun j hj => by rw [zI_k S 3 k _ (by omega)]; exact h4 j (by omega))
      refine ⟨S', ?_, f2, f3, fun i hi => ?_⟩
      · simp (disch := omega) only [zq_l9, pk_mul, nI_add, zq_t9, zq_c9, zq_bz9, zq_bo9, zq_g, zq_cl, zq_leT, zq_leF, zq_ltT, zq_ltF, zq_eqT, zq_eqF, zq_em, zq_me, zq_pm, zq_mm, zq_gm, pk_sub, zI_s, zI_k, zI_c, zI_2, zL_s, zL_k, zL_c, zL_1, if_true, if_false, eq_self, Nat.zero_add, Nat.add_zero]
        exact f1
      · rw [f4 i hi, zI_c S 3 k _ hi]
theorem zc_sh2 (f : Nat → Int64) {u : Nat} (hu1 : 1 ≤ u) : ∀ (n k : Nat) (S : sh_St), k ≤ 1680 → 1680 - k < n → S.1 0 5 = nI u → (∀ j, j < k → S.2 4 j = f (j + 240)) → (∀ j, k ≤ j → S.2 4 j = f j) → ∃ S', fX13_remembers_42 n S (nI k) = fX13_remembers_81 (sh_I S' 0 5 (nI (u - 1))) ∧ (∀ j, j < 1680 → S'.2 4 j = f (j + 240)) ∧ S'.1 = S.1 ∧ ∀ i, i ≠ 4 → S'.2 i = S.2 i := by
  intro n
  induction n with
  | zero => intro k S h1 h2; omega
  | succ n ih =>
    intro k S h1 h2 hu h3 h4
    rw [fX13_remembers_42]
    by_cases h : k = 1680
    · subst h
      refine ⟨S, ?_, fun j hj => h3 j hj, rfl, fun _ _ => rfl⟩
      simp (disch := omega) only [zq_l9, pk_mul, nI_add, zq_t9, zq_c9, zq_bz9, zq_bo9, zq_g, zq_cl, zq_leT, zq_leF, zq_ltT, zq_ltF, zq_eqT, zq_eqF, zq_em, zq_me, zq_pm, zq_mm, zq_gm, pk_sub, zI_s, zI_k, zI_c, zI_2, zL_s, zL_k, zL_c, zL_1, if_true, if_false, eq_self, Nat.zero_add, Nat.add_zero, hu]
    · obtain ⟨S', f1, f2, f3, f4⟩ := ih (k + 1) (sh_L S 4 k (S.2 4 (k + 240))) (by omega) (by omega) hu (fun j hj => by
        by_cases e : j = k
        · subst e; rw [zL_s]; exact h4 _ (by omega)
        · rw [zL_k S 4 k _ e]; exact h3 j (by omega)) (fun j hj => by rw [zL_k S 4 k _ (by omega)]; exact h4 j (by omega))
      refine ⟨S', ?_, f2, f3, fun i hi => ?_⟩
      · simp (disch := omega) only [zq_l9, pk_mul, nI_add, zq_t9, zq_c9, zq_bz9, zq_bo9, zq_g, zq_cl, zq_leT, zq_leF, zq_ltT, zq_ltF, zq_eqT, zq_eqF, zq_em, zq_me, zq_pm, zq_mm, zq_gm, pk_sub, zI_s, zI_k, zI_c, zI_2, zL_s, zL_k, zL_c, zL_1, if_true, if_false, eq_self, Nat.zero_add, Nat.add_zero]
        exact f1
      · rw [f4 i hi, zL_c S 4 k _ hi]
/-- behind it: u rows of old ones, then what was put aside; the eldest has gone where there were eight -/
theorem zm_remembers {S : sh_St} {u : Nat} (hu8 : u ≤ 8) (h5 : S.1 0 5 = nI u) : ∃ S', fX13_remembers S = some ((), S') ∧ S'.1 0 5 = nI (if u = 8 then 8 else u + 1) ∧
    (∀ j k, k < 1084 → j < (if u = 8 then 7 else u) → S'.1 3 (1084 * j + k) = S.1 3 (1084 * (if u = 8 then j + 1 else j) + k)) ∧ (∀ j k, k < 240 → j < (if u = 8 then 7 else u) → S'.2 4 (240 * j + k) = S.2 4 (240 * (if u = 8 then j + 1 else j) + k)) ∧
    (∀ k, k < 1084 → S'.1 3 (1084 * (if u = 8 then 7 else u) + k) = S.1 5 k) ∧ (∀ k, k < 240 → S'.2 4 (240 * (if u = 8 then 7 else u) + k) = S.2 6 k) ∧
    (∀ k, k ≠ 5 → S'.1 0 k = S.1 0 k) ∧ (∀ i, i ≠ 0 → i ≠ 3 → S'.1 i = S.1 i) ∧ ∀ i, i ≠ 4 → S'.2 i = S.2 i := by
  rw [fX13_remembers]
  by_cases c : u = 8
  · subst c
    obtain ⟨S1, f1, f2, f3, f4⟩ := zc_sh1 (S.1 3) sh_FU 0 S (by omega) (zc_FU _ (by omega)) (fun j hj => by omega) (fun j _ => rfl)
    have hu1 : S1.1 0 5 = nI 8 := by rw [f4 0 (by omega)]; exact h5
    obtain ⟨S2, g1, g2, g3, g4⟩ := zc_sh2 (S1.2 4) (u := 8) (by omega) sh_FU 0 S1 (by omega) (zc_FU _ (by omega)) hu1 (fun j hj => by omega) (fun j _ => rfl)
    have hu2 : (sh_I S2 0 5 (nI 7)).1 0 5 = nI 7 := zI_s _ _ _ _
    obtain ⟨S3, k1, k2, k3, k4, k5⟩ := zc_rm1 (u := 7) (by omega) sh_FU 0 (sh_I S2 0 5 (nI 7)) (by omega) (zc_FU _ (by omega)) hu2
    have hu3 : S3.1 0 5 = nI 7 := by rw [k5 0 (by omega)]; exact hu2
    obtain ⟨S4, m1, m2, m3, m4, m5⟩ := zc_rm2 (u := 7) (by omega) sh_FU 0 S3 (by omega) (zc_FU _ (by omega)) hu3
    have hs2 : S2.1 3 = S1.1 3 := by rw [g3]
    refine ⟨sh_I S4 0 5 (nI 8), ?_, by rw [if_pos rfl]; exact zI_s _ _ _ _, fun j k hk hj => ?_, fun j k hk hj => ?_, fun k hk => ?_, fun k hk => ?_, fun k hk => ?_, fun i h0 h3 => ?_, fun i hi => ?_⟩
    · simp (disch := omega) only [zq_l9, pk_mul, nI_add, zq_t9, zq_c9, zq_bz9, zq_bo9, zq_g, zq_cl, zq_leT, zq_leF, zq_ltT, zq_ltF, zq_eqT, zq_eqF, zq_em, zq_me, zq_pm, zq_mm, zq_gm, pk_sub, zI_s, zI_k, zI_c, zI_2, zL_s, zL_k, zL_c, zL_1, if_true, if_false, eq_self, Nat.zero_add, Nat.add_zero, h5]
      exact f1.trans (g1.trans (by rw [fX13_remembers_81]; exact k1.trans m1))
    · rw [if_pos rfl] at hj ⊢
      rw [zI_c S4 0 5 _ (by omega), m4, k3 (1084 * j + k) (fun i _ _ => by omega), zI_c S2 0 5 _ (by omega), g3, f2 (1084 * j + k) (by omega), show 1084 * j + k + 1084 = 1084 * (j + 1) + k by omega]
    · rw [if_pos rfl] at hj ⊢
      rw [zI_2, m3 (240 * j + k) (fun i _ _ => by omega), k4, zI_2, g2 (240 * j + k) (by omega), f3, show 240 * j + k + 240 = 240 * (j + 1) + k by omega]
    · rw [if_pos rfl, zI_c S4 0 5 _ (by omega), m4, k2 k (by omega) hk, zI_c S2 0 5 _ (by omega), g3, f4 5 (by omega)]
    · rw [if_pos rfl, zI_2, m2 k (by omega) hk, k4, zI_2, g4 6 (by omega), f3]
    · rw [zI_k S4 0 5 _ hk, m4, k5 0 (by omega), zI_k S2 0 5 _ hk, g3, f4 0 (by omega)]
    · rw [zI_c S4 0 5 _ h0, m4, k5 i h3, zI_c S2 0 5 _ h0, g3, f4 i h3]
    · rw [zI_2, m5 i hi, k4, zI_2, g4 i hi, f3]
  · obtain ⟨S3, k1, k2, k3, k4, k5⟩ := zc_rm1 (u := u) (by omega) sh_FU 0 S (by omega) (zc_FU _ (by omega)) h5
    have hu3 : S3.1 0 5 = nI u := by rw [k5 0 (by omega)]; exact h5
    obtain ⟨S4, m1, m2, m3, m4, m5⟩ := zc_rm2 (u := u) (by omega) sh_FU 0 S3 (by omega) (zc_FU _ (by omega)) hu3
    refine ⟨sh_I S4 0 5 (nI (u + 1)), ?_, by rw [if_neg c]; exact zI_s _ _ _ _, fun j k hk hj => ?_, fun j k hk hj => ?_, fun k hk => ?_, fun k hk => ?_, fun k hk => ?_, fun i h0 h3 => ?_, fun i hi => ?_⟩
    · simp (disch := omega) only [zq_l9, pk_mul, nI_add, zq_t9, zq_c9, zq_bz9, zq_bo9, zq_g, zq_cl, zq_leT, zq_leF, zq_ltT, zq_ltF, zq_eqT, zq_eqF, zq_em, zq_me, zq_pm, zq_mm, zq_gm, pk_sub, zI_s, zI_k, zI_c, zI_2, zL_s, zL_k, zL_c, zL_1, if_true, if_false, eq_self, Nat.zero_add, Nat.add_zero, h5]
      rw [fX13_remembers_81]
      exact k1.trans m1
    · rw [if_neg c] at hj ⊢
      rw [zI_c S4 0 5 _ (by omega), m4, k3 (1084 * j + k) (fun i _ _ => by omega)]
    · rw [if_neg c] at hj ⊢
      rw [zI_2, m3 (240 * j + k) (fun i _ _ => by omega), k4]
    · rw [if_neg c, zI_c S4 0 5 _ (by omega), m4, k2 k (by omega) hk]
    · rw [if_neg c, zI_2, m2 k (by omega) hk, k4]
    · rw [zI_k S4 0 5 _ hk, m4, k5 0 (by omega)]
    · rw [zI_c S4 0 5 _ h0, m4, k5 i h3]
    · rw [zI_2, m5 i hi, k4]
