/-! widest index, least free hash, shape -/
theorem zwid {S M : sh_St} {T : zT} (hv : zVX S 4 T) (hm : zVN M T) (hI : zInv T) : ∀ (n m k : Nat) (x : Int32) (u : Nat), k ≤ 40 → 40 - k < n → 40 - k < m → ((x = -nI 1 ∧ u = 0) ∨ ∃ w, w < 40 ∧ x = nI w ∧ u = T.1 1 w ∧ T.1 0 w = 2) → ∃ r, fX8_widestIndex_6 n S x (nI u) (nI k) = some (r, S) ∧ fX13_fullest_4 m M x (nI k) = some (r, M) := by
  intro n
  induction n with
  | zero => intro m k x u h1 h2; omega
  | succ n ih =>
    intro m k x u h1 h2 h3 hx
    cases m with
    | zero => omega
    | succ m =>
      rw [fX8_widestIndex_6, fX13_fullest_4]
      by_cases d : k = 40
      · subst d
        refine ⟨x, ?_, ?_⟩
        · simp (disch := omega) only [zq_l9, pk_mul, nI_add, zq_t9, zq_c9, zq_bz9, zq_bo9, zq_g, zq_cl, zq_leT, zq_leF, zq_ltT, zq_ltF, zq_eqT, zq_eqF, zq_em, zq_me, zq_pm, zq_mm, zq_gm, pk_sub, zI_s, zI_k, zI_c, zI_2, zL_s, zL_k, zL_c, zL_1, if_true, if_false, eq_self, Nat.zero_add, Nat.add_zero]
        · simp (disch := omega) only [zq_l9, pk_mul, nI_add, zq_t9, zq_c9, zq_bz9, zq_bo9, zq_g, zq_cl, zq_leT, zq_leF, zq_ltT, zq_ltF, zq_eqT, zq_eqF, zq_em, zq_me, zq_pm, zq_mm, zq_gm, pk_sub, zI_s, zI_k, zI_c, zI_2, zL_s, zL_k, zL_c, zL_1, if_true, if_false, eq_self, Nat.zero_add, Nat.add_zero]
      · have hk : k < 40 := by omega
        have xc := zX_c hv hk
        have mk := zM_k hm hk
        have mc := zM_c hm hk
        obtain ⟨i1, i2, i3, i4, i5⟩ := hI.2.1 k hk
        by_cases c : T.1 0 k = 2
        · have i6 := i5 c
          obtain ⟨r, f1, f2⟩ := ih m (k + 1) (nI k) (T.1 1 k) (by omega) (by omega) (by omega) (Or.inr ⟨k, hk, rfl, rfl, c⟩)
          rw [c] at mk
          rcases hx with ⟨rfl, rfl⟩ | ⟨w, w1, rfl, rfl, w4⟩
          · refine ⟨r, ?_, ?_⟩
            · simp (disch := omega) only [zq_l9, pk_mul, nI_add, zq_t9, zq_c9, zq_bz9, zq_bo9, zq_g, zq_cl, zq_leT, zq_leF, zq_ltT, zq_ltF, zq_eqT, zq_eqF, zq_em, zq_me, zq_pm, zq_mm, zq_gm, pk_sub, zI_s, zI_k, zI_c, zI_2, zL_s, zL_k, zL_c, zL_1, if_true, if_false, eq_self, Nat.zero_add, Nat.add_zero, xc, fX8_widestIndex_37]
              exact f1
            · simp (disch := omega) only [zq_l9, pk_mul, nI_add, zq_t9, zq_c9, zq_bz9, zq_bo9, zq_g, zq_cl, zq_leT, zq_leF, zq_ltT, zq_ltF, zq_eqT, zq_eqF, zq_em, zq_me, zq_pm, zq_mm, zq_gm, pk_sub, zI_s, zI_k, zI_c, zI_2, zL_s, zL_k, zL_c, zL_1, if_true, if_false, eq_self, Nat.zero_add, Nat.add_zero, mk, fX13_fullest_51, fX13_fullest_53]
              exact f2
          · have mw := zM_c hm w1
            have j2 := (hI.2.1 w w1).2.1
            by_cases e : T.1 1 k ≤ T.1 1 w
            · obtain ⟨r, f1, f2⟩ := ih m (k + 1) (nI w) (T.1 1 w) (by omega) (by omega) (by omega) (Or.inr ⟨w, w1, rfl, rfl, w4⟩)
              refine ⟨r, ?_, ?_⟩
              · simp (disch := omega) only [zq_l9, pk_mul, nI_add, zq_t9, zq_c9, zq_bz9, zq_bo9, zq_g, zq_cl, zq_leT, zq_leF, zq_ltT, zq_ltF, zq_eqT, zq_eqF, zq_em, zq_me, zq_pm, zq_mm, zq_gm, pk_sub, zI_s, zI_k, zI_c, zI_2, zL_s, zL_k, zL_c, zL_1, if_true, if_false, eq_self, Nat.zero_add, Nat.add_zero, xc, fX8_widestIndex_37]
                exact f1
              · simp (disch := omega) only [zq_l9, pk_mul, nI_add, zq_t9, zq_c9, zq_bz9, zq_bo9, zq_g, zq_cl, zq_leT, zq_leF, zq_ltT, zq_ltF, zq_eqT, zq_eqF, zq_em, zq_me, zq_pm, zq_mm, zq_gm, pk_sub, zI_s, zI_k, zI_c, zI_2, zL_s, zL_k, zL_c, zL_1, if_true, if_false, eq_self, Nat.zero_add, Nat.add_zero, mk, mc, mw, fX13_fullest_51, fX13_fullest_53]
                exact f2
            · refine ⟨r, ?_, ?_⟩
              · simp (disch := omega) only [zq_l9, pk_mul, nI_add, zq_t9, zq_c9, zq_bz9, zq_bo9, zq_g, zq_cl, zq_leT, zq_leF, zq_ltT, zq_ltF, zq_eqT, zq_eqF, zq_em, zq_me, zq_pm, zq_mm, zq_gm, pk_sub, zI_s, zI_k, zI_c, zI_2, zL_s, zL_k, zL_c, zL_1, if_true, if_false, eq_self, Nat.zero_add, Nat.add_zero, xc, fX8_widestIndex_37]
                exact f1
              · simp (disch := omega) only [zq_l9, pk_mul, nI_add, zq_t9, zq_c9, zq_bz9, zq_bo9, zq_g, zq_cl, zq_leT, zq_leF, zq_ltT, zq_ltF, zq_eqT, zq_eqF, zq_em, zq_me, zq_pm, zq_mm, zq_gm, pk_sub, zI_s, zI_k, zI_c, zI_2, zL_s, zL_k, zL_c, zL_1, if_true, if_false, eq_self, Nat.zero_add, Nat.add_zero, mk, mc, mw, fX13_fullest_51, fX13_fullest_53]
                exact f2
        · have i6 := (i4 c).1
          have hu : u ≤ 5 := by
            rcases hx with ⟨_, e⟩ | ⟨w, w1, _, e, _⟩
            · omega
            · rw [e]; exact (hI.2.1 w w1).2.1
          obtain ⟨r, f1, f2⟩ := ih m (k + 1) x u (by omega) (by omega) (by omega) hx
          clear hx
          refine ⟨r, ?_, ?_⟩
          · simp (disch := omega) only [zq_l9, pk_mul, nI_add, zq_t9, zq_c9, zq_bz9, zq_bo9, zq_g, zq_cl, zq_leT, zq_leF, zq_ltT, zq_ltF, zq_eqT, zq_eqF, zq_em, zq_me, zq_pm, zq_mm, zq_gm, pk_sub, zI_s, zI_k, zI_c, zI_2, zL_s, zL_k, zL_c, zL_1, if_true, if_false, eq_self, Nat.zero_add, Nat.add_zero, xc, i6, fX8_widestIndex_37]
            exact f1
          · simp (disch := omega) only [zq_l9, pk_mul, nI_add, zq_t9, zq_c9, zq_bz9, zq_bo9, zq_g, zq_cl, zq_leT, zq_leF, zq_ltT, zq_ltF, zq_eqT, zq_eqF, zq_em, zq_me, zq_pm, zq_mm, zq_gm, pk_sub, zI_s, zI_k, zI_c, zI_2, zL_s, zL_k, zL_c, zL_1, if_true, if_false, eq_self, Nat.zero_add, Nat.add_zero, mk, fX13_fullest_53]
            exact f2
theorem zct_hit (T : zT) (h : Nat) : zct T (T.1 7 2) 240 h = zhit T h := rfl
theorem zshl : ∀ b, b < 13 → ((1 : Int32) <<< (nI b &&& 31)) = nI (2 ^ b) := by decide +kernel
theorem zfree {S M : sh_St} {T : zT} (hm : zVN M T) (hI : zInv T) (ha : zTa S T (T.1 7 2) 240) : ∀ (n m h : Nat), h ≤ 2 ^ T.1 7 1 → 2 ^ T.1 7 1 - h < n → 2 ^ T.1 7 1 - h < m → ∃ r, fX8_leastFreeHash_23 n S (nI (2 ^ T.1 7 1)) (nI h) = some (r, S) ∧ fX13_empty_2 m M (nI h) = some (r, M) := by
  have hb := zM_b hm
  have h1 := hI.1
  have hp : 2 ^ T.1 7 1 ≤ 4096 := Nat.pow_le_pow_right (by omega) h1.2.2.1
  have hsl := zshl (T.1 7 1) (by omega)
  have e30 : ∀ g : Nat, fX13_empty_30 M (nI g) = if nI (2 ^ T.1 7 1) ≤ nI g then some (-1, M) else some (nI g, M) := fun g => by
    rw [fX13_empty_30]
    simp (disch := omega) only [zq_l9, pk_mul, nI_add, zq_t9, zq_c9, zq_bz9, zq_bo9, zq_g, zq_cl, zq_leT, zq_leF, zq_ltT, zq_ltF, zq_eqT, zq_eqF, zq_em, zq_me, zq_pm, zq_mm, zq_gm, pk_sub, zI_s, zI_k, zI_c, zI_2, zL_s, zL_k, zL_c, zL_1, if_true, if_false, eq_self, Nat.zero_add, Nat.add_zero, hb]
    rw [show ((nI 1 <<< (nI (T.1 7 1) &&& nI 31)) : Int32) = nI (2 ^ T.1 7 1) from hsl]
  intro n
  induction n with
  | zero => intro m h g1 g2; omega
  | succ n ih =>
    intro m h g1 g2 g3
    cases m with
    | zero => omega
    | succ m =>
      have e2 : fX13_empty_2 (m + 1) M (nI h) = if nI (2 ^ T.1 7 1) ≤ nI h then fX13_empty_30 M (nI h) else sh_c (fX13_meets M (nI h)) fun r2 S1 => if r2 ≤ 0 then fX13_empty_30 S1 (nI h) else sh_t (nI h + 1) fun y3 => fX13_empty_2 m S1 y3 := by
        rw [fX13_empty_2]
        simp (disch := omega) only [zq_l9, pk_mul, nI_add, zq_t9, zq_c9, zq_bz9, zq_bo9, zq_g, zq_cl, zq_leT, zq_leF, zq_ltT, zq_ltF, zq_eqT, zq_eqF, zq_em, zq_me, zq_pm, zq_mm, zq_gm, pk_sub, zI_s, zI_k, zI_c, zI_2, zL_s, zL_k, zL_c, zL_1, if_true, if_false, eq_self, Nat.zero_add, Nat.add_zero, hb]
        rw [show ((nI 1 <<< (nI (T.1 7 1) &&& nI 31)) : Int32) = nI (2 ^ T.1 7 1) from hsl]
        rfl
      rw [fX8_leastFreeHash_23, e2]
      by_cases d : h = 2 ^ T.1 7 1
      · refine ⟨-nI 1, ?_, ?_⟩
        · simp (disch := omega) only [zq_l9, pk_mul, nI_add, zq_t9, zq_c9, zq_bz9, zq_bo9, zq_g, zq_cl, zq_leT, zq_leF, zq_ltT, zq_ltF, zq_eqT, zq_eqF, zq_em, zq_me, zq_pm, zq_mm, zq_gm, pk_sub, zI_s, zI_k, zI_c, zI_2, zL_s, zL_k, zL_c, zL_1, if_true, if_false, eq_self, Nat.zero_add, Nat.add_zero]
        · rw [if_pos (by rw [d]; exact nI_le (Nat.le_refl _) (by omega)), e30, if_pos (by rw [d]; exact nI_le (Nat.le_refl _) (by omega))]
          rfl
      · have hlt : h < 2 ^ T.1 7 1 := by omega
        have hn : ¬ (nI (2 ^ T.1 7 1) ≤ nI h) := by rw [zq_leF hlt (by omega)]; exact id
        have hz := ha.2.1 h (by omega)
        rw [zct_hit] at hz
        have hmt := zm_hit hm hI (g := h) (by omega)
        have hcl : zhit T h ≤ 240 := zcnt_le _ _
        rw [if_neg hn, hmt]
        by_cases c : zhit T h = 0
        · rw [c] at hz hmt ⊢
          refine ⟨nI h, ?_, ?_⟩
          · simp (disch := omega) only [zq_l9, pk_mul, nI_add, zq_t9, zq_c9, zq_bz9, zq_bo9, zq_g, zq_cl, zq_leT, zq_leF, zq_ltT, zq_ltF, zq_eqT, zq_eqF, zq_em, zq_me, zq_pm, zq_mm, zq_gm, pk_sub, zI_s, zI_k, zI_c, zI_2, zL_s, zL_k, zL_c, zL_1, if_true, if_false, eq_self, Nat.zero_add, Nat.add_zero, hz]
          · simp (disch := omega) only [zq_l9, pk_mul, nI_add, zq_t9, zq_c9, zq_bz9, zq_bo9, zq_g, zq_cl, zq_leT, zq_leF, zq_ltT, zq_ltF, zq_eqT, zq_eqF, zq_em, zq_me, zq_pm, zq_mm, zq_gm, pk_sub, zI_s, zI_k, zI_c, zI_2, zL_s, zL_k, zL_c, zL_1, if_true, if_false, eq_self, Nat.zero_add, Nat.add_zero]
            rw [e30, if_neg hn]
        · obtain ⟨r, f1, f2⟩ := ih m (h + 1) (by omega) (by omega) (by omega)
          refine ⟨r, ?_, ?_⟩
          · simp (disch := omega) only [zq_l9, pk_mul, nI_add, zq_t9, zq_c9, zq_bz9, zq_bo9, zq_g, zq_cl, zq_leT, zq_leF, zq_ltT, zq_ltF, zq_eqT, zq_eqF, zq_em, zq_me, zq_pm, zq_mm, zq_gm, pk_sub, zI_s, zI_k, zI_c, zI_2, zL_s, zL_k, zL_c, zL_1, if_true, if_false, eq_self, Nat.zero_add, Nat.add_zero, hz]
            exact f1
          · simp (disch := omega) only [zq_l9, pk_mul, nI_add, zq_t9, zq_c9, zq_bz9, zq_bo9, zq_g, zq_cl, zq_leT, zq_leF, zq_ltT, zq_ltF, zq_eqT, zq_eqF, zq_em, zq_me, zq_pm, zq_mm, zq_gm, pk_sub, zI_s, zI_k, zI_c, zI_2, zL_s, zL_k, zL_c, zL_1, if_true, if_false, eq_self, Nat.zero_add, Nat.add_zero]
            exact f2
