/-! widest index, least free hash, shape -/
theorem zwid {S M : sh_St} {T : zT} (hv : zVX S 4 T) (hm : zVN M T) (hI : zInv T) : ∀ (n m k : Nat) (x : Int32) (u : Nat), k ≤ 40 → 40 - k < n → 40 - k < m → ((x = -nI 1 ∧ u = 0) ∨ ∃ w, w < 40 ∧ x = nI w ∧ u = T.1 1 w ∧ T.1 0 w = 2) → ∃ r, fX8_widestIndex_6 n S x (nI u) (nI k) = some (r, S) ∧ fX13_fullest_4 m M x (nI k) = some (r, M) := by
  intro n
  induction n with
  | zero => intro m k x u h1 h2; omega
  | succ n ih =>
    intro m k x u h1 h2 h3 hx
    cases m with
    | zero => omega
    | succ m =>
      rw [fX8_widestIndex_6, fX13_fullest_4]
      by_cases d : k = 40
      · subst d
        refine ⟨x, ?_, ?_⟩
        · simp (disch := omega) only [zq_l9, pk_mul, nI_add, zq_t9, zq_c9, zq_bz9, zq_bo9, zq_g, zq_cl, zq_leT, zq_leF, zq_ltT, zq_ltF, zq_eqT, zq_eqF, zq_em, zq_me, zq_pm, zq_mm, zq_gm, pk_sub, zI_s, zI_k, zI_c, zI_2, zL_s, zL_k, zL_c, zL_1, if_true, if_false, eq_self, Nat.zero_add, Nat.add_zero]
        · simp (disch := omega) only [zq_l9, pk_mul, nI_add, zq_t9, zq_c9, zq_bz9, zq_bo9, zq_g, zq_cl, zq_leT, zq_leF, zq_ltT, zq_ltF, zq_eqT, zq_eqF, zq_em, zq_me, zq_pm, zq_mm, zq_gm, pk_sub, zI_s, zI_k, zI_c, zI_2, zL_s, zL_k, zL_c, zL_1, if_true, if_false, eq_self, Nat.zero_add, Nat.add_zero]
      · have hk : k < 40 := by omega
        have xc := zX_c hv hk
        have mk := zM_k hm hk
        have mc := zM_c hm hk
        obtain ⟨i1, i2, i3, i4, i5⟩ := hI.2.1 k hk
        by_cases c : T.1 0 k = 2
        · have i6 := i5 c
          obtain ⟨r, f1, f2⟩ := ih m (k + 1) (nI k) (T.1 1 k) (by omega) (by omega) (by omega) (Or.inr ⟨k, hk, rfl, rfl, c⟩)
          rw [c] at mk
          rcases hx with ⟨rfl, rfl⟩ | ⟨w, w1, rfl, rfl, w4⟩
          · refine ⟨r, ?_, ?_⟩
            · simp (disch := omega) only [zq_l9, pk_mul, nI_add, zq_t9, zq_c9, zq_bz9, zq_bo9, zq_g, zq_cl, zq_leT, zq_leF, zq_ltT, zq_ltF, zq_eqT, zq_eqF, zq_em, zq_me, zq_pm, zq_mm, zq_gm, pk_sub, zI_s, zI_k, zI_c, zI_2, zL_s, zL_k, zL_c, zL_1, if_true, if_false, eq_self, Nat.zero_add, Nat.add_zero, xc, fX8_widestIndex_37]
              exact f1
            · simp (disch := omega) only [zq_l9, pk_mul, nI_add, zq_t9, zq_c9, zq_bz9, zq_bo9, zq_g, zq_cl, zq_leT, zq_leF, zq_ltT, zq_ltF, zq_eqT, zq_eqF, zq_em, zq_me, zq_pm, zq_mm, zq_gm, pk_sub, zI_s, zI_k, zI_c, zI_2, zL_s, zL_k, zL_c, zL_1, if_true, if_false, eq_self, Nat.zero_add, Nat.add_zero, mk, fX13_fullest_51, fX13_fullest_53]
              exact f2
          · have mw := zM_c hm w1
            have j2 := (hI.2.1 w w1).2.1
            by_cases e : T.1 1 k ≤ T.1 1 w
            · obtain ⟨r, f1, f2⟩ := ih m (k + 1) (nI w) (T.1 1 w) (by omega) (by omega) (by omega) (Or.inr ⟨w, w1, rfl, rfl, w4⟩)
              refine ⟨r, ?_, ?_⟩
              · simp (disch := omega) only [zq_l9, pk_mul, nI_add, zq_t9, zq_c9, zq_bz9, zq_bo9, zq_g, zq_cl, zq_leT, zq_leF, zq_ltT, zq_ltF, zq_eqT, zq_eqF, zq_em, zq_me, zq_pm, zq_mm, zq_gm, pk_sub, zI_s, zI_k, zI_c, zI_2, zL_s, zL_k, zL_c, zL_1, if_true, if_false, eq_self, Nat.zero_add, Nat.add_zero, xc, fX8_widestIndex_37]
                exact f1
              · simp (disch := omega) only [zq_l9, pk_mul, nI_add, zq_t9, zq_c9, zq_bz9, zq_bo9, zq_g, zq_cl, zq_leT, zq_leF, zq_ltT, zq_ltF, zq_eqT, zq_eqF, zq_em, zq_me, zq_pm, zq_mm, zq_gm, pk_sub, zI_s, zI_k, zI_c, zI_2, zL_s, zL_k, zL_c, zL_1, if_true, if_false, eq_self, Nat.zero_add, Nat.add_zero, mk, mc, mw, fX13_fullest_51, fX13_fullest_53]
                exact f2
            · refine ⟨r, ?_, ?_⟩
              · simp (disch := omega) only [zq_l9, pk_mul, nI_add, zq_t9, zq_c9, zq_bz9, zq_bo9, zq_g, zq_cl, zq_leT, zq_leF, zq_ltT, zq_ltF, zq_eqT, zq_eqF, zq_em, zq_me, zq_pm, zq_mm, zq_gm, pk_sub, zI_s, zI_k, zI_c, zI_2, zL_s, zL_k, zL_c, zL_1, if_true, if_false, eq_self, Nat.zero_add, Nat.add_zero, xc, fX8_widestIndex_37]
                exact f1
              · simp (disch := omega) only [zq_l9, pk_mul, nI_add, zq_t9, zq_c9, zq_bz9, zq_bo9, zq_g, zq_cl, zq_leT, zq_leF, zq_ltT, zq_ltF, zq_eqT, zq_eqF, zq_em, zq_me, zq_pm, zq_mm, zq_gm, pk_sub, zI_s, zI_k, zI_c, zI_2, zL_s, zL_k, zL_c, zL_1, if_true, if_false, eq_self, Nat.zero_add, Nat.add_zero, mk, mc, mw, fX13_fullest_51, fX13_fullest_53]
                exact f2
        · have i6 := (i4 c).1
          have hu : u ≤ 5 := by
            rcases hx with ⟨_, e⟩ | ⟨w, w1, _, e, _⟩
            · omega
            · rw [e]; exact (hI.2.1 w w1).2.1
          obtain ⟨r, f1, f2⟩ := ih m (k + 1) x u (by omega) (by omega) (by omega) hx
          clear hx
          refine ⟨r, ?_, ?_⟩
          · simp (disch := omega) only [zq_l9, pk_mul, nI_add, zq_t9, zq_c9, zq_bz9, zq_bo9, zq_g, zq_cl, zq_leT, zq_leF, zq_ltT, zq_ltF, zq_eqT, zq_eqF, zq_em, zq_me, zq_pm, zq_mm, zq_gm, pk_sub, zI_s, zI_k, zI_c, zI_2, zL_s, zL_k, zL_c, zL_1, if_true, if_false, eq_self, Nat.zero_add, Nat.add_zero, xc, i6, fX8_widestIndex_37]
            exact f1
          · simp (disch := omega) only [zq_l9, pk_mul, nI_add, zq_t9, zq_c9, zq_bz9, zq_bo9, zq_g, zq_cl, zq_leT, zq_leF, zq_ltT, zq_ltF, zq_eqT, zq_eqF, zq_em, zq_me, zq_pm, zq_mm, zq_gm, pk_sub, zI_s, zI_k, zI_c, zI_2, zL_s, zL_k, zL_c, zL_1, if_true, if_false, eq_self, Nat.zero_add, Nat.add_zero, mk, fX13_fullest_53]
            exact f2
theorem zct_hit (T : zT) (h : Nat) : zct T (T.1 7 2) 240 h = zhit T h := rfl
theorem zshl : ∀ b, b < 13 → ((1 : Int32) <<< (nI b &&& 31)) = nI (2 ^ b) := by decide +kernel
theorem zfree {S M : sh_St} {T : zT} (hm : zVN M T) (hI : zInv T) (ha : zTa S T (T.1 7 2) 240) : ∀ (n m h : Nat), h ≤ 2 ^ T.1 7 1 → 2 ^ T.1 7 1 - h < n → 2 ^ T.1 7 1 - h < m → ∃ r, fX8_leastFreeHash_23 n S (nI (2 ^ T.1 7 1)) (nI h) = some (r, S) ∧ fX13_empty_2 m M (nI h) = some (r, M) := by
  have hb := zM_b hm
  have h1 := hI.1
  have hp : 2 ^ T.1 7 1 ≤ 4096 := Nat.pow_le_pow_right (by omega) h1.2.2.1
  have hsl := zshl (T.1 7 1) (by omega)
  have e30 : ∀ g : Nat, fX13_empty_30 M (nI g) = if nI (2 ^ T.1 7 1) ≤ nI g then some (-1, M) else some (nI g, M) := fun g => by
    rw [fX13_empty_30]
    simp (disch := omega) only [zq_l9, pk_mul, nI_add, zq_t9, zq_c9, zq_bz9, zq_bo9, zq_g, zq_cl, zq_leT, zq_leF, zq_ltT, zq_ltF, zq_eqT, zq_eqF, zq_em, zq_me, zq_pm, zq_mm, zq_gm, pk_sub, zI_s, zI_k, zI_c, zI_2, zL_s, zL_k, zL_c, zL_1, if_true, if_false, eq_self, Nat.zero_add, Nat.add_zero, hb]
    rw [show ((nI 1 <<< (nI (T.1 7 1) &&& nI 31)) : Int32) = nI (2 ^ T.1 7 1) from hsl]
  intro n
  induction n with
  | zero => intro m h g1 g2; omega
  | succ n ih =>
    intro m h g1 g2 g3
    cases m with
    | zero => omega
    | succ m =>
      have e2 : fX13_empty_2 (m + 1) M (nI h) = if nI (2 ^ T.1 7 1) ≤ nI h then fX13_empty_30 M (nI h) else sh_c (fX13_meets M (nI h)) fun r2 S1 => if r2 ≤ 0 then fX13_empty_30 S1 (nI h) else sh_t (nI h + 1) fun y3 => fX13_empty_2 m S1 y3 := by
        rw [fX13_empty_2]
        simp (disch := omega) only [zq_l9, pk_mul, nI_add, zq_t9, zq_c9, zq_bz9, zq_bo9, zq_g, zq_cl, zq_leT, zq_leF, zq_ltT, zq_ltF, zq_eqT, zq_eqF, zq_em, zq_me, zq_pm, zq_mm, zq_gm, pk_sub, zI_s, zI_k, zI_c, zI_2, zL_s, zL_k, zL_c, zL_1, if_true, if_false, eq_self, Nat.zero_add, Nat.add_zero, hb]
        rw [show ((nI 1 <<< (nI (T.1 7 1) &&& nI 31)) : Int32) = nI (2 ^ T.1 7 1) from hsl]
      rw [fX8_leastFreeHash_23, e2]
      by_cases d : h = 2 ^ T.1 7 1
      · refine ⟨-nI 1, ?_, ?_⟩
        · simp (disch := omega) only [zq_l9, pk_mul, nI_add, zq_t9, zq_c9, zq_bz9, zq_bo9, zq_g, zq_cl, zq_leT, zq_leF, zq_ltT, zq_ltF, zq_eqT, zq_eqF, zq_em, zq_me, zq_pm, zq_mm, zq_gm, pk_sub, zI_s, zI_k, zI_c, zI_2, zL_s, zL_k, zL_c, zL_1, if_true, if_false, eq_self, Nat.zero_add, Nat.add_zero]
        · rw [if_pos (by rw [d]; exact nI_le (Nat.le_refl _) (by omega)), e30, if_pos (by rw [d]; exact nI_le (Nat.le_refl _) (by omega))]
          rfl
      · have hlt : h < 2 ^ T.1 7 1 := by omega
        have hn : ¬ (nI (2 ^ T.1 7 1) ≤ nI h) := by rw [zq_leF hlt (by omega)]; exact id
        have hz := ha.2.1 h (by omega)
        rw [zct_hit] at hz
        have hmt := zm_hit hm hI (g := h) (by omega)
        have hcl : zhit T h ≤ 240 := zcnt_le _ _
        rw [if_neg hn, hmt]
        by_cases c : zhit T h = 0
        · rw [c] at hz hmt ⊢
          refine ⟨nI h, ?_, ?_⟩
          · simp (disch := omega) only [zq_l9, pk_mul, nI_add, zq_t9, zq_c9, zq_bz9, zq_bo9, zq_g, zq_cl, zq_leT, zq_leF, zq_ltT, zq_ltF, zq_eqT, zq_eqF, zq_em, zq_me, zq_pm, zq_mm, zq_gm, pk_sub, zI_s, zI_k, zI_c, zI_2, zL_s, zL_k, zL_c, zL_1, if_true, if_false, eq_self, Nat.zero_add, Nat.add_zero, hz]
          · simp (disch := omega) only [zq_l9, pk_mul, nI_add, zq_t9, zq_c9, zq_bz9, zq_bo9, zq_g, zq_cl, zq_leT, zq_leF, zq_ltT, zq_ltF, zq_eqT, zq_eqF, zq_em, zq_me, zq_pm, zq_mm, zq_gm, pk_sub, zI_s, zI_k, zI_c, zI_2, zL_s, zL_k, zL_c, zL_1, if_true, if_false, eq_self, Nat.zero_add, Nat.add_zero]
            rw [e30, if_neg hn]
        · obtain ⟨r, f1, f2⟩ := ih m (h + 1) (by omega) (by omega) (by omega)
          refine ⟨r, ?_, ?_⟩
          · simp (disch := omega) only [zq_l9, pk_mul, nI_add, zq_t9, zq_c9, zq_bz9, zq_bo9, zq_g, zq_cl, zq_leT, zq_leF, zq_ltT, zq_ltF, zq_eqT, zq_eqF, zq_em, zq_me, zq_pm, zq_mm, zq_gm, pk_sub, zI_s, zI_k, zI_c, zI_2, zL_s, zL_k, zL_c, zL_1, if_true, if_false, eq_self, Nat.zero_add, Nat.add_zero, hz]
            exact f1
          · simp (disch := omega) only [zq_l9, pk_mul, nI_add, zq_t9, zq_c9, zq_bz9, zq_bo9, zq_g, zq_cl, zq_leT, zq_leF, zq_ltT, zq_ltF, zq_eqT, zq_eqF, zq_em, zq_me, zq_pm, zq_mm, zq_gm, pk_sub, zI_s, zI_k, zI_c, zI_2, zL_s, zL_k, zL_c, zL_1, if_true, if_false, eq_self, Nat.zero_add, Nat.add_zero]
            exact f2
theorem zm_shape {M : sh_St} {j : Nat} (hj : j ≤ 8) : fX13_shape M (nI j) = fX13_shape_16 M (nI j) 0 := by
  have hin := zm_within' M (v := j) (lo := 0) (hi := 8) (by omega) (by omega) (by omega)
  rw [if_pos (by omega)] at hin
  rw [fX13_shape]
  simp (disch := omega) only [zq_l9, pk_mul, nI_add, zq_t9, zq_c9, zq_bz9, zq_bo9, zq_g, zq_cl, zq_leT, zq_leF, zq_ltT, zq_ltF, zq_eqT, zq_eqF, zq_em, zq_me, zq_pm, zq_mm, zq_gm, pk_sub, zI_s, zI_k, zI_c, zI_2, zL_s, zL_k, zL_c, zL_1, if_true, if_false, eq_self, Nat.zero_add, Nat.add_zero, hin]
theorem zc_shape {S M : sh_St} (h : zRR S M) (v : Int32) : zCA ["java/util/NoSuchElementException"] (fX12_shape S v) (fX13_shape M v) := by
  obtain ⟨T, B, L, h⟩ := h
  rcases zrng v 0 8 with ⟨j, rfl, _, hj⟩ | q
  · have h0 : zR S (sh_I M 0 0 (nI 0)) T B L := zR_q h (zFr_rf _ _ S) (zMQ_0 M _)
    have m00 : (sh_I M 0 0 (nI 0)).1 0 0 = nI 0 := zI_s _ _ _ _
    have hI := h.1.1
    have h1 := hI.1
    have hsh := zm_shape (M := M) hj
    rw [fX13_shape_16] at hsh
    generalize hM : sh_I M 0 0 (nI 0) = M0 at *
    obtain ⟨S1, g1, g2, g3⟩ := zx_gather h0.2.1 hI
    have hR : zR S1 M0 T B L := zR_q h0 (zFr_wd g3 (by omega) (by omega)) (zMQ_rf M0)
    have hfin : ∀ r S' M', fX8_ofAll S (nI j) = some (r, S') → fX13_shape M (nI j) = some (r, M') → zR S' M' T B L → M'.1 0 0 = nI 0 → zCA ["java/util/NoSuchElementException"] (fX12_shape S (nI j)) (fX13_shape M (nI j)) := fun r S' M' a b c d => by
      refine ⟨.inl r, S', r, M', ?_, b, Or.inl ⟨rfl, d⟩, T, B, L, c⟩
      rw [fX12_shape]
      simp (disch := omega) only [zq_l9, pk_mul, nI_add, zq_t9, zq_c9, zq_bz9, zq_bo9, zq_g, zq_cl, zq_leT, zq_leF, zq_ltT, zq_ltF, zq_eqT, zq_eqF, zq_em, zq_me, zq_pm, zq_mm, zq_gm, pk_sub, zI_s, zI_k, zI_c, zI_2, zL_s, zL_k, zL_c, zL_1, if_true, if_false, eq_self, Nat.zero_add, Nat.add_zero, a]
    have hg3 := zFr_wd g3 (show 116 ≤ 117 by omega) (show 120 ≤ 130 by omega)
    have hc : j = 0 ∨ j = 1 ∨ j = 2 ∨ j = 3 ∨ j = 4 ∨ j = 5 ∨ j = 6 ∨ j = 7 ∨ j = 8 := by omega
    have hFU := zc_FU
    obtain ⟨f, hf, hf2⟩ := zFU1
    have hln := zln_le hI
    have hl1 := zpl_lt hI 0
    rcases hc with e | e | e | e | e | e | e | e | e <;> subst e
    · have ky := zX_y hR.2.1
      have ky2 := zM_y h0.2.2.1
      obtain ⟨r, S', M', a1, a2, a3, a4, a5⟩ := zR_crowd hR h1.2.2.2.1
      refine hfin (nI r) S' M' ?_ ?_ a4 (a5.trans m00)
      · rw [fX8_ofAll]
        simp (disch := omega) only [zq_l9, pk_mul, nI_add, zq_t9, zq_c9, zq_bz9, zq_bo9, zq_g, zq_cl, zq_leT, zq_leF, zq_ltT, zq_ltF, zq_eqT, zq_eqF, zq_em, zq_me, zq_pm, zq_mm, zq_gm, pk_sub, zI_s, zI_k, zI_c, zI_2, zL_s, zL_k, zL_c, zL_1, if_true, if_false, eq_self, Nat.zero_add, Nat.add_zero, g1, ky, a1]
      · rw [hsh]
        simp (disch := omega) only [zq_l9, pk_mul, nI_add, zq_t9, zq_c9, zq_bz9, zq_bo9, zq_g, zq_cl, zq_leT, zq_leF, zq_ltT, zq_ltF, zq_eqT, zq_eqF, zq_em, zq_me, zq_pm, zq_mm, zq_gm, pk_sub, zI_s, zI_k, zI_c, zI_2, zL_s, zL_k, zL_c, zL_1, if_true, if_false, eq_self, Nat.zero_add, Nat.add_zero, hM, m00, ky2, a2]
    · obtain ⟨r, S', M', a1, a2, a3, a4⟩ := zchn sh_FU sh_FU 0 0 S1 M0 hR g2 (by omega) (zc_FU _ (by omega)) (zc_FU _ (by omega)) (by omega)
      refine hfin (nI r) S' M' ?_ ?_ a3 (a4.trans m00)
      · rw [fX8_ofAll]
        simp (disch := omega) only [zq_l9, pk_mul, nI_add, zq_t9, zq_c9, zq_bz9, zq_bo9, zq_g, zq_cl, zq_leT, zq_leF, zq_ltT, zq_ltF, zq_eqT, zq_eqF, zq_em, zq_me, zq_pm, zq_mm, zq_gm, pk_sub, zI_s, zI_k, zI_c, zI_2, zL_s, zL_k, zL_c, zL_1, if_true, if_false, eq_self, Nat.zero_add, Nat.add_zero, fX8_longestChain, g1, a1]
      · rw [hsh]
        simp (disch := omega) only [zq_l9, pk_mul, nI_add, zq_t9, zq_c9, zq_bz9, zq_bo9, zq_g, zq_cl, zq_leT, zq_leF, zq_ltT, zq_ltF, zq_eqT, zq_eqF, zq_em, zq_me, zq_pm, zq_mm, zq_gm, pk_sub, zI_s, zI_k, zI_c, zI_2, zL_s, zL_k, zL_c, zL_1, if_true, if_false, eq_self, Nat.zero_add, Nat.add_zero, fX13_chain, hM, m00, a2]
    · have x1 := zx_all hR.2.1
      have m1 := zm_all h0.2.2.1 hI
      have hal : zall T ≤ 240 := zcnt_le _ _
      have x2 := zx_groups S1 (a := zall T) (by omega)
      have m2 := zm_leavesFor M0 (n := zall T) (by omega)
      have hgs : zgs (zall T) = (zall T + 3) / 4 := rfl
      refine hfin (nI (zlf (zall T))) S1 M0 ?_ ?_ hR m00
      · rw [fX8_ofAll]
        by_cases c : zall T < 5
        · have e : zlf (zall T) = 1 := if_pos c
          rw [e]
          by_cases c2 : zgs (zall T) = 1
          · rw [c2] at x2
            simp (disch := omega) only [zq_l9, pk_mul, nI_add, zq_t9, zq_c9, zq_bz9, zq_bo9, zq_g, zq_cl, zq_leT, zq_leF, zq_ltT, zq_ltF, zq_eqT, zq_eqF, zq_em, zq_me, zq_pm, zq_mm, zq_gm, pk_sub, zI_s, zI_k, zI_c, zI_2, zL_s, zL_k, zL_c, zL_1, if_true, if_false, eq_self, Nat.zero_add, Nat.add_zero, g1, x1, x2]
          · have c3 : zgs (zall T) = 0 := by omega
            rw [c3] at x2
            simp (disch := omega) only [zq_l9, pk_mul, nI_add, zq_t9, zq_c9, zq_bz9, zq_bo9, zq_g, zq_cl, zq_leT, zq_leF, zq_ltT, zq_ltF, zq_eqT, zq_eqF, zq_em, zq_me, zq_pm, zq_mm, zq_gm, pk_sub, zI_s, zI_k, zI_c, zI_2, zL_s, zL_k, zL_c, zL_1, if_true, if_false, eq_self, Nat.zero_add, Nat.add_zero, g1, x1, x2]
        · have e : zlf (zall T) = zgs (zall T) := if_neg c
          rw [e]
          simp (disch := omega) only [zq_l9, pk_mul, nI_add, zq_t9, zq_c9, zq_bz9, zq_bo9, zq_g, zq_cl, zq_leT, zq_leF, zq_ltT, zq_ltF, zq_eqT, zq_eqF, zq_em, zq_me, zq_pm, zq_mm, zq_gm, pk_sub, zI_s, zI_k, zI_c, zI_2, zL_s, zL_k, zL_c, zL_1, if_true, if_false, eq_self, Nat.zero_add, Nat.add_zero, g1, x1, x2]
      · rw [hsh]
        simp (disch := omega) only [zq_l9, pk_mul, nI_add, zq_t9, zq_c9, zq_bz9, zq_bo9, zq_g, zq_cl, zq_leT, zq_leF, zq_ltT, zq_ltF, zq_eqT, zq_eqF, zq_em, zq_me, zq_pm, zq_mm, zq_gm, pk_sub, zI_s, zI_k, zI_c, zI_2, zL_s, zL_k, zL_c, zL_1, if_true, if_false, eq_self, Nat.zero_add, Nat.add_zero, hM, m00, m1, m2]
    · obtain ⟨M1, k1, k2, k3⟩ := zm_lays h0.2.2.1 hI
      have hR1 : zR S1 M1 T B L := zR_q hR (zFr_rf _ _ S1) (zMQ_m (zFn_m k3))
      obtain ⟨p, f1, f2, f3⟩ := zfwst hR1.2.1 hR1.2.2.1 hI g2 k2 f sh_FU 1 0 (by omega) (by omega) (zc_FU _ (by omega)) (by omega)
      have a0 := (zOrd_at g2 (show 0 < zln T by omega)).1
      have b0 := (zlq_ok hI (show 0 < zln T by omega)).1
      have x0 := zx_ent hR1.2.1 b0
      have l0 : zent T (zlq T 0).1 ≤ 6 := zcnt_le _ _
      have o1 := zOrd_n g2
      have ap := (zLin_at k2 f3).1
      have bp := (zlq_ok hI f3).1
      have mp := zm_ent hR1.2.2.1 hI bp
      have ef : fX8_fewestInLeaf_5 sh_FU S1 (nI 6) (nI 0) = some (nI (zent T (zlq T p).1), S1) := by
        rw [hf, fX8_fewestInLeaf_5]
        by_cases c : zent T (zlq T 0).1 = 6
        · rw [c] at f1 x0
          simp (disch := omega) only [zq_l9, pk_mul, nI_add, zq_t9, zq_c9, zq_bz9, zq_bo9, zq_g, zq_cl, zq_leT, zq_leF, zq_ltT, zq_ltF, zq_eqT, zq_eqF, zq_em, zq_me, zq_pm, zq_mm, zq_gm, pk_sub, zI_s, zI_k, zI_c, zI_2, zL_s, zL_k, zL_c, zL_1, if_true, if_false, eq_self, Nat.zero_add, Nat.add_zero, o1, a0, x0]
          exact f1
        · simp (disch := omega) only [zq_l9, pk_mul, nI_add, zq_t9, zq_c9, zq_bz9, zq_bo9, zq_g, zq_cl, zq_leT, zq_leF, zq_ltT, zq_ltF, zq_eqT, zq_eqF, zq_em, zq_me, zq_pm, zq_mm, zq_gm, pk_sub, zI_s, zI_k, zI_c, zI_2, zL_s, zL_k, zL_c, zL_1, if_true, if_false, eq_self, Nat.zero_add, Nat.add_zero, o1, a0, x0]
          exact f1
      refine hfin (nI (zent T (zlq T p).1)) S1 M1 ?_ ?_ hR1 ((k3.1 0 (by omega)).trans m00)
      · rw [fX8_ofAll]
        simp (disch := omega) only [zq_l9, pk_mul, nI_add, zq_t9, zq_c9, zq_bz9, zq_bo9, zq_g, zq_cl, zq_leT, zq_leF, zq_ltT, zq_ltF, zq_eqT, zq_eqF, zq_em, zq_me, zq_pm, zq_mm, zq_gm, pk_sub, zI_s, zI_k, zI_c, zI_2, zL_s, zL_k, zL_c, zL_1, if_true, if_false, eq_self, Nat.zero_add, Nat.add_zero, fX8_fewestInLeaf, g1, ef]
      · rw [hsh]
        simp (disch := omega) only [zq_l9, pk_mul, nI_add, zq_t9, zq_c9, zq_bz9, zq_bo9, zq_g, zq_cl, zq_leT, zq_leF, zq_ltT, zq_ltF, zq_eqT, zq_eqF, zq_em, zq_me, zq_pm, zq_mm, zq_gm, pk_sub, zI_s, zI_k, zI_c, zI_2, zL_s, zL_k, zL_c, zL_1, if_true, if_false, eq_self, Nat.zero_add, Nat.add_zero, fX13_leafBy, hM, m00, k1, f2, ap, mp]
    · obtain ⟨M1, k1, k2, k3⟩ := zm_lays h0.2.2.1 hI
      have hR1 : zR S1 M1 T B L := zR_q hR (zFr_rf _ _ S1) (zMQ_m (zFn_m k3))
      obtain ⟨p, f1, f2, f3⟩ := zfulp hR1.2.1 hR1.2.2.1 hI g2 k2 f sh_FU 1 0 (by omega) (by omega) (zc_FU _ (by omega)) (by omega)
      have a0 := (zOrd_at g2 (show 0 < zln T by omega)).1
      have b0 := (zlq_ok hI (show 0 < zln T by omega)).1
      have x0 := zx_ent hR1.2.1 b0
      have l0 : zent T (zlq T 0).1 ≤ 6 := zcnt_le _ _
      have o1 := zOrd_n g2
      have ao := (zOrd_at g2 f3).1
      have ap := (zLin_at k2 f3).1
      have bp := (zlq_ok hI f3).1
      have xp := zx_ent hR1.2.1 bp
      have mp := zm_ent hR1.2.2.1 hI bp
      have hlm := zle_m (a := zent T (zlq T 0).1) (by omega)
      have ef : fX8_fullestPlace_6 sh_FU S1 (nI 0) (-nI 1) (nI 0) = some (nI p, S1) := by
        rw [hf, fX8_fullestPlace_6]
        simp (disch := omega) only [zq_l9, pk_mul, nI_add, zq_t9, zq_c9, zq_bz9, zq_bo9, zq_g, zq_cl, zq_leT, zq_leF, zq_ltT, zq_ltF, zq_eqT, zq_eqF, zq_em, zq_me, zq_pm, zq_mm, zq_gm, pk_sub, zI_s, zI_k, zI_c, zI_2, zL_s, zL_k, zL_c, zL_1, if_true, if_false, eq_self, Nat.zero_add, Nat.add_zero, o1, a0, x0, hlm, fX8_fullestPlace_52]
        exact f1
      refine hfin (nI (zent T (zlq T p).1)) S1 M1 ?_ ?_ hR1 ((k3.1 0 (by omega)).trans m00)
      · rw [fX8_ofAll]
        simp (disch := omega) only [zq_l9, pk_mul, nI_add, zq_t9, zq_c9, zq_bz9, zq_bo9, zq_g, zq_cl, zq_leT, zq_leF, zq_ltT, zq_ltF, zq_eqT, zq_eqF, zq_em, zq_me, zq_pm, zq_mm, zq_gm, pk_sub, zI_s, zI_k, zI_c, zI_2, zL_s, zL_k, zL_c, zL_1, if_true, if_false, eq_self, Nat.zero_add, Nat.add_zero, fX8_fullestPlace, g1, ef, ao, xp]
      · rw [hsh]
        simp (disch := omega) only [zq_l9, pk_mul, nI_add, zq_t9, zq_c9, zq_bz9, zq_bo9, zq_g, zq_cl, zq_leT, zq_leF, zq_ltT, zq_ltF, zq_eqT, zq_eqF, zq_em, zq_me, zq_pm, zq_mm, zq_gm, pk_sub, zI_s, zI_k, zI_c, zI_2, zL_s, zL_k, zL_c, zL_1, if_true, if_false, eq_self, Nat.zero_add, Nat.add_zero, fX13_leafBy, hM, m00, k1, f2, ap, mp]
    · obtain ⟨M1, k1, k2, k3⟩ := zm_lays h0.2.2.1 hI
      have hR1 : zR S1 M1 T B L := zR_q hR (zFr_rf _ _ S1) (zMQ_m (zFn_m k3))
      obtain ⟨p, f1, f2, f3⟩ := zfulp hR1.2.1 hR1.2.2.1 hI g2 k2 f sh_FU 1 0 (by omega) (by omega) (zc_FU _ (by omega)) (by omega)
      have a0 := (zOrd_at g2 (show 0 < zln T by omega)).1
      have b0 := (zlq_ok hI (show 0 < zln T by omega)).1
      have x0 := zx_ent hR1.2.1 b0
      have l0 : zent T (zlq T 0).1 ≤ 6 := zcnt_le _ _
      have o1 := zOrd_n g2
      have hlm := zle_m (a := zent T (zlq T 0).1) (by omega)
      have ef : fX8_fullestPlace_6 sh_FU S1 (nI 0) (-nI 1) (nI 0) = some (nI p, S1) := by
        rw [hf, fX8_fullestPlace_6]
        simp (disch := omega) only [zq_l9, pk_mul, nI_add, zq_t9, zq_c9, zq_bz9, zq_bo9, zq_g, zq_cl, zq_leT, zq_leF, zq_ltT, zq_ltF, zq_eqT, zq_eqF, zq_em, zq_me, zq_pm, zq_mm, zq_gm, pk_sub, zI_s, zI_k, zI_c, zI_2, zL_s, zL_k, zL_c, zL_1, if_true, if_false, eq_self, Nat.zero_add, Nat.add_zero, o1, a0, x0, hlm, fX8_fullestPlace_52]
        exact f1
      refine hfin (nI p) S1 M1 ?_ ?_ hR1 ((k3.1 0 (by omega)).trans m00)
      · rw [fX8_ofAll]
        simp (disch := omega) only [zq_l9, pk_mul, nI_add, zq_t9, zq_c9, zq_bz9, zq_bo9, zq_g, zq_cl, zq_leT, zq_leF, zq_ltT, zq_ltF, zq_eqT, zq_eqF, zq_em, zq_me, zq_pm, zq_mm, zq_gm, pk_sub, zI_s, zI_k, zI_c, zI_2, zL_s, zL_k, zL_c, zL_1, if_true, if_false, eq_self, Nat.zero_add, Nat.add_zero, fX8_fullestPlace, g1, ef]
      · rw [hsh]
        simp (disch := omega) only [zq_l9, pk_mul, nI_add, zq_t9, zq_c9, zq_bz9, zq_bo9, zq_g, zq_cl, zq_leT, zq_leF, zq_ltT, zq_ltF, zq_eqT, zq_eqF, zq_em, zq_me, zq_pm, zq_mm, zq_gm, pk_sub, zI_s, zI_k, zI_c, zI_2, zL_s, zL_k, zL_c, zL_1, if_true, if_false, eq_self, Nat.zero_add, Nat.add_zero, fX13_leafBy, hM, m00, k1, f2]
    · obtain ⟨S2, a1, a2⟩ := zx_beh hI sh_FU 0 S1 hR.2.1 g2 (by omega) (zc_FU _ (by omega))
      have b1 := zm_str4 h0.2.2.1 hI sh_FU 0 (by omega) (zc_FU _ (by omega))
      have e0 : zcnt (zbh T) 0 = 0 := rfl
      rw [e0] at a1
      rw [show 0 * 6 = 0 from rfl, e0] at b1
      refine hfin (nI (zcnt (zbh T) 240)) S2 M0 ?_ ?_ (zR_q hR (zFr_wd a2 (by omega) (by omega)) (zMQ_rf M0)) m00
      · rw [fX8_ofAll]
        simp (disch := omega) only [zq_l9, pk_mul, nI_add, zq_t9, zq_c9, zq_bz9, zq_bo9, zq_g, zq_cl, zq_leT, zq_leF, zq_ltT, zq_ltF, zq_eqT, zq_eqF, zq_em, zq_me, zq_pm, zq_mm, zq_gm, pk_sub, zI_s, zI_k, zI_c, zI_2, zL_s, zL_k, zL_c, zL_1, if_true, if_false, eq_self, Nat.zero_add, Nat.add_zero, fX8_entriesBehind, g1, a1]
      · rw [hsh]
        simp (disch := omega) only [zq_l9, pk_mul, nI_add, zq_t9, zq_c9, zq_bz9, zq_bo9, zq_g, zq_cl, zq_leT, zq_leF, zq_ltT, zq_ltF, zq_eqT, zq_eqF, zq_em, zq_me, zq_pm, zq_mm, zq_gm, pk_sub, zI_s, zI_k, zI_c, zI_2, zL_s, zL_k, zL_c, zL_1, if_true, if_false, eq_self, Nat.zero_add, Nat.add_zero, fX13_strays, hM, m00, b1]
    · obtain ⟨r, a1, a2⟩ := zwid hR.2.1 h0.2.2.1 hI sh_FU sh_FU 0 (-nI 1) 0 (by omega) (zc_FU _ (by omega)) (zc_FU _ (by omega)) (Or.inl ⟨rfl, rfl⟩)
      refine hfin r S1 M0 ?_ ?_ hR m00
      · rw [fX8_ofAll]
        simp (disch := omega) only [zq_l9, pk_mul, nI_add, zq_t9, zq_c9, zq_bz9, zq_bo9, zq_g, zq_cl, zq_leT, zq_leF, zq_ltT, zq_ltF, zq_eqT, zq_eqF, zq_em, zq_me, zq_pm, zq_mm, zq_gm, pk_sub, zI_s, zI_k, zI_c, zI_2, zL_s, zL_k, zL_c, zL_1, if_true, if_false, eq_self, Nat.zero_add, Nat.add_zero, fX8_widestIndex, g1, a1]
      · rw [hsh]
        simp (disch := omega) only [zq_l9, pk_mul, nI_add, zq_t9, zq_c9, zq_bz9, zq_bo9, zq_g, zq_cl, zq_leT, zq_leF, zq_ltT, zq_ltF, zq_eqT, zq_eqF, zq_em, zq_me, zq_pm, zq_mm, zq_gm, pk_sub, zI_s, zI_k, zI_c, zI_2, zL_s, zL_k, zL_c, zL_1, if_true, if_false, eq_self, Nat.zero_add, Nat.add_zero, fX13_fullest, hM, m00, a2]
    · have ky := zX_y hR.2.1
      obtain ⟨S2, t1, t2, t3⟩ := zx_tally hR.2.1 hI hR.2.2.2.2.2.2.2.2.2 h1.2.2.2.1
      have hR2 : zR S2 M0 T B L := zR_t hR (zFr_wd t3 (by omega) (by omega)) (zTa_g hI t2) (zMQ_rf M0)
      have hb := zX_b hR2.2.1
      have hp : 2 ^ T.1 7 1 ≤ 4096 := Nat.pow_le_pow_right (by omega) h1.2.2.1
      obtain ⟨r, a1, a2⟩ := zfree h0.2.2.1 hI t2 sh_FU sh_FU 0 (Nat.zero_le _) (zc_FU _ (by omega)) (zc_FU _ (by omega))
      have hsl : ((nI 1 <<< (nI (T.1 7 1) &&& nI 31)) : Int32) = nI (2 ^ T.1 7 1) := zshl (T.1 7 1) (by omega)
      refine hfin r S2 M0 ?_ ?_ hR2 m00
      · rw [fX8_ofAll]
        simp (disch := omega) only [zq_l9, pk_mul, nI_add, zq_t9, zq_c9, zq_bz9, zq_bo9, zq_g, zq_cl, zq_leT, zq_leF, zq_ltT, zq_ltF, zq_eqT, zq_eqF, zq_em, zq_me, zq_pm, zq_mm, zq_gm, pk_sub, zI_s, zI_k, zI_c, zI_2, zL_s, zL_k, zL_c, zL_1, if_true, if_false, eq_self, Nat.zero_add, Nat.add_zero, fX8_leastFreeHash, g1, ky, t1, hb, hsl, a1]
      · rw [hsh]
        simp (disch := omega) only [zq_l9, pk_mul, nI_add, zq_t9, zq_c9, zq_bz9, zq_bo9, zq_g, zq_cl, zq_leT, zq_leF, zq_ltT, zq_ltF, zq_eqT, zq_eqF, zq_em, zq_me, zq_pm, zq_mm, zq_gm, pk_sub, zI_s, zI_k, zI_c, zI_2, zL_s, zL_k, zL_c, zL_1, if_true, if_false, eq_self, Nat.zero_add, Nat.add_zero, fX13_empty, hM, m00, a2]
  · have m1 := (zm_isInR M v (lo := 0) (hi := 8) (by omega) (by omega)).2 q
    refine ⟨.inr "java/util/NoSuchElementException", S, nI 0, sh_I M 0 0 (nI 1), ?_, ?_, Or.inr ⟨0, _, rfl, rfl, zI_s _ _ _ _⟩, T, B, L, zR_q h (zFr_rf _ _ S) (zMQ_0 M _)⟩
    · rw [fX12_shape]
      rcases zn_cs v with hv | ⟨i, hi, rfl⟩
      · simp (disch := omega) only [zq_l9, pk_mul, nI_add, zq_t9, zq_c9, zq_bz9, zq_bo9, zq_g, zq_cl, zq_leT, zq_leF, zq_ltT, zq_ltF, zq_eqT, zq_eqF, zq_em, zq_me, zq_pm, zq_mm, zq_gm, pk_sub, zI_s, zI_k, zI_c, zI_2, zL_s, zL_k, zL_c, zL_1, if_true, if_false, eq_self, Nat.zero_add, Nat.add_zero, zn_lt hv, fX12_shape_10]
      · have : 8 < i := Nat.lt_of_not_le (fun z => q i (by omega) z rfl)
        simp (disch := omega) only [zq_l9, pk_mul, nI_add, zq_t9, zq_c9, zq_bz9, zq_bo9, zq_g, zq_cl, zq_leT, zq_leF, zq_ltT, zq_ltF, zq_eqT, zq_eqF, zq_em, zq_me, zq_pm, zq_mm, zq_gm, pk_sub, zI_s, zI_k, zI_c, zI_2, zL_s, zL_k, zL_c, zL_1, if_true, if_false, eq_self, Nat.zero_add, Nat.add_zero, fX12_shape_10]
    · rw [fX13_shape]
      show sh_c (fX13_isIn M v (nI 0) (nI 8)) _ = _
      rw [m1]
      refine (zstep0 M (fun S1 => fX13_shape_16 S1 v 1) (fun S1 => fX13_shape_16 S1 v 0)).trans ?_
      rw [fX13_shape_16]
      refine (zq_t9 _ _).trans ?_
      exact (if_neg (by rw [zI_s]; decide)).trans rfl
