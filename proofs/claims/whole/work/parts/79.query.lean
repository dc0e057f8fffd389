/-! simple questions -/
theorem zc_fault {S M : sh_St} (h : zRR S M) : zCB (fX12_fault S) (fX13_fault M) := by
  obtain ⟨T, B, L, h⟩ := h
  refine ⟨S.1 3 3, S, sh_I M 0 0 (nI 0), rfl, ?_, T, B, L, zR_q h (zFr_rf _ _ S) (zMQ_0 M _)⟩
  rw [fX13_fault]
  simp (disch := omega) only [zq_l9, pk_mul, nI_add, zq_t9, zq_c9, zq_bz9, zq_bo9, zq_g, zq_cl, zq_leT, zq_leF, zq_ltT, zq_ltF, zq_eqT, zq_eqF, zq_em, zq_me, zq_pm, zq_mm, zq_gm, pk_sub, zI_s, zI_k, zI_c, zI_2, zL_s, zL_k, zL_c, zL_1, if_true, if_false, eq_self, Nat.zero_add, Nat.add_zero]
  rw [h.2.2.2.2.1]
theorem zc_why {S M : sh_St} (h : zRR S M) : zCB (fX12_why S) (fX13_why M) := by
  obtain ⟨T, B, L, h⟩ := h
  refine ⟨S.1 0 10, S, sh_I M 0 0 (nI 0), rfl, ?_, T, B, L, zR_q h (zFr_rf _ _ S) (zMQ_0 M _)⟩
  rw [fX13_why]
  simp (disch := omega) only [zq_l9, pk_mul, nI_add, zq_t9, zq_c9, zq_bz9, zq_bo9, zq_g, zq_cl, zq_leT, zq_leF, zq_ltT, zq_ltF, zq_eqT, zq_eqF, zq_em, zq_me, zq_pm, zq_mm, zq_gm, pk_sub, zI_s, zI_k, zI_c, zI_2, zL_s, zL_k, zL_c, zL_1, if_true, if_false, eq_self, Nat.zero_add, Nat.add_zero]
  rw [h.2.2.2.2.2.1]
theorem zc_end {S M : sh_St} (h : zRR S M) (v : Int32) : zCB (fX12_end S v) (fX13_end M v) := by
  obtain ⟨T, B, L, h⟩ := h
  have hh := h
  obtain ⟨_, _, _, ⟨d1, d2, d3, d4, d5⟩, e, f, _⟩ := h
  have h0 : zR S (sh_I M 0 0 (nI 0)) T B L := zR_q hh (zFr_rf _ _ S) (zMQ_0 M _)
  have h17 : (sh_I M 0 0 (nI 0)).1 0 17 = nI L := by rw [zI_k M 0 0 _ (by omega)]; exact d2
  rcases zn_cs v with hv | ⟨j, hj, rfl⟩
  · refine ⟨nI 0, S, sh_I M 0 0 (nI 0), ?_, ?_, T, B, L, h0⟩
    · rw [fX12_end]
      simp (disch := omega) only [zq_l9, pk_mul, nI_add, zq_t9, zq_c9, zq_bz9, zq_bo9, zq_g, zq_cl, zq_leT, zq_leF, zq_ltT, zq_ltF, zq_eqT, zq_eqF, zq_em, zq_me, zq_pm, zq_mm, zq_gm, pk_sub, zI_s, zI_k, zI_c, zI_2, zL_s, zL_k, zL_c, zL_1, if_true, if_false, eq_self, Nat.zero_add, Nat.add_zero, zn_lt hv]
    · have hin := zn_isIn (sh_I M 0 0 (nI 0)) hv (lo := 0) (hi := L) (by omega)
      rw [fX13_end]
      simp (disch := omega) only [zq_l9, pk_mul, nI_add, zq_t9, zq_c9, zq_bz9, zq_bo9, zq_g, zq_cl, zq_leT, zq_leF, zq_ltT, zq_ltF, zq_eqT, zq_eqF, zq_em, zq_me, zq_pm, zq_mm, zq_gm, pk_sub, zI_s, zI_k, zI_c, zI_2, zL_s, zL_k, zL_c, zL_1, if_true, if_false, eq_self, Nat.zero_add, Nat.add_zero, h17, d2, hin]
  · have hin := zm_within' (sh_I M 0 0 (nI 0)) (v := j) (lo := 0) (hi := L) hj (by omega) (by omega)
    by_cases c : j ≤ L
    · rw [if_pos (by omega)] at hin
      have g0 : ∀ k, k ≠ 0 → k ≠ 17 → (sh_I (sh_I M 0 0 (nI 0)) 0 17 (nI j)).1 0 k = M.1 0 k := fun k a b => by rw [zI_k _ 0 17 _ b, zI_k M 0 0 _ a]
      refine ⟨nI 1, sh_I S 1 1 (nI j), sh_I (sh_I M 0 0 (nI 0)) 0 17 (nI j), ?_, ?_, T, B, j, zR_mk hh j (by omega) (zI_s _ _ _ _) (zI_s _ _ _ _) ?_ ?_ ?_ (fun i hi => sh_I_ne S 1 1 _ i (by omega)) (fun k hk => g0 k (by omega) (by omega)) (fun i hi => ⟨by rw [zI_c _ 0 17 _ (by omega), zI_c M 0 0 _ (by omega)], rfl⟩)⟩
      · rw [fX12_end]
        simp (disch := omega) only [zq_l9, pk_mul, nI_add, zq_t9, zq_c9, zq_bz9, zq_bo9, zq_g, zq_cl, zq_leT, zq_leF, zq_ltT, zq_ltF, zq_eqT, zq_eqF, zq_em, zq_me, zq_pm, zq_mm, zq_gm, pk_sub, zI_s, zI_k, zI_c, zI_2, zL_s, zL_k, zL_c, zL_1, if_true, if_false, eq_self, Nat.zero_add, Nat.add_zero, d1]
      · rw [fX13_end]
        simp (disch := omega) only [zq_l9, pk_mul, nI_add, zq_t9, zq_c9, zq_bz9, zq_bo9, zq_g, zq_cl, zq_leT, zq_leF, zq_ltT, zq_ltF, zq_eqT, zq_eqF, zq_em, zq_me, zq_pm, zq_mm, zq_gm, pk_sub, zI_s, zI_k, zI_c, zI_2, zL_s, zL_k, zL_c, zL_1, if_true, if_false, eq_self, Nat.zero_add, Nat.add_zero, h17, d2, hin]
      · rw [zI_c S 1 1 _ (by omega), g0 20 (by omega) (by omega)]; exact e
      · rw [zI_c S 1 1 _ (by omega), g0 21 (by omega) (by omega)]; exact f
      · rw [zI_c S 1 1 _ (by omega)]
    · rw [if_neg (by omega)] at hin
      refine ⟨nI 0, S, sh_I M 0 0 (nI 0), ?_, ?_, T, B, L, h0⟩
      · rw [fX12_end]
        simp (disch := omega) only [zq_l9, pk_mul, nI_add, zq_t9, zq_c9, zq_bz9, zq_bo9, zq_g, zq_cl, zq_leT, zq_leF, zq_ltT, zq_ltF, zq_eqT, zq_eqF, zq_em, zq_me, zq_pm, zq_mm, zq_gm, pk_sub, zI_s, zI_k, zI_c, zI_2, zL_s, zL_k, zL_c, zL_1, if_true, if_false, eq_self, Nat.zero_add, Nat.add_zero, d1]
      · rw [fX13_end]
        simp (disch := omega) only [zq_l9, pk_mul, nI_add, zq_t9, zq_c9, zq_bz9, zq_bo9, zq_g, zq_cl, zq_leT, zq_leF, zq_ltT, zq_ltF, zq_eqT, zq_eqF, zq_em, zq_me, zq_pm, zq_mm, zq_gm, pk_sub, zI_s, zI_k, zI_c, zI_2, zL_s, zL_k, zL_c, zL_1, if_true, if_false, eq_self, Nat.zero_add, Nat.add_zero, h17, d2, hin]
theorem zc_leaf {S M : sh_St} (h : zRR S M) (v : Int32) : zCB (fX12_leaf S v) (fX13_leaf M v) := by
  obtain ⟨T, B, L, h⟩ := h
  have hG := h.1
  have h0 : zR S (sh_I M 0 0 (nI 0)) T B L := zR_q h (zFr_rf _ _ S) (zMQ_0 M _)
  obtain ⟨S1, g1, g2, g3⟩ := zx_gather h0.2.1 hG.1
  obtain ⟨M1, k1, k2, k3⟩ := zm_lays h0.2.2.1 hG.1
  have hR := zR_q h0 (zFr_wd g3 (by omega) (by omega)) (zMQ_m (zFn_m k3))
  have hl := zln_le hG.1
  have hl1 := zpl_lt hG.1 0
  have o1 := zOrd_n g2
  have o2 := zLin_n k2
  rw [fX12_leaf, fX13_leaf]
  rcases zn_cs v with hv | ⟨j, hj, rfl⟩
  · have hin := zn_isIn M1 hv (lo := 0) (hi := zln T - 1) (by omega)
    refine ⟨-nI 1, S1, M1, ?_, ?_, T, B, L, hR⟩
    · simp (disch := omega) only [zq_l9, pk_mul, nI_add, zq_t9, zq_c9, zq_bz9, zq_bo9, zq_g, zq_cl, zq_leT, zq_leF, zq_ltT, zq_ltF, zq_eqT, zq_eqF, zq_em, zq_me, zq_pm, zq_mm, zq_gm, pk_sub, zI_s, zI_k, zI_c, zI_2, zL_s, zL_k, zL_c, zL_1, if_true, if_false, eq_self, Nat.zero_add, Nat.add_zero, g1, zn_lt hv]
    · simp (disch := omega) only [zq_l9, pk_mul, nI_add, zq_t9, zq_c9, zq_bz9, zq_bo9, zq_g, zq_cl, zq_leT, zq_leF, zq_ltT, zq_ltF, zq_eqT, zq_eqF, zq_em, zq_me, zq_pm, zq_mm, zq_gm, pk_sub, zI_s, zI_k, zI_c, zI_2, zL_s, zL_k, zL_c, zL_1, if_true, if_false, eq_self, Nat.zero_add, Nat.add_zero, k1, o2, hin]
  · have hin := zm_within' M1 (v := j) (lo := 0) (hi := zln T - 1) hj (by omega) (by omega)
    by_cases c : j < zln T
    · rw [if_pos (by omega)] at hin
      have a1 := (zOrd_at g2 c).1
      have a2 := (zLin_at k2 c).1
      refine ⟨nI (zlq T j).1, S1, M1, ?_, ?_, T, B, L, hR⟩
      · simp (disch := omega) only [zq_l9, pk_mul, nI_add, zq_t9, zq_c9, zq_bz9, zq_bo9, zq_g, zq_cl, zq_leT, zq_leF, zq_ltT, zq_ltF, zq_eqT, zq_eqF, zq_em, zq_me, zq_pm, zq_mm, zq_gm, pk_sub, zI_s, zI_k, zI_c, zI_2, zL_s, zL_k, zL_c, zL_1, if_true, if_false, eq_self, Nat.zero_add, Nat.add_zero, g1, o1, a1]
      · simp (disch := omega) only [zq_l9, pk_mul, nI_add, zq_t9, zq_c9, zq_bz9, zq_bo9, zq_g, zq_cl, zq_leT, zq_leF, zq_ltT, zq_ltF, zq_eqT, zq_eqF, zq_em, zq_me, zq_pm, zq_mm, zq_gm, pk_sub, zI_s, zI_k, zI_c, zI_2, zL_s, zL_k, zL_c, zL_1, if_true, if_false, eq_self, Nat.zero_add, Nat.add_zero, k1, o2, hin, a2]
    · rw [if_neg (by omega)] at hin
      refine ⟨-nI 1, S1, M1, ?_, ?_, T, B, L, hR⟩
      · simp (disch := omega) only [zq_l9, pk_mul, nI_add, zq_t9, zq_c9, zq_bz9, zq_bo9, zq_g, zq_cl, zq_leT, zq_leF, zq_ltT, zq_ltF, zq_eqT, zq_eqF, zq_em, zq_me, zq_pm, zq_mm, zq_gm, pk_sub, zI_s, zI_k, zI_c, zI_2, zL_s, zL_k, zL_c, zL_1, if_true, if_false, eq_self, Nat.zero_add, Nat.add_zero, g1, o1]
      · simp (disch := omega) only [zq_l9, pk_mul, nI_add, zq_t9, zq_c9, zq_bz9, zq_bo9, zq_g, zq_cl, zq_leT, zq_leF, zq_ltT, zq_ltF, zq_eqT, zq_eqF, zq_em, zq_me, zq_pm, zq_mm, zq_gm, pk_sub, zI_s, zI_k, zI_c, zI_2, zL_s, zL_k, zL_c, zL_1, if_true, if_false, eq_self, Nat.zero_add, Nat.add_zero, k1, o2, hin]
theorem zc_count {S M : sh_St} (h : zRR S M) (v : Int32) : zCB (fX12_count S v) (fX13_count M v) := by
  obtain ⟨T, B, L, h⟩ := h
  have hG := h.1
  have h0 : zR S (sh_I M 0 0 (nI 0)) T B L := zR_q h (zFr_rf _ _ S) (zMQ_0 M _)
  have hv := h0.2.1
  have hm := h0.2.2.1
  have hI := hG.1
  have h73 : T.1 7 3 < 2 := hI.1.2.2.2.2
  have hkl : zkin T 0 ≤ 40 := zcnt_le _ _
  have hd : S.1 34 1 = M.1 0 5 := by
    obtain ⟨t, u, Th, _, _, _, e1, e2, _⟩ := h.2.2.2.2.2.2.2.1
    rw [e1, e2]
  have hfin : ∀ r, fX12_count S v = some (r, S) → fX13_count M v = some (r, sh_I M 0 0 (nI 0)) → zCB (fX12_count S v) (fX13_count M v) := fun r a b => ⟨r, S, _, a, b, T, B, L, h0⟩
  rcases zrng v 0 8 with ⟨j, rfl, _, hj⟩ | q
  · have hc : j = 0 ∨ j = 1 ∨ j = 2 ∨ j = 3 ∨ j = 4 ∨ j = 5 ∨ j = 6 ∨ j = 7 ∨ j = 8 := by omega
    rcases hc with e | e | e | e | e | e | e | e | e <;> subst e
    · refine hfin (nI (zall T)) ?_ ?_
      · rw [fX12_count]
        simp (disch := omega) only [zq_l9, pk_mul, nI_add, zq_t9, zq_c9, zq_bz9, zq_bo9, zq_g, zq_cl, zq_leT, zq_leF, zq_ltT, zq_ltF, zq_eqT, zq_eqF, zq_em, zq_me, zq_pm, zq_mm, zq_gm, pk_sub, zI_s, zI_k, zI_c, zI_2, zL_s, zL_k, zL_c, zL_1, if_true, if_false, eq_self, Nat.zero_add, Nat.add_zero, zx_all hv]
      · rw [fX13_count]
        simp (disch := omega) only [zq_l9, pk_mul, nI_add, zq_t9, zq_c9, zq_bz9, zq_bo9, zq_g, zq_cl, zq_leT, zq_leF, zq_ltT, zq_ltF, zq_eqT, zq_eqF, zq_em, zq_me, zq_pm, zq_mm, zq_gm, pk_sub, zI_s, zI_k, zI_c, zI_2, zL_s, zL_k, zL_c, zL_1, if_true, if_false, eq_self, Nat.zero_add, Nat.add_zero, zm_all hm hI]
    · refine hfin (nI (40 - zkin T 0)) ?_ ?_
      · have := zx_kin hv hI (g := 0) (by omega)
        rw [fX12_count]
        simp (disch := omega) only [zq_l9, pk_mul, nI_add, zq_t9, zq_c9, zq_bz9, zq_bo9, zq_g, zq_cl, zq_leT, zq_leF, zq_ltT, zq_ltF, zq_eqT, zq_eqF, zq_em, zq_me, zq_pm, zq_mm, zq_gm, pk_sub, zI_s, zI_k, zI_c, zI_2, zL_s, zL_k, zL_c, zL_1, if_true, if_false, eq_self, Nat.zero_add, Nat.add_zero, this]
      · have := zm_kin hm hI (g := 0) (by omega)
        rw [fX13_count]
        simp (disch := omega) only [zq_l9, pk_mul, nI_add, zq_t9, zq_c9, zq_bz9, zq_bo9, zq_g, zq_cl, zq_leT, zq_leF, zq_ltT, zq_ltF, zq_eqT, zq_eqF, zq_em, zq_me, zq_pm, zq_mm, zq_gm, pk_sub, zI_s, zI_k, zI_c, zI_2, zL_s, zL_k, zL_c, zL_1, if_true, if_false, eq_self, Nat.zero_add, Nat.add_zero, this]
    · refine hfin (nI (T.1 7 0)) ?_ ?_
      · rw [fX12_count]
        simp (disch := omega) only [zq_l9, pk_mul, nI_add, zq_t9, zq_c9, zq_bz9, zq_bo9, zq_g, zq_cl, zq_leT, zq_leF, zq_ltT, zq_ltF, zq_eqT, zq_eqF, zq_em, zq_me, zq_pm, zq_mm, zq_gm, pk_sub, zI_s, zI_k, zI_c, zI_2, zL_s, zL_k, zL_c, zL_1, if_true, if_false, eq_self, Nat.zero_add, Nat.add_zero, zX_v hv]
      · have := zM_v h.2.2.1
        rw [fX13_count]
        simp (disch := omega) only [zq_l9, pk_mul, nI_add, zq_t9, zq_c9, zq_bz9, zq_bo9, zq_g, zq_cl, zq_leT, zq_leF, zq_ltT, zq_ltF, zq_eqT, zq_eqF, zq_em, zq_me, zq_pm, zq_mm, zq_gm, pk_sub, zI_s, zI_k, zI_c, zI_2, zL_s, zL_k, zL_c, zL_1, if_true, if_false, eq_self, Nat.zero_add, Nat.add_zero, this]
    · refine hfin (nI (zkin T 1)) ?_ ?_
      · have := zx_kin hv hI (g := 1) (by omega)
        rw [fX12_count]
        simp (disch := omega) only [zq_l9, pk_mul, nI_add, zq_t9, zq_c9, zq_bz9, zq_bo9, zq_g, zq_cl, zq_leT, zq_leF, zq_ltT, zq_ltF, zq_eqT, zq_eqF, zq_em, zq_me, zq_pm, zq_mm, zq_gm, pk_sub, zI_s, zI_k, zI_c, zI_2, zL_s, zL_k, zL_c, zL_1, if_true, if_false, eq_self, Nat.zero_add, Nat.add_zero, this]
      · have := zm_kin hm hI (g := 1) (by omega)
        rw [fX13_count]
        simp (disch := omega) only [zq_l9, pk_mul, nI_add, zq_t9, zq_c9, zq_bz9, zq_bo9, zq_g, zq_cl, zq_leT, zq_leF, zq_ltT, zq_ltF, zq_eqT, zq_eqF, zq_em, zq_me, zq_pm, zq_mm, zq_gm, pk_sub, zI_s, zI_k, zI_c, zI_2, zL_s, zL_k, zL_c, zL_1, if_true, if_false, eq_self, Nat.zero_add, Nat.add_zero, this]
    · refine hfin (nI (ztor T)) ?_ ?_
      · have := zx_tor hv hI
        rw [fX12_count]
        simp (disch := omega) only [zq_l9, pk_mul, nI_add, zq_t9, zq_c9, zq_bz9, zq_bo9, zq_g, zq_cl, zq_leT, zq_leF, zq_ltT, zq_ltF, zq_eqT, zq_eqF, zq_em, zq_me, zq_pm, zq_mm, zq_gm, pk_sub, zI_s, zI_k, zI_c, zI_2, zL_s, zL_k, zL_c, zL_1, if_true, if_false, eq_self, Nat.zero_add, Nat.add_zero, this]
      · have := zm_tor hm hI
        rw [fX13_count]
        simp (disch := omega) only [zq_l9, pk_mul, nI_add, zq_t9, zq_c9, zq_bz9, zq_bo9, zq_g, zq_cl, zq_leT, zq_leF, zq_ltT, zq_ltF, zq_eqT, zq_eqF, zq_em, zq_me, zq_pm, zq_mm, zq_gm, pk_sub, zI_s, zI_k, zI_c, zI_2, zL_s, zL_k, zL_c, zL_1, if_true, if_false, eq_self, Nat.zero_add, Nat.add_zero, this]
    · refine hfin (nI (T.1 7 1)) ?_ ?_
      · rw [fX12_count]
        simp (disch := omega) only [zq_l9, pk_mul, nI_add, zq_t9, zq_c9, zq_bz9, zq_bo9, zq_g, zq_cl, zq_leT, zq_leF, zq_ltT, zq_ltF, zq_eqT, zq_eqF, zq_em, zq_me, zq_pm, zq_mm, zq_gm, pk_sub, zI_s, zI_k, zI_c, zI_2, zL_s, zL_k, zL_c, zL_1, if_true, if_false, eq_self, Nat.zero_add, Nat.add_zero, zX_b hv]
      · have := zM_b h.2.2.1
        rw [fX13_count]
        simp (disch := omega) only [zq_l9, pk_mul, nI_add, zq_t9, zq_c9, zq_bz9, zq_bo9, zq_g, zq_cl, zq_leT, zq_leF, zq_ltT, zq_ltF, zq_eqT, zq_eqF, zq_em, zq_me, zq_pm, zq_mm, zq_gm, pk_sub, zI_s, zI_k, zI_c, zI_2, zL_s, zL_k, zL_c, zL_1, if_true, if_false, eq_self, Nat.zero_add, Nat.add_zero, this]
    · refine hfin (nI (T.1 7 2)) ?_ ?_
      · rw [fX12_count]
        simp (disch := omega) only [zq_l9, pk_mul, nI_add, zq_t9, zq_c9, zq_bz9, zq_bo9, zq_g, zq_cl, zq_leT, zq_leF, zq_ltT, zq_ltF, zq_eqT, zq_eqF, zq_em, zq_me, zq_pm, zq_mm, zq_gm, pk_sub, zI_s, zI_k, zI_c, zI_2, zL_s, zL_k, zL_c, zL_1, if_true, if_false, eq_self, Nat.zero_add, Nat.add_zero, zX_y hv]
      · have := zM_y h.2.2.1
        rw [fX13_count]
        simp (disch := omega) only [zq_l9, pk_mul, nI_add, zq_t9, zq_c9, zq_bz9, zq_bo9, zq_g, zq_cl, zq_leT, zq_leF, zq_ltT, zq_ltF, zq_eqT, zq_eqF, zq_em, zq_me, zq_pm, zq_mm, zq_gm, pk_sub, zI_s, zI_k, zI_c, zI_2, zL_s, zL_k, zL_c, zL_1, if_true, if_false, eq_self, Nat.zero_add, Nat.add_zero, this]
    · refine hfin (nI (T.1 7 3)) ?_ ?_
      · have := zX_f hv
        rw [fX12_count]
        by_cases c : T.1 7 3 = 0
        · rw [c] at this ⊢
          simp (disch := omega) only [zq_l9, pk_mul, nI_add, zq_t9, zq_c9, zq_bz9, zq_bo9, zq_g, zq_cl, zq_leT, zq_leF, zq_ltT, zq_ltF, zq_eqT, zq_eqF, zq_em, zq_me, zq_pm, zq_mm, zq_gm, pk_sub, zI_s, zI_k, zI_c, zI_2, zL_s, zL_k, zL_c, zL_1, if_true, if_false, eq_self, Nat.zero_add, Nat.add_zero, this]
        · have c1 : T.1 7 3 = 1 := by omega
          rw [c1] at this ⊢
          simp (disch := omega) only [zq_l9, pk_mul, nI_add, zq_t9, zq_c9, zq_bz9, zq_bo9, zq_g, zq_cl, zq_leT, zq_leF, zq_ltT, zq_ltF, zq_eqT, zq_eqF, zq_em, zq_me, zq_pm, zq_mm, zq_gm, pk_sub, zI_s, zI_k, zI_c, zI_2, zL_s, zL_k, zL_c, zL_1, if_true, if_false, eq_self, Nat.zero_add, Nat.add_zero, this]
      · have := zM_f h.2.2.1
        rw [fX13_count]
        simp (disch := omega) only [zq_l9, pk_mul, nI_add, zq_t9, zq_c9, zq_bz9, zq_bo9, zq_g, zq_cl, zq_leT, zq_leF, zq_ltT, zq_ltF, zq_eqT, zq_eqF, zq_em, zq_me, zq_pm, zq_mm, zq_gm, pk_sub, zI_s, zI_k, zI_c, zI_2, zL_s, zL_k, zL_c, zL_1, if_true, if_false, eq_self, Nat.zero_add, Nat.add_zero, this]
    · refine hfin (S.1 34 1) ?_ ?_
      · rw [fX12_count]
        simp (disch := omega) only [zq_l9, pk_mul, nI_add, zq_t9, zq_c9, zq_bz9, zq_bo9, zq_g, zq_cl, zq_leT, zq_leF, zq_ltT, zq_ltF, zq_eqT, zq_eqF, zq_em, zq_me, zq_pm, zq_mm, zq_gm, pk_sub, zI_s, zI_k, zI_c, zI_2, zL_s, zL_k, zL_c, zL_1, if_true, if_false, eq_self, Nat.zero_add, Nat.add_zero]
      · rw [fX13_count]
        simp (disch := omega) only [zq_l9, pk_mul, nI_add, zq_t9, zq_c9, zq_bz9, zq_bo9, zq_g, zq_cl, zq_leT, zq_leF, zq_ltT, zq_ltF, zq_eqT, zq_eqF, zq_em, zq_me, zq_pm, zq_mm, zq_gm, pk_sub, zI_s, zI_k, zI_c, zI_2, zL_s, zL_k, zL_c, zL_1, if_true, if_false, eq_self, Nat.zero_add, Nat.add_zero]
        rw [hd]
  · refine hfin (-nI 1) ?_ ?_
    · rw [fX12_count]
      rcases zn_cs v with hv' | ⟨j, hj, rfl⟩
      · simp (disch := omega) only [zq_l9, pk_mul, nI_add, zq_t9, zq_c9, zq_bz9, zq_bo9, zq_g, zq_cl, zq_leT, zq_leF, zq_ltT, zq_ltF, zq_eqT, zq_eqF, zq_em, zq_me, zq_pm, zq_mm, zq_gm, pk_sub, zI_s, zI_k, zI_c, zI_2, zL_s, zL_k, zL_c, zL_1, if_true, if_false, eq_self, Nat.zero_add, Nat.add_zero, zn_eq hv']
      · have : 8 < j := Nat.lt_of_not_le (fun w => q j (by omega) w rfl)
        simp (disch := omega) only [zq_l9, pk_mul, nI_add, zq_t9, zq_c9, zq_bz9, zq_bo9, zq_g, zq_cl, zq_leT, zq_leF, zq_ltT, zq_ltF, zq_eqT, zq_eqF, zq_em, zq_me, zq_pm, zq_mm, zq_gm, pk_sub, zI_s, zI_k, zI_c, zI_2, zL_s, zL_k, zL_c, zL_1, if_true, if_false, eq_self, Nat.zero_add, Nat.add_zero]
    · rw [fX13_count]
      rcases zn_cs v with hv' | ⟨j, hj, rfl⟩
      · simp (disch := omega) only [zq_l9, pk_mul, nI_add, zq_t9, zq_c9, zq_bz9, zq_bo9, zq_g, zq_cl, zq_leT, zq_leF, zq_ltT, zq_ltF, zq_eqT, zq_eqF, zq_em, zq_me, zq_pm, zq_mm, zq_gm, pk_sub, zI_s, zI_k, zI_c, zI_2, zL_s, zL_k, zL_c, zL_1, if_true, if_false, eq_self, Nat.zero_add, Nat.add_zero, zn_eq hv']
      · have : 8 < j := Nat.lt_of_not_le (fun w => q j (by omega) w rfl)
        simp (disch := omega) only [zq_l9, pk_mul, nI_add, zq_t9, zq_c9, zq_bz9, zq_bo9, zq_g, zq_cl, zq_leT, zq_leF, zq_ltT, zq_ltF, zq_eqT, zq_eqF, zq_em, zq_me, zq_pm, zq_mm, zq_gm, pk_sub, zI_s, zI_k, zI_c, zI_2, zL_s, zL_k, zL_c, zL_1, if_true, if_false, eq_self, Nat.zero_add, Nat.add_zero]
theorem zent_0 {T : zT} (hI : zInv T) {b : Nat} (hb : b < 40) (hk : T.1 0 b ≠ 1) : zent T b = 0 := by
  have : ∀ s, s ≤ 6 → zcnt (fun s => znz T (b * 6 + s)) s = 0 := by
    intro s
    induction s with
    | zero => intro _; rfl
    | succ s ih =>
      intro hs
      rw [zcnt_f (p := fun s => znz T (b * 6 + s)), ih (by omega)]
      refine znz_f (Classical.byContradiction fun q => hk ?_)
      have := (hI.2.2.1 (b * 6 + s) (by omega) q).2.2
      rw [show (b * 6 + s) / 6 = b by omega] at this
      exact this
  exact this 6 (by omega)
theorem zc_block {S M : sh_St} (h : zRR S M) (v w : Int32) : zCA ["java/lang/IndexOutOfBoundsException", "java/util/NoSuchElementException"] (fX12_block S v w) (fX13_block M v w) := by
  obtain ⟨T, B, L, h⟩ := h
  have hG := h.1
  have hI := hG.1
  have h0 : ∀ t, zR S (sh_I M 0 0 t) T B L := fun t => zR_q h (zFr_rf _ _ S) (zMQ_0 M _)
  rw [fX12_block, fX13_block]
  rcases zblk v 40 (by omega) with ⟨b, rfl, hb⟩ | q
  · have x1 := (zx_isBlock S (nI b)).1 b rfl hb
    have m1 := (zm_isBlock M (nI b)).1 b rfl hb
    have hm := (h0 (nI 0)).2.2.1
    have b1 := (hI.2.1 b hb).1
    rcases zrng w 0 2 with ⟨j, rfl, _, hj⟩ | q
    · have hin := zm_within' M (v := j) (lo := 0) (hi := 2) (by omega) (by omega) (by omega)
      rw [if_pos (by omega)] at hin
      have hc : j = 0 ∨ j = 1 ∨ j = 2 := by omega
      rcases hc with e | e | e <;> subst e
      · refine ⟨_, S, nI (T.1 0 b), sh_I M 0 0 (nI 0), ?_, ?_, Or.inl ⟨rfl, zI_s _ _ _ _⟩, T, B, L, h0 _⟩
        · simp (disch := omega) only [zq_l9, pk_mul, nI_add, zq_t9, zq_c9, zq_bz9, zq_bo9, zq_g, zq_cl, zq_leT, zq_leF, zq_ltT, zq_ltF, zq_eqT, zq_eqF, zq_em, zq_me, zq_pm, zq_mm, zq_gm, pk_sub, zI_s, zI_k, zI_c, zI_2, zL_s, zL_k, zL_c, zL_1, if_true, if_false, eq_self, Nat.zero_add, Nat.add_zero, x1, zX_k h.2.1 hb]
        · have := zM_k h.2.2.1 hb
          simp (disch := omega) only [zq_l9, pk_mul, nI_add, zq_t9, zq_c9, zq_bz9, zq_bo9, zq_g, zq_cl, zq_leT, zq_leF, zq_ltT, zq_ltF, zq_eqT, zq_eqF, zq_em, zq_me, zq_pm, zq_mm, zq_gm, pk_sub, zI_s, zI_k, zI_c, zI_2, zL_s, zL_k, zL_c, zL_1, if_true, if_false, eq_self, Nat.zero_add, Nat.add_zero, m1, hin, fX13_block_26, this]
      · by_cases c2 : T.1 0 b = 2
        · refine ⟨_, S, nI (T.1 1 b), sh_I M 0 0 (nI 0), ?_, ?_, Or.inl ⟨rfl, zI_s _ _ _ _⟩, T, B, L, h0 _⟩
          · simp (disch := omega) only [zq_l9, pk_mul, nI_add, zq_t9, zq_c9, zq_bz9, zq_bo9, zq_g, zq_cl, zq_leT, zq_leF, zq_ltT, zq_ltF, zq_eqT, zq_eqF, zq_em, zq_me, zq_pm, zq_mm, zq_gm, pk_sub, zI_s, zI_k, zI_c, zI_2, zL_s, zL_k, zL_c, zL_1, if_true, if_false, eq_self, Nat.zero_add, Nat.add_zero, x1, zX_k h.2.1 hb, c2, zX_c h.2.1 hb]
          · have := zM_k h.2.2.1 hb
            have t2 := zM_c h.2.2.1 hb
            simp (disch := omega) only [zq_l9, pk_mul, nI_add, zq_t9, zq_c9, zq_bz9, zq_bo9, zq_g, zq_cl, zq_leT, zq_leF, zq_ltT, zq_ltF, zq_eqT, zq_eqF, zq_em, zq_me, zq_pm, zq_mm, zq_gm, pk_sub, zI_s, zI_k, zI_c, zI_2, zL_s, zL_k, zL_c, zL_1, if_true, if_false, eq_self, Nat.zero_add, Nat.add_zero, m1, hin, fX13_block_26, this, c2, t2]
        · refine ⟨_, S, nI (zent T b), sh_I M 0 0 (nI 0), ?_, ?_, Or.inl ⟨rfl, zI_s _ _ _ _⟩, T, B, L, h0 _⟩
          · simp (disch := omega) only [zq_l9, pk_mul, nI_add, zq_t9, zq_c9, zq_bz9, zq_bo9, zq_g, zq_cl, zq_leT, zq_leF, zq_ltT, zq_ltF, zq_eqT, zq_eqF, zq_em, zq_me, zq_pm, zq_mm, zq_gm, pk_sub, zI_s, zI_k, zI_c, zI_2, zL_s, zL_k, zL_c, zL_1, if_true, if_false, eq_self, Nat.zero_add, Nat.add_zero, x1, zX_k h.2.1 hb, zx_ent h.2.1 hb]
          · have := zM_k h.2.2.1 hb
            by_cases c1 : T.1 0 b = 1
            · have t2 := zm_ent hm hI hb
              simp (disch := omega) only [zq_l9, pk_mul, nI_add, zq_t9, zq_c9, zq_bz9, zq_bo9, zq_g, zq_cl, zq_leT, zq_leF, zq_ltT, zq_ltF, zq_eqT, zq_eqF, zq_em, zq_me, zq_pm, zq_mm, zq_gm, pk_sub, zI_s, zI_k, zI_c, zI_2, zL_s, zL_k, zL_c, zL_1, if_true, if_false, eq_self, Nat.zero_add, Nat.add_zero, m1, hin, fX13_block_26, this, c1, t2]
            · rw [zent_0 hI hb c1]
              simp (disch := omega) only [zq_l9, pk_mul, nI_add, zq_t9, zq_c9, zq_bz9, zq_bo9, zq_g, zq_cl, zq_leT, zq_leF, zq_ltT, zq_ltF, zq_eqT, zq_eqF, zq_em, zq_me, zq_pm, zq_mm, zq_gm, pk_sub, zI_s, zI_k, zI_c, zI_2, zL_s, zL_k, zL_c, zL_1, if_true, if_false, eq_self, Nat.zero_add, Nat.add_zero, m1, hin, fX13_block_26, this]
      · refine ⟨_, S, nI (T.1 2 b), sh_I M 0 0 (nI 0), ?_, ?_, Or.inl ⟨rfl, zI_s _ _ _ _⟩, T, B, L, h0 _⟩
        · simp (disch := omega) only [zq_l9, pk_mul, nI_add, zq_t9, zq_c9, zq_bz9, zq_bo9, zq_g, zq_cl, zq_leT, zq_leF, zq_ltT, zq_ltF, zq_eqT, zq_eqF, zq_em, zq_me, zq_pm, zq_mm, zq_gm, pk_sub, zI_s, zI_k, zI_c, zI_2, zL_s, zL_k, zL_c, zL_1, if_true, if_false, eq_self, Nat.zero_add, Nat.add_zero, x1, zX_t h.2.1 hb]
        · have := zM_t h.2.2.1 hb
          simp (disch := omega) only [zq_l9, pk_mul, nI_add, zq_t9, zq_c9, zq_bz9, zq_bo9, zq_g, zq_cl, zq_leT, zq_leF, zq_ltT, zq_ltF, zq_eqT, zq_eqF, zq_em, zq_me, zq_pm, zq_mm, zq_gm, pk_sub, zI_s, zI_k, zI_c, zI_2, zL_s, zL_k, zL_c, zL_1, if_true, if_false, eq_self, Nat.zero_add, Nat.add_zero, m1, hin, fX13_block_26, this]
    · have hin : fX13_isIn M w (nI 0) (nI 2) = some (nI 0, M) := by
        rcases zn_cs w with hv | ⟨j, hj, rfl⟩
        · exact zn_isIn M hv (by omega)
        · have := zm_within' M (v := j) (lo := 0) (hi := 2) hj (by omega) (by omega)
          rw [if_neg (fun z => q j z.1 z.2 rfl)] at this
          exact this
      refine ⟨.inr "java/util/NoSuchElementException", S, nI 0, sh_I M 0 0 (nI 2), ?_, ?_, Or.inr ⟨1, _, rfl, rfl, zI_s _ _ _ _⟩, T, B, L, h0 _⟩
      · rcases zn_cs w with hv' | ⟨j, hj, rfl⟩
        · simp (disch := omega) only [zq_l9, pk_mul, nI_add, zq_t9, zq_c9, zq_bz9, zq_bo9, zq_g, zq_cl, zq_leT, zq_leF, zq_ltT, zq_ltF, zq_eqT, zq_eqF, zq_em, zq_me, zq_pm, zq_mm, zq_gm, pk_sub, zI_s, zI_k, zI_c, zI_2, zL_s, zL_k, zL_c, zL_1, if_true, if_false, eq_self, Nat.zero_add, Nat.add_zero, x1, zn_eq hv']
        · have : 2 < j := Nat.lt_of_not_le (fun z => q j (by omega) z rfl)
          simp (disch := omega) only [zq_l9, pk_mul, nI_add, zq_t9, zq_c9, zq_bz9, zq_bo9, zq_g, zq_cl, zq_leT, zq_leF, zq_ltT, zq_ltF, zq_eqT, zq_eqF, zq_em, zq_me, zq_pm, zq_mm, zq_gm, pk_sub, zI_s, zI_k, zI_c, zI_2, zL_s, zL_k, zL_c, zL_1, if_true, if_false, eq_self, Nat.zero_add, Nat.add_zero, x1]
      · simp (disch := omega) only [zq_l9, pk_mul, nI_add, zq_t9, zq_c9, zq_bz9, zq_bo9, zq_g, zq_cl, zq_leT, zq_leF, zq_ltT, zq_ltF, zq_eqT, zq_eqF, zq_em, zq_me, zq_pm, zq_mm, zq_gm, pk_sub, zI_s, zI_k, zI_c, zI_2, zL_s, zL_k, zL_c, zL_1, if_true, if_false, eq_self, Nat.zero_add, Nat.add_zero, m1, hin, fX13_block_26]
  · have x1 := (zx_isBlock S v).2 q
    have m1 := (zm_isBlock M v).2 q
    refine ⟨.inr "java/lang/IndexOutOfBoundsException", S, nI 0, sh_I M 0 0 (nI 1), ?_, ?_, Or.inr ⟨0, _, rfl, rfl, zI_s _ _ _ _⟩, T, B, L, h0 _⟩
    · simp (disch := omega) only [zq_l9, pk_mul, nI_add, zq_t9, zq_c9, zq_bz9, zq_bo9, zq_g, zq_cl, zq_leT, zq_leF, zq_ltT, zq_ltF, zq_eqT, zq_eqF, zq_em, zq_me, zq_pm, zq_mm, zq_gm, pk_sub, zI_s, zI_k, zI_c, zI_2, zL_s, zL_k, zL_c, zL_1, if_true, if_false, eq_self, Nat.zero_add, Nat.add_zero, x1]
    · simp (disch := omega) only [zq_l9, pk_mul, nI_add, zq_t9, zq_c9, zq_bz9, zq_bo9, zq_g, zq_cl, zq_leT, zq_leF, zq_ltT, zq_ltF, zq_eqT, zq_eqF, zq_em, zq_me, zq_pm, zq_mm, zq_gm, pk_sub, zI_s, zI_k, zI_c, zI_2, zL_s, zL_k, zL_c, zL_1, if_true, if_false, eq_self, Nat.zero_add, Nat.add_zero, m1, fX13_block_26]
theorem zc_row {S M : sh_St} (h : zRR S M) (v r w : Int32) : zCA ["java/lang/IndexOutOfBoundsException", "java/util/NoSuchElementException"] (fX12_row S v r w) (fX13_row M v r w) := by
  obtain ⟨T, B, L, h⟩ := h
  have hI := h.1.1
  have h0 : ∀ t, zR S (sh_I M 0 0 t) T B L := fun t => zR_q h (zFr_rf _ _ S) (zMQ_0 M _)
  have hbad : ∀ f g, f = some (.inr "java/lang/IndexOutOfBoundsException", S) → g = some (nI 0, sh_I M 0 0 (nI 1)) → zCA ["java/lang/IndexOutOfBoundsException", "java/util/NoSuchElementException"] f g := fun f g a b => ⟨_, _, _, _, a, b, Or.inr ⟨0, _, rfl, rfl, zI_s _ _ _ _⟩, T, B, L, h0 _⟩
  rw [fX12_row, fX13_row]
  rcases zblk v 40 (by omega) with ⟨b, rfl, hb⟩ | q
  · have x1 := (zx_isBlock S (nI b)).1 b rfl hb
    have m1 := (zm_isBlock M (nI b)).1 b rfl hb
    have b1 := (hI.2.1 b hb).1
    have b5 := zInv_c5 hI hb
    have mk := zM_k h.2.2.1 hb
    have mc := zM_c h.2.2.1 hb
    have xc := zX_c h.2.1 hb
    by_cases c2 : T.1 0 b = 2
    · have c1 : 1 ≤ T.1 1 b := (hI.2.1 b hb).2.2.2.2 c2
      rcases zblk r (T.1 1 b) (by omega) with ⟨k, rfl, hk⟩ | q
      · have hin := zm_within' M (v := k) (lo := 0) (hi := T.1 1 b - 1) (by omega) (by omega) (by omega)
        rw [if_pos (by omega)] at hin
        have xl := zX_l h.2.1 hb hk
        have xm := zX_m h.2.1 hb hk
        have xg := zX_g h.2.1 hb hk
        have ml := zM_l h.2.2.1 hb hk
        have mm := zM_m h.2.2.1 hb hk
        have mg := zM_g h.2.2.1 hb hk
        rcases zrng w 0 2 with ⟨j, rfl, _, hj⟩ | q
        · have hin2 := zm_within' M (v := j) (lo := 0) (hi := 2) (by omega) (by omega) (by omega)
          rw [if_pos (by omega)] at hin2
          have hc : j = 0 ∨ j = 1 ∨ j = 2 := by omega
          rcases hc with e | e | e <;> subst e
          · refine ⟨_, S, nI (T.1 4 (b * 6 + k)), sh_I M 0 0 (nI 0), ?_, ?_, Or.inl ⟨rfl, zI_s _ _ _ _⟩, T, B, L, h0 _⟩
            · simp (disch := omega) only [zq_l9, pk_mul, nI_add, zq_t9, zq_c9, zq_bz9, zq_bo9, zq_g, zq_cl, zq_leT, zq_leF, zq_ltT, zq_ltF, zq_eqT, zq_eqF, zq_em, zq_me, zq_pm, zq_mm, zq_gm, pk_sub, zI_s, zI_k, zI_c, zI_2, zL_s, zL_k, zL_c, zL_1, if_true, if_false, eq_self, Nat.zero_add, Nat.add_zero, x1, xc, xl]
            · simp (disch := omega) only [zq_l9, pk_mul, nI_add, zq_t9, zq_c9, zq_bz9, zq_bo9, zq_g, zq_cl, zq_leT, zq_leF, zq_ltT, zq_ltF, zq_eqT, zq_eqF, zq_em, zq_me, zq_pm, zq_mm, zq_gm, pk_sub, zI_s, zI_k, zI_c, zI_2, zL_s, zL_k, zL_c, zL_1, if_true, if_false, eq_self, Nat.zero_add, Nat.add_zero, m1, mk, c2, mc, hin, hin2, fX13_row_57, fX13_rowAt, ml]
          · refine ⟨_, S, nI (T.1 5 (b * 6 + k)), sh_I M 0 0 (nI 0), ?_, ?_, Or.inl ⟨rfl, zI_s _ _ _ _⟩, T, B, L, h0 _⟩
            · simp (disch := omega) only [zq_l9, pk_mul, nI_add, zq_t9, zq_c9, zq_bz9, zq_bo9, zq_g, zq_cl, zq_leT, zq_leF, zq_ltT, zq_ltF, zq_eqT, zq_eqF, zq_em, zq_me, zq_pm, zq_mm, zq_gm, pk_sub, zI_s, zI_k, zI_c, zI_2, zL_s, zL_k, zL_c, zL_1, if_true, if_false, eq_self, Nat.zero_add, Nat.add_zero, x1, xc, xm]
            · simp (disch := omega) only [zq_l9, pk_mul, nI_add, zq_t9, zq_c9, zq_bz9, zq_bo9, zq_g, zq_cl, zq_leT, zq_leF, zq_ltT, zq_ltF, zq_eqT, zq_eqF, zq_em, zq_me, zq_pm, zq_mm, zq_gm, pk_sub, zI_s, zI_k, zI_c, zI_2, zL_s, zL_k, zL_c, zL_1, if_true, if_false, eq_self, Nat.zero_add, Nat.add_zero, m1, mk, c2, mc, hin, hin2, fX13_row_57, fX13_rowAt, mm]
          · refine ⟨_, S, nI (T.1 6 (b * 6 + k)), sh_I M 0 0 (nI 0), ?_, ?_, Or.inl ⟨rfl, zI_s _ _ _ _⟩, T, B, L, h0 _⟩
            · simp (disch := omega) only [zq_l9, pk_mul, nI_add, zq_t9, zq_c9, zq_bz9, zq_bo9, zq_g, zq_cl, zq_leT, zq_leF, zq_ltT, zq_ltF, zq_eqT, zq_eqF, zq_em, zq_me, zq_pm, zq_mm, zq_gm, pk_sub, zI_s, zI_k, zI_c, zI_2, zL_s, zL_k, zL_c, zL_1, if_true, if_false, eq_self, Nat.zero_add, Nat.add_zero, x1, xc, xg]
            · simp (disch := omega) only [zq_l9, pk_mul, nI_add, zq_t9, zq_c9, zq_bz9, zq_bo9, zq_g, zq_cl, zq_leT, zq_leF, zq_ltT, zq_ltF, zq_eqT, zq_eqF, zq_em, zq_me, zq_pm, zq_mm, zq_gm, pk_sub, zI_s, zI_k, zI_c, zI_2, zL_s, zL_k, zL_c, zL_1, if_true, if_false, eq_self, Nat.zero_add, Nat.add_zero, m1, mk, c2, mc, hin, hin2, fX13_row_57, fX13_rowAt, mg]
        · have hin2 : fX13_isIn M w (nI 0) (nI 2) = some (nI 0, M) := by
            rcases zn_cs w with hv | ⟨j, hj, rfl⟩
            · exact zn_isIn M hv (by omega)
            · have := zm_within' M (v := j) (lo := 0) (hi := 2) hj (by omega) (by omega)
              rw [if_neg (fun z => q j z.1 z.2 rfl)] at this
              exact this
          refine ⟨.inr "java/util/NoSuchElementException", S, nI 0, sh_I M 0 0 (nI 2), ?_, ?_, Or.inr ⟨1, _, rfl, rfl, zI_s _ _ _ _⟩, T, B, L, h0 _⟩
          · rcases zn_cs w with hv' | ⟨j, hj, rfl⟩
            · simp (disch := omega) only [zq_l9, pk_mul, nI_add, zq_t9, zq_c9, zq_bz9, zq_bo9, zq_g, zq_cl, zq_leT, zq_leF, zq_ltT, zq_ltF, zq_eqT, zq_eqF, zq_em, zq_me, zq_pm, zq_mm, zq_gm, pk_sub, zI_s, zI_k, zI_c, zI_2, zL_s, zL_k, zL_c, zL_1, if_true, if_false, eq_self, Nat.zero_add, Nat.add_zero, x1, xc, zn_eq hv']
            · have : 2 < j := Nat.lt_of_not_le (fun z => q j (by omega) z rfl)
              simp (disch := omega) only [zq_l9, pk_mul, nI_add, zq_t9, zq_c9, zq_bz9, zq_bo9, zq_g, zq_cl, zq_leT, zq_leF, zq_ltT, zq_ltF, zq_eqT, zq_eqF, zq_em, zq_me, zq_pm, zq_mm, zq_gm, pk_sub, zI_s, zI_k, zI_c, zI_2, zL_s, zL_k, zL_c, zL_1, if_true, if_false, eq_self, Nat.zero_add, Nat.add_zero, x1, xc]
          · simp (disch := omega) only [zq_l9, pk_mul, nI_add, zq_t9, zq_c9, zq_bz9, zq_bo9, zq_g, zq_cl, zq_leT, zq_leF, zq_ltT, zq_ltF, zq_eqT, zq_eqF, zq_em, zq_me, zq_pm, zq_mm, zq_gm, pk_sub, zI_s, zI_k, zI_c, zI_2, zL_s, zL_k, zL_c, zL_1, if_true, if_false, eq_self, Nat.zero_add, Nat.add_zero, m1, mk, c2, mc, hin, hin2, fX13_row_57]
      · refine hbad _ _ ?_ ?_
        · rcases zn_cs r with hv' | ⟨j, hj, rfl⟩
          · simp (disch := omega) only [zq_l9, pk_mul, nI_add, zq_t9, zq_c9, zq_bz9, zq_bo9, zq_g, zq_cl, zq_leT, zq_leF, zq_ltT, zq_ltF, zq_eqT, zq_eqF, zq_em, zq_me, zq_pm, zq_mm, zq_gm, pk_sub, zI_s, zI_k, zI_c, zI_2, zL_s, zL_k, zL_c, zL_1, if_true, if_false, eq_self, Nat.zero_add, Nat.add_zero, x1, zn_lt hv', fX12_row_24]
          · have : T.1 1 b ≤ j := Nat.le_of_not_lt (fun z => q j z rfl)
            simp (disch := omega) only [zq_l9, pk_mul, nI_add, zq_t9, zq_c9, zq_bz9, zq_bo9, zq_g, zq_cl, zq_leT, zq_leF, zq_ltT, zq_ltF, zq_eqT, zq_eqF, zq_em, zq_me, zq_pm, zq_mm, zq_gm, pk_sub, zI_s, zI_k, zI_c, zI_2, zL_s, zL_k, zL_c, zL_1, if_true, if_false, eq_self, Nat.zero_add, Nat.add_zero, x1, xc, fX12_row_24]
        · have hin : fX13_isIn M r (nI 0) (nI (T.1 1 b - 1)) = some (nI 0, M) := by
            rcases zn_cs r with hv | ⟨j, hj, rfl⟩
            · exact zn_isIn M hv (by omega)
            · have := zm_within' M (v := j) (lo := 0) (hi := T.1 1 b - 1) hj (by omega) (by omega)
              rw [if_neg (fun z => q j (by omega) rfl)] at this
              exact this
          simp (disch := omega) only [zq_l9, pk_mul, nI_add, zq_t9, zq_c9, zq_bz9, zq_bo9, zq_g, zq_cl, zq_leT, zq_leF, zq_ltT, zq_ltF, zq_eqT, zq_eqF, zq_em, zq_me, zq_pm, zq_mm, zq_gm, pk_sub, zI_s, zI_k, zI_c, zI_2, zL_s, zL_k, zL_c, zL_1, if_true, if_false, eq_self, Nat.zero_add, Nat.add_zero, m1, mk, c2, mc, hin, fX13_row_39, fX13_row_57]
    · have c0 : T.1 1 b = 0 := ((hI.2.1 b hb).2.2.2.1 c2).1
      refine hbad _ _ ?_ ?_
      · rw [c0] at xc
        rcases zn_cs r with hv' | ⟨j, hj, rfl⟩
        · simp (disch := omega) only [zq_l9, pk_mul, nI_add, zq_t9, zq_c9, zq_bz9, zq_bo9, zq_g, zq_cl, zq_leT, zq_leF, zq_ltT, zq_ltF, zq_eqT, zq_eqF, zq_em, zq_me, zq_pm, zq_mm, zq_gm, pk_sub, zI_s, zI_k, zI_c, zI_2, zL_s, zL_k, zL_c, zL_1, if_true, if_false, eq_self, Nat.zero_add, Nat.add_zero, x1, zn_lt hv', fX12_row_24]
        · simp (disch := omega) only [zq_l9, pk_mul, nI_add, zq_t9, zq_c9, zq_bz9, zq_bo9, zq_g, zq_cl, zq_leT, zq_leF, zq_ltT, zq_ltF, zq_eqT, zq_eqF, zq_em, zq_me, zq_pm, zq_mm, zq_gm, pk_sub, zI_s, zI_k, zI_c, zI_2, zL_s, zL_k, zL_c, zL_1, if_true, if_false, eq_self, Nat.zero_add, Nat.add_zero, x1, xc, fX12_row_24]
      · simp (disch := omega) only [zq_l9, pk_mul, nI_add, zq_t9, zq_c9, zq_bz9, zq_bo9, zq_g, zq_cl, zq_leT, zq_leF, zq_ltT, zq_ltF, zq_eqT, zq_eqF, zq_em, zq_me, zq_pm, zq_mm, zq_gm, pk_sub, zI_s, zI_k, zI_c, zI_2, zL_s, zL_k, zL_c, zL_1, if_true, if_false, eq_self, Nat.zero_add, Nat.add_zero, m1, mk, fX13_row_39, fX13_row_57]
  · have x1 := (zx_isBlock S v).2 q
    have m1 := (zm_isBlock M v).2 q
    refine hbad _ _ ?_ ?_
    · simp (disch := omega) only [zq_l9, pk_mul, nI_add, zq_t9, zq_c9, zq_bz9, zq_bo9, zq_g, zq_cl, zq_leT, zq_leF, zq_ltT, zq_ltF, zq_eqT, zq_eqF, zq_em, zq_me, zq_pm, zq_mm, zq_gm, pk_sub, zI_s, zI_k, zI_c, zI_2, zL_s, zL_k, zL_c, zL_1, if_true, if_false, eq_self, Nat.zero_add, Nat.add_zero, x1, fX12_row_24]
    · simp (disch := omega) only [zq_l9, pk_mul, nI_add, zq_t9, zq_c9, zq_bz9, zq_bo9, zq_g, zq_cl, zq_leT, zq_leF, zq_ltT, zq_ltF, zq_eqT, zq_eqF, zq_em, zq_me, zq_pm, zq_mm, zq_gm, pk_sub, zI_s, zI_k, zI_c, zI_2, zL_s, zL_k, zL_c, zL_1, if_true, if_false, eq_self, Nat.zero_add, Nat.add_zero, m1, fX13_row_39, fX13_row_57]
