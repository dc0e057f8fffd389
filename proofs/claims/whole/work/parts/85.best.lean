/-! crowds, best -/
theorem zx_isKey (S : sh_St) (v : Int32) : (∀ j, v = nI j → j ≤ 65535 → fX12_isKey S v = some (nI 1, S)) ∧ ((∀ j, 0 ≤ j → j ≤ 65535 → v ≠ nI j) → fX12_isKey S v = some (nI 0, S)) := by
  rw [fX12_isKey]
  refine ⟨fun j e hj => ?_, fun q => ?_⟩
  · subst e
    simp (disch := omega) only [zq_l9, pk_mul, nI_add, zq_t9, zq_c9, zq_bz9, zq_bo9, zq_g, zq_cl, zq_leT, zq_leF, zq_ltT, zq_ltF, zq_eqT, zq_eqF, zq_em, zq_me, zq_pm, zq_mm, zq_gm, pk_sub, zI_s, zI_k, zI_c, zI_2, zL_s, zL_k, zL_c, zL_1, if_true, if_false, eq_self, Nat.zero_add, Nat.add_zero]
  · rcases zn_cs v with hv | ⟨j, hj, rfl⟩
    · simp (disch := omega) only [zq_l9, pk_mul, nI_add, zq_t9, zq_c9, zq_bz9, zq_bo9, zq_g, zq_cl, zq_leT, zq_leF, zq_ltT, zq_ltF, zq_eqT, zq_eqF, zq_em, zq_me, zq_pm, zq_mm, zq_gm, pk_sub, zI_s, zI_k, zI_c, zI_2, zL_s, zL_k, zL_c, zL_1, if_true, if_false, eq_self, Nat.zero_add, Nat.add_zero, zn_lt hv]
    · have : 65535 < j := Nat.lt_of_not_le (fun w => q j (Nat.zero_le j) w rfl)
      simp (disch := omega) only [zq_l9, pk_mul, nI_add, zq_t9, zq_c9, zq_bz9, zq_bo9, zq_g, zq_cl, zq_leT, zq_leF, zq_ltT, zq_ltF, zq_eqT, zq_eqF, zq_em, zq_me, zq_pm, zq_mm, zq_gm, pk_sub, zI_s, zI_k, zI_c, zI_2, zL_s, zL_k, zL_c, zL_1, if_true, if_false, eq_self, Nat.zero_add, Nat.add_zero]
theorem zm_isInR (M : sh_St) (v : Int32) {lo hi : Nat} (h1 : lo < 2 ^ 31) (h2 : hi < 2 ^ 31) : (∀ j, v = nI j → lo ≤ j → j ≤ hi → fX13_isIn M v (nI lo) (nI hi) = some (nI 1, M)) ∧ ((∀ j, lo ≤ j → j ≤ hi → v ≠ nI j) → fX13_isIn M v (nI lo) (nI hi) = some (nI 0, M)) := by
  refine ⟨fun j e a b => ?_, fun q => ?_⟩
  · subst e
    have h := zm_within' M (v := j) (lo := lo) (hi := hi) (by omega) h1 h2
    rw [if_pos ⟨a, b⟩] at h
    exact h
  · rcases zn_cs v with hv | ⟨j, hj, rfl⟩
    · exact zn_isIn M hv h1
    · have := zm_within' M (v := j) (lo := lo) (hi := hi) hj h1 h2
      rw [if_neg (fun w => q j w.1 w.2 rfl)] at this
      exact this
/-- both count a crowd -/
theorem zR_crowd {S M : sh_St} {T : zT} {B : Nat → Nat} {L : Nat} (h : zR S M T B L) {y : Nat} (hy : y < 65536) : ∃ r S' M', fX8_crowdBy S (nI y) = some (nI r, S') ∧ fX13_crowdBy M (nI y) = some (nI r, M') ∧ r ≤ 240 ∧ zR S' M' T B L ∧ M'.1 0 0 = M.1 0 0 := by
  obtain ⟨r, S', a1, a2, a3, a4, a5⟩ := zx_crowd h.2.1 h.1.1 h.2.2.2.2.2.2.2.2.2 hy
  obtain ⟨r', M', b1, b2, b3, b4⟩ := zm_crowd h.2.2.1 h.1.1 hy
  have e := zCm_uq a2 b2
  subst e
  exact ⟨r, S', M', a1, b1, a3, zR_t h (zFr_wd a5 (by omega) (by omega)) a4 (zMQ_m b4), b4.1 0 (by omega)⟩
theorem zc_crowds {S M : sh_St} (h : zRR S M) (v : Int32) : zCA ["java/lang/IllegalArgumentException"] (fX12_crowds S v) (fX13_crowds M v) := by
  obtain ⟨T, B, L, h⟩ := h
  rw [fX12_crowds, fX13_crowds]
  rcases zrng v 0 65535 with ⟨j, rfl, _, hj⟩ | q
  · have x1 := (zx_isKey S (nI j)).1 j rfl hj
    have m1 := (zm_isInR M (nI j) (lo := 0) (hi := 65535) (by omega) (by omega)).1 j rfl (by omega) hj
    have h0 : zR S (sh_I M 0 0 (nI 0)) T B L := zR_q h (zFr_rf _ _ S) (zMQ_0 M _)
    obtain ⟨r, S', M', a1, a2, a3, a4, a5⟩ := zR_crowd h0 (show j < 65536 by omega)
    refine ⟨.inl (nI r), S', nI r, M', ?_, ?_, Or.inl ⟨rfl, by rw [a5]; exact zI_s _ _ _ _⟩, T, B, L, a4⟩
    · simp (disch := omega) only [zq_l9, pk_mul, nI_add, zq_t9, zq_c9, zq_bz9, zq_bo9, zq_g, zq_cl, zq_leT, zq_leF, zq_ltT, zq_ltF, zq_eqT, zq_eqF, zq_em, zq_me, zq_pm, zq_mm, zq_gm, pk_sub, zI_s, zI_k, zI_c, zI_2, zL_s, zL_k, zL_c, zL_1, if_true, if_false, eq_self, Nat.zero_add, Nat.add_zero, x1, a1]
    · simp (disch := omega) only [zq_l9, pk_mul, nI_add, zq_t9, zq_c9, zq_bz9, zq_bo9, zq_g, zq_cl, zq_leT, zq_leF, zq_ltT, zq_ltF, zq_eqT, zq_eqF, zq_em, zq_me, zq_pm, zq_mm, zq_gm, pk_sub, zI_s, zI_k, zI_c, zI_2, zL_s, zL_k, zL_c, zL_1, if_true, if_false, eq_self, Nat.zero_add, Nat.add_zero, m1, fX13_crowds_16, a2]
  · have x1 := (zx_isKey S v).2 q
    have m1 := (zm_isInR M v (lo := 0) (hi := 65535) (by omega) (by omega)).2 q
    refine ⟨.inr "java/lang/IllegalArgumentException", S, nI 0, sh_I M 0 0 (nI 1), ?_, ?_, Or.inr ⟨0, _, rfl, rfl, zI_s _ _ _ _⟩, T, B, L, zR_q h (zFr_rf _ _ S) (zMQ_0 M _)⟩
    · simp (disch := omega) only [zq_l9, pk_mul, nI_add, zq_t9, zq_c9, zq_bz9, zq_bo9, zq_g, zq_cl, zq_leT, zq_leF, zq_ltT, zq_ltF, zq_eqT, zq_eqF, zq_em, zq_me, zq_pm, zq_mm, zq_gm, pk_sub, zI_s, zI_k, zI_c, zI_2, zL_s, zL_k, zL_c, zL_1, if_true, if_false, eq_self, Nat.zero_add, Nat.add_zero, x1]
    · simp (disch := omega) only [zq_l9, pk_mul, nI_add, zq_t9, zq_c9, zq_bz9, zq_bo9, zq_g, zq_cl, zq_leT, zq_leF, zq_ltT, zq_ltF, zq_eqT, zq_eqF, zq_em, zq_me, zq_pm, zq_mm, zq_gm, pk_sub, zI_s, zI_k, zI_c, zI_2, zL_s, zL_k, zL_c, zL_1, if_true, if_false, eq_self, Nat.zero_add, Nat.add_zero, m1, fX13_crowds_16]
theorem zbst {T : zT} {B : Nat → Nat} {L : Nat} {a c : Nat} (ha : a ≤ 65535) (hc : c ≤ 20) : ∀ (n m i b r : Nat) (S M : sh_St), zR S M T B L → i ≤ c → c - i < n → c - i < m → b ≤ 65535 → r ≤ 240 → ∃ b' S' M', fX8_leastCrowdedKey_12 n S (nI a) (nI c) (nI b) (nI r) (nI i) = some (nI b', S') ∧ fX13_best_46 m M (nI a) (nI c) (nI b) (nI r) (nI (a + i)) = some (nI b', M') ∧ zR S' M' T B L ∧ M'.1 0 0 = M.1 0 0 := by
  intro n
  induction n with
  | zero => intro m i b r S M h h1 h2; omega
  | succ n ih =>
    intro m i b r S M h h1 h2 h3 hb hr
    cases m with
    | zero => omega
    | succ m =>
      rw [fX8_leastCrowdedKey_12, fX13_best_46]
      by_cases d : i = c
      · subst d
        refine ⟨b, S, M, ?_, ?_, h, rfl⟩
        · simp (disch := omega) only [zq_l9, pk_mul, nI_add, zq_t9, zq_c9, zq_bz9, zq_bo9, zq_g, zq_cl, zq_leT, zq_leF, zq_ltT, zq_ltF, zq_eqT, zq_eqF, zq_em, zq_me, zq_pm, zq_mm, zq_gm, pk_sub, zI_s, zI_k, zI_c, zI_2, zL_s, zL_k, zL_c, zL_1, if_true, if_false, eq_self, Nat.zero_add, Nat.add_zero]
        · simp (disch := omega) only [zq_l9, pk_mul, nI_add, zq_t9, zq_c9, zq_bz9, zq_bo9, zq_g, zq_cl, zq_leT, zq_leF, zq_ltT, zq_ltF, zq_eqT, zq_eqF, zq_em, zq_me, zq_pm, zq_mm, zq_gm, pk_sub, zI_s, zI_k, zI_c, zI_2, zL_s, zL_k, zL_c, zL_1, if_true, if_false, eq_self, Nat.zero_add, Nat.add_zero]
      · by_cases g : 65535 < a + i
        · refine ⟨b, S, M, ?_, ?_, h, rfl⟩
          · simp (disch := omega) only [zq_l9, pk_mul, nI_add, zq_t9, zq_c9, zq_bz9, zq_bo9, zq_g, zq_cl, zq_leT, zq_leF, zq_ltT, zq_ltF, zq_eqT, zq_eqF, zq_em, zq_me, zq_pm, zq_mm, zq_gm, pk_sub, zI_s, zI_k, zI_c, zI_2, zL_s, zL_k, zL_c, zL_1, if_true, if_false, eq_self, Nat.zero_add, Nat.add_zero]
          · simp (disch := omega) only [zq_l9, pk_mul, nI_add, zq_t9, zq_c9, zq_bz9, zq_bo9, zq_g, zq_cl, zq_leT, zq_leF, zq_ltT, zq_ltF, zq_eqT, zq_eqF, zq_em, zq_me, zq_pm, zq_mm, zq_gm, pk_sub, zI_s, zI_k, zI_c, zI_2, zL_s, zL_k, zL_c, zL_1, if_true, if_false, eq_self, Nat.zero_add, Nat.add_zero]
        · obtain ⟨r2, S1, M1, a1, a2, a3, a4, a5⟩ := zR_crowd h (show a + i < 65536 by omega)
          by_cases w : r ≤ r2
          · obtain ⟨b', S', M', f1, f2, f3, f4⟩ := ih m (i + 1) b r S1 M1 a4 (by omega) (by omega) (by omega) hb hr
            refine ⟨b', S', M', ?_, ?_, f3, f4.trans a5⟩
            · simp (disch := omega) only [zq_l9, pk_mul, nI_add, zq_t9, zq_c9, zq_bz9, zq_bo9, zq_g, zq_cl, zq_leT, zq_leF, zq_ltT, zq_ltF, zq_eqT, zq_eqF, zq_em, zq_me, zq_pm, zq_mm, zq_gm, pk_sub, zI_s, zI_k, zI_c, zI_2, zL_s, zL_k, zL_c, zL_1, if_true, if_false, eq_self, Nat.zero_add, Nat.add_zero, a1, fX8_leastCrowdedKey_53]
              exact f1
            · simp (disch := omega) only [zq_l9, pk_mul, nI_add, zq_t9, zq_c9, zq_bz9, zq_bo9, zq_g, zq_cl, zq_leT, zq_leF, zq_ltT, zq_ltF, zq_eqT, zq_eqF, zq_em, zq_me, zq_pm, zq_mm, zq_gm, pk_sub, zI_s, zI_k, zI_c, zI_2, zL_s, zL_k, zL_c, zL_1, if_true, if_false, eq_self, Nat.zero_add, Nat.add_zero, a2, fX13_best_84, fX13_best_91]
              exact f2
          · obtain ⟨b', S', M', f1, f2, f3, f4⟩ := ih m (i + 1) (a + i) r2 S1 M1 a4 (by omega) (by omega) (by omega) (by omega) a3
            refine ⟨b', S', M', ?_, ?_, f3, f4.trans a5⟩
            · simp (disch := omega) only [zq_l9, pk_mul, nI_add, zq_t9, zq_c9, zq_bz9, zq_bo9, zq_g, zq_cl, zq_leT, zq_leF, zq_ltT, zq_ltF, zq_eqT, zq_eqF, zq_em, zq_me, zq_pm, zq_mm, zq_gm, pk_sub, zI_s, zI_k, zI_c, zI_2, zL_s, zL_k, zL_c, zL_1, if_true, if_false, eq_self, Nat.zero_add, Nat.add_zero, a1, fX8_leastCrowdedKey_53]
              exact f1
            · simp (disch := omega) only [zq_l9, pk_mul, nI_add, zq_t9, zq_c9, zq_bz9, zq_bo9, zq_g, zq_cl, zq_leT, zq_leF, zq_ltT, zq_ltF, zq_eqT, zq_eqF, zq_em, zq_me, zq_pm, zq_mm, zq_gm, pk_sub, zI_s, zI_k, zI_c, zI_2, zL_s, zL_k, zL_c, zL_1, if_true, if_false, eq_self, Nat.zero_add, Nat.add_zero, a2, fX13_best_84, fX13_best_91]
              exact f2
theorem zFU1 : ∃ f, sh_FU = f + 1 ∧ 99998 < f := ⟨99999, rfl, by omega⟩
theorem zc_best {S M : sh_St} (h : zRR S M) (v w : Int32) : zCA ["java/lang/IllegalArgumentException"] (fX12_best S v w) (fX13_best M v w) := by
  obtain ⟨T, B, L, h⟩ := h
  have hbad : fX12_best S v w = some (.inr "java/lang/IllegalArgumentException", S) → fX13_best M v w = some (nI 0, sh_I M 0 0 (nI 1)) → zCA ["java/lang/IllegalArgumentException"] (fX12_best S v w) (fX13_best M v w) := fun a b => ⟨_, S, nI 0, _, a, b, Or.inr ⟨0, _, rfl, rfl, zI_s _ _ _ _⟩, T, B, L, zR_q h (zFr_rf _ _ S) (zMQ_0 M _)⟩
  rcases zrng v 0 65535 with ⟨j, rfl, _, hj⟩ | q
  · have x1 := (zx_isKey S (nI j)).1 j rfl hj
    have m1 := (zm_isInR M (nI j) (lo := 0) (hi := 65535) (by omega) (by omega)).1 j rfl (by omega) hj
    rcases zrng w 1 20 with ⟨c, rfl, hc1, hc⟩ | q
    · have m2 := (zm_isInR M (nI c) (lo := 1) (hi := 20) (by omega) (by omega)).1 c rfl hc1 hc
      have h0 : zR S (sh_I M 0 0 (nI 0)) T B L := zR_q h (zFr_rf _ _ S) (zMQ_0 M _)
      obtain ⟨r, S1, M1, a1, a2, a3, a4, a5⟩ := zR_crowd h0 (show j < 65536 by omega)
      obtain ⟨f, hf, hf2⟩ := zFU1
      obtain ⟨b', S', M', f1, f2, f3, f4⟩ := zbst hj hc sh_FU f 1 j r S1 M1 a4 hc1 (zc_FU _ (by omega)) (by omega) hj a3
      refine ⟨.inl (nI b'), S', nI b', M', ?_, ?_, Or.inl ⟨rfl, by rw [f4, a5]; exact zI_s _ _ _ _⟩, T, B, L, f3⟩
      · rw [fX12_best]
        have e : fX8_leastCrowdedKey S (nI j) (nI c) = some (nI b', S') := by
          rw [fX8_leastCrowdedKey]
          simp (disch := omega) only [zq_l9, pk_mul, nI_add, zq_t9, zq_c9, zq_bz9, zq_bo9, zq_g, zq_cl, zq_leT, zq_leF, zq_ltT, zq_ltF, zq_eqT, zq_eqF, zq_em, zq_me, zq_pm, zq_mm, zq_gm, pk_sub, zI_s, zI_k, zI_c, zI_2, zL_s, zL_k, zL_c, zL_1, if_true, if_false, eq_self, Nat.zero_add, Nat.add_zero, a1]
          exact f1
        simp (disch := omega) only [zq_l9, pk_mul, nI_add, zq_t9, zq_c9, zq_bz9, zq_bo9, zq_g, zq_cl, zq_leT, zq_leF, zq_ltT, zq_ltF, zq_eqT, zq_eqF, zq_em, zq_me, zq_pm, zq_mm, zq_gm, pk_sub, zI_s, zI_k, zI_c, zI_2, zL_s, zL_k, zL_c, zL_1, if_true, if_false, eq_self, Nat.zero_add, Nat.add_zero, x1, e]
      · have e : fX13_best_46 sh_FU (sh_I M 0 0 (nI 0)) (nI j) (nI c) (-nI 1) (nI 0) (nI j) = some (nI b', M') := by
          rw [hf, fX13_best_46]
          simp (disch := omega) only [zq_l9, pk_mul, nI_add, zq_t9, zq_c9, zq_bz9, zq_bo9, zq_g, zq_cl, zq_leT, zq_leF, zq_ltT, zq_ltF, zq_eqT, zq_eqF, zq_em, zq_me, zq_pm, zq_mm, zq_gm, pk_sub, zI_s, zI_k, zI_c, zI_2, zL_s, zL_k, zL_c, zL_1, if_true, if_false, eq_self, Nat.zero_add, Nat.add_zero, a2, fX13_best_84, fX13_best_91]
          exact f2
        rw [fX13_best]
        simp (disch := omega) only [zq_l9, pk_mul, nI_add, zq_t9, zq_c9, zq_bz9, zq_bo9, zq_g, zq_cl, zq_leT, zq_leF, zq_ltT, zq_ltF, zq_eqT, zq_eqF, zq_em, zq_me, zq_pm, zq_mm, zq_gm, pk_sub, zI_s, zI_k, zI_c, zI_2, zL_s, zL_k, zL_c, zL_1, if_true, if_false, eq_self, Nat.zero_add, Nat.add_zero, m1, m2, fX13_best_26, e]
    · have m2 := (zm_isInR M w (lo := 1) (hi := 20) (by omega) (by omega)).2 q
      refine hbad ?_ ?_
      · rw [fX12_best]
        rcases zn_cs w with hv | ⟨i, hi, rfl⟩
        · simp (disch := omega) only [zq_l9, pk_mul, nI_add, zq_t9, zq_c9, zq_bz9, zq_bo9, zq_g, zq_cl, zq_leT, zq_leF, zq_ltT, zq_ltF, zq_eqT, zq_eqF, zq_em, zq_me, zq_pm, zq_mm, zq_gm, pk_sub, zI_s, zI_k, zI_c, zI_2, zL_s, zL_k, zL_c, zL_1, if_true, if_false, eq_self, Nat.zero_add, Nat.add_zero, x1, zn_lt hv, fX12_best_18]
        · by_cases d : i < 1
          · simp (disch := omega) only [zq_l9, pk_mul, nI_add, zq_t9, zq_c9, zq_bz9, zq_bo9, zq_g, zq_cl, zq_leT, zq_leF, zq_ltT, zq_ltF, zq_eqT, zq_eqF, zq_em, zq_me, zq_pm, zq_mm, zq_gm, pk_sub, zI_s, zI_k, zI_c, zI_2, zL_s, zL_k, zL_c, zL_1, if_true, if_false, eq_self, Nat.zero_add, Nat.add_zero, x1, fX12_best_18]
          · have : 20 < i := Nat.lt_of_not_le (fun z => q i (by omega) z rfl)
            simp (disch := omega) only [zq_l9, pk_mul, nI_add, zq_t9, zq_c9, zq_bz9, zq_bo9, zq_g, zq_cl, zq_leT, zq_leF, zq_ltT, zq_ltF, zq_eqT, zq_eqF, zq_em, zq_me, zq_pm, zq_mm, zq_gm, pk_sub, zI_s, zI_k, zI_c, zI_2, zL_s, zL_k, zL_c, zL_1, if_true, if_false, eq_self, Nat.zero_add, Nat.add_zero, x1, fX12_best_18]
      · rw [fX13_best]
        simp (disch := omega) only [zq_l9, pk_mul, nI_add, zq_t9, zq_c9, zq_bz9, zq_bo9, zq_g, zq_cl, zq_leT, zq_leF, zq_ltT, zq_ltF, zq_eqT, zq_eqF, zq_em, zq_me, zq_pm, zq_mm, zq_gm, pk_sub, zI_s, zI_k, zI_c, zI_2, zL_s, zL_k, zL_c, zL_1, if_true, if_false, eq_self, Nat.zero_add, Nat.add_zero, m1, m2, fX13_best_25, fX13_best_26]
  · have x1 := (zx_isKey S v).2 q
    have m1 := (zm_isInR M v (lo := 0) (hi := 65535) (by omega) (by omega)).2 q
    refine hbad ?_ ?_
    · rw [fX12_best]
      simp (disch := omega) only [zq_l9, pk_mul, nI_add, zq_t9, zq_c9, zq_bz9, zq_bo9, zq_g, zq_cl, zq_leT, zq_leF, zq_ltT, zq_ltF, zq_eqT, zq_eqF, zq_em, zq_me, zq_pm, zq_mm, zq_gm, pk_sub, zI_s, zI_k, zI_c, zI_2, zL_s, zL_k, zL_c, zL_1, if_true, if_false, eq_self, Nat.zero_add, Nat.add_zero, x1, fX12_best_18]
    · rw [fX13_best]
      simp (disch := omega) only [zq_l9, pk_mul, nI_add, zq_t9, zq_c9, zq_bz9, zq_bo9, zq_g, zq_cl, zq_leT, zq_leF, zq_ltT, zq_ltF, zq_eqT, zq_eqF, zq_em, zq_me, zq_pm, zq_mm, zq_gm, pk_sub, zI_s, zI_k, zI_c, zI_2, zL_s, zL_k, zL_c, zL_1, if_true, if_false, eq_self, Nat.zero_add, Nat.add_zero, m1, fX13_best_25, fX13_best_26]
