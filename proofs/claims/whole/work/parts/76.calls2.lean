/-! build, tune, tear -/
theorem zc_build {S M : sh_St} (h : zRR S M) : zCA ["java/lang/IllegalStateException"] (fX12_build S) (fX13_build M) := by
  obtain ⟨T, B, L, h⟩ := h
  rw [fX12_build, fX13_build]
  obtain ⟨M2, a1, a2, a3, a4, a5⟩ := zm_aside M
  obtain ⟨M3, o1, o2⟩ := zop_8 h.1 (zVN_as a4 a5 h.2.2.1) 0 0 0
  obtain ⟨y, S', M', T', c1, c2, c3, c4, c5⟩ := zR_call h (a := 8) (v := 0) ⟨by omega, fun w => by omega, fun w => by omega, fun w => by omega, fun w => by omega⟩ (n := 0) (m := 0) (fun w => by omega) (fun w => by omega) (zAs_of a2 a3 a4 a5) o2 1
  by_cases z : zref T 8 0 0 0 = 0
  · obtain ⟨d1, d2, d3, d4⟩ := c4 z
    subst d1
    rw [if_pos z] at c2
    have hk := zm_kin c3.2.2.1 c3.1.1 (g := 0) (by omega)
    have hkl : zkin T' 0 ≤ 40 := zcnt_le _ _
    have ez : zans T 8 0 0 0 = 40 - zkin T' 0 := by rw [d3]; rfl
    refine ⟨_, S', nI (zans T 8 0 0 0), M', ?_, ?_, Or.inl ⟨rfl, d2⟩, T', B, L, c3⟩
    · simp (disch := omega) only [zq_l9, pk_mul, nI_add, zq_t9, zq_c9, zq_bz9, zq_bo9, zq_g, zq_cl, zq_leT, zq_leF, zq_ltT, zq_ltF, zq_eqT, zq_eqF, zq_em, zq_me, zq_pm, zq_mm, zq_gm, pk_sub, zI_s, zI_k, zI_c, zI_2, zL_s, zL_k, zL_c, zL_1, if_true, if_false, eq_self, Nat.zero_add, Nat.add_zero, c1, zcx_l]
    · simp (disch := omega) only [zq_l9, pk_mul, nI_add, zq_t9, zq_c9, zq_bz9, zq_bo9, zq_g, zq_cl, zq_leT, zq_leF, zq_ltT, zq_ltF, zq_eqT, zq_eqF, zq_em, zq_me, zq_pm, zq_mm, zq_gm, pk_sub, zI_s, zI_k, zI_c, zI_2, zL_s, zL_k, zL_c, zL_1, if_true, if_false, eq_self, Nat.zero_add, Nat.add_zero, a1, o1, c2, hk, ez]
  · obtain ⟨d1, d2⟩ := c5 z
    subst d1
    rw [if_neg z] at c2
    refine ⟨_, S', nI 0, M', ?_, ?_, Or.inr ⟨0, _, rfl, rfl, d2⟩, T', B, L, c3⟩
    · simp (disch := omega) only [zq_l9, pk_mul, nI_add, zq_t9, zq_c9, zq_bz9, zq_bo9, zq_g, zq_cl, zq_leT, zq_leF, zq_ltT, zq_ltF, zq_eqT, zq_eqF, zq_em, zq_me, zq_pm, zq_mm, zq_gm, pk_sub, zI_s, zI_k, zI_c, zI_2, zL_s, zL_k, zL_c, zL_1, if_true, if_false, eq_self, Nat.zero_add, Nat.add_zero, c1, zcx_r]
    · simp (disch := omega) only [zq_l9, pk_mul, nI_add, zq_t9, zq_c9, zq_bz9, zq_bo9, zq_g, zq_cl, zq_leT, zq_leF, zq_ltT, zq_ltF, zq_eqT, zq_eqF, zq_em, zq_me, zq_pm, zq_mm, zq_gm, pk_sub, zI_s, zI_k, zI_c, zI_2, zL_s, zL_k, zL_c, zL_1, if_true, if_false, eq_self, Nat.zero_add, Nat.add_zero, a1, o1, c2]
theorem zx_isBlock (S : sh_St) (v : Int32) : (∀ b, v = nI b → b < 40 → fX12_isBlock S v = some (nI 1, S)) ∧ ((∀ b, b < 40 → v ≠ nI b) → fX12_isBlock S v = some (nI 0, S)) := by
  rw [fX12_isBlock]
  refine ⟨fun b e hb => ?_, fun q => ?_⟩
  · subst e
    simp (disch := omega) only [zq_l9, pk_mul, nI_add, zq_t9, zq_c9, zq_bz9, zq_bo9, zq_g, zq_cl, zq_leT, zq_leF, zq_ltT, zq_ltF, zq_eqT, zq_eqF, zq_em, zq_me, zq_pm, zq_mm, zq_gm, pk_sub, zI_s, zI_k, zI_c, zI_2, zL_s, zL_k, zL_c, zL_1, if_true, if_false, eq_self, Nat.zero_add, Nat.add_zero]
  · rcases zn_cs v with hv | ⟨j, hj, rfl⟩
    · simp (disch := omega) only [zq_l9, pk_mul, nI_add, zq_t9, zq_c9, zq_bz9, zq_bo9, zq_g, zq_cl, zq_leT, zq_leF, zq_ltT, zq_ltF, zq_eqT, zq_eqF, zq_em, zq_me, zq_pm, zq_mm, zq_gm, pk_sub, zI_s, zI_k, zI_c, zI_2, zL_s, zL_k, zL_c, zL_1, if_true, if_false, eq_self, Nat.zero_add, Nat.add_zero, zn_lt hv]
    · have : 40 ≤ j := Nat.le_of_not_lt (fun w => q j w rfl)
      simp (disch := omega) only [zq_l9, pk_mul, nI_add, zq_t9, zq_c9, zq_bz9, zq_bo9, zq_g, zq_cl, zq_leT, zq_leF, zq_ltT, zq_ltF, zq_eqT, zq_eqF, zq_em, zq_me, zq_pm, zq_mm, zq_gm, pk_sub, zI_s, zI_k, zI_c, zI_2, zL_s, zL_k, zL_c, zL_1, if_true, if_false, eq_self, Nat.zero_add, Nat.add_zero]
theorem zm_isBlock (S : sh_St) (v : Int32) : (∀ b, v = nI b → b < 40 → fX13_isBlock S v = some (nI 1, S)) ∧ ((∀ b, b < 40 → v ≠ nI b) → fX13_isBlock S v = some (nI 0, S)) := by
  rw [fX13_isBlock]
  refine ⟨fun b e hb => ?_, fun q => ?_⟩
  · subst e
    have h := zm_within' S (v := b) (lo := 0) (hi := 39) (by omega) (by omega) (by omega)
    rw [if_pos (by omega)] at h
    simp (disch := omega) only [zq_l9, pk_mul, nI_add, zq_t9, zq_c9, zq_bz9, zq_bo9, zq_g, zq_cl, zq_leT, zq_leF, zq_ltT, zq_ltF, zq_eqT, zq_eqF, zq_em, zq_me, zq_pm, zq_mm, zq_gm, pk_sub, zI_s, zI_k, zI_c, zI_2, zL_s, zL_k, zL_c, zL_1, if_true, if_false, eq_self, Nat.zero_add, Nat.add_zero, h]
  · rcases zn_cs v with hv | ⟨j, hj, rfl⟩
    · have h := zn_isIn S hv (lo := 0) (hi := 39) (by omega)
      simp (disch := omega) only [zq_l9, pk_mul, nI_add, zq_t9, zq_c9, zq_bz9, zq_bo9, zq_g, zq_cl, zq_leT, zq_leF, zq_ltT, zq_ltF, zq_eqT, zq_eqF, zq_em, zq_me, zq_pm, zq_mm, zq_gm, pk_sub, zI_s, zI_k, zI_c, zI_2, zL_s, zL_k, zL_c, zL_1, if_true, if_false, eq_self, Nat.zero_add, Nat.add_zero, h]
    · have hj4 : 40 ≤ j := Nat.le_of_not_lt (fun w => q j w rfl)
      have h := zm_within' S (v := j) (lo := 0) (hi := 39) hj (by omega) (by omega)
      rw [if_neg (by omega)] at h
      simp (disch := omega) only [zq_l9, pk_mul, nI_add, zq_t9, zq_c9, zq_bz9, zq_bo9, zq_g, zq_cl, zq_leT, zq_leF, zq_ltT, zq_ltF, zq_eqT, zq_eqF, zq_em, zq_me, zq_pm, zq_mm, zq_gm, pk_sub, zI_s, zI_k, zI_c, zI_2, zL_s, zL_k, zL_c, zL_1, if_true, if_false, eq_self, Nat.zero_add, Nat.add_zero, h]
theorem zblk (v : Int32) (n : Nat) (hn : n < 2 ^ 31) : (∃ b, v = nI b ∧ b < n) ∨ ∀ b, b < n → v ≠ nI b := by
  by_cases c : ∃ b, v = nI b ∧ b < n
  · exact Or.inl c
  · exact Or.inr (fun b hb e => c ⟨b, e, hb⟩)
theorem zc_tear {S M : sh_St} (h : zRR S M) (v : Int32) : zCA ["java/lang/IndexOutOfBoundsException", "java/lang/IllegalStateException"] (fX12_tear S v) (fX13_tear M v) := by
  obtain ⟨T, B, L, h⟩ := h
  rw [fX12_tear, fX13_tear]
  rcases zblk v 40 (by omega) with ⟨b, rfl, hb⟩ | q
  · have x1 := (zx_isBlock S (nI b)).1 b rfl hb
    have m1 := (zm_isBlock M (nI b)).1 b rfl hb
    have h0 : zR S (sh_I M 0 0 (nI 0)) T B L := zR_q h (zFr_rf _ _ S) (zMQ_0 M _)
    obtain ⟨M2, a1, a2, a3, a4, a5⟩ := zm_aside (sh_I M 0 0 (nI 0))
    obtain ⟨M3, o1, o2⟩ := zop_7 h0.1 (zVN_as a4 a5 h0.2.2.1) 0 0 hb
    obtain ⟨y, S', M', T', c1, c2, c3, c4, c5⟩ := zR_call h0 (a := 7) (v := b) ⟨by omega, fun w => by omega, fun w => by omega, fun w => by omega, fun _ => hb⟩ (n := 0) (m := 0) (fun w => by omega) (fun w => by omega) (zAs_of a2 a3 a4 a5) o2 2
    by_cases z : zref T 7 0 0 b = 0
    · obtain ⟨d1, d2, d3, d4⟩ := c4 z
      subst d1
      rw [if_pos z] at c2
      have hk := zm_tor c3.2.2.1 c3.1.1
      have ez : zans T 7 0 0 b = ztor T' := by rw [d3]; rfl
      refine ⟨_, S', nI (zans T 7 0 0 b), M', ?_, ?_, Or.inl ⟨rfl, d2⟩, T', B, L, c3⟩
      · simp (disch := omega) only [zq_l9, pk_mul, nI_add, zq_t9, zq_c9, zq_bz9, zq_bo9, zq_g, zq_cl, zq_leT, zq_leF, zq_ltT, zq_ltF, zq_eqT, zq_eqF, zq_em, zq_me, zq_pm, zq_mm, zq_gm, pk_sub, zI_s, zI_k, zI_c, zI_2, zL_s, zL_k, zL_c, zL_1, if_true, if_false, eq_self, Nat.zero_add, Nat.add_zero, x1, c1, zcx_l]
      · simp (disch := omega) only [zq_l9, pk_mul, nI_add, zq_t9, zq_c9, zq_bz9, zq_bo9, zq_g, zq_cl, zq_leT, zq_leF, zq_ltT, zq_ltF, zq_eqT, zq_eqF, zq_em, zq_me, zq_pm, zq_mm, zq_gm, pk_sub, zI_s, zI_k, zI_c, zI_2, zL_s, zL_k, zL_c, zL_1, if_true, if_false, eq_self, Nat.zero_add, Nat.add_zero, m1, fX13_tear_13, a1, o1, c2, hk, ez]
    · obtain ⟨d1, d2⟩ := c5 z
      subst d1
      rw [if_neg z] at c2
      refine ⟨_, S', nI 0, M', ?_, ?_, Or.inr ⟨1, _, rfl, rfl, d2⟩, T', B, L, c3⟩
      · simp (disch := omega) only [zq_l9, pk_mul, nI_add, zq_t9, zq_c9, zq_bz9, zq_bo9, zq_g, zq_cl, zq_leT, zq_leF, zq_ltT, zq_ltF, zq_eqT, zq_eqF, zq_em, zq_me, zq_pm, zq_mm, zq_gm, pk_sub, zI_s, zI_k, zI_c, zI_2, zL_s, zL_k, zL_c, zL_1, if_true, if_false, eq_self, Nat.zero_add, Nat.add_zero, x1, c1, zcx_r]
      · simp (disch := omega) only [zq_l9, pk_mul, nI_add, zq_t9, zq_c9, zq_bz9, zq_bo9, zq_g, zq_cl, zq_leT, zq_leF, zq_ltT, zq_ltF, zq_eqT, zq_eqF, zq_em, zq_me, zq_pm, zq_mm, zq_gm, pk_sub, zI_s, zI_k, zI_c, zI_2, zL_s, zL_k, zL_c, zL_1, if_true, if_false, eq_self, Nat.zero_add, Nat.add_zero, m1, fX13_tear_13, a1, o1, c2]
  · have x1 := (zx_isBlock S v).2 q
    have m1 := (zm_isBlock M v).2 q
    refine ⟨.inr "java/lang/IndexOutOfBoundsException", S, nI 0, sh_I M 0 0 (nI 1), ?_, ?_, Or.inr ⟨0, _, rfl, rfl, zI_s _ _ _ _⟩, T, B, L, zR_q h (zFr_rf _ _ S) (zMQ_0 M _)⟩
    · simp (disch := omega) only [zq_l9, pk_mul, nI_add, zq_t9, zq_c9, zq_bz9, zq_bo9, zq_g, zq_cl, zq_leT, zq_leF, zq_ltT, zq_ltF, zq_eqT, zq_eqF, zq_em, zq_me, zq_pm, zq_mm, zq_gm, pk_sub, zI_s, zI_k, zI_c, zI_2, zL_s, zL_k, zL_c, zL_1, if_true, if_false, eq_self, Nat.zero_add, Nat.add_zero, x1]
    · simp (disch := omega) only [zq_l9, pk_mul, nI_add, zq_t9, zq_c9, zq_bz9, zq_bo9, zq_g, zq_cl, zq_leT, zq_leF, zq_ltT, zq_ltF, zq_eqT, zq_eqF, zq_em, zq_me, zq_pm, zq_mm, zq_gm, pk_sub, zI_s, zI_k, zI_c, zI_2, zL_s, zL_k, zL_c, zL_1, if_true, if_false, eq_self, Nat.zero_add, Nat.add_zero, m1, fX13_tear_13]
/-- one of bits, key, fold is told a number that it may have -/
theorem zc_tune1 {S M : sh_St} {T : zT} {B : Nat → Nat} {L : Nat} (h : zR S M T B L) {a v : Nat} (ha : 3 ≤ a ∧ a ≤ 6) (hr : zrg a v) : ∃ x S' r M', fX12_tune_112 S (nI v) (nI a) = some (x, S') ∧ fX13_tune_71 M (nI (zwa a)) (nI (zwv a v)) (nI 0) = some (r, M') ∧ zEx ["java/util/NoSuchElementException", "java/lang/IllegalArgumentException", "java/lang/IllegalStateException"] x r (M'.1 0 0) ∧ zRR S' M' := by
  rw [fX12_tune_112, fX13_tune_71]
  have h0 : zR S (sh_I M 0 0 (nI 0)) T B L := zR_q h (zFr_rf _ _ S) (zMQ_0 M _)
  obtain ⟨M2, a1, a2, a3, a4, a5⟩ := zm_aside (sh_I M 0 0 (nI 0))
  have hv2 := zVN_as a4 a5 h0.2.2.1
  obtain ⟨M3, o1, o2⟩ := zop_t h0.1 hv2 0 0 ha hr
  obtain ⟨y, S', M', T', c1, c2, c3, c4, c5⟩ := zR_call h0 hr (n := 0) (m := 0) (fun w => by omega) (fun w => by omega) (zAs_of a2 a3 a4 a5) o2 3
  have hw2 : zwa a ≤ 2 := by unfold zwa; (repeat' split) <;> omega
  have hwas : M2.1 1 (1081 + zwa a) = nI (zans T a 0 0 v) := by
    have hc : a = 3 ∨ a = 4 ∨ a = 5 ∨ a = 6 := by omega
    rcases hc with e | e | e | e <;> subst e
    · exact zM_b hv2
    · exact zM_y hv2
    · exact zM_f hv2
    · exact zM_f hv2
  generalize zwa a = wa at *
  generalize zwv a v = wv at *
  by_cases z : zref T a 0 0 v = 0
  · obtain ⟨d1, d2, d3, d4⟩ := c4 z
    subst d1
    rw [if_pos z] at c2
    refine ⟨_, S', nI (zans T a 0 0 v), M', ?_, ?_, Or.inl ⟨rfl, d2⟩, T', B, L, c3⟩
    · simp (disch := omega) only [zq_l9, pk_mul, nI_add, zq_t9, zq_c9, zq_bz9, zq_bo9, zq_g, zq_cl, zq_leT, zq_leF, zq_ltT, zq_ltF, zq_eqT, zq_eqF, zq_em, zq_me, zq_pm, zq_mm, zq_gm, pk_sub, zI_s, zI_k, zI_c, zI_2, zL_s, zL_k, zL_c, zL_1, if_true, if_false, eq_self, Nat.zero_add, Nat.add_zero, c1, zcx_l]
    · simp (disch := omega) only [zq_l9, pk_mul, nI_add, zq_t9, zq_c9, zq_bz9, zq_bo9, zq_g, zq_cl, zq_leT, zq_leF, zq_ltT, zq_ltF, zq_eqT, zq_eqF, zq_em, zq_me, zq_pm, zq_mm, zq_gm, pk_sub, zI_s, zI_k, zI_c, zI_2, zL_s, zL_k, zL_c, zL_1, if_true, if_false, eq_self, Nat.zero_add, Nat.add_zero, a1, hwas, o1, c2]
  · obtain ⟨d1, d2⟩ := c5 z
    subst d1
    rw [if_neg z] at c2
    refine ⟨_, S', nI 0, M', ?_, ?_, Or.inr ⟨2, _, rfl, rfl, d2⟩, T', B, L, c3⟩
    · simp (disch := omega) only [zq_l9, pk_mul, nI_add, zq_t9, zq_c9, zq_bz9, zq_bo9, zq_g, zq_cl, zq_leT, zq_leF, zq_ltT, zq_ltF, zq_eqT, zq_eqF, zq_em, zq_me, zq_pm, zq_mm, zq_gm, pk_sub, zI_s, zI_k, zI_c, zI_2, zL_s, zL_k, zL_c, zL_1, if_true, if_false, eq_self, Nat.zero_add, Nat.add_zero, c1, zcx_r]
    · simp (disch := omega) only [zq_l9, pk_mul, nI_add, zq_t9, zq_c9, zq_bz9, zq_bo9, zq_g, zq_cl, zq_leT, zq_leF, zq_ltT, zq_ltF, zq_eqT, zq_eqF, zq_em, zq_me, zq_pm, zq_mm, zq_gm, pk_sub, zI_s, zI_k, zI_c, zI_2, zL_s, zL_k, zL_c, zL_1, if_true, if_false, eq_self, Nat.zero_add, Nat.add_zero, a1, hwas, o1, c2]
theorem zx_tune78 {S : sh_St} {a : Nat} (ha : a < 9) (v : Int32) : (zhn a = false → fX12_tune_78 S v (nI a) = fX12_tune_112 S v (nI a)) ∧ (zhn a = true → (∀ j, v = nI j → zlo a ≤ j → j ≤ zhi a → fX12_tune_78 S v (nI a) = fX12_tune_112 S v (nI a)) ∧ ((∀ j, zlo a ≤ j → j ≤ zhi a → v ≠ nI j) → fX12_tune_78 S v (nI a) = some (.inr "java/lang/IllegalArgumentException", S))) := by
  have htn := zx_takesN S ha
  have hlo := zt_lo' a ha
  have hhi := zt_hi' a ha
  have l1 := zlo_lt a
  have l2 := zhi_lt a
  rw [fX12_tune_78]
  refine ⟨fun c => ?_, fun c => ⟨fun j e j1 j2 => ?_, fun q => ?_⟩⟩
  · rw [c, if_neg (by decide)] at htn
    simp (disch := omega) only [zq_l9, pk_mul, nI_add, zq_t9, zq_c9, zq_bz9, zq_bo9, zq_g, zq_cl, zq_leT, zq_leF, zq_ltT, zq_ltF, zq_eqT, zq_eqF, zq_em, zq_me, zq_pm, zq_mm, zq_gm, pk_sub, zI_s, zI_k, zI_c, zI_2, zL_s, zL_k, zL_c, zL_1, if_true, if_false, eq_self, Nat.zero_add, Nat.add_zero, htn]
  · rw [if_pos c] at htn hhi
    subst e
    simp (disch := omega) only [zq_l9, pk_mul, nI_add, zq_t9, zq_c9, zq_bz9, zq_bo9, zq_g, zq_cl, zq_leT, zq_leF, zq_ltT, zq_ltF, zq_eqT, zq_eqF, zq_em, zq_me, zq_pm, zq_mm, zq_gm, pk_sub, zI_s, zI_k, zI_c, zI_2, zL_s, zL_k, zL_c, zL_1, if_true, if_false, eq_self, Nat.zero_add, Nat.add_zero, htn, hlo, hhi]
  · rw [if_pos c] at htn hhi
    rcases zn_cs v with hv | ⟨j, hj, rfl⟩
    · simp (disch := omega) only [zq_l9, pk_mul, nI_add, zq_t9, zq_c9, zq_bz9, zq_bo9, zq_g, zq_cl, zq_leT, zq_leF, zq_ltT, zq_ltF, zq_eqT, zq_eqF, zq_em, zq_me, zq_pm, zq_mm, zq_gm, pk_sub, zI_s, zI_k, zI_c, zI_2, zL_s, zL_k, zL_c, zL_1, if_true, if_false, eq_self, Nat.zero_add, Nat.add_zero, htn, hlo, hhi, zn_lt hv, fX12_tune_102]
    · by_cases d : j < zlo a
      · simp (disch := omega) only [zq_l9, pk_mul, nI_add, zq_t9, zq_c9, zq_bz9, zq_bo9, zq_g, zq_cl, zq_leT, zq_leF, zq_ltT, zq_ltF, zq_eqT, zq_eqF, zq_em, zq_me, zq_pm, zq_mm, zq_gm, pk_sub, zI_s, zI_k, zI_c, zI_2, zL_s, zL_k, zL_c, zL_1, if_true, if_false, eq_self, Nat.zero_add, Nat.add_zero, htn, hlo, hhi, fX12_tune_102]
      · have : zhi a < j := Nat.lt_of_not_le (fun w => q j (by omega) w rfl)
        simp (disch := omega) only [zq_l9, pk_mul, nI_add, zq_t9, zq_c9, zq_bz9, zq_bo9, zq_g, zq_cl, zq_leT, zq_leF, zq_ltT, zq_ltF, zq_eqT, zq_eqF, zq_em, zq_me, zq_pm, zq_mm, zq_gm, pk_sub, zI_s, zI_k, zI_c, zI_2, zL_s, zL_k, zL_c, zL_1, if_true, if_false, eq_self, Nat.zero_add, Nat.add_zero, htn, hlo, hhi, fX12_tune_102]
/-- the reference's check of the number -/
theorem zm_tune59 {M : sh_St} {lo hi : Nat} (hlo : lo < 100000) (hhi : hi < 100000) (w v : Int32) : (∀ j, v = nI j → lo ≤ j → j ≤ hi → fX13_tune_59 M w v (nI hi) (nI lo) v = fX13_tune_71 M w v (nI 0)) ∧ ((∀ j, lo ≤ j → j ≤ hi → v ≠ nI j) → fX13_tune_59 M w v (nI hi) (nI lo) v = some (nI 0, sh_I M 0 0 (nI 2))) := by
  rw [fX13_tune_59]
  refine ⟨fun j e j1 j2 => ?_, fun q => ?_⟩
  · subst e
    have h := zm_within' M (v := j) (lo := lo) (hi := hi) (by omega) (by omega) (by omega)
    rw [if_pos (by omega)] at h
    simp (disch := omega) only [zq_l9, pk_mul, nI_add, zq_t9, zq_c9, zq_bz9, zq_bo9, zq_g, zq_cl, zq_leT, zq_leF, zq_ltT, zq_ltF, zq_eqT, zq_eqF, zq_em, zq_me, zq_pm, zq_mm, zq_gm, pk_sub, zI_s, zI_k, zI_c, zI_2, zL_s, zL_k, zL_c, zL_1, if_true, if_false, eq_self, Nat.zero_add, Nat.add_zero, h]
  · have h : fX13_isIn M v (nI lo) (nI hi) = some (nI 0, M) := by
      rcases zn_cs v with hv | ⟨j, hj, rfl⟩
      · exact zn_isIn M hv (by omega)
      · have := zm_within' M (v := j) (lo := lo) (hi := hi) hj (by omega) (by omega)
        rw [if_neg (fun w => q j w.1 w.2 rfl)] at this
        exact this
    simp (disch := omega) only [zq_l9, pk_mul, nI_add, zq_t9, zq_c9, zq_bz9, zq_bo9, zq_g, zq_cl, zq_leT, zq_leF, zq_ltT, zq_ltF, zq_eqT, zq_eqF, zq_em, zq_me, zq_pm, zq_mm, zq_gm, pk_sub, zI_s, zI_k, zI_c, zI_2, zL_s, zL_k, zL_c, zL_1, if_true, if_false, eq_self, Nat.zero_add, Nat.add_zero, h, fX13_tune_71]
theorem zrng (v : Int32) (lo hi : Nat) : (∃ j, v = nI j ∧ lo ≤ j ∧ j ≤ hi) ∨ ∀ j, lo ≤ j → j ≤ hi → v ≠ nI j := by
  by_cases c : ∃ j, v = nI j ∧ lo ≤ j ∧ j ≤ hi
  · exact Or.inl c
  · exact Or.inr (fun j a b e => c ⟨j, e, a, b⟩)
theorem zc_tune {S M : sh_St} (h : zRR S M) (w v : Int32) : zCA ["java/util/NoSuchElementException", "java/lang/IllegalArgumentException", "java/lang/IllegalStateException"] (fX12_tune S w v) (fX13_tune M w v) := by
  obtain ⟨T, B, L, h⟩ := h
  have h0 : zR S (sh_I M 0 0 (nI 0)) T B L := zR_q h (zFr_rf _ _ S) (zMQ_0 M _)
  have h2 : zR S (sh_I (sh_I M 0 0 (nI 0)) 0 0 (nI 2)) T B L := zR_q h0 (zFr_rf _ _ S) (zMQ_0 _ _)
  have hbad2 : zEx ["java/util/NoSuchElementException", "java/lang/IllegalArgumentException", "java/lang/IllegalStateException"] (.inr "java/lang/IllegalArgumentException") (nI 0) ((sh_I (sh_I M 0 0 (nI 0)) 0 0 (nI 2)).1 0 0) := Or.inr ⟨1, _, rfl, rfl, zI_s _ _ _ _⟩
  rcases zrng w 0 2 with ⟨k, rfl, _, hk⟩ | q
  · have hin := zm_within' M (v := k) (lo := 0) (hi := 2) (by omega) (by omega) (by omega)
    rw [if_pos (by omega)] at hin
    have hc : k = 0 ∨ k = 1 ∨ k = 2 := by omega
    rcases hc with e | e | e <;> subst e
    · have ef : fX12_tune S (nI 0) v = fX12_tune_78 S v (nI 3) := by
        rw [fX12_tune]
        simp (disch := omega) only [zq_l9, pk_mul, nI_add, zq_t9, zq_c9, zq_bz9, zq_bo9, zq_g, zq_cl, zq_leT, zq_leF, zq_ltT, zq_ltF, zq_eqT, zq_eqF, zq_em, zq_me, zq_pm, zq_mm, zq_gm, pk_sub, zI_s, zI_k, zI_c, zI_2, zL_s, zL_k, zL_c, zL_1, if_true, if_false, eq_self, Nat.zero_add, Nat.add_zero, fX12_tune_43]
      have eg : fX13_tune M (nI 0) v = fX13_tune_59 (sh_I M 0 0 (nI 0)) (nI 0) v (nI 12) (nI 1) v := by
        rw [fX13_tune]
        simp (disch := omega) only [zq_l9, pk_mul, nI_add, zq_t9, zq_c9, zq_bz9, zq_bo9, zq_g, zq_cl, zq_leT, zq_leF, zq_ltT, zq_ltF, zq_eqT, zq_eqF, zq_em, zq_me, zq_pm, zq_mm, zq_gm, pk_sub, zI_s, zI_k, zI_c, zI_2, zL_s, zL_k, zL_c, zL_1, if_true, if_false, eq_self, Nat.zero_add, Nat.add_zero, hin, fX13_tune_15, fX13_tune_47]
      rw [ef, eg]
      obtain ⟨x1, x2⟩ := (zx_tune78 (S := S) (a := 3) (by omega) v).2 rfl
      obtain ⟨y1, y2⟩ := zm_tune59 (M := sh_I M 0 0 (nI 0)) (lo := 1) (hi := 12) (by omega) (by omega) (nI 0) v
      rcases zrng v 1 12 with ⟨j, rfl, j1, j2⟩ | q
      · rw [x1 j rfl j1 j2, y1 j rfl j1 j2]
        exact zc_tune1 h0 (a := 3) (v := j) (by omega) ⟨by omega, fun w => by omega, fun _ => ⟨j1, j2⟩, fun w => by omega, fun w => by omega⟩
      · rw [x2 q, y2 q]
        exact ⟨_, S, _, _, rfl, rfl, hbad2, T, B, L, h2⟩
    · have ef : fX12_tune S (nI 1) v = fX12_tune_78 S v (nI 4) := by
        rw [fX12_tune]
        simp (disch := omega) only [zq_l9, pk_mul, nI_add, zq_t9, zq_c9, zq_bz9, zq_bo9, zq_g, zq_cl, zq_leT, zq_leF, zq_ltT, zq_ltF, zq_eqT, zq_eqF, zq_em, zq_me, zq_pm, zq_mm, zq_gm, pk_sub, zI_s, zI_k, zI_c, zI_2, zL_s, zL_k, zL_c, zL_1, if_true, if_false, eq_self, Nat.zero_add, Nat.add_zero, fX12_tune_43]
      have eg : fX13_tune M (nI 1) v = fX13_tune_59 (sh_I M 0 0 (nI 0)) (nI 1) v (nI 65535) (nI 0) v := by
        rw [fX13_tune]
        simp (disch := omega) only [zq_l9, pk_mul, nI_add, zq_t9, zq_c9, zq_bz9, zq_bo9, zq_g, zq_cl, zq_leT, zq_leF, zq_ltT, zq_ltF, zq_eqT, zq_eqF, zq_em, zq_me, zq_pm, zq_mm, zq_gm, pk_sub, zI_s, zI_k, zI_c, zI_2, zL_s, zL_k, zL_c, zL_1, if_true, if_false, eq_self, Nat.zero_add, Nat.add_zero, hin, fX13_tune_15, fX13_tune_47]
      rw [ef, eg]
      obtain ⟨x1, x2⟩ := (zx_tune78 (S := S) (a := 4) (by omega) v).2 rfl
      obtain ⟨y1, y2⟩ := zm_tune59 (M := sh_I M 0 0 (nI 0)) (lo := 0) (hi := 65535) (by omega) (by omega) (nI 1) v
      rcases zrng v 0 65535 with ⟨j, rfl, j1, j2⟩ | q
      · rw [x1 j rfl j1 j2, y1 j rfl j1 j2]
        exact zc_tune1 h0 (a := 4) (v := j) (by omega) ⟨by omega, fun w => by omega, fun w => by omega, fun _ => by omega, fun w => by omega⟩
      · rw [x2 q, y2 q]
        exact ⟨_, S, _, _, rfl, rfl, hbad2, T, B, L, h2⟩
    · have eg : fX13_tune M (nI 2) v = fX13_tune_59 (sh_I M 0 0 (nI 0)) (nI 2) v (nI 1) (nI 0) v := by
        rw [fX13_tune]
        simp (disch := omega) only [zq_l9, pk_mul, nI_add, zq_t9, zq_c9, zq_bz9, zq_bo9, zq_g, zq_cl, zq_leT, zq_leF, zq_ltT, zq_ltF, zq_eqT, zq_eqF, zq_em, zq_me, zq_pm, zq_mm, zq_gm, pk_sub, zI_s, zI_k, zI_c, zI_2, zL_s, zL_k, zL_c, zL_1, if_true, if_false, eq_self, Nat.zero_add, Nat.add_zero, hin, fX13_tune_15, fX13_tune_47]
      rw [eg]
      obtain ⟨y1, y2⟩ := zm_tune59 (M := sh_I M 0 0 (nI 0)) (lo := 0) (hi := 1) (by omega) (by omega) (nI 2) v
      rcases zrng v 0 1 with ⟨j, rfl, j1, j2⟩ | q
      · rw [y1 j rfl j1 j2]
        have hj : j = 0 ∨ j = 1 := by omega
        rcases hj with e | e <;> subst e
        · have ef : fX12_tune S (nI 2) (nI 0) = fX12_tune_78 S (nI 0) (nI 6) := by
            rw [fX12_tune]
            simp (disch := omega) only [zq_l9, pk_mul, nI_add, zq_t9, zq_c9, zq_bz9, zq_bo9, zq_g, zq_cl, zq_leT, zq_leF, zq_ltT, zq_ltF, zq_eqT, zq_eqF, zq_em, zq_me, zq_pm, zq_mm, zq_gm, pk_sub, zI_s, zI_k, zI_c, zI_2, zL_s, zL_k, zL_c, zL_1, if_true, if_false, eq_self, Nat.zero_add, Nat.add_zero, fX12_tune_43]
          rw [ef, (zx_tune78 (S := S) (a := 6) (by omega) (nI 0)).1 rfl]
          exact zc_tune1 h0 (a := 6) (v := 0) (by omega) ⟨by omega, fun w => by omega, fun w => by omega, fun w => by omega, fun w => by omega⟩
        · have ef : fX12_tune S (nI 2) (nI 1) = fX12_tune_78 S (nI 1) (nI 5) := by
            rw [fX12_tune]
            simp (disch := omega) only [zq_l9, pk_mul, nI_add, zq_t9, zq_c9, zq_bz9, zq_bo9, zq_g, zq_cl, zq_leT, zq_leF, zq_ltT, zq_ltF, zq_eqT, zq_eqF, zq_em, zq_me, zq_pm, zq_mm, zq_gm, pk_sub, zI_s, zI_k, zI_c, zI_2, zL_s, zL_k, zL_c, zL_1, if_true, if_false, eq_self, Nat.zero_add, Nat.add_zero, fX12_tune_43]
          rw [ef, (zx_tune78 (S := S) (a := 5) (by omega) (nI 1)).1 rfl]
          exact zc_tune1 h0 (a := 5) (v := 1) (by omega) ⟨by omega, fun w => by omega, fun w => by omega, fun w => by omega, fun w => by omega⟩
      · rw [y2 q]
        have ef : fX12_tune S (nI 2) v = some (.inr "java/lang/IllegalArgumentException", S) := by
          rw [fX12_tune]
          rcases zn_cs v with hv | ⟨j, hj, rfl⟩
          · simp (disch := omega) only [zq_l9, pk_mul, nI_add, zq_t9, zq_c9, zq_bz9, zq_bo9, zq_g, zq_cl, zq_leT, zq_leF, zq_ltT, zq_ltF, zq_eqT, zq_eqF, zq_em, zq_me, zq_pm, zq_mm, zq_gm, pk_sub, zI_s, zI_k, zI_c, zI_2, zL_s, zL_k, zL_c, zL_1, if_true, if_false, eq_self, Nat.zero_add, Nat.add_zero, zn_lt hv, fX12_tune_33]
          · have : 1 < j := Nat.lt_of_not_le (fun w => q j (by omega) w rfl)
            simp (disch := omega) only [zq_l9, pk_mul, nI_add, zq_t9, zq_c9, zq_bz9, zq_bo9, zq_g, zq_cl, zq_leT, zq_leF, zq_ltT, zq_ltF, zq_eqT, zq_eqF, zq_em, zq_me, zq_pm, zq_mm, zq_gm, pk_sub, zI_s, zI_k, zI_c, zI_2, zL_s, zL_k, zL_c, zL_1, if_true, if_false, eq_self, Nat.zero_add, Nat.add_zero, fX12_tune_33]
        rw [ef]
        exact ⟨_, S, _, _, rfl, rfl, hbad2, T, B, L, h2⟩
  · have ef : fX12_tune S w v = some (.inr "java/util/NoSuchElementException", S) := by
      rw [fX12_tune]
      rcases zn_cs w with hw | ⟨j, hj, rfl⟩
      · simp (disch := omega) only [zq_l9, pk_mul, nI_add, zq_t9, zq_c9, zq_bz9, zq_bo9, zq_g, zq_cl, zq_leT, zq_leF, zq_ltT, zq_ltF, zq_eqT, zq_eqF, zq_em, zq_me, zq_pm, zq_mm, zq_gm, pk_sub, zI_s, zI_k, zI_c, zI_2, zL_s, zL_k, zL_c, zL_1, if_true, if_false, eq_self, Nat.zero_add, Nat.add_zero, zn_lt hw, fX12_tune_9]
      · have : 2 < j := Nat.lt_of_not_le (fun z => q j (by omega) z rfl)
        simp (disch := omega) only [zq_l9, pk_mul, nI_add, zq_t9, zq_c9, zq_bz9, zq_bo9, zq_g, zq_cl, zq_leT, zq_leF, zq_ltT, zq_ltF, zq_eqT, zq_eqF, zq_em, zq_me, zq_pm, zq_mm, zq_gm, pk_sub, zI_s, zI_k, zI_c, zI_2, zL_s, zL_k, zL_c, zL_1, if_true, if_false, eq_self, Nat.zero_add, Nat.add_zero, fX12_tune_9]
    have hin : fX13_isIn M w (nI 0) (nI 2) = some (nI 0, M) := by
      rcases zn_cs w with hv | ⟨j, hj, rfl⟩
      · exact zn_isIn M hv (by omega)
      · have := zm_within' M (v := j) (lo := 0) (hi := 2) hj (by omega) (by omega)
        rw [if_neg (fun z => q j z.1 z.2 rfl)] at this
        exact this
    refine ⟨_, S, nI 0, sh_I M 0 0 (nI 1), ef, ?_, Or.inr ⟨0, _, rfl, rfl, zI_s _ _ _ _⟩, T, B, L, zR_q h (zFr_rf _ _ S) (zMQ_0 M _)⟩
    rw [fX13_tune]
    simp (disch := omega) only [zq_l9, pk_mul, nI_add, zq_t9, zq_c9, zq_bz9, zq_bo9, zq_g, zq_cl, zq_leT, zq_leF, zq_ltT, zq_ltF, zq_eqT, zq_eqF, zq_em, zq_me, zq_pm, zq_mm, zq_gm, pk_sub, zI_s, zI_k, zI_c, zI_2, zL_s, zL_k, zL_c, zL_1, if_true, if_false, eq_self, Nat.zero_add, Nat.add_zero, hin, fX13_tune_15]
