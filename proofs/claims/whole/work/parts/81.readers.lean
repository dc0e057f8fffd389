/-! readers -/
theorem zR_c {S S' M M' : sh_St} {T : zT} {B : Nat → Nat} {L : Nat} (h : zR S M T B L) (hs : ∀ i, (i < 116 ∨ (127 < i ∧ i < 132)) → S'.1 i = S.1 i ∧ S'.2 i = S.2 i) (hm0 : ∀ k, k ≠ 0 → k < 27 → M'.1 0 k = M.1 0 k) (hmi : ∀ i, i ≠ 0 → (i < 9 ∨ i = 14) → M'.1 i = M.1 i ∧ M'.2 i = M.2 i) (hc : zRc S' M') : zR S' M' T B L := by
  obtain ⟨hG, hv, hvm, ra, rb1, rb2, rc, rd, re, rg⟩ := h
  refine ⟨hG, zVX_o (fun i h3 h4 => hs i (by omega)) hv, ?_, zRa_cg ra L ra.2.2.1 ?_ (hs 2 (by omega)).1 ?_ (hmi 14 (by omega) (by omega)).1, ?_, ?_, hc, zRd_cg rd (fun i h3 h4 => hs i (by omega)) (hm0 5 (by omega) (by omega)) (hmi 3 (by omega) (by omega)).1 (hmi 4 (by omega) (by omega)).2, zRe_cg re ?_ (fun i h3 h4 => hs i (by omega)) (hm0 10 (by omega) (by omega)) (hmi 7 (by omega) (by omega)).1 (hmi 8 (by omega) (by omega)).2, zRg_cg rg (fun i h3 h4 => (hs i (by omega)).1)⟩
  · unfold zVN
    rw [(hmi 1 (by omega) (by omega)).1, (hmi 2 (by omega) (by omega)).2]
    exact hvm
  · rw [(hs 1 (by omega)).1]; exact ra.1
  · rw [hm0 17 (by omega) (by omega)]; exact ra.2.1
  · rw [(hs 3 (by omega)).1, hm0 20 (by omega) (by omega)]; exact rb1
  · rw [(hs 0 (by omega)).1, hm0 21 (by omega) (by omega)]; exact rb2
  · rw [(hs 0 (by omega)).1]
theorem zRc_set {S S' M M' : sh_St} (h : zRc S M) {r0 : Nat} (h0 : zRc1 S' M' r0) (hs : ∀ r, r < 4 → r ≠ r0 → S'.1 (132 + 2 * r) = S.1 (132 + 2 * r) ∧ S'.1 (133 + 2 * r) = S.1 (133 + 2 * r)) (hm : ∀ r, r ≠ r0 → M'.1 9 r = M.1 9 r ∧ M'.1 10 r = M.1 10 r ∧ M'.1 11 r = M.1 11 r ∧ M'.1 12 r = M.1 12 r) (hb : ∀ r k, r < 4 → r ≠ r0 → k < 60 → M'.1 13 (60 * r + k) = M.1 13 (60 * r + k)) : zRc S' M' := fun r hr => by
  by_cases e : r = r0
  · rw [e]; exact h0
  · obtain ⟨o, c, z, h1, h2, h3, h4, h5, h6, h7, h8, h9, h10, h11⟩ := h r hr
    obtain ⟨a, b⟩ := hs r hr e
    obtain ⟨m1, m2, m3, m4⟩ := hm r e
    refine ⟨o, c, z, h1, h2, h3, by rw [a]; exact h4, by rw [m1]; exact h5, by rw [a]; exact h6, by rw [m2]; exact h7, by rw [a, m3]; exact h8, by rw [a]; exact h9, by rw [m4]; exact h10, fun k hk => ?_⟩
    rw [b, hb r k hr e (by omega)]
    exact h11 k hk
theorem zx_isReader (S : sh_St) (v : Int32) : (∀ b, v = nI b → b < 4 → fX12_isReader S v = some (nI 1, S)) ∧ ((∀ b, b < 4 → v ≠ nI b) → fX12_isReader S v = some (nI 0, S)) := by
  rw [fX12_isReader]
  refine ⟨fun b e hb => ?_, fun q => ?_⟩
  · subst e
    simp (disch := omega) only [zq_l9, pk_mul, nI_add, zq_t9, zq_c9, zq_bz9, zq_bo9, zq_g, zq_cl, zq_leT, zq_leF, zq_ltT, zq_ltF, zq_eqT, zq_eqF, zq_em, zq_me, zq_pm, zq_mm, zq_gm, pk_sub, zI_s, zI_k, zI_c, zI_2, zL_s, zL_k, zL_c, zL_1, if_true, if_false, eq_self, Nat.zero_add, Nat.add_zero]
  · rcases zn_cs v with hv | ⟨j, hj, rfl⟩
    · simp (disch := omega) only [zq_l9, pk_mul, nI_add, zq_t9, zq_c9, zq_bz9, zq_bo9, zq_g, zq_cl, zq_leT, zq_leF, zq_ltT, zq_ltF, zq_eqT, zq_eqF, zq_em, zq_me, zq_pm, zq_mm, zq_gm, pk_sub, zI_s, zI_k, zI_c, zI_2, zL_s, zL_k, zL_c, zL_1, if_true, if_false, eq_self, Nat.zero_add, Nat.add_zero, zn_lt hv]
    · have : 4 ≤ j := Nat.le_of_not_lt (fun w => q j w rfl)
      simp (disch := omega) only [zq_l9, pk_mul, nI_add, zq_t9, zq_c9, zq_bz9, zq_bo9, zq_g, zq_cl, zq_leT, zq_leF, zq_ltT, zq_ltF, zq_eqT, zq_eqF, zq_em, zq_me, zq_pm, zq_mm, zq_gm, pk_sub, zI_s, zI_k, zI_c, zI_2, zL_s, zL_k, zL_c, zL_1, if_true, if_false, eq_self, Nat.zero_add, Nat.add_zero]
theorem zm_isReader (S : sh_St) (v : Int32) : (∀ b, v = nI b → b < 4 → fX13_isReader S v = some (nI 1, S)) ∧ ((∀ b, b < 4 → v ≠ nI b) → fX13_isReader S v = some (nI 0, S)) := by
  rw [fX13_isReader]
  refine ⟨fun b e hb => ?_, fun q => ?_⟩
  · subst e
    have h := zm_within' S (v := b) (lo := 0) (hi := 3) (by omega) (by omega) (by omega)
    rw [if_pos (by omega)] at h
    simp (disch := omega) only [zq_l9, pk_mul, nI_add, zq_t9, zq_c9, zq_bz9, zq_bo9, zq_g, zq_cl, zq_leT, zq_leF, zq_ltT, zq_ltF, zq_eqT, zq_eqF, zq_em, zq_me, zq_pm, zq_mm, zq_gm, pk_sub, zI_s, zI_k, zI_c, zI_2, zL_s, zL_k, zL_c, zL_1, if_true, if_false, eq_self, Nat.zero_add, Nat.add_zero, h]
  · rcases zn_cs v with hv | ⟨j, hj, rfl⟩
    · have h := zn_isIn S hv (lo := 0) (hi := 3) (by omega)
      simp (disch := omega) only [zq_l9, pk_mul, nI_add, zq_t9, zq_c9, zq_bz9, zq_bo9, zq_g, zq_cl, zq_leT, zq_leF, zq_ltT, zq_ltF, zq_eqT, zq_eqF, zq_em, zq_me, zq_pm, zq_mm, zq_gm, pk_sub, zI_s, zI_k, zI_c, zI_2, zL_s, zL_k, zL_c, zL_1, if_true, if_false, eq_self, Nat.zero_add, Nat.add_zero, h]
    · have hj4 : 4 ≤ j := Nat.le_of_not_lt (fun w => q j w rfl)
      have h := zm_within' S (v := j) (lo := 0) (hi := 3) hj (by omega) (by omega)
      rw [if_neg (by omega)] at h
      simp (disch := omega) only [zq_l9, pk_mul, nI_add, zq_t9, zq_c9, zq_bz9, zq_bo9, zq_g, zq_cl, zq_leT, zq_leF, zq_ltT, zq_ltF, zq_eqT, zq_eqF, zq_em, zq_me, zq_pm, zq_mm, zq_gm, pk_sub, zI_s, zI_k, zI_c, zI_2, zL_s, zL_k, zL_c, zL_1, if_true, if_false, eq_self, Nat.zero_add, Nat.add_zero, h]
theorem zbo {α : Type} {o : Nat} (ho : o ≤ 1) (k : Option α) : sh_b (nI o) k = k := by
  have : o = 0 ∨ o = 1 := by omega
  rcases this with e | e <;> subst e <;> rfl
theorem zc_open {S M : sh_St} (h : zRR S M) (v : Int32) {w : Nat} (hw : w ≤ 1) : zCA ["java/lang/IndexOutOfBoundsException"] (fX12_open S v (nI w)) (fX13_open M v (nI w)) := by
  obtain ⟨T, B, L, h⟩ := h
  have h0 : ∀ t, zR S (sh_I M 0 0 t) T B L := fun t => zR_q h (zFr_rf _ _ S) (zMQ_0 M _)
  rw [fX12_open, fX13_open]
  rcases zblk v 4 (by omega) with ⟨r, rfl, hr⟩ | q
  · have x1 := (zx_isReader S (nI r)).1 r rfl hr
    have m1 := (zm_isReader M (nI r)).1 r rfl hr
    have rc := (h0 (nI 0)).2.2.2.2.2.2.1
    obtain ⟨o, c, z, h1, h2, h3, h4, h5, h6, h7, h8, h9, h10, h11⟩ := rc r hr
    have h5' : M.1 9 r = nI o := by rw [zI_c M 0 0 _ (by omega)] at h5; exact h5
    have ho := fun (k : Option ((Int32 ⊕ String) × sh_St)) => zbo h1 k
    have ho2 := fun (k : Option (Int32 × sh_St)) => zbo h1 k
    have hc : w = 0 ∨ w = 1 := by omega
    rcases hc with e | e <;> subst e
    · refine ⟨_, sh_I S (132 + 2 * r) 1 (nI 0), nI o, sh_I (sh_I M 0 0 (nI 0)) 9 r (nI 0), ?_, ?_, Or.inl ⟨rfl, by rw [zI_c _ 9 r _ (by omega), zI_s]⟩, T, B, L, zR_c (h0 (nI 0)) (fun i hi => sh_I_ne S _ 1 _ i (by omega)) (fun k a b => by rw [zI_c _ 9 r _ (by omega)]) (fun i a b => sh_I_ne _ 9 r _ i (by omega)) ?_⟩
      · simp (disch := omega) only [zq_l9, pk_mul, nI_add, zq_t9, zq_c9, zq_bz9, zq_bo9, zq_g, zq_cl, zq_leT, zq_leF, zq_ltT, zq_ltF, zq_eqT, zq_eqF, zq_em, zq_me, zq_pm, zq_mm, zq_gm, pk_sub, zI_s, zI_k, zI_c, zI_2, zL_s, zL_k, zL_c, zL_1, if_true, if_false, eq_self, Nat.zero_add, Nat.add_zero, x1, h4, ho]
      · simp (disch := omega) only [zq_l9, pk_mul, nI_add, zq_t9, zq_c9, zq_bz9, zq_bo9, zq_g, zq_cl, zq_leT, zq_leF, zq_ltT, zq_ltF, zq_eqT, zq_eqF, zq_em, zq_me, zq_pm, zq_mm, zq_gm, pk_sub, zI_s, zI_k, zI_c, zI_2, zL_s, zL_k, zL_c, zL_1, if_true, if_false, eq_self, Nat.zero_add, Nat.add_zero, m1, fX13_open_13, h5', ho2]
      · refine zRc_set rc (r0 := r) ⟨0, c, z, by omega, h2, h3, zI_s _ _ _ _, zI_s _ _ _ _, ?_, ?_, ?_, ?_, ?_, fun k hk => ?_⟩ (fun r' a b => ?_) (fun r' b => ?_) (fun r' k a b d => ?_)
        · rw [zI_k S _ 1 _ (by omega)]; exact h6
        · rw [zI_c _ 9 r _ (by omega)]; exact h7
        · rw [zI_k S _ 1 _ (by omega), zI_c _ 9 r _ (by omega)]; exact h8
        · rw [zI_k S _ 1 _ (by omega)]; exact h9
        · rw [zI_c _ 9 r _ (by omega)]; exact h10
        · rw [zI_c S _ 1 _ (by omega), zI_c _ 9 r _ (by omega)]; exact h11 k hk
        · exact ⟨zI_c S _ 1 _ (by omega), zI_c S _ 1 _ (by omega)⟩
        · exact ⟨zI_k _ 9 r _ b, by rw [zI_c _ 9 r _ (by omega)], by rw [zI_c _ 9 r _ (by omega)], by rw [zI_c _ 9 r _ (by omega)]⟩
        · rw [zI_c _ 9 r _ (by omega)]
    · have hfs : ∀ i, i ≠ 132 + 2 * r → (sh_I (sh_I (sh_I (sh_I S (132 + 2 * r) 1 (nI 1)) (132 + 2 * r) 2 (nI 0)) (132 + 2 * r) 3 (nI 0)) (132 + 2 * r) 4 (nI 0)).1 i = S.1 i := fun i hi => by rw [zI_c _ _ 4 _ hi, zI_c _ _ 3 _ hi, zI_c _ _ 2 _ hi, zI_c _ _ 1 _ hi]
      have hfm : ∀ i, i ≠ 9 → i ≠ 10 → i ≠ 11 → i ≠ 12 → (sh_I (sh_I (sh_I (sh_I (sh_I M 0 0 (nI 0)) 9 r (nI 1)) 10 r (nI 0)) 11 r (nI 0)) 12 r (nI 0)).1 i = (sh_I M 0 0 (nI 0)).1 i := fun i a b c d => by rw [zI_c _ 12 r _ d, zI_c _ 11 r _ c, zI_c _ 10 r _ b, zI_c _ 9 r _ a]
      refine ⟨_, sh_I (sh_I (sh_I (sh_I S (132 + 2 * r) 1 (nI 1)) (132 + 2 * r) 2 (nI 0)) (132 + 2 * r) 3 (nI 0)) (132 + 2 * r) 4 (nI 0), nI o, sh_I (sh_I (sh_I (sh_I (sh_I M 0 0 (nI 0)) 9 r (nI 1)) 10 r (nI 0)) 11 r (nI 0)) 12 r (nI 0), ?_, ?_, Or.inl ⟨rfl, by rw [hfm 0 (by omega) (by omega) (by omega) (by omega), zI_s]⟩, T, B, L, zR_c (h0 (nI 0)) (fun i hi => ⟨hfs i (by omega), rfl⟩) (fun k a b => by rw [hfm 0 (by omega) (by omega) (by omega) (by omega)]) (fun i a b => ⟨hfm i (by omega) (by omega) (by omega) (by omega), rfl⟩) ?_⟩
      · simp (disch := omega) only [zq_l9, pk_mul, nI_add, zq_t9, zq_c9, zq_bz9, zq_bo9, zq_g, zq_cl, zq_leT, zq_leF, zq_ltT, zq_ltF, zq_eqT, zq_eqF, zq_em, zq_me, zq_pm, zq_mm, zq_gm, pk_sub, zI_s, zI_k, zI_c, zI_2, zL_s, zL_k, zL_c, zL_1, if_true, if_false, eq_self, Nat.zero_add, Nat.add_zero, x1, h4, ho, fX2_restart]
      · simp (disch := omega) only [zq_l9, pk_mul, nI_add, zq_t9, zq_c9, zq_bz9, zq_bo9, zq_g, zq_cl, zq_leT, zq_leF, zq_ltT, zq_ltF, zq_eqT, zq_eqF, zq_em, zq_me, zq_pm, zq_mm, zq_gm, pk_sub, zI_s, zI_k, zI_c, zI_2, zL_s, zL_k, zL_c, zL_1, if_true, if_false, eq_self, Nat.zero_add, Nat.add_zero, m1, fX13_open_13, h5', ho2]
      · refine zRc_set rc (r0 := r) ⟨1, 0, 0, by omega, by omega, by omega, ?_, ?_, ?_, ?_, ?_, zI_s _ _ _ _, zI_s _ _ _ _, fun k hk => by omega⟩ (fun r' a b => ⟨hfs _ (by omega), hfs _ (by omega)⟩) (fun r' b => ?_) (fun r' k a b d => ?_)
        · rw [zI_k _ _ 4 _ (by omega), zI_k _ _ 3 _ (by omega), zI_k _ _ 2 _ (by omega), zI_s]
        · rw [zI_c _ 12 r _ (by omega), zI_c _ 11 r _ (by omega), zI_c _ 10 r _ (by omega), zI_s]
        · rw [zI_k _ _ 4 _ (by omega), zI_k _ _ 3 _ (by omega), zI_s]
        · rw [zI_c _ 12 r _ (by omega), zI_c _ 11 r _ (by omega), zI_s]
        · rw [zI_k _ _ 4 _ (by omega), zI_s, zI_c _ 12 r _ (by omega), zI_s]
        · refine ⟨?_, ?_, ?_, ?_⟩
          · rw [zI_c _ 12 r _ (by omega), zI_c _ 11 r _ (by omega), zI_c _ 10 r _ (by omega), zI_k _ 9 r _ b]
          · rw [zI_c _ 12 r _ (by omega), zI_c _ 11 r _ (by omega), zI_k _ 10 r _ b, zI_c _ 9 r _ (by omega)]
          · rw [zI_c _ 12 r _ (by omega), zI_k _ 11 r _ b, zI_c _ 10 r _ (by omega), zI_c _ 9 r _ (by omega)]
          · rw [zI_k _ 12 r _ b, zI_c _ 11 r _ (by omega), zI_c _ 10 r _ (by omega), zI_c _ 9 r _ (by omega)]
        · rw [hfm 13 (by omega) (by omega) (by omega) (by omega)]
  · have x1 := (zx_isReader S v).2 q
    have m1 := (zm_isReader M v).2 q
    refine ⟨.inr "java/lang/IndexOutOfBoundsException", S, nI 0, sh_I M 0 0 (nI 1), ?_, ?_, Or.inr ⟨0, _, rfl, rfl, zI_s _ _ _ _⟩, T, B, L, h0 _⟩
    · simp (disch := omega) only [zq_l9, pk_mul, nI_add, zq_t9, zq_c9, zq_bz9, zq_bo9, zq_g, zq_cl, zq_leT, zq_leF, zq_ltT, zq_ltF, zq_eqT, zq_eqF, zq_em, zq_me, zq_pm, zq_mm, zq_gm, pk_sub, zI_s, zI_k, zI_c, zI_2, zL_s, zL_k, zL_c, zL_1, if_true, if_false, eq_self, Nat.zero_add, Nat.add_zero, x1]
    · simp (disch := omega) only [zq_l9, pk_mul, nI_add, zq_t9, zq_c9, zq_bz9, zq_bo9, zq_g, zq_cl, zq_leT, zq_leF, zq_ltT, zq_ltF, zq_eqT, zq_eqF, zq_em, zq_me, zq_pm, zq_mm, zq_gm, pk_sub, zI_s, zI_k, zI_c, zI_2, zL_s, zL_k, zL_c, zL_1, if_true, if_false, eq_self, Nat.zero_add, Nat.add_zero, m1, fX13_open_13]
theorem zc_reader {S M : sh_St} (h : zRR S M) (v w : Int32) : zCA ["java/lang/IndexOutOfBoundsException", "java/util/NoSuchElementException"] (fX12_reader S v w) (fX13_reader M v w) := by
  obtain ⟨T, B, L, h⟩ := h
  have h0 : ∀ t, zR S (sh_I M 0 0 t) T B L := fun t => zR_q h (zFr_rf _ _ S) (zMQ_0 M _)
  rw [fX12_reader, fX13_reader]
  rcases zblk v 4 (by omega) with ⟨r, rfl, hr⟩ | q
  · have x1 := (zx_isReader S (nI r)).1 r rfl hr
    have m1 := (zm_isReader M (nI r)).1 r rfl hr
    obtain ⟨o, c, z, h1, h2, h3, h4, h5, h6, h7, h8, h9, h10, h11⟩ := h.2.2.2.2.2.2.1 r hr
    rcases zrng w 0 3 with ⟨j, rfl, _, hj⟩ | q
    · have hin := zm_within' M (v := j) (lo := 0) (hi := 3) (by omega) (by omega) (by omega)
      rw [if_pos (by omega)] at hin
      have hc : j = 0 ∨ j = 1 ∨ j = 2 ∨ j = 3 := by omega
      rcases hc with e | e | e | e <;> subst e
      · refine ⟨_, S, nI o, sh_I M 0 0 (nI 0), ?_, ?_, Or.inl ⟨rfl, zI_s _ _ _ _⟩, T, B, L, h0 _⟩
        · have hoc : o = 0 ∨ o = 1 := by omega
          rcases hoc with e | e <;> subst e <;> simp (disch := omega) only [zq_l9, pk_mul, nI_add, zq_t9, zq_c9, zq_bz9, zq_bo9, zq_g, zq_cl, zq_leT, zq_leF, zq_ltT, zq_ltF, zq_eqT, zq_eqF, zq_em, zq_me, zq_pm, zq_mm, zq_gm, pk_sub, zI_s, zI_k, zI_c, zI_2, zL_s, zL_k, zL_c, zL_1, if_true, if_false, eq_self, Nat.zero_add, Nat.add_zero, x1, h4]
        · have hoc : o = 0 ∨ o = 1 := by omega
          rcases hoc with e | e <;> subst e <;> simp (disch := omega) only [zq_l9, pk_mul, nI_add, zq_t9, zq_c9, zq_bz9, zq_bo9, zq_g, zq_cl, zq_leT, zq_leF, zq_ltT, zq_ltF, zq_eqT, zq_eqF, zq_em, zq_me, zq_pm, zq_mm, zq_gm, pk_sub, zI_s, zI_k, zI_c, zI_2, zL_s, zL_k, zL_c, zL_1, if_true, if_false, eq_self, Nat.zero_add, Nat.add_zero, m1, hin, fX13_reader_26, h5]
      · refine ⟨_, S, nI c, sh_I M 0 0 (nI 0), ?_, ?_, Or.inl ⟨rfl, zI_s _ _ _ _⟩, T, B, L, h0 _⟩
        · simp (disch := omega) only [zq_l9, pk_mul, nI_add, zq_t9, zq_c9, zq_bz9, zq_bo9, zq_g, zq_cl, zq_leT, zq_leF, zq_ltT, zq_ltF, zq_eqT, zq_eqF, zq_em, zq_me, zq_pm, zq_mm, zq_gm, pk_sub, zI_s, zI_k, zI_c, zI_2, zL_s, zL_k, zL_c, zL_1, if_true, if_false, eq_self, Nat.zero_add, Nat.add_zero, x1, h6]
        · simp (disch := omega) only [zq_l9, pk_mul, nI_add, zq_t9, zq_c9, zq_bz9, zq_bo9, zq_g, zq_cl, zq_leT, zq_leF, zq_ltT, zq_ltF, zq_eqT, zq_eqF, zq_em, zq_me, zq_pm, zq_mm, zq_gm, pk_sub, zI_s, zI_k, zI_c, zI_2, zL_s, zL_k, zL_c, zL_1, if_true, if_false, eq_self, Nat.zero_add, Nat.add_zero, m1, hin, fX13_reader_26, h7]
      · refine ⟨_, S, M.1 11 r, sh_I M 0 0 (nI 0), ?_, ?_, Or.inl ⟨rfl, zI_s _ _ _ _⟩, T, B, L, h0 _⟩
        · simp (disch := omega) only [zq_l9, pk_mul, nI_add, zq_t9, zq_c9, zq_bz9, zq_bo9, zq_g, zq_cl, zq_leT, zq_leF, zq_ltT, zq_ltF, zq_eqT, zq_eqF, zq_em, zq_me, zq_pm, zq_mm, zq_gm, pk_sub, zI_s, zI_k, zI_c, zI_2, zL_s, zL_k, zL_c, zL_1, if_true, if_false, eq_self, Nat.zero_add, Nat.add_zero, x1, h8]
        · simp (disch := omega) only [zq_l9, pk_mul, nI_add, zq_t9, zq_c9, zq_bz9, zq_bo9, zq_g, zq_cl, zq_leT, zq_leF, zq_ltT, zq_ltF, zq_eqT, zq_eqF, zq_em, zq_me, zq_pm, zq_mm, zq_gm, pk_sub, zI_s, zI_k, zI_c, zI_2, zL_s, zL_k, zL_c, zL_1, if_true, if_false, eq_self, Nat.zero_add, Nat.add_zero, m1, hin, fX13_reader_26]
      · refine ⟨_, S, nI z, sh_I M 0 0 (nI 0), ?_, ?_, Or.inl ⟨rfl, zI_s _ _ _ _⟩, T, B, L, h0 _⟩
        · simp (disch := omega) only [zq_l9, pk_mul, nI_add, zq_t9, zq_c9, zq_bz9, zq_bo9, zq_g, zq_cl, zq_leT, zq_leF, zq_ltT, zq_ltF, zq_eqT, zq_eqF, zq_em, zq_me, zq_pm, zq_mm, zq_gm, pk_sub, zI_s, zI_k, zI_c, zI_2, zL_s, zL_k, zL_c, zL_1, if_true, if_false, eq_self, Nat.zero_add, Nat.add_zero, x1, h9]
        · simp (disch := omega) only [zq_l9, pk_mul, nI_add, zq_t9, zq_c9, zq_bz9, zq_bo9, zq_g, zq_cl, zq_leT, zq_leF, zq_ltT, zq_ltF, zq_eqT, zq_eqF, zq_em, zq_me, zq_pm, zq_mm, zq_gm, pk_sub, zI_s, zI_k, zI_c, zI_2, zL_s, zL_k, zL_c, zL_1, if_true, if_false, eq_self, Nat.zero_add, Nat.add_zero, m1, hin, fX13_reader_26, h10]
    · have hin : fX13_isIn M w (nI 0) (nI 3) = some (nI 0, M) := by
        rcases zn_cs w with hv | ⟨j, hj, rfl⟩
        · exact zn_isIn M hv (by omega)
        · have := zm_within' M (v := j) (lo := 0) (hi := 3) hj (by omega) (by omega)
          rw [if_neg (fun z => q j z.1 z.2 rfl)] at this
          exact this
      refine ⟨.inr "java/util/NoSuchElementException", S, nI 0, sh_I M 0 0 (nI 2), ?_, ?_, Or.inr ⟨1, _, rfl, rfl, zI_s _ _ _ _⟩, T, B, L, h0 _⟩
      · rcases zn_cs w with hv' | ⟨j, hj, rfl⟩
        · simp (disch := omega) only [zq_l9, pk_mul, nI_add, zq_t9, zq_c9, zq_bz9, zq_bo9, zq_g, zq_cl, zq_leT, zq_leF, zq_ltT, zq_ltF, zq_eqT, zq_eqF, zq_em, zq_me, zq_pm, zq_mm, zq_gm, pk_sub, zI_s, zI_k, zI_c, zI_2, zL_s, zL_k, zL_c, zL_1, if_true, if_false, eq_self, Nat.zero_add, Nat.add_zero, x1, zn_eq hv']
        · have : 3 < j := Nat.lt_of_not_le (fun z => q j (by omega) z rfl)
          simp (disch := omega) only [zq_l9, pk_mul, nI_add, zq_t9, zq_c9, zq_bz9, zq_bo9, zq_g, zq_cl, zq_leT, zq_leF, zq_ltT, zq_ltF, zq_eqT, zq_eqF, zq_em, zq_me, zq_pm, zq_mm, zq_gm, pk_sub, zI_s, zI_k, zI_c, zI_2, zL_s, zL_k, zL_c, zL_1, if_true, if_false, eq_self, Nat.zero_add, Nat.add_zero, x1]
      · simp (disch := omega) only [zq_l9, pk_mul, nI_add, zq_t9, zq_c9, zq_bz9, zq_bo9, zq_g, zq_cl, zq_leT, zq_leF, zq_ltT, zq_ltF, zq_eqT, zq_eqF, zq_em, zq_me, zq_pm, zq_mm, zq_gm, pk_sub, zI_s, zI_k, zI_c, zI_2, zL_s, zL_k, zL_c, zL_1, if_true, if_false, eq_self, Nat.zero_add, Nat.add_zero, m1, hin, fX13_reader_26]
  · have x1 := (zx_isReader S v).2 q
    have m1 := (zm_isReader M v).2 q
    refine ⟨.inr "java/lang/IndexOutOfBoundsException", S, nI 0, sh_I M 0 0 (nI 1), ?_, ?_, Or.inr ⟨0, _, rfl, rfl, zI_s _ _ _ _⟩, T, B, L, h0 _⟩
    · simp (disch := omega) only [zq_l9, pk_mul, nI_add, zq_t9, zq_c9, zq_bz9, zq_bo9, zq_g, zq_cl, zq_leT, zq_leF, zq_ltT, zq_ltF, zq_eqT, zq_eqF, zq_em, zq_me, zq_pm, zq_mm, zq_gm, pk_sub, zI_s, zI_k, zI_c, zI_2, zL_s, zL_k, zL_c, zL_1, if_true, if_false, eq_self, Nat.zero_add, Nat.add_zero, x1]
    · simp (disch := omega) only [zq_l9, pk_mul, nI_add, zq_t9, zq_c9, zq_bz9, zq_bo9, zq_g, zq_cl, zq_leT, zq_leF, zq_ltT, zq_ltF, zq_eqT, zq_eqF, zq_em, zq_me, zq_pm, zq_mm, zq_gm, pk_sub, zI_s, zI_k, zI_c, zI_2, zL_s, zL_k, zL_c, zL_1, if_true, if_false, eq_self, Nat.zero_add, Nat.add_zero, m1, fX13_reader_26]
theorem zc_batch {S M : sh_St} (h : zRR S M) (v w : Int32) : zCA ["java/lang/IndexOutOfBoundsException"] (fX12_batch S v w) (fX13_batch M v w) := by
  obtain ⟨T, B, L, h⟩ := h
  have h0 : ∀ t, zR S (sh_I M 0 0 t) T B L := fun t => zR_q h (zFr_rf _ _ S) (zMQ_0 M _)
  rw [fX12_batch, fX13_batch]
  rcases zblk v 4 (by omega) with ⟨r, rfl, hr⟩ | q
  · have x1 := (zx_isReader S (nI r)).1 r rfl hr
    have m1 := (zm_isReader M (nI r)).1 r rfl hr
    obtain ⟨o, c, z, h1, h2, h3, h4, h5, h6, h7, h8, h9, h10, h11⟩ := h.2.2.2.2.2.2.1 r hr
    rcases zblk w z (by omega) with ⟨k, rfl, hk⟩ | q
    · have hin := zm_within' (sh_I M 0 0 (nI 0)) (v := k) (lo := 0) (hi := z - 1) (by omega) (by omega) (by omega)
      rw [if_pos (by omega)] at hin
      have hb := h11 k hk
      refine ⟨_, S, M.1 13 (60 * r + k), sh_I M 0 0 (nI 0), ?_, ?_, Or.inl ⟨rfl, zI_s _ _ _ _⟩, T, B, L, h0 _⟩
      · simp (disch := omega) only [zq_l9, pk_mul, nI_add, zq_t9, zq_c9, zq_bz9, zq_bo9, zq_g, zq_cl, zq_leT, zq_leF, zq_ltT, zq_ltF, zq_eqT, zq_eqF, zq_em, zq_me, zq_pm, zq_mm, zq_gm, pk_sub, zI_s, zI_k, zI_c, zI_2, zL_s, zL_k, zL_c, zL_1, if_true, if_false, eq_self, Nat.zero_add, Nat.add_zero, x1, h9, hb]
      · simp (disch := omega) only [zq_l9, pk_mul, nI_add, zq_t9, zq_c9, zq_bz9, zq_bo9, zq_g, zq_cl, zq_leT, zq_leF, zq_ltT, zq_ltF, zq_eqT, zq_eqF, zq_em, zq_me, zq_pm, zq_mm, zq_gm, pk_sub, zI_s, zI_k, zI_c, zI_2, zL_s, zL_k, zL_c, zL_1, if_true, if_false, eq_self, Nat.zero_add, Nat.add_zero, m1, fX13_batch_13, h10, hin]
    · refine ⟨_, S, -nI 1, sh_I M 0 0 (nI 0), ?_, ?_, Or.inl ⟨rfl, zI_s _ _ _ _⟩, T, B, L, h0 _⟩
      · rcases zn_cs w with hv' | ⟨j, hj, rfl⟩
        · simp (disch := omega) only [zq_l9, pk_mul, nI_add, zq_t9, zq_c9, zq_bz9, zq_bo9, zq_g, zq_cl, zq_leT, zq_leF, zq_ltT, zq_ltF, zq_eqT, zq_eqF, zq_em, zq_me, zq_pm, zq_mm, zq_gm, pk_sub, zI_s, zI_k, zI_c, zI_2, zL_s, zL_k, zL_c, zL_1, if_true, if_false, eq_self, Nat.zero_add, Nat.add_zero, x1, zn_lt hv']
        · have : z ≤ j := Nat.le_of_not_lt (fun y => q j y rfl)
          simp (disch := omega) only [zq_l9, pk_mul, nI_add, zq_t9, zq_c9, zq_bz9, zq_bo9, zq_g, zq_cl, zq_leT, zq_leF, zq_ltT, zq_ltF, zq_eqT, zq_eqF, zq_em, zq_me, zq_pm, zq_mm, zq_gm, pk_sub, zI_s, zI_k, zI_c, zI_2, zL_s, zL_k, zL_c, zL_1, if_true, if_false, eq_self, Nat.zero_add, Nat.add_zero, x1, h9]
      · by_cases z0 : z = 0
        · subst z0
          have hin : fX13_isIn (sh_I M 0 0 (nI 0)) w (nI 0) (-nI 1) = some (nI 0, sh_I M 0 0 (nI 0)) := by
            rw [fX13_isIn]
            rcases zn_cs w with hv | ⟨j, hj, rfl⟩
            · simp (disch := omega) only [zq_l9, pk_mul, nI_add, zq_t9, zq_c9, zq_bz9, zq_bo9, zq_g, zq_cl, zq_leT, zq_leF, zq_ltT, zq_ltF, zq_eqT, zq_eqF, zq_em, zq_me, zq_pm, zq_mm, zq_gm, pk_sub, zI_s, zI_k, zI_c, zI_2, zL_s, zL_k, zL_c, zL_1, if_true, if_false, eq_self, Nat.zero_add, Nat.add_zero, zn_lt hv]
            · simp (disch := omega) only [zq_l9, pk_mul, nI_add, zq_t9, zq_c9, zq_bz9, zq_bo9, zq_g, zq_cl, zq_leT, zq_leF, zq_ltT, zq_ltF, zq_eqT, zq_eqF, zq_em, zq_me, zq_pm, zq_mm, zq_gm, pk_sub, zI_s, zI_k, zI_c, zI_2, zL_s, zL_k, zL_c, zL_1, if_true, if_false, eq_self, Nat.zero_add, Nat.add_zero]
          have e : nI 0 - nI 1 = -nI 1 := by decide
          simp (disch := omega) only [zq_l9, pk_mul, nI_add, zq_t9, zq_c9, zq_bz9, zq_bo9, zq_g, zq_cl, zq_leT, zq_leF, zq_ltT, zq_ltF, zq_eqT, zq_eqF, zq_em, zq_me, zq_pm, zq_mm, zq_gm, pk_sub, zI_s, zI_k, zI_c, zI_2, zL_s, zL_k, zL_c, zL_1, if_true, if_false, eq_self, Nat.zero_add, Nat.add_zero, m1, fX13_batch_13, h10, e, hin]
        · have hin : fX13_isIn (sh_I M 0 0 (nI 0)) w (nI 0) (nI (z - 1)) = some (nI 0, sh_I M 0 0 (nI 0)) := by
            rcases zn_cs w with hv | ⟨j, hj, rfl⟩
            · exact zn_isIn _ hv (by omega)
            · have := zm_within' (sh_I M 0 0 (nI 0)) (v := j) (lo := 0) (hi := z - 1) hj (by omega) (by omega)
              rw [if_neg (fun y => q j (by omega) rfl)] at this
              exact this
          simp (disch := omega) only [zq_l9, pk_mul, nI_add, zq_t9, zq_c9, zq_bz9, zq_bo9, zq_g, zq_cl, zq_leT, zq_leF, zq_ltT, zq_ltF, zq_eqT, zq_eqF, zq_em, zq_me, zq_pm, zq_mm, zq_gm, pk_sub, zI_s, zI_k, zI_c, zI_2, zL_s, zL_k, zL_c, zL_1, if_true, if_false, eq_self, Nat.zero_add, Nat.add_zero, m1, fX13_batch_13, h10, hin]
  · have x1 := (zx_isReader S v).2 q
    have m1 := (zm_isReader M v).2 q
    refine ⟨.inr "java/lang/IndexOutOfBoundsException", S, nI 0, sh_I M 0 0 (nI 1), ?_, ?_, Or.inr ⟨0, _, rfl, rfl, zI_s _ _ _ _⟩, T, B, L, h0 _⟩
    · simp (disch := omega) only [zq_l9, pk_mul, nI_add, zq_t9, zq_c9, zq_bz9, zq_bo9, zq_g, zq_cl, zq_leT, zq_leF, zq_ltT, zq_ltF, zq_eqT, zq_eqF, zq_em, zq_me, zq_pm, zq_mm, zq_gm, pk_sub, zI_s, zI_k, zI_c, zI_2, zL_s, zL_k, zL_c, zL_1, if_true, if_false, eq_self, Nat.zero_add, Nat.add_zero, x1]
    · simp (disch := omega) only [zq_l9, pk_mul, nI_add, zq_t9, zq_c9, zq_bz9, zq_bo9, zq_g, zq_cl, zq_leT, zq_leF, zq_ltT, zq_ltF, zq_eqT, zq_eqF, zq_em, zq_me, zq_pm, zq_mm, zq_gm, pk_sub, zI_s, zI_k, zI_c, zI_2, zL_s, zL_k, zL_c, zL_1, if_true, if_false, eq_self, Nat.zero_add, Nat.add_zero, m1, fX13_batch_13]
