/-! acts: the text's acts on both sides -/
theorem zm_acts70s {M : sh_St} {D : Nat} (hD : D ≤ 14) : ∃ M', fX13_acts_70 M (nI D) (nI 0) (nI 0) = some (nI D, M') ∧ M'.1 0 0 = nI 0 ∧ M'.1 0 5 = nI 0 ∧ M'.1 0 21 = (if D = 0 then M.1 0 21 else nI 0) ∧ (∀ k, k ≠ 0 → k ≠ 5 → k ≠ 21 → M'.1 0 k = M.1 0 k) ∧ M'.2 = M.2 ∧ ∀ i, i ≠ 0 → M'.1 i = M.1 i := by
  refine ⟨sh_I (sh_I (sh_I M 0 0 (nI 0)) 0 21 (if D = 0 then M.1 0 21 else nI 0)) 0 5 (nI 0), ?_, ?_, zI_s _ _ _ _, ?_, fun k a b c => ?_, rfl, fun i hi => ?_⟩
  · rw [fX13_acts_70]
    by_cases c : D = 0
    · subst c
      rw [if_pos rfl]
      simp (disch := omega) only [zq_l9, pk_mul, nI_add, zq_t9, zq_c9, zq_bz9, zq_bo9, zq_g, zq_cl, zq_leT, zq_leF, zq_ltT, zq_ltF, zq_eqT, zq_eqF, zq_em, zq_me, zq_pm, zq_mm, zq_gm, pk_sub, zI_s, zI_k, zI_c, zI_2, zL_s, zL_k, zL_c, zL_1, if_true, if_false, eq_self, Nat.zero_add, Nat.add_zero, fX13_acts_93]
    · rw [if_neg c]
      simp (disch := omega) only [zq_l9, pk_mul, nI_add, zq_t9, zq_c9, zq_bz9, zq_bo9, zq_g, zq_cl, zq_leT, zq_leF, zq_ltT, zq_ltF, zq_eqT, zq_eqF, zq_em, zq_me, zq_pm, zq_mm, zq_gm, pk_sub, zI_s, zI_k, zI_c, zI_2, zL_s, zL_k, zL_c, zL_1, if_true, if_false, eq_self, Nat.zero_add, Nat.add_zero, fX13_acts_93]
  · rw [zI_k _ 0 5 _ (by omega), zI_k _ 0 21 _ (by omega), zI_s]
  · rw [zI_k _ 0 5 _ (by omega), zI_s]
  · rw [zI_k _ 0 5 _ b, zI_k _ 0 21 _ c, zI_k _ 0 0 _ a]
  · rw [zI_c _ 0 5 _ hi, zI_c _ 0 21 _ hi, zI_c _ 0 0 _ hi]
theorem zm_acts70f {M : sh_St} {D c : Nat} (hc : c ≤ 5) (h21 : ∀ j, j < 4 → M.1 21 j = nI 0 ∨ M.1 21 j = nI 1) : ∃ M', fX13_acts_70 M (nI D) (nI c) (nI 1) = some (nI 0, M') ∧ M'.1 0 0 = nI 1 ∧ M'.1 0 21 = (if c = 0 then M.1 0 21 else nI c) ∧ (∀ j, j < 4 → M'.1 9 j = M.1 21 j) ∧ (∀ k, k < 1084 → M'.1 1 k = M.1 5 k) ∧ (∀ k, k < 240 → M'.2 2 k = M.2 6 k) ∧ (∀ k, k ≠ 0 → k ≠ 21 → M'.1 0 k = M.1 0 k) ∧ (∀ i, i ≠ 0 → i ≠ 1 → i ≠ 9 → M'.1 i = M.1 i) ∧ ∀ i, i ≠ 2 → M'.2 i = M.2 i := by
  have hi9 : ∀ i, i ≠ 0 → (sh_I (sh_I M 0 0 (nI 1)) 0 21 (if c = 0 then M.1 0 21 else nI c)).1 i = M.1 i := fun i hi => by rw [zI_c _ 0 21 _ hi, zI_c M 0 0 _ hi]
  obtain ⟨M1, f1, f2, _, f4, f5⟩ := zc_wb sh_FU 0 (sh_I (sh_I M 0 0 (nI 1)) 0 21 (if c = 0 then M.1 0 21 else nI c)) (by omega) (by decide) (fun j hj => by rw [hi9 21 (by omega)]; exact h21 j hj)
  obtain ⟨M2, k1, k2, k3, k4, k5⟩ := zm_comesBack M1
  refine ⟨M2, ?_, ?_, ?_, fun j hj => ?_, fun k hk => ?_, fun k hk => ?_, fun k a b => ?_, fun i a b d => ?_, fun i hi => ?_⟩
  · rw [fX13_acts_70]
    have e : (sh_c (fX13_comesBack M1) fun _ S9 => some (nI 0, S9)) = some (nI 0, M2) := by rw [k1, zq_c9]
    by_cases d : c = 0
    · subst d
      rw [if_pos rfl] at f1
      simp (disch := omega) only [zq_l9, pk_mul, nI_add, zq_t9, zq_c9, zq_bz9, zq_bo9, zq_g, zq_cl, zq_leT, zq_leF, zq_ltT, zq_ltF, zq_eqT, zq_eqF, zq_em, zq_me, zq_pm, zq_mm, zq_gm, pk_sub, zI_s, zI_k, zI_c, zI_2, zL_s, zL_k, zL_c, zL_1, if_true, if_false, eq_self, Nat.zero_add, Nat.add_zero, fX13_acts_116]
      exact f1.trans e
    · rw [if_neg d] at f1
      simp (disch := omega) only [zq_l9, pk_mul, nI_add, zq_t9, zq_c9, zq_bz9, zq_bo9, zq_g, zq_cl, zq_leT, zq_leF, zq_ltT, zq_ltF, zq_eqT, zq_eqF, zq_em, zq_me, zq_pm, zq_mm, zq_gm, pk_sub, zI_s, zI_k, zI_c, zI_2, zL_s, zL_k, zL_c, zL_1, if_true, if_false, eq_self, Nat.zero_add, Nat.add_zero, fX13_acts_116]
      exact f1.trans e
  · rw [k4 0 (by omega), f5 0 (by omega), zI_k _ 0 21 _ (by omega), zI_s]
  · rw [k4 0 (by omega), f5 0 (by omega), zI_s]
  · rw [k4 9 (by omega), f2 j (by omega) hj, hi9 21 (by omega)]
  · rw [k2 k hk, f5 5 (by omega), hi9 5 (by omega)]
  · rw [k3 k hk, f4]; rfl
  · rw [k4 0 (by omega), f5 0 (by omega), zI_k _ 0 21 _ b, zI_k M 0 0 _ a]
  · rw [k4 i b, f5 i d, hi9 i a]
  · rw [k5 i hi, f4]; rfl
theorem zc_acts {S M : sh_St} (h : zRR S M) : zCA ["java/lang/IllegalArgumentException"] (fX12_acts S) (fX13_acts M) := by
  obtain ⟨T, B, L, h⟩ := h
  have hu := zx_useUp h
  have hh := h
  obtain ⟨hG, hv, hvm, ra, rb1, rb2, rc, rd, re, rg⟩ := h
  obtain ⟨d1, d2, d3, d4, d5⟩ := id ra
  have h7 := hG.1.1.2.2.2.2
  obtain ⟨b1, b2, b3, b4⟩ := zx_beg (S := sh_I S 1 1 (nI 0)) (L := L) (B := B) (fun k hk => by rw [zI_c S 1 1 _ (by omega)]; exact (d5 k hk).1)
  have hbg := zx_begin (sh_I S 1 1 (nI 0)) (nI L)
  generalize sh_I (sh_I (sh_I (sh_I S 1 1 (nI 0)) 3 1 (nI L)) 3 2 (nI 0)) 3 3 (-nI 1) = S3 at *
  have s3 : ∀ i, i ≠ 1 → i ≠ 3 → S3.1 i = S.1 i ∧ S3.2 i = S.2 i := fun i a b => by
    have x := b4 i (by omega)
    have y := sh_I_ne S 1 1 (nI 0) i a
    exact ⟨x.1.trans y.1, x.2.trans y.2⟩
  have s311 : S3.1 1 1 = nI 0 := by rw [(b4 1 (by omega)).1, zI_s]
  obtain ⟨S5, g1, g2, g3⟩ := zx_copyFrom (dd := 14) (zVX_o (fun i h3 h4 => s3 i (by omega) (by omega)) hv) h7 (by omega)
  have hv5 : zVX S5 4 T := zVX_o (fun i h3 h4 => g3 i (by omega)) (zVX_o (fun i h3 h4 => s3 i (by omega) (by omega)) hv)
  have hT5 : zTX S5 B L := by
    unfold zTX
    rw [(g3 3 (by omega)).1, (g3 2 (by omega)).1]
    exact b1
  have e52 : S5.1 3 2 = nI 0 := by rw [(g3 3 (by omega)).1]; exact b2
  have e53 : S5.1 3 3 = -nI 1 := by rw [(g3 3 (by omega)).1]; exact b3
  obtain ⟨S6, k1, k2, k3⟩ := zx_over hT5 d3 d4 e52 (by omega)
  have f63 := zFr_F3 (zF3_2 k3)
  have hT6 := zTX_2 k3 hT5
  have e63 : S6.1 3 3 = -nI 1 := (k3.1 3 (by omega)).trans e53
  have hv6 := zVX_33 f63 hv5
  have hbl := zbl_le B (show 0 ≤ L by omega)
  have s6 : ∀ i, i ≠ 1 → i ≠ 3 → (i < 14 ∨ 23 < i) → S6.1 i = S.1 i ∧ S6.2 i = S.2 i := fun i a b c => by
    have x := f63 i (by omega)
    have y := g3 i (by omega)
    have z := s3 i a b
    exact ⟨x.1.trans (y.1.trans z.1), x.2.trans (y.2.trans z.2)⟩
  have s611 : S6.1 1 1 = nI 0 := by rw [(f63 1 (by omega)).1, (g3 1 (by omega)).1]; exact s311
  have hv614 : zVX S6 14 T := zVX_fr f63 (Or.inr (by omega)) g2
  -- the reference
  obtain ⟨M0, n1, n2, n3, n4, n5, n6, n7, n8⟩ := zm_beg (B := B) d2 (fun k hk => (d5 k hk).2)
  obtain ⟨M1, a1, a2, a3, a4, a5⟩ := zm_aside M0
  have h9 : ∀ j, j < 4 → M.1 9 j = nI 0 ∨ M.1 9 j = nI 1 := fun j hj => by
    obtain ⟨o, c, z, o1, _, _, _, o5, _⟩ := rc j hj
    by_cases e : o = 0
    · left; rw [o5, e]
    · right; rw [o5, show o = 1 by omega]
  have m19 : M1.1 9 = M.1 9 := by rw [a4 9 (by omega), n8 9 (by omega)]
  obtain ⟨M2, w1, w2, _, w4, w5⟩ := zc_wo sh_FU 0 M1 (by omega) (by decide) (fun j hj => by rw [m19]; exact h9 j hj)
  have hT2 : zTM M2 B L := by
    unfold zTM
    rw [w5 0 (by omega), w5 14 (by omega), a4 0 (by omega), a4 14 (by omega)]
    exact n2
  have q19 : M2.1 0 19 = nI 0 := by rw [w5 0 (by omega), a4 0 (by omega)]; exact n3
  have q20 : M2.1 0 20 = -nI 1 := by rw [w5 0 (by omega), a4 0 (by omega)]; exact n4
  obtain ⟨M3, v1, v2, v3⟩ := zm_here hT2 d3 d4 q19 (by omega)
  have hT3 := zTM_9 v3 hT2
  have q203 : M3.1 0 20 = -nI 1 := (v3.1 20 (by omega)).trans q20
  have q18 : M3.1 0 18 = nI L := hT3.1
  have c3 : ∀ i, i ≠ 0 → i ≠ 5 → i ≠ 21 → M3.1 i = M.1 i := fun i a b c => by rw [v3.2.2 i a, w5 i c, a4 i b, n8 i a]
  have c32 : ∀ i, i ≠ 6 → M3.2 i = M.2 i := fun i a => by rw [v3.2.1, w4, a5 i a, n7]
  have c30 : ∀ k, k ≠ 17 → k ≠ 18 → k ≠ 19 → k ≠ 20 → M3.1 0 k = M.1 0 k := fun k a b c d => by rw [v3.1 k c, w5 0 (by omega), a4 0 (by omega), n6 k a b c d]
  have c317 : M3.1 0 17 = nI 0 := by rw [v3.1 17 (by omega), w5 0 (by omega), a4 0 (by omega)]; exact n5
  have c321 : ∀ j, j < 4 → M3.1 21 j = M.1 9 j := fun j hj => by rw [v3.2.2 21 (by omega), w2 j (by omega) hj, m19]
  have c35 : ∀ k, k < 1084 → M3.1 5 k = M.1 1 k := fun k hk => by rw [v3.2.2 5 (by omega), w5 5 (by omega), a2 k hk, n8 1 (by omega)]
  have c36 : ∀ k, k < 240 → M3.2 6 k = M.2 2 k := fun k hk => by rw [v3.2.1, w4, a3 k hk, n7]
  have hvm3 : zVN M3 T := by
    unfold zVN
    rw [c3 1 (by omega) (by omega) (by omega), c32 2 (by omega)]
    exact hvm
  have hFU : sh_FU = 99999 + 1 := rfl
  have hstart : fX13_acts M = fX13_acts_37 (99999 + 1) M2 (nI 0) (nI 0) := by
    rw [fX13_acts]
    simp (disch := omega) only [zq_l9, pk_mul, nI_add, zq_t9, zq_c9, zq_bz9, zq_bo9, zq_g, zq_cl, zq_leT, zq_leF, zq_ltT, zq_ltF, zq_eqT, zq_eqF, zq_em, zq_me, zq_pm, zq_mm, zq_gm, pk_sub, zI_s, zI_k, zI_c, zI_2, zL_s, zL_k, zL_c, zL_1, if_true, if_false, eq_self, Nat.zero_add, Nat.add_zero, n1, a1]
    rw [w1, hFU]
  rw [fX13_acts_37] at hstart
  by_cases c0 : zbl B L 0 = L
  · rw [if_pos c0] at k1
    obtain ⟨M4, t1, t2, t3, t4, t5, t6, t7⟩ := zm_acts70s (M := M3) (D := 0) (by omega)
    rw [if_pos rfl] at t4
    have x1 : fX12_acts S = some (.inl (nI 0), sh_I S6 34 1 (nI 0)) := by
      rw [fX12_acts]
      simp (disch := omega) only [zq_l9, pk_mul, nI_add, zq_t9, zq_c9, zq_bz9, zq_bo9, zq_g, zq_cl, zq_leT, zq_leF, zq_ltT, zq_ltF, zq_eqT, zq_eqF, zq_em, zq_me, zq_pm, zq_mm, zq_gm, pk_sub, zI_s, zI_k, zI_c, zI_2, zL_s, zL_k, zL_c, zL_1, if_true, if_false, eq_self, Nat.zero_add, Nat.add_zero, hu, hbg, g1, fX12_doText, k1, fX12_acts_65, fX3_forget]
    have y1 : fX13_acts M = some (nI 0, M4) := by
      rw [hstart, ← t1]
      have hcm : fX13_comesMore M2 (nI 0) = some (nI 0, M3) := by
        rw [fX13_comesMore]
        simp (disch := omega) only [zq_l9, pk_mul, nI_add, zq_t9, zq_c9, zq_bz9, zq_bo9, zq_g, zq_cl, zq_leT, zq_leF, zq_ltT, zq_ltF, zq_eqT, zq_eqF, zq_em, zq_me, zq_pm, zq_mm, zq_gm, pk_sub, zI_s, zI_k, zI_c, zI_2, zL_s, zL_k, zL_c, zL_1, if_true, if_false, eq_self, Nat.zero_add, Nat.add_zero, q20, v1, q18, c0]
      rw [hcm]
      simp (disch := omega) only [zq_l9, pk_mul, nI_add, zq_t9, zq_c9, zq_bz9, zq_bo9, zq_g, zq_cl, zq_leT, zq_leF, zq_ltT, zq_ltF, zq_eqT, zq_eqF, zq_em, zq_me, zq_pm, zq_mm, zq_gm, pk_sub, zI_s, zI_k, zI_c, zI_2, zL_s, zL_k, zL_c, zL_1, if_true, if_false, eq_self, Nat.zero_add, Nat.add_zero, q203]
    refine ⟨_, _, _, M4, x1, y1, Or.inl ⟨rfl, t2⟩, T, B, 0, hG, ?_, ?_, ?_, ?_, ?_, ?_, ?_, ?_, ?_⟩
    · exact zVX_fr (lo := 34) (hi := 34) (zFr_I S6 _ _ (by omega) (by omega)) (Or.inl (by omega)) hv6
    · unfold zVN
      rw [t7 1 (by omega), t6]
      exact hvm3
    · refine zRa_cg ra 0 (by omega) ?_ ?_ ?_ ?_
      · rw [zI_c S6 34 1 _ (by omega)]; exact s611
      · rw [zI_c S6 34 1 _ (by omega)]; exact (s6 2 (by omega) (by omega) (by omega)).1
      · rw [t5 17 (by omega) (by omega) (by omega)]; exact c317
      · rw [t7 14 (by omega)]; exact c3 14 (by omega) (by omega) (by omega)
    · rw [zI_c S6 34 1 _ (by omega), e63, t5 20 (by omega) (by omega) (by omega), q203]
    · rw [zI_c S6 34 1 _ (by omega), (s6 0 (by omega) (by omega) (by omega)).1, t4, c30 21 (by omega) (by omega) (by omega) (by omega)]; exact rb2
    · exact zRc_cg rc (fun i hi => by rw [zI_c S6 34 1 _ (by omega)]; exact (s6 i (by omega) (by omega) (by omega)).1) (fun i h3 h4 => by rw [t7 i (by omega)]; exact c3 i (by omega) (by omega) (by omega))
    · obtain ⟨t, u, Th, ht, hu8, h2, h1, h5, hT⟩ := rd
      refine zRd_0 ht ?_ (zI_s _ _ _ _) t3
      rw [zI_k S6 34 1 _ (by omega), (s6 34 (by omega) (by omega) (by omega)).1]; exact h2
    · refine zRe_cg re ?_ (fun i h3 h4 => ?_) ?_ ?_ ?_
      · rw [zI_c S6 34 1 _ (by omega), (s6 0 (by omega) (by omega) (by omega)).1]
      · rw [zI_c S6 34 1 _ (by omega), zI_2]; exact s6 i (by omega) (by omega) (by omega)
      · rw [t5 10 (by omega) (by omega) (by omega)]; exact c30 10 (by omega) (by omega) (by omega) (by omega)
      · rw [t7 7 (by omega)]; exact c3 7 (by omega) (by omega) (by omega)
      · rw [t6]; exact c32 8 (by omega)
    · exact zRg_cg rg (fun i h3 h4 => by rw [zI_c S6 34 1 _ (by omega)]; exact (s6 i (by omega) (by omega) (by omega)).1)
  · rw [if_neg c0] at k1
    obtain ⟨r, S7, i1, i2, i3, i4⟩ := zx_doText_l d3 d4 14 sh_FU 0 (zbl B L 0) 0 T S6 (by omega) (by omega) (by decide) (by omega) hG hv6 hT6 k2 hbl.2 e63
    obtain ⟨M4, D, c, th, p1, p2, p3, p4, p5⟩ := zm_acts_l d3 d4 (M.1 9) 14 99999 0 (zbl B L 0) 0 T M3 (by omega) (by omega) (by omega) (by omega) hG hvm3 hT3 v2 hbl.2 q203 (fun j _ => by rw [if_neg (by omega)]; exact congrFun (c3 9 (by omega) (by omega) (by omega)) j)
    have hpos := ztx_pos B L 14 T (zbl B L 0) 0 0 (by omega)
    have ygo : fX13_acts M = fX13_acts_70 M4 (nI D) (nI c) (nI th) := by
      rw [hstart, ← p1]
      have hcm : fX13_comesMore M2 (nI 0) = some (nI 1, M3) := by
        rw [fX13_comesMore]
        simp (disch := omega) only [zq_l9, pk_mul, nI_add, zq_t9, zq_c9, zq_bz9, zq_bo9, zq_g, zq_cl, zq_leT, zq_leF, zq_ltT, zq_ltF, zq_eqT, zq_eqF, zq_em, zq_me, zq_pm, zq_mm, zq_gm, pk_sub, zI_s, zI_k, zI_c, zI_2, zL_s, zL_k, zL_c, zL_1, if_true, if_false, eq_self, Nat.zero_add, Nat.add_zero, q20, v1, q18]
      rw [hcm]
      exact zstep1 _ _ _
    have xgo : fX12_doText S5 = some (r, S7) := by
      rw [fX12_doText]
      simp (disch := omega) only [zq_l9, pk_mul, nI_add, zq_t9, zq_c9, zq_bz9, zq_bo9, zq_g, zq_cl, zq_leT, zq_leF, zq_ltT, zq_ltF, zq_eqT, zq_eqF, zq_em, zq_me, zq_pm, zq_mm, zq_gm, pk_sub, zI_s, zI_k, zI_c, zI_2, zL_s, zL_k, zL_c, zL_1, if_true, if_false, eq_self, Nat.zero_add, Nat.add_zero, k1]
      exact i1
    have s7 : ∀ i, (i = 1 ∨ i = 2 ∨ (24 ≤ i ∧ i ≤ 115) ∨ (128 ≤ i ∧ i < 132)) → i ≠ 1 → S7.1 i = S.1 i ∧ S7.2 i = S.2 i := fun i hi h1 => by
      have x := i2.2.2 i (by omega)
      have y := s6 i h1 (by omega) (by omega)
      exact ⟨x.1.trans y.1, x.2.trans y.2⟩
    have s711 : S7.1 1 1 = nI 0 := by rw [(i2.2.2 1 (by omega)).1]; exact s611
    have m4k : ∀ k, k < 27 → k ≠ 17 → k ≠ 18 → k ≠ 19 → k ≠ 20 → M4.1 0 k = M.1 0 k := fun k hk a b c d => by rw [p3.1 k hk c d]; exact c30 k a b c d
    have m417 : M4.1 0 17 = nI 0 := by rw [p3.1 17 (by omega) (by omega) (by omega)]; exact c317
    have m4i : ∀ i, 3 ≤ i → i ≤ 14 → i ≠ 5 → i ≠ 6 → i ≠ 9 → M4.1 i = M.1 i ∧ M4.2 i = M.2 i := fun i h3 h14 n5 n6 n9 => by
      have x := p3.2.2 i h3 (by omega) n9
      exact ⟨x.1.trans (c3 i (by omega) n5 (by omega)), x.2.trans (c32 i n6)⟩
    generalize ztx B L 14 T (zbl B L 0) 0 0 = R at *
    by_cases cR : R.1 = 0
    · obtain ⟨o1, o2, o3, o4, o5, o6⟩ := i3 cR
      obtain ⟨u1, u2, u3, u4, u5, u6⟩ := p4 cR
      obtain ⟨z1, z2, z3⟩ := hpos cR
      subst u2
      subst u3
      obtain ⟨M5, t1, t2, t3, t4, t5, t6, t7⟩ := zm_acts70s (M := M4) (D := D) p2
      rw [if_neg (by omega)] at t4
      have x1 : fX12_acts S = some (.inl (nI R.2.1), sh_I (sh_I S7 0 10 (nI 0)) 34 1 (nI 0)) := by
        rw [fX12_acts]
        rw [o1] at xgo
        simp (disch := omega) only [zq_l9, pk_mul, nI_add, zq_t9, zq_c9, zq_bz9, zq_bo9, zq_g, zq_cl, zq_leT, zq_leF, zq_ltT, zq_ltF, zq_eqT, zq_eqF, zq_em, zq_me, zq_pm, zq_mm, zq_gm, pk_sub, zI_s, zI_k, zI_c, zI_2, zL_s, zL_k, zL_c, zL_1, if_true, if_false, eq_self, Nat.zero_add, Nat.add_zero, hu, hbg, g1, xgo, fX12_acts_65, fX3_forget]
      refine ⟨_, _, _, M5, x1, ygo.trans t1, Or.inl ⟨by rw [u1], t2⟩, R.2.2.2.1, B, 0, o4, ?_, ?_, ?_, ?_, ?_, ?_, ?_, ?_, ?_⟩
      · refine zVX_o (fun i h3 h4 => ⟨?_, rfl⟩) o3
        rw [zI_c _ 34 1 _ (by omega), zI_c S7 0 10 _ (by omega)]
      · unfold zVN
        rw [t7 1 (by omega), t6]
        exact u5
      · refine zRa_cg ra 0 (by omega) ?_ ?_ ?_ ?_
        · rw [zI_c _ 34 1 _ (by omega), zI_c S7 0 10 _ (by omega)]; exact s711
        · rw [zI_c _ 34 1 _ (by omega), zI_c S7 0 10 _ (by omega)]; exact (s7 2 (by omega) (by omega)).1
        · rw [t5 17 (by omega) (by omega) (by omega)]; exact m417
        · rw [t7 14 (by omega)]; exact (m4i 14 (by omega) (by omega) (by omega) (by omega) (by omega)).1
      · rw [zI_c _ 34 1 _ (by omega), zI_c S7 0 10 _ (by omega), o2, t5 20 (by omega) (by omega) (by omega), u4]
      · rw [zI_c _ 34 1 _ (by omega), zI_s, t4]
      · refine zRc_rd rc (c := R.2.2.2.2) (zRD_eq o5 (fun i hi => (s6 i (by omega) (by omega) (by omega)).1) (fun i hi => by rw [zI_c _ 34 1 _ (by omega), zI_c S7 0 10 _ (by omega)])) (fun j hj => ?_) (fun i h3 h4 => ?_)
        · rw [t7 9 (by omega)]; exact u6 j hj
        · rw [t7 i (by omega)]; exact (m4i i (by omega) (by omega) (by omega) (by omega) (by omega)).1
      · obtain ⟨t, u, Th, ht, hu8, h2, h1, h5, hT⟩ := rd
        refine zRd_0 ht ?_ (zI_s _ _ _ _) t3
        rw [zI_k _ 34 1 _ (by omega), zI_c S7 0 10 _ (by omega), (s7 34 (by omega) (by omega)).1]; exact h2
      · refine zRe_cg re ?_ (fun i h3 h4 => ?_) ?_ ?_ ?_
        · rw [zI_c _ 34 1 _ (by omega), zI_k S7 0 10 _ (by omega), i2.1 9 (by omega), (s6 0 (by omega) (by omega) (by omega)).1]
        · rw [zI_c _ 34 1 _ (by omega), zI_c S7 0 10 _ (by omega), zI_2, zI_2]; exact s7 i (by omega) (by omega)
        · rw [t5 10 (by omega) (by omega) (by omega)]; exact m4k 10 (by omega) (by omega) (by omega) (by omega) (by omega)
        · rw [t7 7 (by omega)]; exact (m4i 7 (by omega) (by omega) (by omega) (by omega) (by omega)).1
        · rw [t6]; exact (m4i 8 (by omega) (by omega) (by omega) (by omega) (by omega)).2
      · exact zRg_cg rg (fun i h3 h4 => by rw [zI_c _ 34 1 _ (by omega), zI_c S7 0 10 _ (by omega)]; exact (s7 i (by omega) (by omega)).1)
    · obtain ⟨o1, o2, o3, o4⟩ := i4 cR
      obtain ⟨u1, u2, u3, u4⟩ := p5 cR
      subst u2
      have m421 : ∀ j, j < 4 → M4.1 21 j = M.1 9 j := fun j hj => by rw [(p3.2.2 21 (by omega) (by omega) (by omega)).1]; exact c321 j hj
      obtain ⟨M5, t1, t2, t3, t4, t5, t6, t7, t8, t9⟩ := zm_acts70f (M := M4) (D := D) u4 (fun j hj => by rw [m421 j hj]; exact h9 j hj)
      have hv714 : zVX S7 14 T := zVX_o (fun i h3 h4 => i2.2.2 i (by omega)) hv614
      obtain ⟨S8, e1, e2, e3⟩ := zx_copyFrom (dd := 4) hv714 h7 (by omega)
      have x1 : fX12_acts S = some (.inr "java/lang/IllegalArgumentException", S8) := by
        rw [fX12_acts]
        rw [o1] at xgo
        simp (disch := omega) only [zq_l9, pk_mul, nI_add, zq_t9, zq_c9, zq_bz9, zq_bo9, zq_g, zq_cl, zq_leT, zq_leF, zq_ltT, zq_ltF, zq_eqT, zq_eqF, zq_em, zq_me, zq_pm, zq_mm, zq_gm, pk_sub, zI_s, zI_k, zI_c, zI_2, zL_s, zL_k, zL_c, zL_1, if_true, if_false, eq_self, Nat.zero_add, Nat.add_zero, hu, hbg, g1, xgo, e1]
      refine ⟨_, S8, _, M5, x1, ygo.trans t1, Or.inr ⟨0, _, rfl, rfl, t2⟩, T, B, 0, hG, e2, ?_, ?_, ?_, ?_, ?_, ?_, ?_, ?_⟩
      · exact zVN_k (fun k hk => by rw [t5 k hk, (p3.2.2 5 (by omega) (by omega) (by omega)).1]; exact c35 k hk) (fun k hk => by rw [t6 k hk, (p3.2.2 6 (by omega) (by omega) (by omega)).2]; exact c36 k hk) hvm
      · refine zRa_cg ra 0 (by omega) ?_ ?_ ?_ ?_
        · rw [(e3 1 (by omega)).1]; exact s711
        · rw [(e3 2 (by omega)).1]; exact (s7 2 (by omega) (by omega)).1
        · rw [t7 17 (by omega) (by omega)]; exact m417
        · rw [t8 14 (by omega) (by omega) (by omega)]; exact (m4i 14 (by omega) (by omega) (by omega) (by omega) (by omega)).1
      · rw [(e3 3 (by omega)).1, o2, t7 20 (by omega) (by omega), u3]
      · rw [(e3 0 (by omega)).1, o3, t3, u1, (s6 0 (by omega) (by omega) (by omega)).1, m4k 21 (by omega) (by omega) (by omega) (by omega) (by omega), rb2]
      · refine zRc_rd rc (c := 0) (zRD_eq o4 (fun i hi => (s6 i (by omega) (by omega) (by omega)).1) (fun i hi => (e3 i (by omega)).1)) (fun j hj => ?_) (fun i h3 h4 => ?_)
        · rw [t4 j hj, m421 j hj, if_neg (by omega)]
        · rw [t8 i (by omega) (by omega) (by omega)]; exact (m4i i (by omega) (by omega) (by omega) (by omega) (by omega)).1
      · exact zRd_cg rd (fun i h3 h4 => by
          have x := e3 i (by omega)
          have y := s7 i (by omega) (by omega)
          exact ⟨x.1.trans y.1, x.2.trans y.2⟩) (by rw [t7 5 (by omega) (by omega)]; exact m4k 5 (by omega) (by omega) (by omega) (by omega) (by omega)) (by rw [t8 3 (by omega) (by omega) (by omega)]; exact (m4i 3 (by omega) (by omega) (by omega) (by omega) (by omega)).1) (by rw [t9 4 (by omega)]; exact (m4i 4 (by omega) (by omega) (by omega) (by omega) (by omega)).2)
      · refine zRe_cg re ?_ (fun i h3 h4 => ?_) ?_ ?_ ?_
        · rw [(e3 0 (by omega)).1, i2.1 9 (by omega), (s6 0 (by omega) (by omega) (by omega)).1]
        · have x := e3 i (by omega)
          have y := s7 i (by omega) (by omega)
          exact ⟨x.1.trans y.1, x.2.trans y.2⟩
        · rw [t7 10 (by omega) (by omega)]; exact m4k 10 (by omega) (by omega) (by omega) (by omega) (by omega)
        · rw [t8 7 (by omega) (by omega) (by omega)]; exact (m4i 7 (by omega) (by omega) (by omega) (by omega) (by omega)).1
        · rw [t9 8 (by omega)]; exact (m4i 8 (by omega) (by omega) (by omega) (by omega) (by omega)).2
      · exact zRg_cg rg (fun i h3 h4 => by rw [(e3 i (by omega)).1]; exact (s7 i (by omega) (by omega)).1)
