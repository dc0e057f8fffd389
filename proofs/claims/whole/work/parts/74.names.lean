/-! a text that is one name, or two -/
theorem zcx_l {α γ : Type} (a : α) (S : sh_St) (f : α → sh_St → Option ((γ ⊕ String) × sh_St)) : sh_cx (some (.inl a, S)) f = f a S := rfl
theorem zcx_r {α γ : Type} (E : String) (S : sh_St) (f : α → sh_St → Option ((γ ⊕ String) × sh_St)) : sh_cx (some (.inr E, S)) f = some (.inr E, S) := rfl
def zo1 (B : Nat → Nat) (L : Nat) : Prop := zno B L 0 ∧ zbl B L (zne B L 0) = L
def zo2 (B : Nat → Nat) (L : Nat) : Prop := zno B L 0 ∧ zno B L (zne B L 0) ∧ zbl B L (zne B L (zne B L 0)) = L
noncomputable def zf1 (B : Nat → Nat) (L : Nat) : Nat := @ite _ (zno B L 0) (Classical.propDecidable _) (zbl B L (zne B L 0)) (zbl B L 0)
noncomputable def zf2 (B : Nat → Nat) (L : Nat) : Nat := @ite _ (zno B L 0) (Classical.propDecidable _) (@ite _ (zno B L (zne B L 0)) (Classical.propDecidable _) (zbl B L (zne B L (zne B L 0))) (zbl B L (zne B L 0))) (zbl B L 0)
theorem zx_begin (S : sh_St) (v : Int32) : fX10_begin S v = some ((), sh_I (sh_I (sh_I S 3 1 v) 3 2 (nI 0)) 3 3 (-nI 1)) := rfl
theorem zx_beg {S : sh_St} {B : Nat → Nat} {L : Nat} (hb : ∀ k, k < 400 → S.1 2 k = nI (B k)) : zTX (sh_I (sh_I (sh_I S 3 1 (nI L)) 3 2 (nI 0)) 3 3 (-nI 1)) B L ∧ (sh_I (sh_I (sh_I S 3 1 (nI L)) 3 2 (nI 0)) 3 3 (-nI 1)).1 3 2 = nI 0 ∧ (sh_I (sh_I (sh_I S 3 1 (nI L)) 3 2 (nI 0)) 3 3 (-nI 1)).1 3 3 = -nI 1 ∧ zFr 3 3 S (sh_I (sh_I (sh_I S 3 1 (nI L)) 3 2 (nI 0)) 3 3 (-nI 1)) := by
  refine ⟨⟨?_, fun k hk => ?_⟩, ?_, zI_s _ _ _ _, zFr_tr (zFr_tr (zFr_I S _ _ (by omega) (by omega)) (zFr_I _ _ _ (by omega) (by omega))) (zFr_I _ _ _ (by omega) (by omega))⟩
  · rw [zI_k _ 3 3 _ (by omega), zI_k _ 3 2 _ (by omega), zI_s]
  · rw [zI_c _ 3 3 _ (by omega), zI_c _ 3 2 _ (by omega), zI_c _ 3 1 _ (by omega)]; exact hb k hk
  · rw [zI_k _ 3 3 _ (by omega), zI_s]
theorem zx_name1 {S : sh_St} {B : Nat → Nat} {L : Nat} (hL : L ≤ 400) (hB : ∀ k, B k < 256) (hb : ∀ k, k < 400 → S.1 2 k = nI (B k)) : ∃ S', zFr 3 3 S S' ∧ (zo1 B L → fX12_nameTold S (nI L) = some (.inl (znm B L 0), S') ∧ S'.1 3 3 = -nI 1) ∧ (¬ zo1 B L → fX12_nameTold S (nI L) = some (.inr "java/lang/IllegalArgumentException", S') ∧ S'.1 3 3 = nI (zf1 B L)) := by
  obtain ⟨b1, b2, b3, b4⟩ := zx_beg (L := L) hb
  rw [fX12_nameTold, zx_begin, zq_c9]
  generalize sh_I (sh_I (sh_I S 3 1 (nI L)) 3 2 (nI 0)) 3 3 (-nI 1) = S0 at *
  obtain ⟨r, S1, g1, g2, g3, g4, g5⟩ := zx_readName b1 hL hB b2 (by omega)
  have h0 := zbl_le B (show 0 ≤ L by omega)
  have hne := zne_le B (show 0 ≤ L by omega)
  have hb2 := zbl_le B hne.2
  obtain ⟨S2, k1, k2, k3⟩ := zx_right (zTX_3 g3 b1) hL hB g2 hne.2
  refine ⟨S2, zFr_tr b4 (zFr_tr (zFr_F3 g3) (zFr_F3 k2)), fun q => ?_, fun q => ?_⟩
  · obtain ⟨x1, x2⟩ := g4 q.1
    rw [if_pos q.2, x2, b3] at k3
    rw [if_pos k3] at k1
    refine ⟨?_, k3⟩
    simp (disch := omega) only [zq_l9, pk_mul, nI_add, zq_t9, zq_c9, zq_bz9, zq_bo9, zq_g, zq_cl, zq_leT, zq_leF, zq_ltT, zq_ltF, zq_eqT, zq_eqF, zq_em, zq_me, zq_pm, zq_mm, zq_gm, pk_sub, zI_s, zI_k, zI_c, zI_2, zL_s, zL_k, zL_c, zL_1, if_true, if_false, eq_self, Nat.zero_add, Nat.add_zero, g1, k1, x1]
  · have hw : S2.1 3 3 = nI (zf1 B L) := by
      unfold zf1
      by_cases c : zno B L 0
      · rw [if_pos c]
        obtain ⟨x1, x2⟩ := g4 c
        rw [k3, if_neg (fun w => q ⟨c, w⟩), x2, b3, zfw_m]
      · rw [if_neg c, k3, g5 c, b3, zfw_m]
        split
        · rfl
        · exact zfw_n (by omega) _
    have hf : zf1 B L < 2 ^ 31 := by unfold zf1; split <;> omega
    rw [if_neg (by rw [hw]; exact zq_n1 hf)] at k1
    refine ⟨?_, hw⟩
    simp (disch := omega) only [zq_l9, pk_mul, nI_add, zq_t9, zq_c9, zq_bz9, zq_bo9, zq_g, zq_cl, zq_leT, zq_leF, zq_ltT, zq_ltF, zq_eqT, zq_eqF, zq_em, zq_me, zq_pm, zq_mm, zq_gm, pk_sub, zI_s, zI_k, zI_c, zI_2, zL_s, zL_k, zL_c, zL_1, if_true, if_false, eq_self, Nat.zero_add, Nat.add_zero, g1, k1]
theorem zx_name2 {S : sh_St} {B : Nat → Nat} {L : Nat} (hL : L ≤ 400) (hB : ∀ k, B k < 256) (hb : ∀ k, k < 400 → S.1 2 k = nI (B k)) : ∃ r r' S1 S2 S3 x, fX10_begin S (nI L) = some ((), sh_I (sh_I (sh_I S 3 1 (nI L)) 3 2 (nI 0)) 3 3 (-nI 1)) ∧ fX10_readName (sh_I (sh_I (sh_I S 3 1 (nI L)) 3 2 (nI 0)) 3 3 (-nI 1)) = some (r, S1) ∧ fX10_readName S1 = some (r', S2) ∧ fX10_isRightlyOver S2 = some (nI x, S3) ∧ zFr 3 3 S S3 ∧ (zo2 B L → x = 1 ∧ r = znm B L 0 ∧ r' = znm B L (zne B L 0) ∧ S3.1 3 3 = -nI 1) ∧ (¬ zo2 B L → x = 0 ∧ S3.1 3 3 = nI (zf2 B L)) := by
  obtain ⟨b1, b2, b3, b4⟩ := zx_beg (L := L) hb
  have hbg := zx_begin S (nI L)
  generalize sh_I (sh_I (sh_I S 3 1 (nI L)) 3 2 (nI 0)) 3 3 (-nI 1) = S0 at *
  obtain ⟨r, S1, g1, g2, g3, g4, g5⟩ := zx_readName b1 hL hB b2 (by omega)
  have h0 := zbl_le B (show 0 ≤ L by omega)
  have hne := zne_le B (show 0 ≤ L by omega)
  have hb2 := zbl_le B hne.2
  have hT1 := zTX_3 g3 b1
  obtain ⟨r', S2, m1, m2, m3, m4, m5⟩ := zx_readName hT1 hL hB g2 hne.2
  have hne2 := zne_le B hne.2
  have hb3 := zbl_le B hne2.2
  obtain ⟨S3, k1, k2, k3⟩ := zx_right (zTX_3 m3 hT1) hL hB m2 hne2.2
  have hw : (zo2 B L → S3.1 3 3 = -nI 1) ∧ (¬ zo2 B L → S3.1 3 3 = nI (zf2 B L)) := by
    refine ⟨fun q => ?_, fun q => ?_⟩
    · rw [k3, if_pos q.2.2, (m4 q.2.1).2, (g4 q.1).2, b3]
    · unfold zf2
      by_cases c : zno B L 0
      · rw [if_pos c]
        by_cases d : zno B L (zne B L 0)
        · rw [if_pos d, k3, if_neg (fun w => q ⟨c, d, w⟩), (m4 d).2, (g4 c).2, b3, zfw_m]
        · rw [if_neg d, k3, m5 d, (g4 c).2, b3, zfw_m]
          split
          · rfl
          · exact zfw_n (by omega) _
      · rw [if_neg c]
        have e2 : S2.1 3 3 = nI (zbl B L 0) := by
          by_cases d : zno B L (zne B L 0)
          · rw [(m4 d).2, g5 c, b3, zfw_m]
          · rw [m5 d, g5 c, b3, zfw_m, zfw_n (by omega)]
        rw [k3, e2]
        split
        · rfl
        · exact zfw_n (by omega) _
  have hf : zf2 B L < 2 ^ 31 := by unfold zf2; (repeat' split) <;> omega
  refine ⟨r, r', S1, S2, S3, if S3.1 3 3 = -nI 1 then 1 else 0, hbg, g1, m1, k1, zFr_tr b4 (zFr_tr (zFr_F3 g3) (zFr_tr (zFr_F3 m3) (zFr_F3 k2))), fun q => ⟨if_pos (hw.1 q), (g4 q.1).1, (m4 q.2.1).1, hw.1 q⟩, fun q => ⟨if_neg (by rw [hw.2 q]; exact zq_n1 hf), hw.2 q⟩⟩
/-! the reference -/
theorem zm_beg {M : sh_St} {B : Nat → Nat} {L : Nat} (h17 : M.1 0 17 = nI L) (hb : ∀ k, k < 400 → M.1 14 k = nI (B k)) : ∃ M', fX13_begins M = some ((), M') ∧ zTM M' B L ∧ M'.1 0 19 = nI 0 ∧ M'.1 0 20 = -nI 1 ∧ M'.1 0 17 = nI 0 ∧ (∀ k, k ≠ 17 → k ≠ 18 → k ≠ 19 → k ≠ 20 → M'.1 0 k = M.1 0 k) ∧ M'.2 = M.2 ∧ ∀ i, i ≠ 0 → M'.1 i = M.1 i := by
  refine ⟨sh_I (sh_I (sh_I (sh_I M 0 20 (-nI 1)) 0 18 (nI L)) 0 17 (nI 0)) 0 19 (nI 0), ?_, ⟨?_, fun k hk => ?_⟩, zI_s _ _ _ _, ?_, ?_, fun k a b c d => ?_, rfl, fun i hi => ?_⟩
  · rw [fX13_begins]
    simp (disch := omega) only [zq_l9, pk_mul, nI_add, zq_t9, zq_c9, zq_bz9, zq_bo9, zq_g, zq_cl, zq_leT, zq_leF, zq_ltT, zq_ltF, zq_eqT, zq_eqF, zq_em, zq_me, zq_pm, zq_mm, zq_gm, pk_sub, zI_s, zI_k, zI_c, zI_2, zL_s, zL_k, zL_c, zL_1, if_true, if_false, eq_self, Nat.zero_add, Nat.add_zero, h17]
  · rw [zI_k _ 0 19 _ (by omega), zI_k _ 0 17 _ (by omega), zI_s]
  · rw [zI_c _ 0 19 _ (by omega), zI_c _ 0 17 _ (by omega), zI_c _ 0 18 _ (by omega), zI_c _ 0 20 _ (by omega)]; exact hb k hk
  · rw [zI_k _ 0 19 _ (by omega), zI_k _ 0 17 _ (by omega), zI_k _ 0 18 _ (by omega), zI_s]
  · rw [zI_k _ 0 19 _ (by omega), zI_s]
  · rw [zI_k _ 0 19 _ c, zI_k _ 0 17 _ a, zI_k _ 0 18 _ b, zI_k _ 0 20 _ d]
  · rw [zI_c _ 0 19 _ hi, zI_c _ 0 17 _ hi, zI_c _ 0 18 _ hi, zI_c _ 0 20 _ hi]
theorem zm_name51 (M : sh_St) : fX13_isName_51 M = some (nI (if M.1 0 20 = -nI 1 then 1 else 0), sh_I M 0 0 (nI (if M.1 0 20 = -nI 1 then 0 else 1))) := by
  rw [fX13_isName_51]
  by_cases c : M.1 0 20 = -nI 1
  · rw [if_pos c, if_pos c]
    simp (disch := omega) only [zq_l9, pk_mul, nI_add, zq_t9, zq_c9, zq_bz9, zq_bo9, zq_g, zq_cl, zq_leT, zq_leF, zq_ltT, zq_ltF, zq_eqT, zq_eqF, zq_em, zq_me, zq_pm, zq_mm, zq_gm, pk_sub, zI_s, zI_k, zI_c, zI_2, zL_s, zL_k, zL_c, zL_1, if_true, if_false, eq_self, Nat.zero_add, Nat.add_zero, c, fX13_isName_65]
  · rw [if_neg c, if_neg c]
    simp (disch := omega) only [zq_l9, pk_mul, nI_add, zq_t9, zq_c9, zq_bz9, zq_bo9, zq_g, zq_cl, zq_leT, zq_leF, zq_ltT, zq_ltF, zq_eqT, zq_eqF, zq_em, zq_me, zq_pm, zq_mm, zq_gm, pk_sub, zI_s, zI_k, zI_c, zI_2, zL_s, zL_k, zL_c, zL_1, if_true, if_false, eq_self, Nat.zero_add, Nat.add_zero, c, fX13_isName_65]
/-- what stands behind the names -/
theorem zm_name24 {M : sh_St} {B : Nat → Nat} {L p : Nat} (hT : zTM M B L) (hL : L ≤ 400) (hB : ∀ k, B k < 256) (hp : p ≤ L) (h19 : M.1 0 20 = -nI 1 → M.1 0 19 = nI p) : ∃ M', fX13_isName_24 M = some (nI (if M'.1 0 20 = -nI 1 then 1 else 0), M') ∧ M'.1 0 0 = nI (if M'.1 0 20 = -nI 1 then 0 else 1) ∧ M'.1 0 20 = (if M.1 0 20 = -nI 1 then (if zbl B L p = L then -nI 1 else nI (zbl B L p)) else M.1 0 20) ∧ (∀ k, k ≠ 0 → k ≠ 19 → k ≠ 20 → M'.1 0 k = M.1 0 k) ∧ M'.2 = M.2 ∧ ∀ i, i ≠ 0 → M'.1 i = M.1 i := by
  have hbl := zbl_le B hp
  have hfin : ∀ M1, zM0 M M1 → M1.1 0 20 = (if M.1 0 20 = -nI 1 then (if zbl B L p = L then -nI 1 else nI (zbl B L p)) else M.1 0 20) → fX13_isName_24 M = fX13_isName_51 M1 → ∃ M', fX13_isName_24 M = some (nI (if M'.1 0 20 = -nI 1 then 1 else 0), M') ∧ M'.1 0 0 = nI (if M'.1 0 20 = -nI 1 then 0 else 1) ∧ M'.1 0 20 = (if M.1 0 20 = -nI 1 then (if zbl B L p = L then -nI 1 else nI (zbl B L p)) else M.1 0 20) ∧ (∀ k, k ≠ 0 → k ≠ 19 → k ≠ 20 → M'.1 0 k = M.1 0 k) ∧ M'.2 = M.2 ∧ ∀ i, i ≠ 0 → M'.1 i = M.1 i := fun M1 hm h20 e => by
    have e20 : (sh_I M1 0 0 (nI (if M1.1 0 20 = -nI 1 then 0 else 1))).1 0 20 = M1.1 0 20 := zI_k M1 0 0 _ (by omega)
    refine ⟨sh_I M1 0 0 (nI (if M1.1 0 20 = -nI 1 then 0 else 1)), ?_, ?_, ?_, fun k a b c => ?_, ?_, fun i hi => ?_⟩
    · rw [e20, e, zm_name51]
    · rw [e20, zI_s]
    · rw [e20, h20]
    · rw [zI_k M1 0 0 _ a, hm.1 k b c]
    · rw [zI_2, hm.2.1]
    · rw [zI_c M1 0 0 _ hi, hm.2.2 i hi]
  by_cases c : M.1 0 20 = -nI 1
  · obtain ⟨M1, g1, g2, g3⟩ := zm_here hT hL hB (h19 c) hp
    have h18 := (zTM_9 g3 hT).1
    have h20 : M1.1 0 20 = -nI 1 := (g3.1 20 (by omega)).trans c
    by_cases d : zbl B L p = L
    · refine hfin M1 (zM0_9 g3) (by rw [if_pos c, if_pos d]; exact h20) ?_
      rw [fX13_isName_24]
      simp (disch := omega) only [zq_l9, pk_mul, nI_add, zq_t9, zq_c9, zq_bz9, zq_bo9, zq_g, zq_cl, zq_leT, zq_leF, zq_ltT, zq_ltF, zq_eqT, zq_eqF, zq_em, zq_me, zq_pm, zq_mm, zq_gm, pk_sub, zI_s, zI_k, zI_c, zI_2, zL_s, zL_k, zL_c, zL_1, if_true, if_false, eq_self, Nat.zero_add, Nat.add_zero, c, g1, h18]
    · obtain ⟨M2, k1, k2, k3, k4⟩ := zm_wrong M1 (zbl B L p)
      refine hfin M2 (zM0_tr (zM0_9 g3) k4) (by rw [if_pos c, if_neg d, k2, h20, zfw_m]) ?_
      rw [fX13_isName_24]
      simp (disch := omega) only [zq_l9, pk_mul, nI_add, zq_t9, zq_c9, zq_bz9, zq_bo9, zq_g, zq_cl, zq_leT, zq_leF, zq_ltT, zq_ltF, zq_eqT, zq_eqF, zq_em, zq_me, zq_pm, zq_mm, zq_gm, pk_sub, zI_s, zI_k, zI_c, zI_2, zL_s, zL_k, zL_c, zL_1, if_true, if_false, eq_self, Nat.zero_add, Nat.add_zero, c, g1, g2, h18, k1]
  · refine hfin M (zM0_9 (zM9_rf M)) (by rw [if_neg c]) ?_
    rw [fX13_isName_24, show (-1 : Int32) = -nI 1 from rfl, if_neg c]
theorem zTM_L {M : sh_St} {B : Nat → Nat} {L k : Nat} (v : Int64) (h : zTM M B L) : zTM (sh_L M 0 k v) B L := h
theorem zm_isName1 {M : sh_St} {B : Nat → Nat} {L : Nat} (hL : L ≤ 400) (hB : ∀ k, B k < 256) (h17 : M.1 0 17 = nI L) (hb : ∀ k, k < 400 → M.1 14 k = nI (B k)) : ∃ x M', fX13_isName M (nI 0) = some (nI x, M') ∧ (zo1 B L → x = 1 ∧ M'.1 0 0 = nI 0 ∧ M'.1 0 20 = -nI 1 ∧ M'.2 0 22 = znm B L 0) ∧ (¬ zo1 B L → x = 0 ∧ M'.1 0 0 = nI 1 ∧ M'.1 0 20 = nI (zf1 B L)) ∧ M'.1 0 17 = nI 0 ∧ (∀ k, k ≠ 0 → k ≠ 17 → k ≠ 18 → k ≠ 19 → k ≠ 20 → M'.1 0 k = M.1 0 k) ∧ ∀ i, i ≠ 0 → M'.1 i = M.1 i ∧ M'.2 i = M.2 i := by
  obtain ⟨M0, b1, b2, b3, b4, b5, b6, b7, b8⟩ := zm_beg h17 hb
  obtain ⟨r, M1, g1, g2, g3, g4⟩ := zm_name b2 hL hB b3 (by omega) b4
  have h0 := zbl_le B (show 0 ≤ L by omega)
  have hne := zne_le B (show 0 ≤ L by omega)
  have hb2 := zbl_le B hne.2
  have hT1 := zTM_0 g2 b2
  obtain ⟨M2, k1, k2, k3, k4, k5, k6⟩ := zm_name24 (M := sh_L M1 0 22 r) (zTM_L r hT1) hL hB hne.2 (fun q => by
    by_cases c : zno B L 0
    · exact (g3 c).2.2
    · have q' : M1.1 0 20 = -nI 1 := q
      rw [g4 c] at q'
      exact absurd q' (zq_n1 (by omega)))
  have e1 : (sh_L M1 0 22 r).1 0 20 = M1.1 0 20 := rfl
  rw [e1] at k3
  have hfun : fX13_isName M (nI 0) = some (nI (if M2.1 0 20 = -nI 1 then 1 else 0), M2) := by
    rw [fX13_isName, ← k1]
    simp (disch := omega) only [zq_l9, pk_mul, nI_add, zq_t9, zq_c9, zq_bz9, zq_bo9, zq_g, zq_cl, zq_leT, zq_leF, zq_ltT, zq_ltF, zq_eqT, zq_eqF, zq_em, zq_me, zq_pm, zq_mm, zq_gm, pk_sub, zI_s, zI_k, zI_c, zI_2, zL_s, zL_k, zL_c, zL_1, if_true, if_false, eq_self, Nat.zero_add, Nat.add_zero, b1, g1]
  refine ⟨_, M2, hfun, fun q => ?_, fun q => ?_, ?_, fun k a b c d e => ?_, fun i hi => ⟨?_, ?_⟩⟩
  · obtain ⟨x1, x2, x3⟩ := g3 q.1
    rw [if_pos x2, if_pos q.2] at k3
    rw [if_pos k3] at k2
    rw [if_pos k3]
    refine ⟨rfl, k2, k3, ?_⟩
    rw [k5, zL_s, x1]
  · have hw : M2.1 0 20 = nI (zf1 B L) := by
      unfold zf1
      by_cases c : zno B L 0
      · rw [if_pos c, k3, if_pos (g3 c).2.1, if_neg (fun w => q ⟨c, w⟩)]
      · rw [if_neg c, k3, g4 c, if_neg (zq_n1 (by omega))]
    have hf : zf1 B L < 2 ^ 31 := by unfold zf1; split <;> omega
    have hnn : ¬ M2.1 0 20 = -nI 1 := by rw [hw]; exact zq_n1 hf
    rw [if_neg hnn] at k2
    rw [if_neg hnn]
    exact ⟨rfl, k2, hw⟩
  · rw [k4 17 (by omega) (by omega) (by omega)]
    show M1.1 0 17 = _
    rw [g2.1 17 (by omega) (by omega)]; exact b5
  · rw [k4 k a d e]
    show M1.1 0 k = _
    rw [g2.1 k d e]; exact b6 k b c d e
  · rw [k6 i hi]
    show M1.1 i = _
    rw [g2.2.2 i hi, b8 i hi]
  · rw [k5, zL_c M1 0 22 _ hi, g2.2.1, b7]
theorem zm_isName2 {M : sh_St} {B : Nat → Nat} {L : Nat} (hL : L ≤ 400) (hB : ∀ k, B k < 256) (h17 : M.1 0 17 = nI L) (hb : ∀ k, k < 400 → M.1 14 k = nI (B k)) : ∃ x M', fX13_isName M (nI 1) = some (nI x, M') ∧ (zo2 B L → x = 1 ∧ M'.1 0 0 = nI 0 ∧ M'.1 0 20 = -nI 1 ∧ M'.2 0 22 = znm B L 0 ∧ M'.2 0 23 = znm B L (zne B L 0)) ∧ (¬ zo2 B L → x = 0 ∧ M'.1 0 0 = nI 1 ∧ M'.1 0 20 = nI (zf2 B L)) ∧ M'.1 0 17 = nI 0 ∧ (∀ k, k ≠ 0 → k ≠ 17 → k ≠ 18 → k ≠ 19 → k ≠ 20 → M'.1 0 k = M.1 0 k) ∧ ∀ i, i ≠ 0 → M'.1 i = M.1 i ∧ M'.2 i = M.2 i := by
  obtain ⟨M0, b1, b2, b3, b4, b5, b6, b7, b8⟩ := zm_beg h17 hb
  obtain ⟨r, M1, g1, g2, g3, g4⟩ := zm_name b2 hL hB b3 (by omega) b4
  have h0 := zbl_le B (show 0 ≤ L by omega)
  have hne := zne_le B (show 0 ≤ L by omega)
  have hb2 := zbl_le B hne.2
  have hne2 := zne_le B hne.2
  have hb3 := zbl_le B hne2.2
  have hT1 : zTM (sh_L M1 0 22 r) B L := zTM_L r (zTM_0 g2 b2)
  have hsec : ∃ r' M3, fX13_name (sh_L M1 0 22 r) = some (r', M3) ∧ zM0 (sh_L M1 0 22 r) M3 ∧ (zno B L 0 → zno B L (zne B L 0) → r' = znm B L (zne B L 0) ∧ M3.1 0 20 = -nI 1 ∧ M3.1 0 19 = nI (zne B L (zne B L 0))) ∧ (zno B L 0 → ¬ zno B L (zne B L 0) → M3.1 0 20 = nI (zbl B L (zne B L 0))) ∧ (¬ zno B L 0 → M3.1 0 20 = nI (zbl B L 0)) := by
    by_cases c : zno B L 0
    · obtain ⟨x1, x2, x3⟩ := g3 c
      obtain ⟨r', M3, m1, m2, m3, m4⟩ := zm_name hT1 hL hB x3 hne.2 x2
      exact ⟨r', M3, m1, m2, fun _ => m3, fun _ => m4, fun q => absurd c q⟩
    · have x := g4 c
      refine ⟨0, sh_L M1 0 22 r, zm_nameF (by show ¬ M1.1 0 20 = _; rw [x]; exact zq_n1 (by omega)), zM0_9 (zM9_rf _), fun q => absurd q c, fun q => absurd q c, fun _ => x⟩
  obtain ⟨r', M3, s1, s2, s3, s4, s5⟩ := hsec
  obtain ⟨M2, k1, k2, k3, k4, k5, k6⟩ := zm_name24 (M := sh_L M3 0 23 r') (zTM_L r' (zTM_0 s2 hT1)) hL hB hne2.2 (fun q => by
    have q' : M3.1 0 20 = -nI 1 := q
    by_cases c : zno B L 0
    · by_cases d : zno B L (zne B L 0)
      · exact (s3 c d).2.2
      · rw [s4 c d] at q'
        exact absurd q' (zq_n1 (by omega))
    · rw [s5 c] at q'
      exact absurd q' (zq_n1 (by omega)))
  have e1 : (sh_L M3 0 23 r').1 0 20 = M3.1 0 20 := rfl
  rw [e1] at k3
  have hfun : fX13_isName M (nI 1) = some (nI (if M2.1 0 20 = -nI 1 then 1 else 0), M2) := by
    rw [fX13_isName, ← k1]
    simp (disch := omega) only [zq_l9, pk_mul, nI_add, zq_t9, zq_c9, zq_bz9, zq_bo9, zq_g, zq_cl, zq_leT, zq_leF, zq_ltT, zq_ltF, zq_eqT, zq_eqF, zq_em, zq_me, zq_pm, zq_mm, zq_gm, pk_sub, zI_s, zI_k, zI_c, zI_2, zL_s, zL_k, zL_c, zL_1, if_true, if_false, eq_self, Nat.zero_add, Nat.add_zero, b1, g1, s1]
  refine ⟨_, M2, hfun, fun q => ?_, fun q => ?_, ?_, fun k a b c d e => ?_, fun i hi => ⟨?_, ?_⟩⟩
  · obtain ⟨y1, y2, y3⟩ := s3 q.1 q.2.1
    rw [if_pos y2, if_pos q.2.2] at k3
    rw [if_pos k3] at k2
    rw [if_pos k3]
    refine ⟨rfl, k2, k3, ?_, ?_⟩
    · rw [k5, zL_k M3 0 23 _ (by omega), s2.2.1, zL_s, (g3 q.1).1]
    · rw [k5, zL_s, y1]
  · have hw : M2.1 0 20 = nI (zf2 B L) := by
      unfold zf2
      by_cases c : zno B L 0
      · rw [if_pos c]
        by_cases d : zno B L (zne B L 0)
        · rw [if_pos d, k3, if_pos (s3 c d).2.1, if_neg (fun w => q ⟨c, d, w⟩)]
        · rw [if_neg d, k3, s4 c d, if_neg (zq_n1 (by omega))]
      · rw [if_neg c, k3, s5 c, if_neg (zq_n1 (by omega))]
    have hf : zf2 B L < 2 ^ 31 := by unfold zf2; (repeat' split) <;> omega
    have hnn : ¬ M2.1 0 20 = -nI 1 := by rw [hw]; exact zq_n1 hf
    rw [if_neg hnn] at k2
    rw [if_neg hnn]
    exact ⟨rfl, k2, hw⟩
  · rw [k4 17 (by omega) (by omega) (by omega)]
    show M3.1 0 17 = _
    rw [s2.1 17 (by omega) (by omega)]
    show M1.1 0 17 = _
    rw [g2.1 17 (by omega) (by omega)]; exact b5
  · rw [k4 k a d e]
    show M3.1 0 k = _
    rw [s2.1 k d e]
    show M1.1 0 k = _
    rw [g2.1 k d e]; exact b6 k b c d e
  · rw [k6 i hi]
    show M3.1 i = _
    rw [s2.2.2 i hi]
    show M1.1 i = _
    rw [g2.2.2 i hi, b8 i hi]
  · rw [k5, zL_c M3 0 23 _ hi, s2.2.1, zL_c M1 0 22 _ hi, g2.2.1, b7]
