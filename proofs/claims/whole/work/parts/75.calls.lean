/-! calls that act -/
def zEx (ex : List String) (x : Int32 ⊕ String) (r th : Int32) : Prop := (x = .inl r ∧ th = nI 0) ∨ ∃ (k : Nat) (nm : String), ex[k]? = some nm ∧ x = .inr nm ∧ th = nI (k + 1)
def zRR (S M : sh_St) : Prop := ∃ T B L, zR S M T B L
/-- a call answers alike on both sides -/
def zCA (ex : List String) (f : Option ((Int32 ⊕ String) × sh_St)) (g : Option (Int32 × sh_St)) : Prop := ∃ x S' r M', f = some (x, S') ∧ g = some (r, M') ∧ zEx ex x r (M'.1 0 0) ∧ zRR S' M'
def zCB (f g : Option (Int32 × sh_St)) : Prop := ∃ r S' M', f = some (r, S') ∧ g = some (r, M') ∧ zRR S' M'
theorem zx_useUp {S M : sh_St} {T : zT} {B : Nat → Nat} {L : Nat} (h : zR S M T B L) : fX9_useUp S = some (nI L, sh_I S 1 1 (nI 0)) := by
  rw [fX9_useUp]
  simp (disch := omega) only [zq_l9, pk_mul, nI_add, zq_t9, zq_c9, zq_bz9, zq_bo9, zq_g, zq_cl, zq_leT, zq_leF, zq_ltT, zq_ltF, zq_eqT, zq_eqF, zq_em, zq_me, zq_pm, zq_mm, zq_gm, pk_sub, zI_s, zI_k, zI_c, zI_2, zL_s, zL_k, zL_c, zL_1, if_true, if_false, eq_self, Nat.zero_add, Nat.add_zero, h.2.2.2.1.1]
theorem zR_use {S M M' : sh_St} {T : zT} {B : Nat → Nat} {L : Nat} (h : zR S M T B L) (h17 : M'.1 0 17 = nI 0) (hk : ∀ k, k ≠ 0 → k ≠ 17 → k < 27 → M'.1 0 k = M.1 0 k) (hi : ∀ i, i ≠ 0 → (i < 15 ∨ 20 < i) → M'.1 i = M.1 i ∧ M'.2 i = M.2 i) : zR (sh_I S 1 1 (nI 0)) M' T B 0 := by
  have hh := h
  obtain ⟨_, _, _, d, e, f, _⟩ := h
  refine zR_mk hh 0 (by omega) (zI_s _ _ _ _) h17 ?_ ?_ ?_ (fun i hi => sh_I_ne S 1 1 _ i (by omega)) (fun k q => hk k (by omega) (by omega) (by omega)) (fun i q => hi i (by omega) (by omega))
  · rw [zI_c S 1 1 _ (by omega), hk 20 (by omega) (by omega) (by omega)]; exact e
  · rw [zI_c S 1 1 _ (by omega), hk 21 (by omega) (by omega) (by omega)]; exact f
  · rw [zI_c S 1 1 _ (by omega)]
theorem zR_name1 {S M : sh_St} {T : zT} {B : Nat → Nat} {L : Nat} (h : zR S M T B L) : ∃ S' M' x, fX13_isName M (nI 0) = some (nI x, M') ∧ zR S' M' T B 0 ∧ (zo1 B L → x = 1 ∧ fX12_nameTold (sh_I S 1 1 (nI 0)) (nI L) = some (.inl (znm B L 0), S') ∧ M'.2 0 22 = znm B L 0 ∧ M'.1 0 0 = nI 0 ∧ zval (znm B L 0)) ∧ (¬ zo1 B L → x = 0 ∧ fX12_nameTold (sh_I S 1 1 (nI 0)) (nI L) = some (.inr "java/lang/IllegalArgumentException", S') ∧ M'.1 0 0 = nI 1) := by
  have hh := h
  obtain ⟨_, _, _, ⟨d1, d2, d3, d4, d5⟩, e, f, _⟩ := h
  obtain ⟨S', g1, g2, g3⟩ := zx_name1 (S := sh_I S 1 1 (nI 0)) d3 d4 (fun k hk => by rw [zI_c S 1 1 _ (by omega)]; exact (d5 k hk).1)
  obtain ⟨x, M', k1, k2, k3, k4, k5, k6⟩ := zm_isName1 d3 d4 d2 (fun k hk => (d5 k hk).2)
  refine ⟨S', M', x, k1, ?_, fun q => ?_, fun q => ?_⟩
  · refine zR_mk hh 0 (by omega) ?_ k4 ?_ ?_ ?_ (fun i hi => ?_) (fun k q => k5 k (by omega) (by omega) (by omega) (by omega) (by omega)) (fun i q => k6 i (by omega))
    · rw [(g1 1 (by omega)).1, zI_s]
    · by_cases c : zo1 B L
      · rw [(g2 c).2, (k2 c).2.2.1]
      · rw [(g3 c).2, (k3 c).2.2]
    · rw [(g1 0 (by omega)).1, zI_c S 1 1 _ (by omega), k5 21 (by omega) (by omega) (by omega) (by omega) (by omega)]; exact f
    · rw [(g1 0 (by omega)).1, zI_c S 1 1 _ (by omega)]
    · have a := g1 i (by omega)
      have b := sh_I_ne S 1 1 (nI 0) i (by omega)
      exact ⟨a.1.trans b.1, a.2.trans b.2⟩
  · exact ⟨(k2 q).1, (g2 q).1, (k2 q).2.2.2, (k2 q).2.1, znm_val d4 q.1⟩
  · exact ⟨(k3 q).1, (g3 q).1, (k3 q).2.1⟩
theorem zAs_of {M M1 : sh_St} (a : ∀ k, k < 1084 → M1.1 5 k = M.1 1 k) (b : ∀ k, k < 240 → M1.2 6 k = M.2 2 k) (c : ∀ i, i ≠ 5 → M1.1 i = M.1 i) (d : ∀ i, i ≠ 6 → M1.2 i = M.2 i) : zAs M M1 := ⟨a, b, fun k _ _ => by rw [c 0 (by omega)], d 0 (by omega), fun i _ h5 h6 _ => ⟨c i h5, d i h6⟩⟩
theorem zVN_as {M M1 : sh_St} {T : zT} (c : ∀ i, i ≠ 5 → M1.1 i = M.1 i) (d : ∀ i, i ≠ 6 → M1.2 i = M.2 i) (h : zVN M T) : zVN M1 T := by
  unfold zVN
  rw [c 1 (by omega), d 2 (by omega)]
  exact h
theorem zc_put {S M : sh_St} (h : zRR S M) (v : Int32) : zCA ["java/lang/IllegalArgumentException", "java/lang/IllegalStateException"] (fX12_put S v) (fX13_put M v) := by
  obtain ⟨T, B, L, h⟩ := h
  have hu := zx_useUp h
  rw [fX12_put, fX13_put]
  have hbad : zR (sh_I S 1 1 (nI 0)) (sh_I (sh_I M 0 17 (nI 0)) 0 0 (nI 1)) T B 0 := zR_use h (by rw [zI_k _ 0 0 _ (by omega), zI_s]) (fun k h0 h17 _ => by rw [zI_k _ 0 0 _ h0, zI_k M 0 17 _ h17]) (fun i h0 _ => ⟨by rw [zI_c _ 0 0 _ h0, zI_c M 0 17 _ h0], rfl⟩)
  rcases zn_cs v with hv | ⟨j, hj, rfl⟩
  · have hin := zn_isIn M hv (lo := 0) (hi := 999) (by omega)
    refine ⟨.inr "java/lang/IllegalArgumentException", sh_I S 1 1 (nI 0), nI 0, sh_I (sh_I M 0 17 (nI 0)) 0 0 (nI 1), ?_, ?_, Or.inr ⟨0, _, rfl, rfl, zI_s _ _ _ _⟩, T, B, 0, hbad⟩
    · simp (disch := omega) only [zq_l9, pk_mul, nI_add, zq_t9, zq_c9, zq_bz9, zq_bo9, zq_g, zq_cl, zq_leT, zq_leF, zq_ltT, zq_ltF, zq_eqT, zq_eqF, zq_em, zq_me, zq_pm, zq_mm, zq_gm, pk_sub, zI_s, zI_k, zI_c, zI_2, zL_s, zL_k, zL_c, zL_1, if_true, if_false, eq_self, Nat.zero_add, Nat.add_zero, hu, zn_lt hv, fX12_put_19]
    · simp (disch := omega) only [zq_l9, pk_mul, nI_add, zq_t9, zq_c9, zq_bz9, zq_bo9, zq_g, zq_cl, zq_leT, zq_leF, zq_ltT, zq_ltF, zq_eqT, zq_eqF, zq_em, zq_me, zq_pm, zq_mm, zq_gm, pk_sub, zI_s, zI_k, zI_c, zI_2, zL_s, zL_k, zL_c, zL_1, if_true, if_false, eq_self, Nat.zero_add, Nat.add_zero, hin]
  · have hin := zm_within' M (v := j) (lo := 0) (hi := 999) hj (by omega) (by omega)
    by_cases c : j ≤ 999
    · rw [if_pos (by omega)] at hin
      obtain ⟨S1, M1, x, k1, k2, k3, k4⟩ := zR_name1 h
      by_cases q : zo1 B L
      · obtain ⟨x1, x2, x3, x4, x5⟩ := k3 q
        subst x1
        obtain ⟨M2, a1, a2, a3, a4, a5⟩ := zm_aside M1
        have hAs := zAs_of a2 a3 a4 a5
        obtain ⟨M3, o1, o2, o3⟩ := zop_0 k2.1 (zVN_as a4 a5 k2.2.2.1) x5 0 j
        have e22 : M2.2 0 22 = znm B L 0 := by rw [a5 0 (by omega)]; exact x3
        obtain ⟨y, S', M', T', c1, c2, c3, c4, c5⟩ := zR_call k2 (a := 0) (v := j) ⟨by omega, fun _ => c, fun w => by omega, fun w => by omega, fun w => by omega⟩ (n := znm B L 0) (m := 0) (fun _ => x5) (fun w => by omega) hAs o2 2
        by_cases z : zref T 0 (znm B L 0) 0 j = 0
        · obtain ⟨d1, d2, d3, d4⟩ := c4 z
          subst d1
          rw [if_pos z] at c2
          refine ⟨_, S', nI (zans T 0 (znm B L 0) 0 j), M', ?_, ?_, Or.inl ⟨rfl, d2⟩, T', B, 0, c3⟩
          · simp (disch := omega) only [zq_l9, pk_mul, nI_add, zq_t9, zq_c9, zq_bz9, zq_bo9, zq_g, zq_cl, zq_leT, zq_leF, zq_ltT, zq_ltF, zq_eqT, zq_eqF, zq_em, zq_me, zq_pm, zq_mm, zq_gm, pk_sub, zI_s, zI_k, zI_c, zI_2, zL_s, zL_k, zL_c, zL_1, if_true, if_false, eq_self, Nat.zero_add, Nat.add_zero, hu, x2, zcx_l, c1]
          · have e37 : M'.1 0 37 = nI (zans T 0 (znm B L 0) 0 j) := by rw [d4, o3 z]; rfl
            simp (disch := omega) only [zq_l9, pk_mul, nI_add, zq_t9, zq_c9, zq_bz9, zq_bo9, zq_g, zq_cl, zq_leT, zq_leF, zq_ltT, zq_ltF, zq_eqT, zq_eqF, zq_em, zq_me, zq_pm, zq_mm, zq_gm, pk_sub, zI_s, zI_k, zI_c, zI_2, zL_s, zL_k, zL_c, zL_1, if_true, if_false, eq_self, Nat.zero_add, Nat.add_zero, hin, k1, a1, e22, o1, c2, e37]
        · obtain ⟨d1, d2⟩ := c5 z
          subst d1
          rw [if_neg z] at c2
          refine ⟨_, S', nI 0, M', ?_, ?_, Or.inr ⟨1, _, rfl, rfl, d2⟩, T', B, 0, c3⟩
          · simp (disch := omega) only [zq_l9, pk_mul, nI_add, zq_t9, zq_c9, zq_bz9, zq_bo9, zq_g, zq_cl, zq_leT, zq_leF, zq_ltT, zq_ltF, zq_eqT, zq_eqF, zq_em, zq_me, zq_pm, zq_mm, zq_gm, pk_sub, zI_s, zI_k, zI_c, zI_2, zL_s, zL_k, zL_c, zL_1, if_true, if_false, eq_self, Nat.zero_add, Nat.add_zero, hu, x2, zcx_l, c1, zcx_r]
          · simp (disch := omega) only [zq_l9, pk_mul, nI_add, zq_t9, zq_c9, zq_bz9, zq_bo9, zq_g, zq_cl, zq_leT, zq_leF, zq_ltT, zq_ltF, zq_eqT, zq_eqF, zq_em, zq_me, zq_pm, zq_mm, zq_gm, pk_sub, zI_s, zI_k, zI_c, zI_2, zL_s, zL_k, zL_c, zL_1, if_true, if_false, eq_self, Nat.zero_add, Nat.add_zero, hin, k1, a1, e22, o1, c2]
      · obtain ⟨x1, x2, x3⟩ := k4 q
        subst x1
        refine ⟨_, S1, nI 0, M1, ?_, ?_, Or.inr ⟨0, _, rfl, rfl, x3⟩, T, B, 0, k2⟩
        · simp (disch := omega) only [zq_l9, pk_mul, nI_add, zq_t9, zq_c9, zq_bz9, zq_bo9, zq_g, zq_cl, zq_leT, zq_leF, zq_ltT, zq_ltF, zq_eqT, zq_eqF, zq_em, zq_me, zq_pm, zq_mm, zq_gm, pk_sub, zI_s, zI_k, zI_c, zI_2, zL_s, zL_k, zL_c, zL_1, if_true, if_false, eq_self, Nat.zero_add, Nat.add_zero, hu, x2, zcx_r]
        · simp (disch := omega) only [zq_l9, pk_mul, nI_add, zq_t9, zq_c9, zq_bz9, zq_bo9, zq_g, zq_cl, zq_leT, zq_leF, zq_ltT, zq_ltF, zq_eqT, zq_eqF, zq_em, zq_me, zq_pm, zq_mm, zq_gm, pk_sub, zI_s, zI_k, zI_c, zI_2, zL_s, zL_k, zL_c, zL_1, if_true, if_false, eq_self, Nat.zero_add, Nat.add_zero, hin, k1]
    · rw [if_neg (by omega)] at hin
      refine ⟨.inr "java/lang/IllegalArgumentException", sh_I S 1 1 (nI 0), nI 0, sh_I (sh_I M 0 17 (nI 0)) 0 0 (nI 1), ?_, ?_, Or.inr ⟨0, _, rfl, rfl, zI_s _ _ _ _⟩, T, B, 0, hbad⟩
      · simp (disch := omega) only [zq_l9, pk_mul, nI_add, zq_t9, zq_c9, zq_bz9, zq_bo9, zq_g, zq_cl, zq_leT, zq_leF, zq_ltT, zq_ltF, zq_eqT, zq_eqF, zq_em, zq_me, zq_pm, zq_mm, zq_gm, pk_sub, zI_s, zI_k, zI_c, zI_2, zL_s, zL_k, zL_c, zL_1, if_true, if_false, eq_self, Nat.zero_add, Nat.add_zero, hu, fX12_put_19]
      · simp (disch := omega) only [zq_l9, pk_mul, nI_add, zq_t9, zq_c9, zq_bz9, zq_bo9, zq_g, zq_cl, zq_leT, zq_leF, zq_ltT, zq_ltF, zq_eqT, zq_eqF, zq_em, zq_me, zq_pm, zq_mm, zq_gm, pk_sub, zI_s, zI_k, zI_c, zI_2, zL_s, zL_k, zL_c, zL_1, if_true, if_false, eq_self, Nat.zero_add, Nat.add_zero, hin]
/-- the node that is found, by the reference -/
theorem zm_node {M : sh_St} {T : zT} (hv : zVN M T) (hI : zInv T) {n : Int64} (hn : zval n) : ∃ M', fX13_seeks M n = some (nI (if (zsk T n).1 < 240 then 1 else 0), M') ∧ zFm M M' ∧ ((zsk T n).1 < 240 → M'.1 0 30 = nI ((zsk T n).1 / 6) ∧ M'.1 0 31 = nI ((zsk T n).1 % 6) ∧ M'.1 1 (840 + (zsk T n).1) = nI (T.1 3 (zsk T n).1)) := by
  obtain ⟨M', g1, _, g3, g4⟩ := zm_seeks hv hI hn
  refine ⟨M', g1, g4, fun c => ?_⟩
  obtain ⟨a, b⟩ := zFo_t g3 c
  exact ⟨a, b, zM_d (zVN_fm g4 hv) c (zsk_nz c)⟩
theorem zc_cut {S M : sh_St} (h : zRR S M) : zCA ["java/lang/IllegalArgumentException", "java/lang/IllegalStateException"] (fX12_cut S) (fX13_cut M) := by
  obtain ⟨T, B, L, h⟩ := h
  have hu := zx_useUp h
  rw [fX12_cut, fX13_cut]
  obtain ⟨S1, M1, x, k1, k2, k3, k4⟩ := zR_name1 h
  by_cases q : zo1 B L
  · obtain ⟨x1, x2, x3, x4, x5⟩ := k3 q
    subst x1
    obtain ⟨M2, a1, a2, a3, a4, a5⟩ := zm_aside M1
    have hv2 := zVN_as a4 a5 k2.2.2.1
    obtain ⟨M3, s1, s2, s3⟩ := zm_node hv2 k2.1.1 x5
    have hAs := zAs_m (zAs_of a2 a3 a4 a5) s2
    obtain ⟨M4, o1, o2⟩ := zop_1 k2.1 (zVN_fm s2 hv2) x5 0 0
    have e22 : M2.2 0 22 = znm B L 0 := by rw [a5 0 (by omega)]; exact x3
    have e23 : M3.2 0 22 = znm B L 0 := by rw [s2.2.1]; exact e22
    obtain ⟨y, S', M', T', c1, c2, c3, c4, c5⟩ := zR_call k2 (a := 1) (v := 0) ⟨by omega, fun w => by omega, fun w => by omega, fun w => by omega, fun w => by omega⟩ (n := znm B L 0) (m := 0) (fun _ => x5) (fun w => by omega) hAs o2 2
    have hz : zref T 1 (znm B L 0) 0 0 = if (zsk T (znm B L 0)).1 < 240 then 0 else 4 := rfl
    by_cases w : (zsk T (znm B L 0)).1 < 240
    · rw [if_pos w] at hz s1
      rw [hz] at c2 c4 o1
      obtain ⟨d1, d2, d3, d4⟩ := c4 rfl
      obtain ⟨t1, t2, t3⟩ := s3 w
      subst d1
      rw [if_pos rfl] at c2
      have he : 6 * ((zsk T (znm B L 0)).1 / 6) + (zsk T (znm B L 0)).1 % 6 = (zsk T (znm B L 0)).1 := by omega
      refine ⟨_, S', nI (zans T 1 (znm B L 0) 0 0), M', ?_, ?_, Or.inl ⟨rfl, d2⟩, T', B, 0, c3⟩
      · simp (disch := omega) only [zq_l9, pk_mul, nI_add, zq_t9, zq_c9, zq_bz9, zq_bo9, zq_g, zq_cl, zq_leT, zq_leF, zq_ltT, zq_ltF, zq_eqT, zq_eqF, zq_em, zq_me, zq_pm, zq_mm, zq_gm, pk_sub, zI_s, zI_k, zI_c, zI_2, zL_s, zL_k, zL_c, zL_1, if_true, if_false, eq_self, Nat.zero_add, Nat.add_zero, hu, x2, zcx_l, c1]
      · simp (disch := omega) only [zq_l9, pk_mul, nI_add, zq_t9, zq_c9, zq_bz9, zq_bo9, zq_g, zq_cl, zq_leT, zq_leF, zq_ltT, zq_ltF, zq_eqT, zq_eqF, zq_em, zq_me, zq_pm, zq_mm, zq_gm, pk_sub, zI_s, zI_k, zI_c, zI_2, zL_s, zL_k, zL_c, zL_1, if_true, if_false, eq_self, Nat.zero_add, Nat.add_zero, k1, a1, e22, s1, t1, t2, fX13_slotAt, he, t3, fX13_cut_51, e23, o1, c2]
        rfl
    · rw [if_neg w] at hz s1
      rw [hz] at c2 c5 o1
      obtain ⟨d1, d2⟩ := c5 (by omega)
      subst d1
      rw [if_neg (by omega)] at c2
      refine ⟨_, S', nI 0, M', ?_, ?_, Or.inr ⟨1, _, rfl, rfl, d2⟩, T', B, 0, c3⟩
      · simp (disch := omega) only [zq_l9, pk_mul, nI_add, zq_t9, zq_c9, zq_bz9, zq_bo9, zq_g, zq_cl, zq_leT, zq_leF, zq_ltT, zq_ltF, zq_eqT, zq_eqF, zq_em, zq_me, zq_pm, zq_mm, zq_gm, pk_sub, zI_s, zI_k, zI_c, zI_2, zL_s, zL_k, zL_c, zL_1, if_true, if_false, eq_self, Nat.zero_add, Nat.add_zero, hu, x2, zcx_l, c1, zcx_r]
      · simp (disch := omega) only [zq_l9, pk_mul, nI_add, zq_t9, zq_c9, zq_bz9, zq_bo9, zq_g, zq_cl, zq_leT, zq_leF, zq_ltT, zq_ltF, zq_eqT, zq_eqF, zq_em, zq_me, zq_pm, zq_mm, zq_gm, pk_sub, zI_s, zI_k, zI_c, zI_2, zL_s, zL_k, zL_c, zL_1, if_true, if_false, eq_self, Nat.zero_add, Nat.add_zero, k1, a1, e22, s1, fX13_cut_51, e23, o1, c2]
  · obtain ⟨x1, x2, x3⟩ := k4 q
    subst x1
    refine ⟨_, S1, nI 0, M1, ?_, ?_, Or.inr ⟨0, _, rfl, rfl, x3⟩, T, B, 0, k2⟩
    · simp (disch := omega) only [zq_l9, pk_mul, nI_add, zq_t9, zq_c9, zq_bz9, zq_bo9, zq_g, zq_cl, zq_leT, zq_leF, zq_ltT, zq_ltF, zq_eqT, zq_eqF, zq_em, zq_me, zq_pm, zq_mm, zq_gm, pk_sub, zI_s, zI_k, zI_c, zI_2, zL_s, zL_k, zL_c, zL_1, if_true, if_false, eq_self, Nat.zero_add, Nat.add_zero, hu, x2, zcx_r]
    · simp (disch := omega) only [zq_l9, pk_mul, nI_add, zq_t9, zq_c9, zq_bz9, zq_bo9, zq_g, zq_cl, zq_leT, zq_leF, zq_ltT, zq_ltF, zq_eqT, zq_eqF, zq_em, zq_me, zq_pm, zq_mm, zq_gm, pk_sub, zI_s, zI_k, zI_c, zI_2, zL_s, zL_k, zL_c, zL_1, if_true, if_false, eq_self, Nat.zero_add, Nat.add_zero, k1]
theorem zc_turn {S M : sh_St} (h : zRR S M) : zCA ["java/lang/IllegalArgumentException", "java/lang/IllegalStateException"] (fX12_turn S) (fX13_turn M) := by
  obtain ⟨T, B, L, h⟩ := h
  have hu := zx_useUp h
  rw [fX12_turn, fX13_turn]
  have hh := h
  obtain ⟨_, _, _, ⟨d1, d2, d3, d4, d5⟩, e, f, _⟩ := h
  obtain ⟨r, r', S1, S2, S3, x, b1, b2, b3, b4, b5, b6, b7⟩ := zx_name2 (S := sh_I S 1 1 (nI 0)) (L := L) d3 d4 (fun k hk => by rw [zI_c S 1 1 _ (by omega)]; exact (d5 k hk).1)
  obtain ⟨x', M1, k1, k2, k3, k4, k5, k6⟩ := zm_isName2 d3 d4 d2 (fun k hk => (d5 k hk).2)
  generalize sh_I (sh_I (sh_I (sh_I S 1 1 (nI 0)) 3 1 (nI L)) 3 2 (nI 0)) 3 3 (-nI 1) = S0 at *
  have hR : zR S3 M1 T B 0 := by
    refine zR_mk hh 0 (by omega) ?_ k4 ?_ ?_ ?_ (fun i hi => ?_) (fun k q => k5 k (by omega) (by omega) (by omega) (by omega) (by omega)) (fun i q => k6 i (by omega))
    · rw [(b5 1 (by omega)).1, zI_s]
    · by_cases c : zo2 B L
      · rw [(b6 c).2.2.2, (k2 c).2.2.1]
      · rw [(b7 c).2, (k3 c).2.2]
    · rw [(b5 0 (by omega)).1, zI_c S 1 1 _ (by omega), k5 21 (by omega) (by omega) (by omega) (by omega) (by omega)]; exact f
    · rw [(b5 0 (by omega)).1, zI_c S 1 1 _ (by omega)]
    · have a := b5 i (by omega)
      have b := sh_I_ne S 1 1 (nI 0) i (by omega)
      exact ⟨a.1.trans b.1, a.2.trans b.2⟩
  by_cases q : zo2 B L
  · obtain ⟨x1, x2, x3, x4⟩ := b6 q
    obtain ⟨y1, y2, y3, y4, y5⟩ := k2 q
    subst x1
    subst y1
    have v1 : zval (znm B L 0) := znm_val d4 q.1
    have v2 : zval (znm B L (zne B L 0)) := znm_val d4 q.2.1
    obtain ⟨M2, a1, a2, a3, a4, a5⟩ := zm_aside M1
    have hv2 := zVN_as a4 a5 hR.2.2.1
    obtain ⟨M3, s1, s2, s3⟩ := zm_node hv2 hR.1.1 v1
    have hAs := zAs_m (zAs_of a2 a3 a4 a5) s2
    obtain ⟨M4, o1, o2⟩ := zop_2 hR.1 (zVN_fm s2 hv2) v1 v2 0
    have e22 : M2.2 0 22 = znm B L 0 := by rw [a5 0 (by omega)]; exact y4
    have e23 : M3.2 0 22 = znm B L 0 := by rw [s2.2.1]; exact e22
    have e24 : M3.2 0 23 = znm B L (zne B L 0) := by rw [s2.2.1, a5 0 (by omega)]; exact y5
    generalize znm B L 0 = n at *
    generalize znm B L (zne B L 0) = m at *
    obtain ⟨y, S', M', T', c1, c2, c3, c4, c5⟩ := zR_call hR (a := 2) (v := 0) ⟨by omega, fun w => by omega, fun w => by omega, fun w => by omega, fun w => by omega⟩ (n := n) (m := m) (fun _ => v1) (fun _ => v2) hAs o2 2
    have hr5 := zref_le (T := T) (a := 2) (n := n) (m := m) (v := 0)
    have c1' : fX12_doByCall S3 (nI 2) r r' (nI 0) = some (y, S') := by rw [x2, x3]; exact c1
    by_cases z : zref T 2 n m 0 = 0
    · obtain ⟨d1, d2, d3, d4⟩ := c4 z
      have w : (zsk T n).1 < 240 := (zrT_0 (T := T) (n := n) (m := m) z).1
      rw [if_pos w] at s1
      obtain ⟨t1, t2, t3⟩ := s3 w
      subst d1
      rw [if_pos z] at c2
      rw [z] at c2 o1
      have he : 6 * ((zsk T n).1 / 6) + (zsk T n).1 % 6 = (zsk T n).1 := by omega
      refine ⟨_, S', nI (zans T 2 n m 0), M', ?_, ?_, Or.inl ⟨rfl, d2⟩, T', B, 0, c3⟩
      · simp (disch := omega) only [zq_l9, pk_mul, nI_add, zq_t9, zq_c9, zq_bz9, zq_bo9, zq_g, zq_cl, zq_leT, zq_leF, zq_ltT, zq_ltF, zq_eqT, zq_eqF, zq_em, zq_me, zq_pm, zq_mm, zq_gm, pk_sub, zI_s, zI_k, zI_c, zI_2, zL_s, zL_k, zL_c, zL_1, if_true, if_false, eq_self, Nat.zero_add, Nat.add_zero, hu, b1, b2, b3, b4, c1', zcx_l]
      · simp (disch := omega) only [zq_l9, pk_mul, nI_add, zq_t9, zq_c9, zq_bz9, zq_bo9, zq_g, zq_cl, zq_leT, zq_leF, zq_ltT, zq_ltF, zq_eqT, zq_eqF, zq_em, zq_me, zq_pm, zq_mm, zq_gm, pk_sub, zI_s, zI_k, zI_c, zI_2, zL_s, zL_k, zL_c, zL_1, if_true, if_false, eq_self, Nat.zero_add, Nat.add_zero, k1, a1, e22, s1, t1, t2, fX13_slotAt, he, t3, fX13_turn_51, e23, e24, o1, c2]
        rfl
    · obtain ⟨d1, d2⟩ := c5 z
      subst d1
      rw [if_neg z] at c2
      have h51 : ∀ t, fX13_turn_51 M3 t = some (nI 0, M') := fun t => by
        rw [fX13_turn_51]
        simp (disch := omega) only [zq_l9, pk_mul, nI_add, zq_t9, zq_c9, zq_bz9, zq_bo9, zq_g, zq_cl, zq_leT, zq_leF, zq_ltT, zq_ltF, zq_eqT, zq_eqF, zq_em, zq_me, zq_pm, zq_mm, zq_gm, pk_sub, zI_s, zI_k, zI_c, zI_2, zL_s, zL_k, zL_c, zL_1, if_true, if_false, eq_self, Nat.zero_add, Nat.add_zero, e23, e24, o1, c2]
      refine ⟨_, S', nI 0, M', ?_, ?_, Or.inr ⟨1, _, rfl, rfl, d2⟩, T', B, 0, c3⟩
      · simp (disch := omega) only [zq_l9, pk_mul, nI_add, zq_t9, zq_c9, zq_bz9, zq_bo9, zq_g, zq_cl, zq_leT, zq_leF, zq_ltT, zq_ltF, zq_eqT, zq_eqF, zq_em, zq_me, zq_pm, zq_mm, zq_gm, pk_sub, zI_s, zI_k, zI_c, zI_2, zL_s, zL_k, zL_c, zL_1, if_true, if_false, eq_self, Nat.zero_add, Nat.add_zero, hu, b1, b2, b3, b4, c1', zcx_r]
      · by_cases w : (zsk T n).1 < 240
        · rw [if_pos w] at s1
          obtain ⟨t1, t2, t3⟩ := s3 w
          have he : 6 * ((zsk T n).1 / 6) + (zsk T n).1 % 6 = (zsk T n).1 := by omega
          simp (disch := omega) only [zq_l9, pk_mul, nI_add, zq_t9, zq_c9, zq_bz9, zq_bo9, zq_g, zq_cl, zq_leT, zq_leF, zq_ltT, zq_ltF, zq_eqT, zq_eqF, zq_em, zq_me, zq_pm, zq_mm, zq_gm, pk_sub, zI_s, zI_k, zI_c, zI_2, zL_s, zL_k, zL_c, zL_1, if_true, if_false, eq_self, Nat.zero_add, Nat.add_zero, k1, a1, e22, s1, t1, t2, fX13_slotAt, he, h51]
        · rw [if_neg w] at s1
          simp (disch := omega) only [zq_l9, pk_mul, nI_add, zq_t9, zq_c9, zq_bz9, zq_bo9, zq_g, zq_cl, zq_leT, zq_leF, zq_ltT, zq_ltF, zq_eqT, zq_eqF, zq_em, zq_me, zq_pm, zq_mm, zq_gm, pk_sub, zI_s, zI_k, zI_c, zI_2, zL_s, zL_k, zL_c, zL_1, if_true, if_false, eq_self, Nat.zero_add, Nat.add_zero, k1, a1, e22, s1, h51]
  · obtain ⟨x1, x2⟩ := b7 q
    obtain ⟨y1, y2, y3⟩ := k3 q
    subst x1
    subst y1
    refine ⟨_, S3, nI 0, M1, ?_, ?_, Or.inr ⟨0, "java/lang/IllegalArgumentException", rfl, rfl, y2⟩, T, B, 0, hR⟩
    · simp (disch := omega) only [zq_l9, pk_mul, nI_add, zq_t9, zq_c9, zq_bz9, zq_bo9, zq_g, zq_cl, zq_leT, zq_leF, zq_ltT, zq_ltF, zq_eqT, zq_eqF, zq_em, zq_me, zq_pm, zq_mm, zq_gm, pk_sub, zI_s, zI_k, zI_c, zI_2, zL_s, zL_k, zL_c, zL_1, if_true, if_false, eq_self, Nat.zero_add, Nat.add_zero, hu, b1, b2, b3, b4]
    · simp (disch := omega) only [zq_l9, pk_mul, nI_add, zq_t9, zq_c9, zq_bz9, zq_bo9, zq_g, zq_cl, zq_leT, zq_leF, zq_ltT, zq_ltF, zq_eqT, zq_eqF, zq_em, zq_me, zq_pm, zq_mm, zq_gm, pk_sub, zI_s, zI_k, zI_c, zI_2, zL_s, zL_k, zL_c, zL_1, if_true, if_false, eq_self, Nat.zero_add, Nat.add_zero, k1]
