/-! an index is parted; a name is put -/
theorem zK3_0 {T : zT} {ix : Nat} : (zK3 T ix).1 0 = (zwT T 0 (zfr T) 2).1 0 := zCp_i _ _ _ _ (by omega) (by omega)
theorem zK3_i {T : zT} {ix i : Nat} (h : i = 2 ∨ i = 3 ∨ 6 < i) : (zK3 T ix).1 i = T.1 i := by
  unfold zK3
  rw [zCp_i _ _ _ _ (by omega) (by omega), zwT_i _ _ _ _ (by omega)]
theorem zK3_d {T : zT} {ix b : Nat} (h : b ≠ zfr T) : (zK3 T ix).1 1 b = T.1 1 b := by
  unfold zK3
  rw [zCp_d _ _ _ _ h, zwT_i _ _ _ _ (by omega)]
theorem zK3_av {m : Nat} {T : zT} {ix : Nat} (h : zAv (m + 1) T) : zAv m (zK3 T ix) := zAv_Cp _ _ (by rw [zwT_s]; omega) (zAv_take h (by omega) (by omega))
theorem zx_splitIndex {S : sh_St} {T : zT} (hv : zVX S 4 T) (hA : zAv 2 T) {ix p lev : Nat} (hix : ix < 40) (hl2 : lev ≤ 2) (hlev : T.1 7 0 = lev) (hkx : T.1 0 ix ≠ 0) (hlow : fX11_lowestIndex S = some (nI ix, S)) (hp : ix ≠ 0 → S.1 123 0 = nI p ∧ p < 5 ∧ T.1 1 0 ≤ 5) : ∃ S', fX4_splitIndex S = some ((), S') ∧ zVX S' 4 (zK6 T ix (p + 1)) ∧ zFr 4 13 S S' := by
  have h6 := (hv.1 ix hix).2.2.2
  rw [fX4_splitIndex, hlow]
  unfold zK6
  by_cases c5 : T.1 1 ix ≤ 5
  · rw [if_pos c5]
    refine ⟨S, ?_, hv, zFr_rf _ _ S⟩
    simp (disch := omega) only [zq_l2, pk_mul, nI_add, zq_t, zq_c, zq_bz, zq_bo, zq_g, zq_cl, zq_leT, zq_leF, zq_ltT, zq_ltF, zq_eqT, zq_eqF, zq_em, zq_me, zq_pm, zq_mm, zq_gm, pk_sub, zI_s, zI_k, zI_c, zI_2, zL_s, zL_k, zL_c, zL_1, if_true, if_false, eq_self, Nat.zero_add, Nat.add_zero, zX_c hv]
  · rw [if_neg c5]
    have hf0 := zfr_lt hA
    have hz := zfr_0 hf0
    obtain ⟨S1, e1, e2, e3⟩ := zx_take hv (fun b hb => (hA.1 b hb).1) hA.2.1 hf0 2
    obtain ⟨S2, f1, f2, f3⟩ := zx_copy e2 (a := ix) (c := zfr T) (f := 3) hix hf0 (by omega)
    have f2' : zVX S2 4 (zK3 T ix) := f2
    have y7 : S2.1 11 (zfr T * 6) = nI ((zK3 T ix).1 4 (zfr T * 6)) := (f2'.2.2.1 (zfr T * 6) (by omega)).1
    have y8 : S2.1 12 (zfr T * 6) = nI ((zK3 T ix).1 5 (zfr T * 6)) := (f2'.2.2.1 (zfr T * 6) (by omega)).2.1
    by_cases i0 : ix = 0
    · subst i0
      rw [if_pos rfl]
      have hA3 := zK3_av (ix := 0) hA
      have hf3 := zfr_lt hA3
      obtain ⟨S3, g1, g2, g3⟩ := zx_take f2' (fun b hb => (hA3.1 b hb).1) hA3.2.1 hf3 2
      obtain ⟨S4, i1, i2, i3⟩ := zx_copy g2 (a := 0) (c := zfr (zK3 T 0)) (f := 0) (by omega) hf3 (by omega)
      obtain ⟨S5, k1, k2, k3⟩ := zx_raise i2 (zfr (zK3 T 0)) (zfr T) ((zK3 T 0).1 4 (zfr T * 6)) ((zK3 T 0).1 5 (zfr T * 6)) (by rw [zCp_i _ _ _ _ (by omega) (by omega), zwT_i _ _ _ _ (by omega), zK3_i (by omega)]; omega)
      refine ⟨S5, ?_, k2, zFr_tr (zFr_tr (zFr_tr (zFr_tr (zFr_wd e3 (by omega) (by omega)) (zFr_wd f3 (by omega) (by omega))) (zFr_wd g3 (by omega) (by omega))) (zFr_wd i3 (by omega) (by omega))) k3⟩
      simp (disch := omega) only [zq_l2, pk_mul, nI_add, zq_t, zq_c, zq_bz, zq_bo, zq_g, zq_cl, zq_leT, zq_leF, zq_ltT, zq_ltF, zq_eqT, zq_eqF, zq_em, zq_me, zq_pm, zq_mm, zq_gm, pk_sub, zI_s, zI_k, zI_c, zI_2, zL_s, zL_k, zL_c, zL_1, if_true, if_false, eq_self, Nat.zero_add, Nat.add_zero, zX_c hv, e1, f1, y7, y8, g1, i1, k1]
    · rw [if_neg i0]
      obtain ⟨hp1, hp2, hp3⟩ := hp i0
      have v3 := zXw1 f2' ix (v := 3) (by omega)
      have hc0 : (zwT (zK3 T ix) 1 ix 3).1 1 0 ≤ 5 := by
        rw [zwT_k _ _ _ _ (show 0 ≠ ix by omega), zK3_d (fun e => hA.2.1 (by have hz' := hz; rw [← e] at hz'; exact hz'))]; exact hp3
      obtain ⟨S5, k1, k2, k3⟩ := zx_insert v3 (b := 0) (p := p + 1) (by omega) ((zK3 T ix).1 4 (zfr T * 6)) ((zK3 T ix).1 5 (zfr T * 6)) (zfr T) (by omega) hc0
      refine ⟨S5, ?_, k2, zFr_tr (zFr_tr (zFr_tr (zFr_wd e3 (by omega) (by omega)) (zFr_wd f3 (by omega) (by omega))) (zFr_I _ _ _ (by omega) (by omega))) (zFr_wd k3 (by omega) (by omega))⟩
      have w : S2.1 123 0 = nI p := by rw [(f3 123 (by omega)).1, (e3 123 (by omega)).1]; exact hp1
      simp (disch := omega) only [zq_l2, pk_mul, nI_add, zq_t, zq_c, zq_bz, zq_bo, zq_g, zq_cl, zq_leT, zq_leF, zq_ltT, zq_ltF, zq_eqT, zq_eqF, zq_em, zq_me, zq_pm, zq_mm, zq_gm, pk_sub, zI_s, zI_k, zI_c, zI_2, zL_s, zL_k, zL_c, zL_1, if_true, if_false, eq_self, Nat.zero_add, Nat.add_zero, zX_c hv, e1, f1, y7, y8, w, k1]
theorem zK2_c {T : zT} {P : List zE} {f ix p : Nat} : (zK2 T P f ix p).1 1 ix = T.1 1 ix + 1 := by
  unfold zK2
  rw [zIn_c, zgr_i _ _ _ _ (by omega), zK1_i (by omega) (by omega)]
theorem zK2_d {T : zT} {P : List zE} {f ix p b : Nat} (h : b ≠ ix) : (zK2 T P f ix p).1 1 b = T.1 1 b := by
  unfold zK2
  rw [zIn_d _ _ _ _ _ _ h, zgr_i _ _ _ _ (by omega), zK1_i (by omega) (by omega)]
theorem zK2_0 {T : zT} {P : List zE} {f ix p : Nat} : (zK2 T P f ix p).1 0 = (zwT T 0 (zfr T) 1).1 0 := by
  unfold zK2
  rw [zIn_i _ _ _ _ _ _ (by omega) (by omega), zgr_i _ _ _ _ (by omega), zK1_0]
theorem zK2_7 {T : zT} {P : List zE} {f ix p i : Nat} (h : i = 2 ∨ 6 < i) : (zK2 T P f ix p).1 i = T.1 i := by
  unfold zK2
  rw [zIn_i _ _ _ _ _ _ (by omega) (by omega), zgr_i _ _ _ _ (by omega), zK1_i (by omega) (by omega)]
theorem zK2_av {m : Nat} {T : zT} {P : List zE} {f ix p : Nat} (hk : T.1 0 ix ≠ 0) (h : zAv (m + 1) T) : zAv m (zK2 T P f ix p) := by
  have hz := zfr_0 (zfr_lt h)
  refine zAv_In _ _ _ _ ?_ (zAv_gr _ _ _ (zK1_av h))
  rw [zgr_i _ _ _ _ (by omega), zK1_0, zwT_k T 0 _ 1 (fun e => hk (by rw [e]; exact hz))]
  exact hk
/-- the name is put where it may be put -/
theorem zx_place {S : sh_St} {T : zT} (hv : zVX S 4 T) (hI : zInv T) (hA : zAv 9 T) (n : Int64) {d : Nat} (hd : d ≤ 999) (hn9 : zned T (zha T n) ≠ 9) : ∃ S', fX4_placeEntry S n (nI d) = some (nI (zned T (zha T n)), S') ∧ zVX S' 4 (zput T n d) ∧ zFr 4 127 S S' ∧ (∀ i, 14 ≤ i → i ≤ 116 → S'.1 i = S.1 i ∧ S'.2 i = S.2 i) := by
  have h7 := hI.1.1
  have hl := zha_lt hI n
  have hnd : zned T (zha T n) < 9 := by
    unfold zned at hn9 ⊢
    split <;> try omega
    split <;> try omega
    split <;> try omega
    split <;> try omega
    split <;> simp_all
  obtain ⟨S1, e1, e2, e3, e4⟩ := zx_need hv hI n
  rw [zsp_t hnd] at e1
  have hv1 := zVX_f4 e4 (by omega) hv
  have hsp := zx_spot hv1 hI e2
  have hho := zx_hashOf hv1 hI n
  rw [fX4_placeEntry]
  unfold zput
  by_cases hs : zsw T (zha T n) < zwn T (zha T n)
  · rw [if_pos hs]
    have hlt := zspt_lt hI hs
    rw [zsp_t hlt] at hsp
    obtain ⟨S2, f1, f2, f3⟩ := zx_setEntry hv1 hlt n d
    refine ⟨S2, ?_, f2, zFr_tr (zFr_wd e4 (by omega) (by omega)) (zFr_wd f3 (by omega) (by omega)), fun i h1 h2 => ⟨((f3 i (by omega)).1).trans (e4 i (by omega)).1, ((f3 i (by omega)).2).trans (e4 i (by omega)).2⟩⟩
    simp (disch := omega) only [zq_l2, pk_mul, nI_add, zq_t, zq_c, zq_bz, zq_bo, zq_g, zq_cl, zq_leT, zq_leF, zq_ltT, zq_ltF, zq_eqT, zq_eqF, zq_em, zq_me, zq_pm, zq_mm, zq_gm, pk_sub, zI_s, zI_k, zI_c, zI_2, zL_s, zL_k, zL_c, zL_1, if_true, if_false, eq_self, Nat.zero_add, Nat.add_zero, e1, hsp, hho, f1]
  · rw [if_neg hs]
    rw [show zspt T (zha T n) = 240 from if_neg hs, zsp_f (by omega)] at hsp
    have hfi := zx_first hI e2
    have h8 := zwn_le hI (zha T n)
    have hsw := zsw_le T (zha T n)
    have hfull : zfull T (zfl T (zha T n)) := by
      have := zsw_b (T := T) (h := zha T n) (i := 0) (by omega)
      rw [Nat.add_zero, zpl_at hI] at this
      exact zfull_em this
    have hfll := zbk_le hI (zha T n) (Nat.le_refl (T.1 7 0))
    obtain ⟨S2, f1, f2, f3⟩ := zx_leafP hv1 hI hfll hfull
    have hb13 : T.1 7 1 < 13 := by have := hI.1; omega
    obtain ⟨S3, g1, g2, g3⟩ := zx_add f2 (by intro x hx; obtain ⟨k, _, _, rfl⟩ := zpc_mem hx; exact zhash_lt12 _ hb13 _ _) (by rw [zpc_len]; have := zcnt_le (fun _ => true) 6; omega) hl n d
    have g2' : zPX S3 (zPP T (zha T n) n d) := g2
    have hv3 := zVX_f4 g3 (by omega) (zVX_f4 f3 (by omega) hv1)
    have hw3 := zWay_f4 g3 (by omega) (zWay_f4 f3 (by omega) e2)
    have hA3 : zAv 3 T := ⟨hA.1, hA.2.1, by have := hA.2.2; omega⟩
    have hfr : zFr 117 127 S S3 := zFr_tr (zFr_tr (zFr_wd e4 (by omega) (by omega)) (zFr_wd f3 (by omega) (by omega))) (zFr_wd g3 (by omega) (by omega))
    by_cases h0 : T.1 7 0 = 0
    · rw [if_pos h0]
      obtain ⟨S4, i1, i2, i3⟩ := zx_splitLeaf0 hv3 hI hA3 hw3 h0 g2' (zPP_len _ _ _ _) zPP_h (zPP_l hI)
      have hw4 := zWay_f4 i3 (by omega) hw3
      have hlo := zx_lowest0 hw4 h0
      have c0 : (zK0 T (zPP T (zha T n) n d)).1 1 0 = 2 := by
        unfold zK0 zRz
        rw [zwT_i _ _ _ _ (by omega), zIn_c, zIn_c, zwT_s]
      refine ⟨S4, ?_, i2, zFr_tr (zFr_wd hfr (by omega) (by omega)) (zFr_wd i3 (by omega) (by omega)), fun i h1 h2 => ⟨((i3 i (by omega)).1).trans (hfr i (by omega)).1, ((i3 i (by omega)).2).trans (hfr i (by omega)).2⟩⟩
      have hsi : fX4_splitIndex S4 = some ((), S4) := by
        have hcx := zX_c i2 (b := 0) (by omega)
        rw [c0] at hcx
        rw [fX4_splitIndex, hlo]
        simp (disch := omega) only [zq_l2, pk_mul, nI_add, zq_t, zq_c, zq_bz, zq_bo, zq_g, zq_cl, zq_leT, zq_leF, zq_ltT, zq_ltF, zq_eqT, zq_eqF, zq_em, zq_me, zq_pm, zq_mm, zq_gm, pk_sub, zI_s, zI_k, zI_c, zI_2, zL_s, zL_k, zL_c, zL_1, if_true, if_false, eq_self, Nat.zero_add, Nat.add_zero, hcx]
      simp (disch := omega) only [zq_l2, pk_mul, nI_add, zq_t, zq_c, zq_bz, zq_bo, zq_g, zq_cl, zq_leT, zq_leF, zq_ltT, zq_ltF, zq_eqT, zq_eqF, zq_em, zq_me, zq_pm, zq_mm, zq_gm, pk_sub, zI_s, zI_k, zI_c, zI_2, zL_s, zL_k, zL_c, zL_1, if_true, if_false, eq_self, Nat.zero_add, Nat.add_zero, e1, hsp, hho, hfi, f1, g1, i1, hsi]
    · rw [if_neg h0]
      obtain ⟨S4, i1, i2, i3⟩ := zx_splitLeaf1 hv3 hI hA3 hw3 h0 g2' (zPP_len _ _ _ _) zPP_h (zPP_l hI)
      have hw4 := zWay_f4 i3 (by omega) hw3
      have hlo := zx_lowest hI hw4 h0
      obtain ⟨b1, b2, b3⟩ := zbk_lo hI (zha T n) (show T.1 7 0 - 1 < T.1 7 0 by omega)
      have hz := zfr_0 (zfr_lt hA3)
      obtain ⟨S5, k1, k2, k3⟩ := zx_splitIndex i2 (zK2_av (by omega) hA3) b1 (lev := T.1 7 0) h7 (by rw [zK2_7 (by omega)]) (by rw [zK2_0, zwT_k T 0 _ 1 (fun e => by rw [e, hz] at b2; omega)]; omega) hlo (p := zr T 0 (zha T n)) (by
        intro hi0
        obtain ⟨r1, r2, r3⟩ := zbk_lo hI (zha T n) (show 0 < T.1 7 0 by omega)
        have h50 := zInv_c5 hI (b := 0) (by omega)
        have r3' : zr T 0 (zha T n) < T.1 1 0 := r3
        exact ⟨(hw4.2.2.2 0 (by omega)).2, by omega, by rw [zK2_d (by omega)]; exact h50⟩)
      refine ⟨S5, ?_, k2, zFr_tr (zFr_tr (zFr_wd hfr (by omega) (by omega)) (zFr_wd i3 (by omega) (by omega))) (zFr_wd k3 (by omega) (by omega)), fun i h1 h2 => ⟨((k3 i (by omega)).1).trans (((i3 i (by omega)).1).trans (hfr i (by omega)).1), ((k3 i (by omega)).2).trans (((i3 i (by omega)).2).trans (hfr i (by omega)).2)⟩⟩
      simp (disch := omega) only [zq_l2, pk_mul, nI_add, zq_t, zq_c, zq_bz, zq_bo, zq_g, zq_cl, zq_leT, zq_leF, zq_ltT, zq_ltF, zq_eqT, zq_eqF, zq_em, zq_me, zq_pm, zq_mm, zq_gm, pk_sub, zI_s, zI_k, zI_c, zI_2, zL_s, zL_k, zL_c, zL_1, if_true, if_false, eq_self, Nat.zero_add, Nat.add_zero, e1, hsp, hho, hfi, f1, g1, i1, k1]
