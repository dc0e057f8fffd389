/-- what a call may change of the reference beside its scratch: the tree -/
def zFp (S S' : sh_St) : Prop := (∀ k, k < 27 → S'.1 0 k = S.1 0 k) ∧ S'.2 0 = S.2 0 ∧ (∀ i, 3 ≤ i → (i < 15 ∨ 20 < i) → S'.1 i = S.1 i ∧ S'.2 i = S.2 i)
theorem zFp_rf (S : sh_St) : zFp S S := ⟨fun _ _ => rfl, rfl, fun _ _ _ => ⟨rfl, rfl⟩⟩
theorem zFp_tr {S S1 S2 : sh_St} (h1 : zFp S S1) (h2 : zFp S1 S2) : zFp S S2 := ⟨fun k hk => (h2.1 k hk).trans (h1.1 k hk), h2.2.1.trans h1.2.1, fun i h0 hi => ⟨(h2.2.2 i h0 hi).1.trans (h1.2.2 i h0 hi).1, (h2.2.2 i h0 hi).2.trans (h1.2.2 i h0 hi).2⟩⟩
theorem zFp_m {S S' : sh_St} (h : zFm S S') : zFp S S' := ⟨h.1, h.2.1, fun i h3 hi => h.2.2 i (by omega) hi⟩
theorem zFp_k {d : Nat} {S S' : sh_St} (h : zFk d S S') : zFp S S' := ⟨fun k hk => h.1 k (by omega), h.2.2.1, fun i h3 _ => h.2.2.2 i h3⟩
theorem zm_splits {S : sh_St} {T : zT} (hv : zVN S T) (hI : zInv T) (hA : zAv 3 T) {n : Int64} (hn : zval n) (d : Nat) (hn9 : zned T (zha T n) ≠ 9) (hsw : ¬ zsw T (zha T n) < zwn T (zha T n)) (hfull : zfull T (zfl T (zha T n))) (ht : S.1 0 37 = nI 0) :
    ∃ S', fX13_splits S (nI (zfl T (zha T n))) n (nI d) = some ((), S') ∧ zVN S' (zput T n d) ∧ zFp S S' ∧ S'.1 0 37 = nI (zned T (zha T n)) := by
  have hl := zha_lt hI n
  have hfll := zbk_le hI (zha T n) (Nat.le_refl (T.1 7 0))
  have hb : T.1 7 1 < 13 := by have := hI.1; omega
  have fr0 := zFs_0 S (nI 0)
  obtain ⟨S1, e1, e2, e3⟩ := zm_split_c hI hfll hfull n d sh_FU 0 _ (zVN_fs fr0 hv) (by omega) (by decide) ⟨zI_s _ _ _ _, fun k e h => by simp [zpc] at h⟩
  have hv1 := zVN_fs e3 (zVN_fs fr0 hv)
  have hho := zm_hashOf hv1 hI hn
  obtain ⟨S2, f1, f2, f3⟩ := zm_sorts e2 (by intro x hx; obtain ⟨k, _, _, rfl⟩ := zpc_mem hx; exact zhash_lt12 _ hb _ _) (by rw [zpc_len]; have := zcnt_le (fun _ => true) 6; omega) hl n d
  have f2' : zPM S2 (zPP T (zha T n) n d) := f2
  have hv2 := zVN_fs f3 hv1
  have h7 := zPP_len T (zha T n) n d
  have hPn : ∀ x, x ∈ zPP T (zha T n) n d → x.2.1 ≠ 0 := by
    intro x hx
    rcases zPP_mem hx with rfl | ⟨s, hs, rfl⟩
    · exact zval_ne hn
    · exact hfull s hs
  have a3 := (f2'.2 3 _ (zP_at (by omega))).1
  have a2 := (f2'.2 2 _ (zP_at (by omega))).1
  have l3 := zPP_l hI _ (List.mem_of_getElem? (zP_at (show 3 < (zPP T (zha T n) n d).length by omega)))
  have l2 := zPP_l hI _ (List.mem_of_getElem? (zP_at (show 2 < (zPP T (zha T n) n d).length by omega)))
  have ht2 : S2.1 0 37 = nI 0 := by rw [f3.1 37 (by omega), e3.1 37 (by omega), fr0.1 37 (by omega)]; exact ht
  have key : ∃ S', fX13_splits_98 S2 (nI (zfl T (zha T n))) (nI (zmrk (zPP T (zha T n) n d))) = some ((), S') ∧ zVN S' (zput T n d) ∧ zFp S2 S' ∧ S'.1 0 37 = nI (zned T (zha T n)) := by
    unfold zput
    rw [if_neg hsw]
    by_cases h0 : T.1 7 0 = 0
    · rw [if_pos h0]
      obtain ⟨S3, g1, g2, g3⟩ := zm_s98_0 hv2 hA f2' h7 hPn h0 (zfl T (zha T n)) ht2 (by omega)
      refine ⟨S3, g1, g2, zFp_k g3, ?_⟩
      have := g3.2.1 0 ht2
      rw [this]
      unfold zned
      rw [if_neg hsw, if_pos h0]
    · rw [if_neg h0]
      obtain ⟨S3, g1, g2, g3⟩ := zm_s98_1 hv2 hI hA f2' h7 hPn h0 (zha T n) hn9 hsw ht2 (by omega)
      refine ⟨S3, g1, g2, zFp_k g3, ?_⟩
      have := g3.2.1 0 ht2
      rw [this, Nat.zero_add]
  obtain ⟨S3, g1, g2, g3, g4⟩ := key
  refine ⟨S3, ?_, g2, zFp_tr (zFp_m (zFm_tr (zFm_tr (zFs_m fr0) (zFs_m e3)) (zFs_m f3))) g3, g4⟩
  rw [fX13_splits]
  simp (disch := omega) only [zq_l9, pk_mul, nI_add, zq_t9, zq_c9, zq_bz9, zq_bo9, zq_g, zq_cl, zq_leT, zq_leF, zq_ltT, zq_ltF, zq_eqT, zq_eqF, zq_em, zq_me, zq_pm, zq_mm, zq_gm, pk_sub, zI_s, zI_k, zI_c, zI_2, zL_s, zL_k, zL_c, zL_1, if_true, if_false, eq_self, Nat.zero_add, Nat.add_zero]
  rw [e1, fX13_splits_8]
  unfold zmrk at g1
  by_cases c : ((zPP T (zha T n) n d).getD 3 (0, 0, 0)).1 = ((zPP T (zha T n) n d).getD 2 (0, 0, 0)).1
  · rw [if_pos c] at g1
    simp (disch := omega) only [zq_l9, pk_mul, nI_add, zq_t9, zq_c9, zq_bz9, zq_bo9, zq_g, zq_cl, zq_leT, zq_leF, zq_ltT, zq_ltF, zq_eqT, zq_eqF, zq_em, zq_me, zq_pm, zq_mm, zq_gm, pk_sub, zI_s, zI_k, zI_c, zI_2, zL_s, zL_k, zL_c, zL_1, if_true, if_false, eq_self, Nat.zero_add, Nat.add_zero, hho, f1, a2, a3]
    exact g1
  · rw [if_neg c] at g1
    simp (disch := omega) only [zq_l9, pk_mul, nI_add, zq_t9, zq_c9, zq_bz9, zq_bo9, zq_g, zq_cl, zq_leT, zq_leF, zq_ltT, zq_ltF, zq_eqT, zq_eqF, zq_em, zq_me, zq_pm, zq_mm, zq_gm, pk_sub, zI_s, zI_k, zI_c, zI_2, zL_s, zL_k, zL_c, zL_1, if_true, if_false, eq_self, Nat.zero_add, Nat.add_zero, hho, f1, a2, a3]
    exact g1
theorem zm_puts_l {T : zT} (hI : zInv T) (hA : zAv 9 T) {n : Int64} (hn : zval n) {d : Nat} (hn9 : zned T (zha T n) ≠ 9) : ∀ (m i : Nat) (S : sh_St), zVN S T → zGo S T (zha T n) → zLin S (zLL T) → S.1 0 37 = nI 0 → i ≤ zsw T (zha T n) → zwn T (zha T n) - i < m →
    ∃ S', fX13_puts_36 m S n (nI d) (nI i) = some (nI 0, S') ∧ zVN S' (zput T n d) ∧ zFp S S' ∧ S'.1 0 37 = nI (zned T (zha T n)) := by
  intro m
  induction m with
  | zero => intro i S _ _ _ _ _ h; omega
  | succ m ih =>
    intro i S hv hg hL ht h1 h2
    have h7 := hI.1.1
    have h8 := zwn_le hI (zha T n)
    have h9 := zln_le hI
    have hs := zsw_le T (zha T n)
    rw [fX13_puts_36]
    by_cases hi : i = zwn T (zha T n)
    · have hsw : ¬ zsw T (zha T n) < zwn T (zha T n) := by omega
      have hfull : zfull T (zfl T (zha T n)) := by
        have := zsw_b (T := T) (h := zha T n) (i := 0) (by omega)
        rw [Nat.add_zero, zpl_at hI] at this
        exact zfull_em this
      obtain ⟨S1, e1, e2, e3, e4⟩ := zm_splits hv hI ⟨hA.1, hA.2.1, by have := hA.2.2; omega⟩ hn d hn9 hsw hfull ht
      have hla := (zLin_at hL (zpl_lt hI (zha T n))).1
      rw [zpl_at hI] at hla
      refine ⟨S1, ?_, e2, e3, e4⟩
      simp (disch := omega) only [zq_l9, pk_mul, nI_add, zq_t9, zq_c9, zq_bz9, zq_bo9, zq_g, zq_cl, zq_leT, zq_leF, zq_ltT, zq_ltF, zq_eqT, zq_eqF, zq_em, zq_me, zq_pm, zq_mm, zq_gm, pk_sub, zI_s, zI_k, zI_c, zI_2, zL_s, zL_k, zL_c, zL_1, if_true, if_false, eq_self, Nat.zero_add, Nat.add_zero, hg.1, hg.2, hla, e1]
    · have hlt : zpl T (zha T n) + i < zln T := by omega
      have hq := zlq_ok hI hlt
      have hla := (zLin_at hL hlt).1
      have he := zm_em hv hI hq.1
      by_cases hj : i = zsw T (zha T n)
      · have h3 : zsw T (zha T n) < zwn T (zha T n) := by omega
        have h4 := zsw_em h3
        have h5 : (zlq T (zpl T (zha T n) + i)).1 = zsb T (zha T n) := by unfold zsb; rw [hj]
        rw [h5] at he hla hq
        rw [zsp_t h4] at he
        obtain ⟨S1, e1, e2, e3⟩ := zm_lay hv hq.1 h4 n d (nI d) (by rw [if_neg (zval_ne hn)])
        refine ⟨S1, ?_, ?_, zFp_k e3, ?_⟩
        · simp (disch := omega) only [zq_l9, pk_mul, nI_add, zq_t9, zq_c9, zq_bz9, zq_bo9, zq_g, zq_cl, zq_leT, zq_leF, zq_ltT, zq_ltF, zq_eqT, zq_eqF, zq_em, zq_me, zq_pm, zq_mm, zq_gm, pk_sub, zI_s, zI_k, zI_c, zI_2, zL_s, zL_k, zL_c, zL_1, if_true, if_false, eq_self, Nat.zero_add, Nat.add_zero, hg.1, hg.2, hla, he, e1]
        · unfold zput
          rw [if_pos h3]
          unfold zspt
          rw [if_pos h3]
          exact e2
        · rw [e3.2.1 0 ht]
          unfold zned
          rw [if_pos h3]
      · have h3 := zsw_b (show i < zsw T (zha T n) by omega)
        rw [zsp_f h3] at he
        obtain ⟨S', f1, f2, f3, f4⟩ := ih (i + 1) S hv hg hL ht (by omega) (by omega)
        refine ⟨S', ?_, f2, f3, f4⟩
        simp (disch := omega) only [zq_l9, pk_mul, nI_add, zq_t9, zq_c9, zq_bz9, zq_bo9, zq_g, zq_cl, zq_leT, zq_leF, zq_ltT, zq_ltF, zq_eqT, zq_eqF, zq_em, zq_me, zq_pm, zq_mm, zq_gm, pk_sub, zI_s, zI_k, zI_c, zI_2, zL_s, zL_k, zL_c, zL_1, if_true, if_false, eq_self, Nat.zero_add, Nat.add_zero, hg.1, hg.2, hla, he]
        exact f1
/-- the number by which a put is refused, the name not being there -/
def zpco (T : zT) (n : Int64) : Nat := if ztor T ≠ 0 then 2 else if zned T (zha T n) = 9 then 3 else 0
theorem zm_puts {S : sh_St} {T : zT} (hv : zVN S T) (hI : zInv T) (hA : zAv 9 T) {n : Int64} (hn : zval n) (d : Nat) : ∃ S', fX13_puts S n (nI d) = some (nI (zpco T n), S') ∧ zVN S' (if zpco T n = 0 then zput T n d else T) ∧ zFp S S' ∧ (zpco T n = 0 → S'.1 0 37 = nI (zned T (zha T n))) := by
  have ha := zm_any hv hI
  have hl := zha_lt hI n
  have ht := ztor_le T
  rw [fX13_puts]
  unfold zpco
  by_cases h0 : ztor T = 0
  · rw [if_neg (show ¬ ztor T ≠ 0 from fun q => q h0)]
    rw [if_pos h0] at ha
    obtain ⟨S1, e1, e2, e3, e4⟩ := zm_goes hv hI hl
    have hv1 := zVN_fn e4 hv
    have hnd := zm_need hv1 hI e2 e3
    by_cases h9 : zned T (zha T n) = 9
    · rw [if_pos h9]
      rw [zsp_f (by omega)] at hnd
      refine ⟨S1, ?_, by rw [if_neg (by omega)]; exact hv1, zFp_m (zFn_m e4), fun q => absurd q (by omega)⟩
      simp (disch := omega) only [zq_l9, pk_mul, nI_add, zq_t9, zq_c9, zq_bz9, zq_bo9, zq_g, zq_cl, zq_leT, zq_leF, zq_ltT, zq_ltF, zq_eqT, zq_eqF, zq_em, zq_me, zq_pm, zq_mm, zq_gm, pk_sub, zI_s, zI_k, zI_c, zI_2, zL_s, zL_k, zL_c, zL_1, if_true, if_false, eq_self, Nat.zero_add, Nat.add_zero, ha, zm_hashOf hv hI hn, e1, hnd]
    · rw [if_neg h9]
      have hlt : zned T (zha T n) < 9 := by
        unfold zned at h9 ⊢
        split <;> try omega
        split <;> try omega
        split <;> try omega
        split <;> try omega
        split <;> simp_all
      rw [zsp_t hlt] at hnd
      have fr : zFm S1 (sh_I S1 0 37 (nI 0)) := zFm_0 S1 _ (by omega)
      have h8 := zwn_le hI (zha T n)
      have h25 := zln_le hI
      obtain ⟨S2, f1, f2, f3, f4⟩ := zm_puts_l hI hA hn h9 (d := d) sh_FU 0 (sh_I S1 0 37 (nI 0)) (zVN_fm fr hv1) (by unfold zGo; rw [zI_k S1 0 37 _ (by omega), zI_k S1 0 37 _ (by omega)]; exact e2) (zLin_0 _ (by omega) e3) (zI_s _ _ _ _) (by omega) (by have : sh_FU = 100000 := rfl; omega)
      refine ⟨S2, ?_, by rw [if_pos rfl]; exact f2, zFp_tr (zFp_m (zFm_tr (zFn_m e4) fr)) f3, fun _ => f4⟩
      simp (disch := omega) only [zq_l9, pk_mul, nI_add, zq_t9, zq_c9, zq_bz9, zq_bo9, zq_g, zq_cl, zq_leT, zq_leF, zq_ltT, zq_ltF, zq_eqT, zq_eqF, zq_em, zq_me, zq_pm, zq_mm, zq_gm, pk_sub, zI_s, zI_k, zI_c, zI_2, zL_s, zL_k, zL_c, zL_1, if_true, if_false, eq_self, Nat.zero_add, Nat.add_zero, ha, zm_hashOf hv hI hn, e1, hnd]
      exact f1
  · rw [if_pos h0]
    rw [if_neg h0] at ha
    refine ⟨S, ?_, by rw [if_neg (by omega)]; exact hv, zFp_rf S, fun q => absurd q (by omega)⟩
    simp (disch := omega) only [zq_l9, pk_mul, nI_add, zq_t9, zq_c9, zq_bz9, zq_bo9, zq_g, zq_cl, zq_leT, zq_leF, zq_ltT, zq_ltF, zq_eqT, zq_eqF, zq_em, zq_me, zq_pm, zq_mm, zq_gm, pk_sub, zI_s, zI_k, zI_c, zI_2, zL_s, zL_k, zL_c, zL_1, if_true, if_false, eq_self, Nat.zero_add, Nat.add_zero, ha]
