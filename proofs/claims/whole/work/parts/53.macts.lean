/-! acts: the reference -/
theorem zm_put0 {S : sh_St} {T : zT} (hv : zVN S T) (hI : zInv T) {n : Int64} (hn : zval n) (d : Nat) : ∃ S', fX13_put0 S n (nI d) = some (nI (zrP T n), S') ∧ zVN S' (if zrP T n = 0 then zput T n d else T) ∧ zFp S S' ∧ (zrP T n = 0 → S'.1 0 37 = nI (zned T (zha T n))) := by
  rw [fX13_put0]
  have hf : zFm S (sh_I S 0 37 (nI 0)) := zFm_0 S _ (by omega)
  have hv1 := zVN_fm hf hv
  obtain ⟨S2, g1, _, _, g4⟩ := zm_seeks hv1 hI hn
  have hv2 := zVN_fm g4 hv1
  have hp : zFp S S2 := zFp_m (zFm_tr hf g4)
  unfold zrP
  by_cases c : (zsk T n).1 < 240
  · rw [if_pos c] at g1 ⊢
    refine ⟨S2, ?_, by rw [if_neg (by omega)]; exact hv2, hp, fun q => by omega⟩
    simp (disch := omega) only [zq_l9, pk_mul, nI_add, zq_t9, zq_c9, zq_bz9, zq_bo9, zq_g, zq_cl, zq_leT, zq_leF, zq_ltT, zq_ltF, zq_eqT, zq_eqF, zq_em, zq_me, zq_pm, zq_mm, zq_gm, pk_sub, zI_s, zI_k, zI_c, zI_2, zL_s, zL_k, zL_c, zL_1, if_true, if_false, eq_self, Nat.zero_add, Nat.add_zero, g1]
  · rw [if_neg c] at g1 ⊢
    obtain ⟨S3, k1, k2, k3, k4⟩ := zm_puts hv2 hI (zInv_av hI) hn d
    refine ⟨S3, ?_, k2, zFp_tr hp k3, k4⟩
    simp (disch := omega) only [zq_l9, pk_mul, nI_add, zq_t9, zq_c9, zq_bz9, zq_bo9, zq_g, zq_cl, zq_leT, zq_leF, zq_ltT, zq_ltF, zq_eqT, zq_eqF, zq_em, zq_me, zq_pm, zq_mm, zq_gm, pk_sub, zI_s, zI_k, zI_c, zI_2, zL_s, zL_k, zL_c, zL_1, if_true, if_false, eq_self, Nat.zero_add, Nat.add_zero, g1, k1]
theorem zm_lay0 {S : sh_St} {T : zT} (h : zVN S T) {k : Nat} (hk : k < 240) : ∃ S', fX13_lays S (nI (k / 6)) (nI (k % 6)) 0 (-nI 1) = some ((), S') ∧ zVN S' (zeT T k 0 0) ∧ zFk 0 S S' := by
  obtain ⟨S', f1, f2, f3⟩ := zm_lay h (b := k / 6) (s := k % 6) (by omega) (by omega) 0 0 (-nI 1) (by rw [if_pos rfl]; rfl)
  rw [show k / 6 * 6 + k % 6 = k by omega] at f2
  exact ⟨S', f1, f2, f3⟩
theorem zFo_t {S : sh_St} {k : Nat} (h : zFo S k) (hk : k < 240) : S.1 0 30 = nI (k / 6) ∧ S.1 0 31 = nI (k % 6) := by
  unfold zFo at h
  rw [if_pos hk, if_pos hk] at h
  exact h
theorem zm_cut0 {S : sh_St} {T : zT} (hv : zVN S T) (hI : zInv T) {n : Int64} (hn : zval n) : ∃ S', fX13_cut0 S n = some (nI (zrC T n), S') ∧ zVN S' (if zrC T n = 0 then zeT T (zsk T n).1 0 0 else T) ∧ zFp S S' := by
  rw [fX13_cut0]
  obtain ⟨S2, g1, _, g3, g4⟩ := zm_seeks hv hI hn
  have hv2 := zVN_fm g4 hv
  unfold zrC
  by_cases c : (zsk T n).1 < 240
  · rw [if_pos c] at g1 ⊢
    obtain ⟨h30, h31⟩ := zFo_t g3 c
    obtain ⟨S3, k1, k2, k3⟩ := zm_lay0 hv2 c
    refine ⟨S3, ?_, by rw [if_pos rfl]; exact k2, zFp_tr (zFp_m g4) (zFp_k k3)⟩
    simp (disch := omega) only [zq_l9, pk_mul, nI_add, zq_t9, zq_c9, zq_bz9, zq_bo9, zq_g, zq_cl, zq_leT, zq_leF, zq_ltT, zq_ltF, zq_eqT, zq_eqF, zq_em, zq_me, zq_pm, zq_mm, zq_gm, pk_sub, zI_s, zI_k, zI_c, zI_2, zL_s, zL_k, zL_c, zL_1, if_true, if_false, eq_self, Nat.zero_add, Nat.add_zero, g1, h30, h31, k1]
  · rw [if_neg c] at g1 ⊢
    refine ⟨S2, ?_, by rw [if_neg (by omega)]; exact hv2, zFp_m g4⟩
    simp (disch := omega) only [zq_l9, pk_mul, nI_add, zq_t9, zq_c9, zq_bz9, zq_bo9, zq_g, zq_cl, zq_leT, zq_leF, zq_ltT, zq_ltF, zq_eqT, zq_eqF, zq_em, zq_me, zq_pm, zq_mm, zq_gm, pk_sub, zI_s, zI_k, zI_c, zI_2, zL_s, zL_k, zL_c, zL_1, if_true, if_false, eq_self, Nat.zero_add, Nat.add_zero, g1]
theorem zVM_ee {f : Nat → Int32} {g : Nat → Int64} {T : zT} {k : Nat} (h : zVM f g (zeT (zeT T k 0 0) k (T.2 k) (T.1 3 k))) : zVM f g T := by
  refine zVM_eq ?_ h
  refine ⟨fun i j hi => ?_, fun j => ?_, fun j hj => ?_⟩
  · rw [zeT_i _ _ _ _ hi, zeT_i _ _ _ _ hi]
  · by_cases e : j = k
    · subst e; rw [zeT_2s]
    · rw [zeT_2k _ _ _ _ e, zeT_2k _ _ _ _ e]
  · by_cases e : j = k
    · subst e; rw [zeT_s]
    · rw [zeT_k _ _ _ _ e, zeT_k _ _ _ _ e]
theorem zpco_le (T : zT) (n : Int64) : zpco T n ≤ 3 := by unfold zpco; (repeat' split) <;> omega
theorem zm_turn50 {S : sh_St} {T : zT} (hv : zVN S T) (hI : zInv T) {m : Int64} (hm : zval m) {k : Nat} (hk : k < 240) (hz : T.2 k ≠ 0) : ∃ S', fX13_turn0_50 S m (nI (k / 6)) (nI (k % 6)) = some (nI (zpco (zeT T k 0 0) m), S') ∧ zVN S' (if zpco (zeT T k 0 0) m = 0 then zput (zeT T k 0 0) m (T.1 3 k) else T) ∧ zFp S S' := by
  rw [fX13_turn0_50]
  have he : 6 * (k / 6) + k % 6 = k := by omega
  have hd := zM_d hv hk hz
  have hn := zM_n hv hk
  obtain ⟨S1, g1, g2, g3⟩ := zm_lay0 hv hk
  have hIc := zInv_cut hI k 0
  obtain ⟨S2, k1, k2, k3, _⟩ := zm_puts g2 hIc (zInv_av hIc) hm (T.1 3 k)
  have h3 := zpco_le (zeT T k 0 0) m
  by_cases c : zpco (zeT T k 0 0) m = 0
  · rw [if_pos c] at k2 ⊢
    rw [c] at k1 ⊢
    refine ⟨S2, ?_, k2, zFp_tr (zFp_k g3) k3⟩
    simp (disch := omega) only [zq_l9, pk_mul, nI_add, zq_t9, zq_c9, zq_bz9, zq_bo9, zq_g, zq_cl, zq_leT, zq_leF, zq_ltT, zq_ltF, zq_eqT, zq_eqF, zq_em, zq_me, zq_pm, zq_mm, zq_gm, pk_sub, zI_s, zI_k, zI_c, zI_2, zL_s, zL_k, zL_c, zL_1, if_true, if_false, eq_self, Nat.zero_add, Nat.add_zero, fX13_slotAt, he, hd, hn, g1, k1]
  · rw [if_neg c] at k2 ⊢
    obtain ⟨S3, j1, j2, j3⟩ := zm_lay k2 (b := k / 6) (s := k % 6) (by omega) (by omega) (T.2 k) (T.1 3 k) (nI (T.1 3 k)) (by rw [if_neg hz])
    rw [show k / 6 * 6 + k % 6 = k by omega] at j2
    refine ⟨S3, ?_, zVM_ee j2, zFp_tr (zFp_tr (zFp_k g3) k3) (zFp_k j3)⟩
    simp (disch := omega) only [zq_l9, pk_mul, nI_add, zq_t9, zq_c9, zq_bz9, zq_bo9, zq_g, zq_cl, zq_leT, zq_leF, zq_ltT, zq_ltF, zq_eqT, zq_eqF, zq_em, zq_me, zq_pm, zq_mm, zq_gm, pk_sub, zI_s, zI_k, zI_c, zI_2, zL_s, zL_k, zL_c, zL_1, if_true, if_false, eq_self, Nat.zero_add, Nat.add_zero, fX13_slotAt, he, hd, hn, g1, k1, j1]
theorem zm_turn0 {S : sh_St} {T : zT} (hv : zVN S T) (hI : zInv T) {n m : Int64} (hn : zval n) (hm : zval m) : ∃ S', fX13_turn0 S n m = some (nI (zrT T n m), S') ∧ zVN S' (if zrT T n m = 0 then zput (zeT T (zsk T n).1 0 0) m (T.1 3 (zsk T n).1) else T) ∧ zFp S S' := by
  rw [fX13_turn0]
  obtain ⟨S1, g1, _, g3, g4⟩ := zm_seeks hv hI hn
  have hv1 := zVN_fm g4 hv
  unfold zrT
  by_cases c : (zsk T n).1 < 240
  · rw [if_pos c] at g1 ⊢
    obtain ⟨h30, h31⟩ := zFo_t g3 c
    obtain ⟨S2, k1, _, k3, k4⟩ := zm_seeks hv1 hI hm
    have hv2 := zVN_fm k4 hv1
    obtain ⟨S3, j1, j2, j3⟩ := zm_turn50 hv2 hI hm c (zsk_nz c)
    have hp : zFp S S2 := zFp_m (zFm_tr g4 k4)
    by_cases q : (zsk T m).1 < 240
    · rw [if_pos q] at k1
      obtain ⟨m30, m31⟩ := zFo_t k3 q
      by_cases e : (zsk T m).1 = (zsk T n).1
      · rw [if_neg (fun w => w.2 e)]
        refine ⟨S3, ?_, j2, zFp_tr hp j3⟩
        rw [e] at m30 m31
        simp (disch := omega) only [zq_l9, pk_mul, nI_add, zq_t9, zq_c9, zq_bz9, zq_bo9, zq_g, zq_cl, zq_leT, zq_leF, zq_ltT, zq_ltF, zq_eqT, zq_eqF, zq_em, zq_me, zq_pm, zq_mm, zq_gm, pk_sub, zI_s, zI_k, zI_c, zI_2, zL_s, zL_k, zL_c, zL_1, if_true, if_false, eq_self, Nat.zero_add, Nat.add_zero, g1, h30, h31, k1, m30, m31, j1]
      · rw [if_pos ⟨q, e⟩]
        refine ⟨S2, ?_, by rw [if_neg (by omega)]; exact hv2, hp⟩
        by_cases e6 : (zsk T m).1 / 6 = (zsk T n).1 / 6
        · rw [e6] at m30
          simp (disch := omega) only [zq_l9, pk_mul, nI_add, zq_t9, zq_c9, zq_bz9, zq_bo9, zq_g, zq_cl, zq_leT, zq_leF, zq_ltT, zq_ltF, zq_eqT, zq_eqF, zq_em, zq_me, zq_pm, zq_mm, zq_gm, pk_sub, zI_s, zI_k, zI_c, zI_2, zL_s, zL_k, zL_c, zL_1, if_true, if_false, eq_self, Nat.zero_add, Nat.add_zero, g1, h30, h31, k1, m30, m31]
        · simp (disch := omega) only [zq_l9, pk_mul, nI_add, zq_t9, zq_c9, zq_bz9, zq_bo9, zq_g, zq_cl, zq_leT, zq_leF, zq_ltT, zq_ltF, zq_eqT, zq_eqF, zq_em, zq_me, zq_pm, zq_mm, zq_gm, pk_sub, zI_s, zI_k, zI_c, zI_2, zL_s, zL_k, zL_c, zL_1, if_true, if_false, eq_self, Nat.zero_add, Nat.add_zero, g1, h30, h31, k1, m30, m31]
    · rw [if_neg (fun w => q w.1)]
      rw [if_neg q] at k1
      refine ⟨S3, ?_, j2, zFp_tr hp j3⟩
      simp (disch := omega) only [zq_l9, pk_mul, nI_add, zq_t9, zq_c9, zq_bz9, zq_bo9, zq_g, zq_cl, zq_leT, zq_leF, zq_ltT, zq_ltF, zq_eqT, zq_eqF, zq_em, zq_me, zq_pm, zq_mm, zq_gm, pk_sub, zI_s, zI_k, zI_c, zI_2, zL_s, zL_k, zL_c, zL_1, if_true, if_false, eq_self, Nat.zero_add, Nat.add_zero, g1, h30, h31, k1, j1]
  · rw [if_neg c] at g1 ⊢
    refine ⟨S1, ?_, by rw [if_neg (by omega)]; exact hv1, zFp_m g4⟩
    simp (disch := omega) only [zq_l9, pk_mul, nI_add, zq_t9, zq_c9, zq_bz9, zq_bo9, zq_g, zq_cl, zq_leT, zq_leF, zq_ltT, zq_ltF, zq_eqT, zq_eqF, zq_em, zq_me, zq_pm, zq_mm, zq_gm, pk_sub, zI_s, zI_k, zI_c, zI_2, zL_s, zL_k, zL_c, zL_1, if_true, if_false, eq_self, Nat.zero_add, Nat.add_zero, g1]
theorem zm_tear0 {S : sh_St} {T : zT} (hv : zVN S T) (hI : zInv T) {b : Nat} (hb : b < 40) : ∃ S', fX13_tear0 S (nI b) = some (nI (if T.1 0 b = 2 then 0 else 5), S') ∧ zVN S' (if T.1 0 b = 2 then zwT T 2 b 1 else T) ∧ zFp S S' := by
  rw [fX13_tear0]
  have hk := zM_k hv hb
  have hk2 : T.1 0 b ≤ 2 := (hI.2.1 b hb).1
  by_cases c : T.1 0 b = 2
  · rw [if_pos c, if_pos c]
    refine ⟨_, ?_, zMw2 hv 1 hb, zFp_k (zFk_I S _ _)⟩
    simp (disch := omega) only [zq_l9, pk_mul, nI_add, zq_t9, zq_c9, zq_bz9, zq_bo9, zq_g, zq_cl, zq_leT, zq_leF, zq_ltT, zq_ltF, zq_eqT, zq_eqF, zq_em, zq_me, zq_pm, zq_mm, zq_gm, pk_sub, zI_s, zI_k, zI_c, zI_2, zL_s, zL_k, zL_c, zL_1, if_true, if_false, eq_self, Nat.zero_add, Nat.add_zero, hk, c]
  · rw [if_neg c, if_neg c]
    refine ⟨S, ?_, hv, zFp_rf S⟩
    simp (disch := omega) only [zq_l9, pk_mul, nI_add, zq_t9, zq_c9, zq_bz9, zq_bo9, zq_g, zq_cl, zq_leT, zq_leF, zq_ltT, zq_ltF, zq_eqT, zq_eqF, zq_em, zq_me, zq_pm, zq_mm, zq_gm, pk_sub, zI_s, zI_k, zI_c, zI_2, zL_s, zL_k, zL_c, zL_1, if_true, if_false, eq_self, Nat.zero_add, Nat.add_zero, hk]
/-- the readers are closed, or stay as they are -/
def zFq (S S' : sh_St) : Prop := (∀ k, k < 27 → S'.1 0 k = S.1 0 k) ∧ S'.2 0 = S.2 0 ∧ (∀ i, 3 ≤ i → (i < 15 ∨ 20 < i) → i ≠ 9 → S'.1 i = S.1 i ∧ S'.2 i = S.2 i)
theorem zFq_p {S S' : sh_St} (h : zFp S S') : zFq S S' := ⟨h.1, h.2.1, fun i h1 h2 _ => h.2.2 i h1 h2⟩
theorem zFq_rf (S : sh_St) : zFq S S := zFq_p (zFp_rf S)
theorem zFq_tr {S S1 S2 : sh_St} (h1 : zFq S S1) (h2 : zFq S1 S2) : zFq S S2 := ⟨fun k hk => (h2.1 k hk).trans (h1.1 k hk), h2.2.1.trans h1.2.1, fun i h0 hi h9 => ⟨(h2.2.2 i h0 hi h9).1.trans (h1.2.2 i h0 hi h9).1, (h2.2.2 i h0 hi h9).2.trans (h1.2.2 i h0 hi h9).2⟩⟩
theorem zm_close_l {S0 : sh_St} : ∀ (n r : Nat) (S : sh_St), r ≤ 4 → 4 - r < n → (∀ j, j < r → S.1 9 j = nI 0) → ∃ S', fX13_tune0_58 n S (nI 0) (nI r) = some (nI 0, S') ∧ (∀ j, j < 4 → S'.1 9 j = nI 0) ∧ zFr 9 9 S S' := by
  intro n
  induction n with
  | zero => intro r S h1 h2; omega
  | succ n ih =>
    intro r S h1 h2 h3
    rw [fX13_tune0_58]
    by_cases h : r = 4
    · subst h
      refine ⟨S, ?_, h3, zFr_rf _ _ S⟩
      simp (disch := omega) only [zq_l9, pk_mul, nI_add, zq_t9, zq_c9, zq_bz9, zq_bo9, zq_g, zq_cl, zq_leT, zq_leF, zq_ltT, zq_ltF, zq_eqT, zq_eqF, zq_em, zq_me, zq_pm, zq_mm, zq_gm, pk_sub, zI_s, zI_k, zI_c, zI_2, zL_s, zL_k, zL_c, zL_1, if_true, if_false, eq_self, Nat.zero_add, Nat.add_zero]
    · obtain ⟨S', f1, f2, f3⟩ := ih (r + 1) (sh_I S 9 r (nI 0)) (by omega) (by omega) (fun j hj => by
        by_cases e : j = r
        · subst e; exact zI_s _ _ _ _
        · rw [zI_k S 9 r _ e]; exact h3 j (by omega))
      refine ⟨S', ?_, f2, zFr_tr (zFr_I S _ _ (by omega) (by omega)) f3⟩
      simp (disch := omega) only [zq_l9, pk_mul, nI_add, zq_t9, zq_c9, zq_bz9, zq_bo9, zq_g, zq_cl, zq_leT, zq_leF, zq_ltT, zq_ltF, zq_eqT, zq_eqF, zq_em, zq_me, zq_pm, zq_mm, zq_gm, pk_sub, zI_s, zI_k, zI_c, zI_2, zL_s, zL_k, zL_c, zL_1, if_true, if_false, eq_self, Nat.zero_add, Nat.add_zero, f1]
theorem zm_tune58 {S : sh_St} {c : Nat} (hc : c ≤ 3) : ∃ S', fX13_tune0_58 sh_FU S (nI c) (nI 0) = some (nI c, S') ∧ (c = 0 → ∀ j, j < 4 → S'.1 9 j = nI 0) ∧ (c ≠ 0 → S' = S) ∧ zFr 9 9 S S' := by
  by_cases h : c = 0
  · subst h
    obtain ⟨S', f1, f2, f3⟩ := zm_close_l (S0 := S) sh_FU 0 S (by omega) (by decide) (fun j hj => by omega)
    exact ⟨S', f1, fun _ => f2, fun q => absurd rfl q, f3⟩
  · refine ⟨S, ?_, fun q => absurd q h, fun _ => rfl, zFr_rf _ _ S⟩
    rw [show sh_FU = 99999 + 1 from rfl, fX13_tune0_58]
    simp (disch := omega) only [zq_l9, pk_mul, nI_add, zq_t9, zq_c9, zq_bz9, zq_bo9, zq_g, zq_cl, zq_leT, zq_leF, zq_ltT, zq_ltF, zq_eqT, zq_eqF, zq_em, zq_me, zq_pm, zq_mm, zq_gm, pk_sub, zI_s, zI_k, zI_c, zI_2, zL_s, zL_k, zL_c, zL_1, if_true, if_false, eq_self, Nat.zero_add, Nat.add_zero]
theorem zbco_le (T : zT) (f : Nat) : zbco T f ≤ 3 := by unfold zbco; (repeat' split) <;> omega
theorem zVN_9 {S S' : sh_St} {T : zT} (h : zFr 9 9 S S') (hv : zVN S T) : zVN S' T := by
  unfold zVN
  rw [(h 1 (by omega)).1, (h 2 (by omega)).2]
  exact hv
theorem zm_tune51 {S : sh_St} {T : zT} (hv : zVN S T) (hI : zInv T) {b y f : Nat} (hb : b < 13) (hy : y < 65536) (hf : f < 2) : ∃ S', fX13_tune0_51 S (nI f) (nI y) (nI b) = some (nI (zbco T f), S') ∧ zVN S' (if zbco T f = 0 then zbu (zsn T b y f) (zPA (zsn T b y f)) else T) ∧ zFq S S' ∧ (∀ j, j < 4 → S'.1 9 j = if zbco T f = 0 then nI 0 else S.1 9 j) := by
  rw [fX13_tune0_51]
  obtain ⟨S1, g1, g2, g3⟩ := zm_build0 hv hI hb hy hf
  obtain ⟨S2, k1, k2, k3, k4⟩ := zm_tune58 (S := S1) (zbco_le T f)
  have hq : zFq S1 S2 := ⟨fun k _ => by rw [(k4 0 (by omega)).1], (k4 0 (by omega)).2, fun i _ _ h9 => k4 i (by omega)⟩
  refine ⟨S2, ?_, zVN_9 k4 g2, zFq_tr (zFq_p g3) hq, fun j hj => ?_⟩
  · simp (disch := omega) only [zq_l9, pk_mul, nI_add, zq_t9, zq_c9, zq_bz9, zq_bo9, zq_g, zq_cl, zq_leT, zq_leF, zq_ltT, zq_ltF, zq_eqT, zq_eqF, zq_em, zq_me, zq_pm, zq_mm, zq_gm, pk_sub, zI_s, zI_k, zI_c, zI_2, zL_s, zL_k, zL_c, zL_1, if_true, if_false, eq_self, Nat.zero_add, Nat.add_zero, g1, k1]
  · by_cases c : zbco T f = 0
    · rw [if_pos c]; exact k2 c j hj
    · rw [if_neg c, k3 c, (g3.2.2 9 (by omega) (by omega)).1]
/-- which number is told -/
def zwa (a : Nat) : Nat := if a = 3 then 0 else if a = 4 then 1 else 2
def zwv (a v : Nat) : Nat := if a = 5 then 1 else if a = 6 then 0 else v
theorem zref_t {T : zT} {a : Nat} (ha : 3 ≤ a ∧ a ≤ 6) (hu : T.1 7 3 = 1 → zuq T) (hI : zInv T) (n m : Int64) (v : Nat) : zref T a n m v = zbco T (zfd T a) := by
  have h73 : T.1 7 3 < 2 := hI.1.2.2.2.2
  unfold zref zbco zfd
  rw [if_neg (by omega), if_neg (by omega), if_neg (by omega), if_neg (by omega)]
  by_cases c : 80 < zall T
  · rw [if_pos c, if_pos c]
  · rw [if_neg c, if_neg c]
    have hdu : @decide (zuq T) (Classical.propDecidable _) = false ↔ ¬ zuq T := by rw [decide_eq_false_iff_not]
    generalize @decide (zuq T) (Classical.propDecidable _) = dd at *
    by_cases u : zuq T
    · have hd : dd = true := by cases dd with
        | true => rfl
        | false => exact absurd u (hdu.1 rfl)
      subst hd
      have e1 : (if a = 5 ∧ true = false then 1 else 0 : Nat) = 0 := if_neg (fun q => by cases q.2)
      have e2 : ∀ f, (if f = 1 ∧ T.1 7 3 = 0 ∧ true = false then 1 else 0 : Nat) = 0 := fun f => if_neg (fun q => by cases q.2.2)
      rw [e1, e2]
    · have hd : dd = false := hdu.2 u
      subst hd
      have h0 : T.1 7 3 = 0 := by
        have : T.1 7 3 ≠ 1 := fun q => u (hu q)
        omega
      by_cases a5 : a = 5
      · have e1 : (if a = 5 ∧ false = false then 1 else 0 : Nat) = 1 := if_pos ⟨a5, rfl⟩
        have e2 : (if a = 5 then 1 else if a = 6 then 0 else T.1 7 3) = 1 := if_pos a5
        rw [e1, e2]
        exact (if_pos ⟨rfl, h0, rfl⟩).symm
      · have e1 : (if a = 5 ∧ false = false then 1 else 0 : Nat) = 0 := if_neg (fun q => a5 q.1)
        have e2 : (if a = 5 then 1 else if a = 6 then 0 else T.1 7 3) = 0 := by rw [if_neg a5, h0]; split <;> rfl
        rw [e1, e2]
        exact (if_neg (fun q => by omega)).symm
theorem zm_tune0 {S : sh_St} {T : zT} (hv : zVN S T) (hI : zInv T) (hu : T.1 7 3 = 1 → zuq T) {a v : Nat} (ha : 3 ≤ a ∧ a ≤ 6) (hr : zrg a v) (n m : Int64) (w : Nat) : ∃ S', fX13_tune0 S (nI (zwa a)) (nI (zwv a v)) = some (nI (zref T a n m w), S') ∧ zVN S' (if zref T a n m w = 0 then zbu (zU T a v) (zPA (zU T a v)) else T) ∧ zFq S S' ∧ (∀ j, j < 4 → S'.1 9 j = if zref T a n m w = 0 then nI 0 else S.1 9 j) := by
  rw [zref_t ha hu hI n m w]
  have hb := zM_b hv
  have hy := zM_y hv
  have hf := zM_f hv
  have h1 := hI.1
  obtain ⟨_, _, r3, r4, _⟩ := hr
  rw [fX13_tune0]
  unfold zU zbi zky zwa zwv
  have hc : a = 3 ∨ a = 4 ∨ a = 5 ∨ a = 6 := by omega
  rcases hc with q | q | q | q <;> subst q
  · obtain ⟨S', f1, f2⟩ := zm_tune51 hv hI (b := v) (y := T.1 7 2) (f := T.1 7 3) (by have := r3 rfl; omega) (by omega) (by omega)
    refine ⟨S', ?_, f2⟩
    simp (disch := omega) only [zq_l9, pk_mul, nI_add, zq_t9, zq_c9, zq_bz9, zq_bo9, zq_g, zq_cl, zq_leT, zq_leF, zq_ltT, zq_ltF, zq_eqT, zq_eqF, zq_em, zq_me, zq_pm, zq_mm, zq_gm, pk_sub, zI_s, zI_k, zI_c, zI_2, zL_s, zL_k, zL_c, zL_1, if_true, if_false, eq_self, Nat.zero_add, Nat.add_zero, fX13_tune0_17, fX13_tune0_34, hb, hy, hf, zfd]
    exact f1
  · obtain ⟨S', f1, f2⟩ := zm_tune51 hv hI (b := T.1 7 1) (y := v) (f := T.1 7 3) (by omega) (r4 rfl) (by omega)
    refine ⟨S', ?_, f2⟩
    simp (disch := omega) only [zq_l9, pk_mul, nI_add, zq_t9, zq_c9, zq_bz9, zq_bo9, zq_g, zq_cl, zq_leT, zq_leF, zq_ltT, zq_ltF, zq_eqT, zq_eqF, zq_em, zq_me, zq_pm, zq_mm, zq_gm, pk_sub, zI_s, zI_k, zI_c, zI_2, zL_s, zL_k, zL_c, zL_1, if_true, if_false, eq_self, Nat.zero_add, Nat.add_zero, fX13_tune0_17, fX13_tune0_34, hb, hy, hf, zfd]
    exact f1
  · obtain ⟨S', f1, f2⟩ := zm_tune51 hv hI (b := T.1 7 1) (y := T.1 7 2) (f := 1) (by omega) (by omega) (by omega)
    refine ⟨S', ?_, f2⟩
    simp (disch := omega) only [zq_l9, pk_mul, nI_add, zq_t9, zq_c9, zq_bz9, zq_bo9, zq_g, zq_cl, zq_leT, zq_leF, zq_ltT, zq_ltF, zq_eqT, zq_eqF, zq_em, zq_me, zq_pm, zq_mm, zq_gm, pk_sub, zI_s, zI_k, zI_c, zI_2, zL_s, zL_k, zL_c, zL_1, if_true, if_false, eq_self, Nat.zero_add, Nat.add_zero, fX13_tune0_17, fX13_tune0_34, hb, hy, hf, zfd]
    exact f1
  · obtain ⟨S', f1, f2⟩ := zm_tune51 hv hI (b := T.1 7 1) (y := T.1 7 2) (f := 0) (by omega) (by omega) (by omega)
    refine ⟨S', ?_, f2⟩
    simp (disch := omega) only [zq_l9, pk_mul, nI_add, zq_t9, zq_c9, zq_bz9, zq_bo9, zq_g, zq_cl, zq_leT, zq_leF, zq_ltT, zq_ltF, zq_eqT, zq_eqF, zq_em, zq_me, zq_pm, zq_mm, zq_gm, pk_sub, zI_s, zI_k, zI_c, zI_2, zL_s, zL_k, zL_c, zL_1, if_true, if_false, eq_self, Nat.zero_add, Nat.add_zero, fX13_tune0_17, fX13_tune0_34, hb, hy, hf, zfd]
    exact f1
theorem zm_bld {S : sh_St} {T : zT} (hv : zVN S T) (hI : zInv T) (hu : T.1 7 3 = 1 → zuq T) (n m : Int64) (v : Nat) : ∃ S', fX13_build0 S (S.1 1 1081) (S.1 1 1082) (S.1 1 1083) = some (nI (zref T 8 n m v), S') ∧ zVN S' (if zref T 8 n m v = 0 then zbu T (zPA T) else T) ∧ zFp S S' := by
  have h1 := hI.1
  rw [zM_b hv, zM_y hv, zM_f hv]
  obtain ⟨S', f1, f2, f3⟩ := zm_build0 hv hI (b := T.1 7 1) (y := T.1 7 2) (f := T.1 7 3) (by omega) (by omega) (by omega)
  have e : zref T 8 n m v = zbco T (T.1 7 3) := by
    unfold zref zbco
    rw [if_neg (by omega), if_neg (by omega), if_neg (by omega), if_neg (by omega)]
    by_cases c : 80 < zall T
    · rw [if_pos c, if_pos c]
    · rw [if_neg c, if_neg c]
      have e1 : (if (8 : Nat) = 5 ∧ @decide (zuq T) (Classical.propDecidable _) = false then 1 else 0) = (0 : Nat) := if_neg (fun q => by have := q.1; omega)
      have e2 : (if T.1 7 3 = 1 ∧ T.1 7 3 = 0 ∧ @decide (zuq T) (Classical.propDecidable _) = false then 1 else 0) = (0 : Nat) := if_neg (fun q => by have := q.1; have := q.2.1; omega)
      rw [e1, e2]
  rw [zsn_id rfl rfl rfl] at f2
  rw [e]
  exact ⟨S', f1, f2, f3⟩
