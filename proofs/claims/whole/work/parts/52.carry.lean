/-! acts are carried out: the class -/
theorem zis_nz {T : zT} {n : Int64} {k : Nat} (h : zis T n k = true) : T.2 k ≠ 0 := fun q => zis_0 q h
theorem zlw_is (T : zT) (n : Int64) (p : Nat) : ∀ m i c, (zlw T n p m i c).1 < 240 → zis T n (zlw T n p m i c).1 = true := by
  intro m
  induction m with
  | zero => intro i c h; exact absurd h (Nat.lt_irrefl 240)
  | succ m ih =>
    intro i c h
    unfold zlw at h ⊢
    by_cases q : zsl T n (zlq T (p + i)).1 < 6
    · rw [if_pos q]
      exact zfi_p (fun s => zis T n ((zlq T (p + i)).1 * 6 + s)) 6 0 (by unfold zsl at q; omega)
    · rw [if_neg q] at h ⊢
      exact ih _ _ h
theorem zle_is (T : zT) (n : Int64) : ∀ m b c, (zle T n m b c).1 < 240 → zis T n (zle T n m b c).1 = true := by
  intro m
  induction m with
  | zero => intro b c h; exact absurd h (Nat.lt_irrefl 240)
  | succ m ih =>
    intro b c h
    unfold zle at h ⊢
    by_cases q1 : T.1 0 b = 1
    · rw [if_pos q1] at h ⊢
      by_cases q : zsl T n b < 6
      · rw [if_pos q]
        exact zfi_p (fun s => zis T n (b * 6 + s)) 6 0 (by unfold zsl at q; omega)
      · rw [if_neg q] at h ⊢
        exact ih _ _ h
    · rw [if_neg q1] at h ⊢
      exact ih _ _ h
theorem zsk_is {T : zT} {n : Int64} (h : (zsk T n).1 < 240) : zis T n (zsk T n).1 = true := by
  unfold zsk at h ⊢
  by_cases c : ztor T = 0
  · rw [if_pos c] at h ⊢
    exact zlw_is T n _ _ _ _ h
  · rw [if_neg c] at h ⊢
    exact zle_is T n _ _ _ h
theorem zsk_nz {T : zT} {n : Int64} (h : (zsk T n).1 < 240) : T.2 (zsk T n).1 ≠ 0 := zis_nz (zsk_is h)
theorem zx_remove {S : sh_St} {T : zT} (hv : zVX S 4 T) (hI : zInv T) {n : Int64} (c : (zsk T n).1 < 240) : ∃ S', fX4_removeEntry S n = some (nI (T.1 3 (zsk T n).1), S') ∧ zVX S' 4 (zeT T (zsk T n).1 0 0) ∧ zFc S S' := by
  rw [fX4_removeEntry]
  obtain ⟨S1, g1, _, g3⟩ := zx_look hv hI n
  have hv1 := zVX_f4 g3 (by omega) hv
  rw [zsp_t c] at g1
  have hd := zX_d hv1 c (zsk_nz c)
  refine ⟨sh_L S1 8 (zsk T n).1 0, ?_, zXr hv1 _ _, zFc_tr (zFc_fr g3 (by omega)) (zFc_fr (zFr_L (lo := 8) (hi := 8) S1 _ _ (by omega) (by omega)) (by omega))⟩
  simp (disch := omega) only [zq_l9, pk_mul, nI_add, zq_t9, zq_c9, zq_bz9, zq_bo9, zq_g, zq_cl, zq_leT, zq_leF, zq_ltT, zq_ltF, zq_eqT, zq_eqF, zq_em, zq_me, zq_pm, zq_mm, zq_gm, pk_sub, zI_s, zI_k, zI_c, zI_2, zL_s, zL_k, zL_c, zL_1, if_true, if_false, eq_self, Nat.zero_add, Nat.add_zero, g1, hd]
/-- numbers that an act tells -/
def zbi (T : zT) (a v : Nat) : Nat := if a = 3 then v else T.1 7 1
def zky (T : zT) (a v : Nat) : Nat := if a = 4 then v else T.1 7 2
def zfd (T : zT) (a : Nat) : Nat := if a = 5 then 1 else if a = 6 then 0 else T.1 7 3
def zU (T : zT) (a v : Nat) : zT := zsn T (zbi T a v) (zky T a v) (zfd T a)
/-- the tree behind an act; what it answers -/
def zact (T : zT) (a : Nat) (n m : Int64) (v : Nat) : zT :=
  if a = 0 then zput T n v else if a = 1 then zeT T (zsk T n).1 0 0 else if a = 2 then zput (zeT T (zsk T n).1 0 0) m (T.1 3 (zsk T n).1)
  else if a = 7 then zwT T 2 v 1 else zbu (zU T a v) (zPA (zU T a v))
def zans (T : zT) (a : Nat) (n m : Int64) (v : Nat) : Nat :=
  if a = 0 then zned T (zha T n) else if a = 1 then T.1 3 (zsk T n).1 else if a = 2 then T.1 3 (zsk T n).1
  else if a = 7 then ztor (zwT T 2 v 1) else if a = 8 then 40 - zkin (zact T a n m v) 0 else if a = 3 then T.1 7 1 else if a = 4 then T.1 7 2 else T.1 7 3
/-- what an act's number may be -/
def zrg (a v : Nat) : Prop := a < 9 ∧ (a = 0 → v ≤ 999) ∧ (a = 3 → 1 ≤ v ∧ v ≤ 12) ∧ (a = 4 → v < 65536) ∧ (a = 7 → v < 40)
theorem zInv_sn {T : zT} (hI : zInv T) {b y f : Nat} (hb1 : 1 ≤ b) (hb : b ≤ 12) (hy : y < 65536) (hf : f < 2) : zInv (zsn T b y f) := by
  obtain ⟨a, b', c, d', e, f', g⟩ := hI
  have e0 : ∀ i, i ≠ 7 → (zsn T b y f).1 i = T.1 i := fun i hi => zsn_i T b y f hi
  have e7 : (zsn T b y f).1 7 0 = T.1 7 0 := rfl
  refine ⟨⟨by rw [e7]; exact a.1, hb1, hb, hy, hf⟩, ?_, ?_, ?_, ?_, ?_, ?_⟩
  · rw [e0 0 (by omega), e0 1 (by omega), e0 2 (by omega)]; exact b'
  · rw [e0 0 (by omega), e0 3 (by omega)]; exact c
  · rw [e0 1 (by omega), e0 4 (by omega), e0 5 (by omega), e0 6 (by omega)]; exact d'
  · rw [e0 1 (by omega), e0 6 (by omega)]; exact e
  · rw [e0 0 (by omega), e0 1 (by omega), e0 6 (by omega), e7]; exact f'
  · rw [e0 0 (by omega), e0 1 (by omega), e0 6 (by omega)]; exact g
theorem zInv_U {T : zT} (hI : zInv T) {a v : Nat} (hr : zrg a v) : zInv (zU T a v) := by
  have h1 := hI.1
  obtain ⟨_, _, r3, r4, _⟩ := hr
  unfold zU zbi zky zfd
  refine zInv_sn hI ?_ ?_ ?_ ?_
  · split
    · exact (r3 (by assumption)).1
    · omega
  · split
    · exact (r3 (by assumption)).2
    · omega
  · split
    · exact r4 (by assumption)
    · omega
  · split
    · omega
    · split <;> omega
theorem zXv_of {S : sh_St} {T : zT} (hv : zVX S 4 T) : zXv S T := ⟨⟨fun k hk => ⟨(hv.2.1 k hk).1, fun hn => ((hv.2.1 k hk).2 hn).1⟩, hv.2.2.2.1, hv.2.2.2.2.1, hv.2.2.2.2.2.1⟩, hv.2.2.1, hv.2.2.2.2.2.2⟩
theorem zXv_sn {S S' : sh_St} {T : zT} {b y f : Nat} (hv : zVX S 4 T) (hf : zFr 4 4 S S') (h0 : S'.1 4 0 = nI b) (h1 : S'.1 4 1 = nI y) (h2 : S'.1 4 2 = nI f) (h3 : S'.1 4 3 = nI (T.1 7 0)) : zXv S' (zsn T b y f) := by
  have hx := zXv_of hv
  refine ⟨⟨fun k hk => ?_, h0, h1, h2⟩, fun j hj => ?_, h3⟩
  · rw [(hf 8 (by omega)).2, (hf 9 (by omega)).1, zsn_i T b y f (show 3 ≠ 7 by omega)]
    exact hx.1.1 k hk
  · rw [(hf 11 (by omega)).1, (hf 12 (by omega)).1, (hf 13 (by omega)).1, zsn_i T b y f (show 4 ≠ 7 by omega), zsn_i T b y f (show 5 ≠ 7 by omega), zsn_i T b y f (show 6 ≠ 7 by omega)]
    exact hx.2.1 j hj
theorem zx_retune {S : sh_St} {T : zT} (hv : zVX S 4 T) (hI : zInv T) {a v : Nat} (ha : 3 ≤ a ∧ a ≤ 6) : ∃ S', fX4_retune S (nI a) (nI v) = some (nI (if a = 3 then T.1 7 1 else if a = 4 then T.1 7 2 else T.1 7 3), S') ∧ zXv S' (zU T a v) ∧ zFr 4 4 S S' := by
  have hb := zX_b hv
  have hy := zX_y hv
  have hf := zX_f hv
  have hl := zX_v hv
  have h73 : T.1 7 3 < 2 := hI.1.2.2.2.2
  rw [fX4_retune]
  unfold zU zbi zky zfd
  have hc : a = 3 ∨ a = 4 ∨ a = 5 ∨ a = 6 := by omega
  have h7 : T.1 7 3 = 0 ∨ T.1 7 3 = 1 := by omega
  rcases hc with q | q | q | q <;> subst q
  · refine ⟨sh_I S 4 0 (nI v), ?_, ?_, zFr_I S _ _ (by omega) (by omega)⟩
    · rcases h7 with q | q <;> rw [q] at hf <;> simp (disch := omega) only [zq_l9, pk_mul, nI_add, zq_t9, zq_c9, zq_bz9, zq_bo9, zq_g, zq_cl, zq_leT, zq_leF, zq_ltT, zq_ltF, zq_eqT, zq_eqF, zq_em, zq_me, zq_pm, zq_mm, zq_gm, pk_sub, zI_s, zI_k, zI_c, zI_2, zL_s, zL_k, zL_c, zL_1, if_true, if_false, eq_self, Nat.zero_add, Nat.add_zero, hf, fX4_retune_15, hb]
    · refine zXv_sn hv (zFr_I S _ _ (by omega) (by omega)) (zI_s _ _ _ _) ?_ ?_ ?_ <;> rw [zI_k S 4 0 _ (by omega)] <;> first | exact hy | exact hf | exact hl
  · refine ⟨sh_I S 4 1 (nI v), ?_, ?_, zFr_I S _ _ (by omega) (by omega)⟩
    · rcases h7 with q | q <;> rw [q] at hf <;> simp (disch := omega) only [zq_l9, pk_mul, nI_add, zq_t9, zq_c9, zq_bz9, zq_bo9, zq_g, zq_cl, zq_leT, zq_leF, zq_ltT, zq_ltF, zq_eqT, zq_eqF, zq_em, zq_me, zq_pm, zq_mm, zq_gm, pk_sub, zI_s, zI_k, zI_c, zI_2, zL_s, zL_k, zL_c, zL_1, if_true, if_false, eq_self, Nat.zero_add, Nat.add_zero, hf, fX4_retune_15, hy] <;> rfl
    · refine zXv_sn hv (zFr_I S _ _ (by omega) (by omega)) ?_ (zI_s _ _ _ _) ?_ ?_ <;> rw [zI_k S 4 1 _ (by omega)] <;> first | exact hb | exact hf | exact hl
  · refine ⟨sh_I S 4 2 (nI 1), ?_, ?_, zFr_I S _ _ (by omega) (by omega)⟩
    · rcases h7 with q | q <;> rw [q] at hf ⊢ <;> simp (disch := omega) only [zq_l9, pk_mul, nI_add, zq_t9, zq_c9, zq_bz9, zq_bo9, zq_g, zq_cl, zq_leT, zq_leF, zq_ltT, zq_ltF, zq_eqT, zq_eqF, zq_em, zq_me, zq_pm, zq_mm, zq_gm, pk_sub, zI_s, zI_k, zI_c, zI_2, zL_s, zL_k, zL_c, zL_1, if_true, if_false, eq_self, Nat.zero_add, Nat.add_zero, hf, fX4_retune_15, fX4_retune_84] <;> rfl
    · refine zXv_sn hv (zFr_I S _ _ (by omega) (by omega)) ?_ ?_ (zI_s _ _ _ _) ?_ <;> rw [zI_k S 4 2 _ (by omega)] <;> first | exact hb | exact hy | exact hl
  · refine ⟨sh_I S 4 2 (nI 0), ?_, ?_, zFr_I S _ _ (by omega) (by omega)⟩
    · rcases h7 with q | q <;> rw [q] at hf ⊢ <;> simp (disch := omega) only [zq_l9, pk_mul, nI_add, zq_t9, zq_c9, zq_bz9, zq_bo9, zq_g, zq_cl, zq_leT, zq_leF, zq_ltT, zq_ltF, zq_eqT, zq_eqF, zq_em, zq_me, zq_pm, zq_mm, zq_gm, pk_sub, zI_s, zI_k, zI_c, zI_2, zL_s, zL_k, zL_c, zL_1, if_true, if_false, eq_self, Nat.zero_add, Nat.add_zero, hf, fX4_retune_15, fX4_retune_84] <;> rfl
    · refine zXv_sn hv (zFr_I S _ _ (by omega) (by omega)) ?_ ?_ (zI_s _ _ _ _) ?_ <;> rw [zI_k S 4 2 _ (by omega)] <;> first | exact hb | exact hy | exact hl
theorem zrP_0 {T : zT} {n : Int64} (h : zrP T n = 0) : ¬ (zsk T n).1 < 240 ∧ ztor T = 0 ∧ zned T (zha T n) ≠ 9 := by
  unfold zrP at h
  by_cases c : (zsk T n).1 < 240
  · rw [if_pos c] at h; omega
  · rw [if_neg c] at h
    refine ⟨c, ?_⟩
    unfold zpco at h
    by_cases t : ztor T = 0
    · rw [if_neg (by omega)] at h
      refine ⟨t, fun q => ?_⟩
      rw [if_pos q] at h; omega
    · rw [if_pos t] at h; omega
theorem zpco_0 {T : zT} {n : Int64} (h : zpco T n = 0) : ztor T = 0 ∧ zned T (zha T n) ≠ 9 := by
  unfold zpco at h
  by_cases t : ztor T = 0
  · rw [if_neg (by omega)] at h
    refine ⟨t, fun q => ?_⟩
    rw [if_pos q] at h; omega
  · rw [if_pos t] at h; omega
theorem zrT_0 {T : zT} {n m : Int64} (h : zrT T n m = 0) : (zsk T n).1 < 240 ∧ ((zsk T m).1 < 240 → (zsk T m).1 = (zsk T n).1) ∧ zpco (zeT T (zsk T n).1 0 0) m = 0 := by
  unfold zrT at h
  by_cases c : (zsk T n).1 < 240
  · rw [if_pos c] at h
    by_cases q : (zsk T m).1 < 240 ∧ (zsk T m).1 ≠ (zsk T n).1
    · rw [if_pos q] at h; omega
    · rw [if_neg q] at h
      exact ⟨c, fun w => Classical.byContradiction fun e => q ⟨w, e⟩, h⟩
  · rw [if_neg c] at h; omega
theorem zref_b {T : zT} {a : Nat} {n m : Int64} {v : Nat} (ha : a ≠ 0 ∧ a ≠ 1 ∧ a ≠ 2 ∧ a ≠ 7) (h : zref T a n m v = 0) : zall T ≤ 80 ∧ (a = 5 → zuq T) := by
  unfold zref at h
  rw [if_neg ha.1, if_neg ha.2.1, if_neg ha.2.2.1, if_neg ha.2.2.2] at h
  by_cases c : 80 < zall T
  · rw [if_pos c] at h; omega
  · rw [if_neg c] at h
    refine ⟨by omega, fun q => Classical.byContradiction fun u => ?_⟩
    rw [if_pos ⟨q, by rw [decide_eq_false_iff_not]; exact u⟩] at h
    omega
theorem zall_U (T : zT) (a v : Nat) : zall (zU T a v) = zall T := rfl
theorem zU_8 (T : zT) (v : Nat) : zU T 8 v = T := zsn_id rfl rfl rfl
theorem zx_carry {S : sh_St} {T : zT} (hv : zVX S 4 T) (hI : zInv T) {a v : Nat} (hr : zrg a v) (n m : Int64) (h0 : zref T a n m v = 0) (hI' : zInv (zact T a n m v)) :
    ∃ S', fX4_carryOut S (nI a) n m (nI v) = some (nI (zans T a n m v), S') ∧ zVX S' 4 (zact T a n m v) ∧ zFc S S' := by
  rw [fX4_carryOut]
  have hsw : sh_swm = [1, 2, 3, 0, 0, 5, 0, 4, 6] := rfl
  obtain ⟨ha, r0, r3, r4, r7⟩ := id hr
  by_cases a0 : a = 0
  · subst a0
    obtain ⟨c, t, q⟩ := zrP_0 (T := T) (n := n) h0
    obtain ⟨S', f1, f2, f3, f4⟩ := zx_place hv hI (zInv_av hI) n (r0 rfl) q
    refine ⟨S', ?_, f2, zFc_2 f3 (fun i h1 h2 => f4 i h1 (by omega))⟩
    simp (disch := omega) only [zq_l9, pk_mul, nI_add, zq_t9, zq_c9, zq_bz9, zq_bo9, zq_g, zq_cl, zq_leT, zq_leF, zq_ltT, zq_ltF, zq_eqT, zq_eqF, zq_em, zq_me, zq_pm, zq_mm, zq_gm, pk_sub, zI_s, zI_k, zI_c, zI_2, zL_s, zL_k, zL_c, zL_1, if_true, if_false, eq_self, Nat.zero_add, Nat.add_zero, hsw, List.getD_cons_zero, f1, zans] <;> rfl
  by_cases a1 : a = 1
  · subst a1
    have c : (zsk T n).1 < 240 := Classical.byContradiction fun q => by
      have h1 : zrC T n = 0 := h0
      unfold zrC at h1
      rw [if_neg q] at h1; omega
    obtain ⟨S', f1, f2, f3⟩ := zx_remove hv hI c
    refine ⟨S', ?_, f2, f3⟩
    simp (disch := omega) only [zq_l9, pk_mul, nI_add, zq_t9, zq_c9, zq_bz9, zq_bo9, zq_g, zq_cl, zq_leT, zq_leF, zq_ltT, zq_ltF, zq_eqT, zq_eqF, zq_em, zq_me, zq_pm, zq_mm, zq_gm, pk_sub, zI_s, zI_k, zI_c, zI_2, zL_s, zL_k, zL_c, zL_1, if_true, if_false, eq_self, Nat.zero_add, Nat.add_zero, hsw, List.getD_cons_zero, List.getD_cons_succ, f1, zans] <;> rfl
  by_cases a2 : a = 2
  · subst a2
    obtain ⟨c, _, q⟩ := zrT_0 (T := T) (n := n) (m := m) h0
    obtain ⟨S1, f1, f2, f3⟩ := zx_remove hv hI c
    have hd : T.1 3 (zsk T n).1 ≤ 999 := zInv_nd hI c (zsk_nz c)
    have hIc := zInv_cut hI (zsk T n).1 0
    obtain ⟨S', k1, k2, k3, k4⟩ := zx_place f2 hIc (zInv_av hIc) m hd (zpco_0 q).2
    refine ⟨S', ?_, k2, zFc_tr f3 (zFc_2 k3 (fun i h1 h2 => k4 i h1 (by omega)))⟩
    simp (disch := omega) only [zq_l9, pk_mul, nI_add, zq_t9, zq_c9, zq_bz9, zq_bo9, zq_g, zq_cl, zq_leT, zq_leF, zq_ltT, zq_ltF, zq_eqT, zq_eqF, zq_em, zq_me, zq_pm, zq_mm, zq_gm, pk_sub, zI_s, zI_k, zI_c, zI_2, zL_s, zL_k, zL_c, zL_1, if_true, if_false, eq_self, Nat.zero_add, Nat.add_zero, hsw, List.getD_cons_zero, List.getD_cons_succ, f1, k1, zans] <;> rfl
  by_cases a7 : a = 7
  · subst a7
    have hv9 := zXw2 hv v 1
    have ht := zx_tor (S := sh_I S 7 v (nI 1)) (T := zwT T 2 v 1) hv9 hI'
    have hv4 := r7 rfl
    refine ⟨sh_I S 7 v (nI 1), ?_, hv9, zFc_fr (zFr_I (lo := 7) (hi := 7) S _ _ (by omega) (by omega)) (by omega)⟩
    simp (disch := omega) only [zq_l9, pk_mul, nI_add, zq_t9, zq_c9, zq_bz9, zq_bo9, zq_g, zq_cl, zq_leT, zq_leF, zq_ltT, zq_ltF, zq_eqT, zq_eqF, zq_em, zq_me, zq_pm, zq_mm, zq_gm, pk_sub, zI_s, zI_k, zI_c, zI_2, zL_s, zL_k, zL_c, zL_1, if_true, if_false, eq_self, Nat.zero_add, Nat.add_zero, hsw, List.getD_cons_zero, List.getD_cons_succ, ht, zans] <;> rfl
  obtain ⟨h80, _⟩ := zref_b ⟨a0, a1, a2, a7⟩ h0
  have hIU := zInv_U hI hr
  have eact : zact T a n m v = zbu (zU T a v) (zPA (zU T a v)) := by
    unfold zact
    rw [if_neg a0, if_neg a1, if_neg a2, if_neg a7]
  by_cases a8 : a = 8
  · subst a8
    have e8 : zact T 8 n m v = zbu T (zPA T) := by rw [eact, zU_8]
    obtain ⟨S', f1, f2, f3, f4⟩ := zx_layAnew (zXv_of hv) hI h80
    rw [e8] at hI' ⊢
    have hk := zx_kin f2 hI' (g := 0) (by omega)
    have hkl : zkin (zbu T (zPA T)) 0 ≤ 40 := zcnt_le _ _
    refine ⟨S', ?_, f2, zFc_2 f3 (fun i h1 h2 => f4 i h1 (by omega))⟩
    have ez : zans T 8 n m v = 40 - zkin (zbu T (zPA T)) 0 := by rw [← e8]; rfl
    rw [ez]
    simp (disch := omega) only [zq_l9, pk_mul, nI_add, zq_t9, zq_c9, zq_bz9, zq_bo9, zq_g, zq_cl, zq_leT, zq_leF, zq_ltT, zq_ltF, zq_eqT, zq_eqF, zq_em, zq_me, zq_pm, zq_mm, zq_gm, pk_sub, zI_s, zI_k, zI_c, zI_2, zL_s, zL_k, zL_c, zL_1, if_true, if_false, eq_self, Nat.zero_add, Nat.add_zero, hsw, List.getD_cons_zero, List.getD_cons_succ, f1, hk]
  · obtain ⟨S1, g1, g2, g3⟩ := zx_retune (v := v) hv hI (show 3 ≤ a ∧ a ≤ 6 by omega)
    obtain ⟨S', f1, f2, f3, f4⟩ := zx_layAnew g2 hIU h80
    rw [eact]
    have ez : zans T a n m v = (if a = 3 then T.1 7 1 else if a = 4 then T.1 7 2 else T.1 7 3) := by
      unfold zans
      rw [if_neg a0, if_neg a1, if_neg a2, if_neg a7, if_neg a8]
    refine ⟨S', ?_, f2, zFc_tr (zFc_fr g3 (by omega)) (zFc_2 f3 (fun i h1 h2 => f4 i h1 (by omega)))⟩
    rw [ez]
    have hc : a = 3 ∨ a = 4 ∨ a = 5 ∨ a = 6 := by omega
    rcases hc with q | q | q | q <;> subst q <;> simp (disch := omega) only [zq_l9, pk_mul, nI_add, zq_t9, zq_c9, zq_bz9, zq_bo9, zq_g, zq_cl, zq_leT, zq_leF, zq_ltT, zq_ltF, zq_eqT, zq_eqF, zq_em, zq_me, zq_pm, zq_mm, zq_gm, pk_sub, zI_s, zI_k, zI_c, zI_2, zL_s, zL_k, zL_c, zL_1, if_true, if_false, eq_self, Nat.zero_add, Nat.add_zero, hsw, List.getD_cons_zero, List.getD_cons_succ, g1, f1]
