/-! empty slots; what a name would need -/
def zem (T : zT) (b : Nat) : Nat := zfi (fun s => !znz T (b * 6 + s)) 6 0
theorem zem_le (T : zT) (b : Nat) : zem T b ≤ 6 := by have := (zfi_le (fun s => !znz T (b * 6 + s)) 6 0).2; unfold zem; omega
theorem zx_em_l {S : sh_St} {T : zT} (hv : zVX S 4 T) {b : Nat} (hb : b < 40) : ∀ (m s : Nat), s ≤ 6 → 6 - s < m → fX7_emptySlotOf_2 m S (nI b) (nI s) = some (zsp 6 (zfi (fun s => !znz T (b * 6 + s)) (6 - s) s), S) := by
  intro m
  induction m with
  | zero => intro s h1 h2; omega
  | succ m ih =>
    intro s h1 h2
    rw [fX7_emptySlotOf_2]
    by_cases h : s = 6
    · subst h
      simp (disch := omega) only [zq_l2, pk_mul, nI_add, zq_t, zq_c, zq_bz, zq_bo, zq_g, zq_cl, zq_leT, zq_leF, zq_ltT, zq_ltF, zq_eqT, zq_eqF, zq_em, zq_me, zq_pm, zq_mm, zq_gm, pk_sub, zI_s, zI_k, zI_c, zI_2, zL_s, zL_k, zL_c, zL_1, if_true, if_false, eq_self, Nat.zero_add, Nat.add_zero]
      rfl
    · obtain ⟨j, hj⟩ : ∃ j, 6 - s = j + 1 := ⟨6 - s - 1, by omega⟩
      have hj' : 6 - (s + 1) = j := by omega
      have e := ih (s + 1) (by omega) (by omega)
      rw [hj'] at e
      rw [hj]
      by_cases h9 : T.2 (b * 6 + s) = 0
      · rw [zfi_t (p := fun s => !znz T (b * 6 + s)) (by simp [znz_f h9]), zsp_t (by omega)]
        simp (disch := omega) only [zq_l2, pk_mul, nI_add, zq_t, zq_c, zq_bz, zq_bo, zq_g, zq_cl, zq_leT, zq_leF, zq_ltT, zq_ltF, zq_eqT, zq_eqF, zq_em, zq_me, zq_pm, zq_mm, zq_gm, pk_sub, zI_s, zI_k, zI_c, zI_2, zL_s, zL_k, zL_c, zL_1, if_true, if_false, eq_self, Nat.zero_add, Nat.add_zero, zX_n hv, h9]
      · rw [zfi_f (p := fun s => !znz T (b * 6 + s)) (by simp [znz_t h9])]
        simp (disch := omega) only [zq_l2, pk_mul, nI_add, zq_t, zq_c, zq_bz, zq_bo, zq_g, zq_cl, zq_leT, zq_leF, zq_ltT, zq_ltF, zq_eqT, zq_eqF, zq_em, zq_me, zq_pm, zq_mm, zq_gm, pk_sub, zI_s, zI_k, zI_c, zI_2, zL_s, zL_k, zL_c, zL_1, if_true, if_false, eq_self, Nat.zero_add, Nat.add_zero, zX_n hv, h9]
        exact e
theorem zx_em {S : sh_St} {T : zT} (hv : zVX S 4 T) {b : Nat} (hb : b < 40) : fX7_emptySlotOf S (nI b) = some (zsp 6 (zem T b), S) := by
  rw [fX7_emptySlotOf]
  exact zx_em_l hv hb sh_FU 0 (by omega) (by decide)
theorem zm_em_l {S : sh_St} {T : zT} (hv : zVN S T) (hI : zInv T) {b : Nat} (hb : b < 40) : ∀ (m s : Nat), s ≤ 6 → 6 - s < m → fX13_emptySlot_2 m S (nI b) (nI s) = some (zsp 6 (zfi (fun s => !znz T (b * 6 + s)) (6 - s) s), S) := by
  intro m
  induction m with
  | zero => intro s h1 h2; omega
  | succ m ih =>
    intro s h1 h2
    rw [fX13_emptySlot_2]
    by_cases h : s = 6
    · subst h
      simp (disch := omega) only [zq_l2, pk_mul, nI_add, zq_t, zq_c, zq_bz, zq_bo, zq_g, zq_cl, zq_leT, zq_leF, zq_ltT, zq_ltF, zq_eqT, zq_eqF, zq_em, zq_me, zq_pm, zq_mm, zq_gm, pk_sub, zI_s, zI_k, zI_c, zI_2, zL_s, zL_k, zL_c, zL_1, if_true, if_false, eq_self, Nat.zero_add, Nat.add_zero]
      rfl
    · obtain ⟨j, hj⟩ : ∃ j, 6 - s = j + 1 := ⟨6 - s - 1, by omega⟩
      have hj' : 6 - (s + 1) = j := by omega
      have e := ih (s + 1) (by omega) (by omega)
      rw [hj'] at e
      rw [hj]
      by_cases h9 : T.2 (b * 6 + s) = 0
      · rw [zfi_t (p := fun s => !znz T (b * 6 + s)) (by simp [znz_f h9]), zsp_t (by omega)]
        simp (disch := omega) only [zq_l2, pk_mul, nI_add, zq_t, zq_c, zq_bz, zq_bo, zq_g, zq_cl, zq_leT, zq_leF, zq_ltT, zq_ltF, zq_eqT, zq_eqF, zq_em, zq_me, zq_pm, zq_mm, zq_gm, pk_sub, zI_s, zI_k, zI_c, zI_2, zL_s, zL_k, zL_c, zL_1, if_true, if_false, eq_self, Nat.zero_add, Nat.add_zero, zm_isEmpty_t hv hI hb (show s < 6 by omega) h9]
      · rw [zfi_f (p := fun s => !znz T (b * 6 + s)) (by simp [znz_t h9])]
        simp (disch := omega) only [zq_l2, pk_mul, nI_add, zq_t, zq_c, zq_bz, zq_bo, zq_g, zq_cl, zq_leT, zq_leF, zq_ltT, zq_ltF, zq_eqT, zq_eqF, zq_em, zq_me, zq_pm, zq_mm, zq_gm, pk_sub, zI_s, zI_k, zI_c, zI_2, zL_s, zL_k, zL_c, zL_1, if_true, if_false, eq_self, Nat.zero_add, Nat.add_zero, zm_isEmpty_f hv hI hb (show s < 6 by omega) h9]
        exact e
theorem zm_em {S : sh_St} {T : zT} (hv : zVN S T) (hI : zInv T) {b : Nat} (hb : b < 40) : fX13_emptySlot S (nI b) = some (zsp 6 (zem T b), S) := by
  rw [fX13_emptySlot]
  exact zm_em_l hv hI hb sh_FU 0 (by omega) (by decide)
/-- the place on the way (0 ..) of the first leaf with an empty slot -/
def zsw (T : zT) (h : Nat) : Nat := zfi (fun i => decide (zem T (zlq T (zpl T h + i)).1 < 6)) (zwn T h) 0
theorem zsw_le (T : zT) (h : Nat) : zsw T h ≤ zwn T h := by have := (zfi_le (fun i => decide (zem T (zlq T (zpl T h + i)).1 < 6)) (zwn T h) 0).2; unfold zsw; omega
/-- that leaf, and that spot -/
def zsb (T : zT) (h : Nat) : Nat := (zlq T (zpl T h + zsw T h)).1
theorem zsw_em {T : zT} {h : Nat} (hs : zsw T h < zwn T h) : zem T (zsb T h) < 6 := of_decide_eq_true (zfi_p (fun i => decide (zem T (zlq T (zpl T h + i)).1 < 6)) (zwn T h) 0 (by rw [Nat.zero_add]; exact hs))
theorem zsw_b {T : zT} {h i : Nat} (hi : i < zsw T h) : ¬ zem T (zlq T (zpl T h + i)).1 < 6 := fun q => zfi_b (fun i => decide (zem T (zlq T (zpl T h + i)).1 < 6)) (zwn T h) 0 i (by omega) hi (decide_eq_true q)
def zspt (T : zT) (h : Nat) : Nat := if zsw T h < zwn T h then zsb T h * 6 + zem T (zsb T h) else 240
theorem zsb_ok {T : zT} (hI : zInv T) {h : Nat} (hs : zsw T h < zwn T h) : zsb T h < 40 ∧ T.1 0 (zsb T h) = 1 := by
  have h8 := zwn_le hI h
  have := zlq_ok hI (show zpl T h + zsw T h < zln T by omega)
  exact ⟨this.1, this.2.2.2⟩
theorem zspt_lt {T : zT} (hI : zInv T) {h : Nat} (hs : zsw T h < zwn T h) : zspt T h < 240 := by
  have h1 := zsw_em hs
  have h2 := zsb_ok hI hs
  unfold zspt
  rw [if_pos hs]
  omega
theorem zx_spot_l {S : sh_St} {T : zT} (hv : zVX S 4 T) (hI : zInv T) {h : Nat} (hw : zWay S T h) : ∀ (m i : Nat), i ≤ zsw T h → zwn T h - i < m → fX4_spotOnWay_8 m S (nI (T.1 7 0 + i)) = some (zsp 240 (zspt T h), S) := by
  intro m
  induction m with
  | zero => intro i h1 h2; omega
  | succ m ih =>
    intro i h1 h2
    have h7 := hI.1.1
    have h8 := zwn_le hI h
    have h9 := zln_le hI
    have hs := zsw_le T h
    rw [fX4_spotOnWay_8]
    by_cases hi : i = zwn T h
    · have e : zspt T h = 240 := by unfold zspt; rw [if_neg (by omega)]
      rw [e, zsp_f (by omega)]
      simp (disch := omega) only [zq_l2, pk_mul, nI_add, zq_t, zq_c, zq_bz, zq_bo, zq_g, zq_cl, zq_leT, zq_leF, zq_ltT, zq_ltF, zq_eqT, zq_eqF, zq_em, zq_me, zq_pm, zq_mm, zq_gm, pk_sub, zI_s, zI_k, zI_c, zI_2, zL_s, zL_k, zL_c, zL_1, if_true, if_false, eq_self, Nat.zero_add, Nat.add_zero, hw.2.1]
    · have hq := zlq_ok hI (show zpl T h + i < zln T by omega)
      have h22 := hw.2.2.1 i (by omega)
      have he := zx_em hv hq.1
      by_cases hj : i = zsw T h
      · have h3 : zsw T h < zwn T h := by omega
        have h4 := zsw_em h3
        have h5 : (zlq T (zpl T h + i)).1 = zsb T h := by unfold zsb; rw [hj]
        rw [h5] at he h22 hq
        rw [zsp_t h4] at he
        have e : zspt T h = zsb T h * 6 + zem T (zsb T h) := by unfold zspt; rw [if_pos h3]
        rw [e, zsp_t (by omega)]
        simp (disch := omega) only [zq_l2, pk_mul, nI_add, zq_t, zq_c, zq_bz, zq_bo, zq_g, zq_cl, zq_leT, zq_leF, zq_ltT, zq_ltF, zq_eqT, zq_eqF, zq_em, zq_me, zq_pm, zq_mm, zq_gm, pk_sub, zI_s, zI_k, zI_c, zI_2, zL_s, zL_k, zL_c, zL_1, if_true, if_false, eq_self, Nat.zero_add, Nat.add_zero, hw.2.1, h22, he]
      · have h3 := zsw_b (show i < zsw T h by omega)
        rw [zsp_f h3] at he
        simp (disch := omega) only [zq_l2, pk_mul, nI_add, zq_t, zq_c, zq_bz, zq_bo, zq_g, zq_cl, zq_leT, zq_leF, zq_ltT, zq_ltF, zq_eqT, zq_eqF, zq_em, zq_me, zq_pm, zq_mm, zq_gm, pk_sub, zI_s, zI_k, zI_c, zI_2, zL_s, zL_k, zL_c, zL_1, if_true, if_false, eq_self, Nat.zero_add, Nat.add_zero, hw.2.1, h22, he]
        exact ih (i + 1) (by omega) (by omega)
theorem zx_spot {S : sh_St} {T : zT} (hv : zVX S 4 T) (hI : zInv T) {h : Nat} (hw : zWay S T h) : fX4_spotOnWay S = some (zsp 240 (zspt T h), S) := by
  have h8 := zwn_le hI h
  have h9 := zln_le hI
  rw [fX4_spotOnWay, hw.1, zq_t]
  exact zx_spot_l hv hI hw sh_FU 0 (by omega) (by have : sh_FU = 100000 := rfl; omega)
/-- how many blocks are needed (9: a third level) -/
def zned (T : zT) (h : Nat) : Nat := if zsw T h < zwn T h then 0 else if T.1 7 0 = 0 then 2 else if T.1 1 (zbk T h (T.1 7 0 - 1)) < 5 then 1 else if T.1 7 0 = 1 then 3 else if T.1 1 0 < 5 then 2 else 9
theorem zx_lowest {S : sh_St} {T : zT} (hI : zInv T) {h : Nat} (hw : zWay S T h) (h0 : T.1 7 0 ≠ 0) : fX11_lowestIndex S = some (nI (zbk T h (T.1 7 0 - 1)), S) := by
  have h7 := hI.1.1
  rw [fX11_lowestIndex]
  simp (disch := omega) only [zq_l2, pk_mul, nI_add, zq_t, zq_c, zq_bz, zq_bo, zq_g, zq_cl, zq_leT, zq_leF, zq_ltT, zq_ltF, zq_eqT, zq_eqF, zq_em, zq_me, zq_pm, zq_mm, zq_gm, pk_sub, zI_s, zI_k, zI_c, zI_2, zL_s, zL_k, zL_c, zL_1, if_true, if_false, eq_self, Nat.zero_add, Nat.add_zero, hw.1, (hw.2.2.2 (T.1 7 0 - 1) (by omega)).1]
theorem zx_lowest0 {S : sh_St} {T : zT} {h : Nat} (hw : zWay S T h) (h0 : T.1 7 0 = 0) : fX11_lowestIndex S = some (nI 0, S) := by
  rw [fX11_lowestIndex]
  simp (disch := omega) only [zq_l2, pk_mul, nI_add, zq_t, zq_c, zq_bz, zq_bo, zq_g, zq_cl, zq_leT, zq_leF, zq_ltT, zq_ltF, zq_eqT, zq_eqF, zq_em, zq_me, zq_pm, zq_mm, zq_gm, pk_sub, zI_s, zI_k, zI_c, zI_2, zL_s, zL_k, zL_c, zL_1, if_true, if_false, eq_self, Nat.zero_add, Nat.add_zero, hw.1, h0]
theorem zx_need {S : sh_St} {T : zT} (hv : zVX S 4 T) (hI : zInv T) (n : Int64) : ∃ S', fX4_blocksFor S n = some (zsp 9 (zned T (zha T n)), S') ∧ zWay S' T (zha T n) ∧ zOrd S' (zLL T) ∧ zFr 117 123 S S' := by
  have h7 := hI.1.1
  have hl := zha_lt hI n
  obtain ⟨S1, e1, e2, e3, e4⟩ := zx_trace hv hI hl
  have hv1 := zVX_f4 e4 (by omega) hv
  have hsp := zx_spot hv1 hI e2
  refine ⟨S1, ?_, e2, e3, e4⟩
  rw [fX4_blocksFor]
  unfold zned
  by_cases hs : zsw T (zha T n) < zwn T (zha T n)
  · have := zspt_lt hI hs
    rw [zsp_t this] at hsp
    rw [if_pos hs, zsp_t (by omega)]
    simp (disch := omega) only [zq_l2, pk_mul, nI_add, zq_t, zq_c, zq_bz, zq_bo, zq_g, zq_cl, zq_leT, zq_leF, zq_ltT, zq_ltF, zq_eqT, zq_eqF, zq_em, zq_me, zq_pm, zq_mm, zq_gm, pk_sub, zI_s, zI_k, zI_c, zI_2, zL_s, zL_k, zL_c, zL_1, if_true, if_false, eq_self, Nat.zero_add, Nat.add_zero, zx_hashOf hv hI, e1, hsp]
  · rw [show zspt T (zha T n) = 240 from if_neg hs, zsp_f (by omega)] at hsp
    rw [if_neg hs]
    by_cases h0 : T.1 7 0 = 0
    · rw [if_pos h0, zsp_t (by omega)]
      simp (disch := omega) only [zq_l2, pk_mul, nI_add, zq_t, zq_c, zq_bz, zq_bo, zq_g, zq_cl, zq_leT, zq_leF, zq_ltT, zq_ltF, zq_eqT, zq_eqF, zq_em, zq_me, zq_pm, zq_mm, zq_gm, pk_sub, zI_s, zI_k, zI_c, zI_2, zL_s, zL_k, zL_c, zL_1, if_true, if_false, eq_self, Nat.zero_add, Nat.add_zero, zx_hashOf hv hI, e1, hsp, zX_v hv1, h0]
    · rw [if_neg h0]
      have hlow := zx_lowest hI e2 h0
      obtain ⟨a, b, c⟩ := zbk_lo hI (zha T n) (show T.1 7 0 - 1 < T.1 7 0 by omega)
      have h5 := zInv_c5 hI a
      have h50 := zInv_c5 hI (b := 0) (by omega)
      by_cases c1 : T.1 1 (zbk T (zha T n) (T.1 7 0 - 1)) < 5
      · rw [if_pos c1, zsp_t (by omega)]
        simp (disch := omega) only [zq_l2, pk_mul, nI_add, zq_t, zq_c, zq_bz, zq_bo, zq_g, zq_cl, zq_leT, zq_leF, zq_ltT, zq_ltF, zq_eqT, zq_eqF, zq_em, zq_me, zq_pm, zq_mm, zq_gm, pk_sub, zI_s, zI_k, zI_c, zI_2, zL_s, zL_k, zL_c, zL_1, if_true, if_false, eq_self, Nat.zero_add, Nat.add_zero, zx_hashOf hv hI, e1, hsp, zX_v hv1, hlow, zX_c hv1]
      · rw [if_neg c1]
        by_cases c2 : T.1 7 0 = 1
        · rw [if_pos c2, zsp_t (by omega)]
          simp (disch := omega) only [zq_l2, pk_mul, nI_add, zq_t, zq_c, zq_bz, zq_bo, zq_g, zq_cl, zq_leT, zq_leF, zq_ltT, zq_ltF, zq_eqT, zq_eqF, zq_em, zq_me, zq_pm, zq_mm, zq_gm, pk_sub, zI_s, zI_k, zI_c, zI_2, zL_s, zL_k, zL_c, zL_1, if_true, if_false, eq_self, Nat.zero_add, Nat.add_zero, zx_hashOf hv hI, e1, hsp, zX_v hv1, hlow, zX_c hv1]
        · rw [if_neg c2]
          by_cases c3 : T.1 1 0 < 5
          · rw [if_pos c3, zsp_t (by omega)]
            simp (disch := omega) only [zq_l2, pk_mul, nI_add, zq_t, zq_c, zq_bz, zq_bo, zq_g, zq_cl, zq_leT, zq_leF, zq_ltT, zq_ltF, zq_eqT, zq_eqF, zq_em, zq_me, zq_pm, zq_mm, zq_gm, pk_sub, zI_s, zI_k, zI_c, zI_2, zL_s, zL_k, zL_c, zL_1, if_true, if_false, eq_self, Nat.zero_add, Nat.add_zero, zx_hashOf hv hI, e1, hsp, zX_v hv1, hlow, zX_c hv1]
          · rw [if_neg c3, zsp_f (by omega)]
            simp (disch := omega) only [zq_l2, pk_mul, nI_add, zq_t, zq_c, zq_bz, zq_bo, zq_g, zq_cl, zq_leT, zq_leF, zq_ltT, zq_ltF, zq_eqT, zq_eqF, zq_em, zq_me, zq_pm, zq_mm, zq_gm, pk_sub, zI_s, zI_k, zI_c, zI_2, zL_s, zL_k, zL_c, zL_1, if_true, if_false, eq_self, Nat.zero_add, Nat.add_zero, zx_hashOf hv hI, e1, hsp, zX_v hv1, hlow, zX_c hv1]
/-! the reference: above a block -/
theorem zm_above_n {S : sh_St} {T : zT} (hv : zVN S T) (hI : zInv T) (rk : sh_St → Int32 → Int32 → Option (Int32 × sh_St)) {v b : Nat} (hv4 : v < 40) (hb : b < 40) (hne : ∀ r, r < T.1 1 b → T.1 6 (b * 6 + r) ≠ v) : ∀ (m r : Nat), r ≤ T.1 1 b → T.1 1 b - r < m → fX13_aboveOf_25 rk m S (nI v) (nI b) (nI r) = rk S (nI v) (nI (b + 1)) := by
  intro m
  induction m with
  | zero => intro r h1 h2; omega
  | succ m ih =>
    intro r h1 h2
    have h5 := zInv_c5 hI hb
    rw [fX13_aboveOf_25]
    by_cases h : r = T.1 1 b
    · simp (disch := omega) only [zq_l2, pk_mul, nI_add, zq_t, zq_c, zq_bz, zq_bo, zq_g, zq_cl, zq_leT, zq_leF, zq_ltT, zq_ltF, zq_eqT, zq_eqF, zq_em, zq_me, zq_pm, zq_mm, zq_gm, pk_sub, zI_s, zI_k, zI_c, zI_2, zL_s, zL_k, zL_c, zL_1, if_true, if_false, eq_self, Nat.zero_add, Nat.add_zero, zM_c hv, fX13_aboveOf_61]
    · have hr : r < T.1 1 b := by omega
      have := hne r hr
      have := zInv_ch hI hb hr
      simp (disch := omega) only [zq_l2, pk_mul, nI_add, zq_t, zq_c, zq_bz, zq_bo, zq_g, zq_cl, zq_leT, zq_leF, zq_ltT, zq_ltF, zq_eqT, zq_eqF, zq_em, zq_me, zq_pm, zq_mm, zq_gm, pk_sub, zI_s, zI_k, zI_c, zI_2, zL_s, zL_k, zL_c, zL_1, if_true, if_false, eq_self, Nat.zero_add, Nat.add_zero, zM_c hv, fX13_rowAt, zM_g hv hb hr]
      exact ih (r + 1) (by omega) (by omega)
theorem zm_above_y {S : sh_St} {T : zT} (hv : zVN S T) (hI : zInv T) (rk : sh_St → Int32 → Int32 → Option (Int32 × sh_St)) {b r0 : Nat} (hb : b < 40) (hr0 : r0 < T.1 1 b) : ∀ (m r : Nat), r ≤ r0 → r0 - r < m → fX13_aboveOf_25 rk m S (nI (T.1 6 (b * 6 + r0))) (nI b) (nI r) = some (nI b, S) := by
  intro m
  induction m with
  | zero => intro r h1 h2; omega
  | succ m ih =>
    intro r h1 h2
    have h5 := zInv_c5 hI hb
    have hc0 := zInv_ch hI hb hr0
    rw [fX13_aboveOf_25]
    by_cases h : r = r0
    · subst h
      simp (disch := omega) only [zq_l2, pk_mul, nI_add, zq_t, zq_c, zq_bz, zq_bo, zq_g, zq_cl, zq_leT, zq_leF, zq_ltT, zq_ltF, zq_eqT, zq_eqF, zq_em, zq_me, zq_pm, zq_mm, zq_gm, pk_sub, zI_s, zI_k, zI_c, zI_2, zL_s, zL_k, zL_c, zL_1, if_true, if_false, eq_self, Nat.zero_add, Nat.add_zero, zM_c hv, fX13_rowAt, zM_g hv hb hr0]
    · have hr : r < T.1 1 b := by omega
      have hne : T.1 6 (b * 6 + r) ≠ T.1 6 (b * 6 + r0) := fun q => h (hI.2.2.2.2.1 b r b r0 hb hb hr hr0 q).2
      have := zInv_ch hI hb hr
      simp (disch := omega) only [zq_l2, pk_mul, nI_add, zq_t, zq_c, zq_bz, zq_bo, zq_g, zq_cl, zq_leT, zq_leF, zq_ltT, zq_ltF, zq_eqT, zq_eqF, zq_em, zq_me, zq_pm, zq_mm, zq_gm, pk_sub, zI_s, zI_k, zI_c, zI_2, zL_s, zL_k, zL_c, zL_1, if_true, if_false, eq_self, Nat.zero_add, Nat.add_zero, zM_c hv, fX13_rowAt, zM_g hv hb hr]
      exact ih (r + 1) (by omega) (by omega)
theorem zm_above_l {S : sh_St} {T : zT} (hv : zVN S T) (hI : zInv T) {b0 r0 : Nat} (hb : b0 < 40) (hk : T.1 0 b0 = 2) (hr0 : r0 < T.1 1 b0) : ∀ (m b : Nat), b ≤ b0 → b0 - b < m → fX13_aboveOf_2 m S (nI (T.1 6 (b0 * 6 + r0))) (nI b) = some (nI b0, S) := by
  intro m
  induction m with
  | zero => intro r h1 h2; omega
  | succ m ih =>
    intro b h1 h2
    have h5 := zInv_c5 hI hb
    have hc0 := zInv_ch hI hb hr0
    have hkl := (hI.2.1 b (by omega)).1
    have h5b := zInv_c5 hI (show b < 40 by omega)
    rw [fX13_aboveOf_2]
    by_cases h : b = b0
    · subst h
      simp (disch := omega) only [zq_l2, pk_mul, nI_add, zq_t, zq_c, zq_bz, zq_bo, zq_g, zq_cl, zq_leT, zq_leF, zq_ltT, zq_ltF, zq_eqT, zq_eqF, zq_em, zq_me, zq_pm, zq_mm, zq_gm, pk_sub, zI_s, zI_k, zI_c, zI_2, zL_s, zL_k, zL_c, zL_1, if_true, if_false, eq_self, Nat.zero_add, Nat.add_zero, zM_k hv, hk]
      exact zm_above_y hv hI _ hb hr0 sh_FU 0 (by omega) (by have : sh_FU = 100000 := rfl; omega)
    · by_cases hk' : T.1 0 b = 2
      · simp (disch := omega) only [zq_l2, pk_mul, nI_add, zq_t, zq_c, zq_bz, zq_bo, zq_g, zq_cl, zq_leT, zq_leF, zq_ltT, zq_ltF, zq_eqT, zq_eqF, zq_em, zq_me, zq_pm, zq_mm, zq_gm, pk_sub, zI_s, zI_k, zI_c, zI_2, zL_s, zL_k, zL_c, zL_1, if_true, if_false, eq_self, Nat.zero_add, Nat.add_zero, zM_k hv, hk']
        have := zm_above_n hv hI (fX13_aboveOf_2 m) hc0 (show b < 40 by omega) (fun r hr q => h (hI.2.2.2.2.1 b r b0 r0 (by omega) hb hr hr0 q).1) sh_FU 0 (by omega) (by have : sh_FU = 100000 := rfl; omega)
        exact this.trans (ih (b + 1) (by omega) (by omega))
      · simp (disch := omega) only [zq_l2, pk_mul, nI_add, zq_t, zq_c, zq_bz, zq_bo, zq_g, zq_cl, zq_leT, zq_leF, zq_ltT, zq_ltF, zq_eqT, zq_eqF, zq_em, zq_me, zq_pm, zq_mm, zq_gm, pk_sub, zI_s, zI_k, zI_c, zI_2, zL_s, zL_k, zL_c, zL_1, if_true, if_false, eq_self, Nat.zero_add, Nat.add_zero, zM_k hv, fX13_aboveOf_61]
        exact ih (b + 1) (by omega) (by omega)
theorem zm_above {S : sh_St} {T : zT} (hv : zVN S T) (hI : zInv T) {b r : Nat} (hb : b < 40) (hk : T.1 0 b = 2) (hr : r < T.1 1 b) : fX13_aboveOf S (nI (T.1 6 (b * 6 + r))) = some (nI b, S) := by
  rw [fX13_aboveOf]
  exact zm_above_l hv hI hb hk hr sh_FU 0 (by omega) (by have : sh_FU = 100000 := rfl; omega)
theorem zm_rowOf_l {S : sh_St} {T : zT} (hv : zVN S T) (hI : zInv T) {b r0 : Nat} (hb : b < 40) (hr0 : r0 < T.1 1 b) : ∀ (m r : Nat), r ≤ r0 → r0 - r < m → fX13_rowOf_2 m S (nI b) (nI (T.1 6 (b * 6 + r0))) (nI r) = some (nI r0, S) := by
  intro m
  induction m with
  | zero => intro r h1 h2; omega
  | succ m ih =>
    intro r h1 h2
    have h5 := zInv_c5 hI hb
    have hc0 := zInv_ch hI hb hr0
    rw [fX13_rowOf_2]
    by_cases h : r = r0
    · subst h
      simp (disch := omega) only [zq_l2, pk_mul, nI_add, zq_t, zq_c, zq_bz, zq_bo, zq_g, zq_cl, zq_leT, zq_leF, zq_ltT, zq_ltF, zq_eqT, zq_eqF, zq_em, zq_me, zq_pm, zq_mm, zq_gm, pk_sub, zI_s, zI_k, zI_c, zI_2, zL_s, zL_k, zL_c, zL_1, if_true, if_false, eq_self, Nat.zero_add, Nat.add_zero, fX13_rowAt, zM_g hv hb hr0]
    · have hr : r < T.1 1 b := by omega
      have hne : T.1 6 (b * 6 + r) ≠ T.1 6 (b * 6 + r0) := fun q => h (hI.2.2.2.2.1 b r b r0 hb hb hr hr0 q).2
      have := zInv_ch hI hb hr
      simp (disch := omega) only [zq_l2, pk_mul, nI_add, zq_t, zq_c, zq_bz, zq_bo, zq_g, zq_cl, zq_leT, zq_leF, zq_ltT, zq_ltF, zq_eqT, zq_eqF, zq_em, zq_me, zq_pm, zq_mm, zq_gm, pk_sub, zI_s, zI_k, zI_c, zI_2, zL_s, zL_k, zL_c, zL_1, if_true, if_false, eq_self, Nat.zero_add, Nat.add_zero, fX13_rowAt, zM_g hv hb hr]
      exact ih (r + 1) (by omega) (by omega)
theorem zm_rowOf {S : sh_St} {T : zT} (hv : zVN S T) (hI : zInv T) {b r : Nat} (hb : b < 40) (hr : r < T.1 1 b) : fX13_rowOf S (nI b) (nI (T.1 6 (b * 6 + r))) = some (nI r, S) := by
  have h5 := zInv_c5 hI hb
  rw [fX13_rowOf]
  exact zm_rowOf_l hv hI hb hr sh_FU 0 (by omega) (by have : sh_FU = 100000 := rfl; omega)
theorem zfl_up {T : zT} {h : Nat} (h0 : T.1 7 0 ≠ 0) : zfl T h = T.1 6 (zbk T h (T.1 7 0 - 1) * 6 + zr T (zbk T h (T.1 7 0 - 1)) h) := by
  obtain ⟨j, hj⟩ : ∃ j, T.1 7 0 = j + 1 := ⟨T.1 7 0 - 1, by omega⟩
  unfold zfl
  rw [hj]
  rfl
theorem zm_need_l {S : sh_St} {T : zT} (hv : zVN S T) (hI : zInv T) {h : Nat} (hg : zGo S T h) (hL : zLin S (zLL T)) : ∀ (m i : Nat), i ≤ zsw T h → zwn T h - i < m → fX13_needs_2 m S (nI i) = some (zsp 9 (zned T h), S) := by
  intro m
  induction m with
  | zero => intro i h1 h2; omega
  | succ m ih =>
    intro i h1 h2
    have h7 := hI.1.1
    have h8 := zwn_le hI h
    have h9 := zln_le hI
    have hs := zsw_le T h
    rw [fX13_needs_2]
    by_cases hi : i = zwn T h
    · unfold zned
      rw [if_neg (show ¬ zsw T h < zwn T h by omega)]
      by_cases h0 : T.1 7 0 = 0
      · rw [if_pos h0, zsp_t (by omega)]
        simp (disch := omega) only [zq_l2, pk_mul, nI_add, zq_t, zq_c, zq_bz, zq_bo, zq_g, zq_cl, zq_leT, zq_leF, zq_ltT, zq_ltF, zq_eqT, zq_eqF, zq_em, zq_me, zq_pm, zq_mm, zq_gm, pk_sub, zI_s, zI_k, zI_c, zI_2, zL_s, zL_k, zL_c, zL_1, if_true, if_false, eq_self, Nat.zero_add, Nat.add_zero, hg.2, zM_v hv, h0]
      · rw [if_neg h0]
        obtain ⟨a, b, c⟩ := zbk_lo hI h (show T.1 7 0 - 1 < T.1 7 0 by omega)
        have h5 := zInv_c5 hI a
        have h50 := zInv_c5 hI (b := 0) (by omega)
        have hab := zm_above hv hI a b c
        rw [← zfl_up h0] at hab
        have hla := (zLin_at hL (zpl_lt hI h)).1
        rw [zpl_at hI h] at hla
        have hpl := zpl_lt hI h
        by_cases c1 : T.1 1 (zbk T h (T.1 7 0 - 1)) < 5
        · rw [if_pos c1, zsp_t (by omega)]
          simp (disch := omega) only [zq_l2, pk_mul, nI_add, zq_t, zq_c, zq_bz, zq_bo, zq_g, zq_cl, zq_leT, zq_leF, zq_ltT, zq_ltF, zq_eqT, zq_eqF, zq_em, zq_me, zq_pm, zq_mm, zq_gm, pk_sub, zI_s, zI_k, zI_c, zI_2, zL_s, zL_k, zL_c, zL_1, if_true, if_false, eq_self, Nat.zero_add, Nat.add_zero, hg.1, hg.2, zM_v hv, hla, hab, zM_c hv]
        · rw [if_neg c1]
          by_cases c2 : T.1 7 0 = 1
          · rw [if_pos c2, zsp_t (by omega)]
            simp (disch := omega) only [zq_l2, pk_mul, nI_add, zq_t, zq_c, zq_bz, zq_bo, zq_g, zq_cl, zq_leT, zq_leF, zq_ltT, zq_ltF, zq_eqT, zq_eqF, zq_em, zq_me, zq_pm, zq_mm, zq_gm, pk_sub, zI_s, zI_k, zI_c, zI_2, zL_s, zL_k, zL_c, zL_1, if_true, if_false, eq_self, Nat.zero_add, Nat.add_zero, hg.1, hg.2, zM_v hv, hla, hab, zM_c hv]
          · rw [if_neg c2]
            by_cases c3 : T.1 1 0 < 5
            · rw [if_pos c3, zsp_t (by omega)]
              simp (disch := omega) only [zq_l2, pk_mul, nI_add, zq_t, zq_c, zq_bz, zq_bo, zq_g, zq_cl, zq_leT, zq_leF, zq_ltT, zq_ltF, zq_eqT, zq_eqF, zq_em, zq_me, zq_pm, zq_mm, zq_gm, pk_sub, zI_s, zI_k, zI_c, zI_2, zL_s, zL_k, zL_c, zL_1, if_true, if_false, eq_self, Nat.zero_add, Nat.add_zero, hg.1, hg.2, zM_v hv, hla, hab, zM_c hv, zM_c0 hv]
            · rw [if_neg c3, zsp_f (by omega)]
              simp (disch := omega) only [zq_l2, pk_mul, nI_add, zq_t, zq_c, zq_bz, zq_bo, zq_g, zq_cl, zq_leT, zq_leF, zq_ltT, zq_ltF, zq_eqT, zq_eqF, zq_em, zq_me, zq_pm, zq_mm, zq_gm, pk_sub, zI_s, zI_k, zI_c, zI_2, zL_s, zL_k, zL_c, zL_1, if_true, if_false, eq_self, Nat.zero_add, Nat.add_zero, hg.1, hg.2, zM_v hv, hla, hab, zM_c hv, zM_c0 hv]
    · have hlt : zpl T h + i < zln T := by omega
      have hq := zlq_ok hI hlt
      have hla := (zLin_at hL hlt).1
      have he := zm_em hv hI hq.1
      by_cases hj : i = zsw T h
      · have h3 : zsw T h < zwn T h := by omega
        have h4 := zsw_em h3
        have h5 : (zlq T (zpl T h + i)).1 = zsb T h := by unfold zsb; rw [hj]
        rw [h5] at he hla hq
        rw [zsp_t h4] at he
        unfold zned
        rw [if_pos h3, zsp_t (by omega)]
        simp (disch := omega) only [zq_l2, pk_mul, nI_add, zq_t, zq_c, zq_bz, zq_bo, zq_g, zq_cl, zq_leT, zq_leF, zq_ltT, zq_ltF, zq_eqT, zq_eqF, zq_em, zq_me, zq_pm, zq_mm, zq_gm, pk_sub, zI_s, zI_k, zI_c, zI_2, zL_s, zL_k, zL_c, zL_1, if_true, if_false, eq_self, Nat.zero_add, Nat.add_zero, hg.1, hg.2, hla, he]
      · have h3 := zsw_b (show i < zsw T h by omega)
        rw [zsp_f h3] at he
        simp (disch := omega) only [zq_l2, pk_mul, nI_add, zq_t, zq_c, zq_bz, zq_bo, zq_g, zq_cl, zq_leT, zq_leF, zq_ltT, zq_ltF, zq_eqT, zq_eqF, zq_em, zq_me, zq_pm, zq_mm, zq_gm, pk_sub, zI_s, zI_k, zI_c, zI_2, zL_s, zL_k, zL_c, zL_1, if_true, if_false, eq_self, Nat.zero_add, Nat.add_zero, hg.1, hg.2, hla, he]
        exact ih (i + 1) (by omega) (by omega)
theorem zm_need {S : sh_St} {T : zT} (hv : zVN S T) (hI : zInv T) {h : Nat} (hg : zGo S T h) (hL : zLin S (zLL T)) : fX13_needs S = some (zsp 9 (zned T h), S) := by
  have h8 := zwn_le hI h
  have h9 := zln_le hI
  rw [fX13_needs]
  exact zm_need_l hv hI hg hL sh_FU 0 (by omega) (by have : sh_FU = 100000 := rfl; omega)
