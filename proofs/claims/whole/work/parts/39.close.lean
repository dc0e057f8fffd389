/-! closed forms of the changes -/
theorem zwT_v (T : zT) (i k v k' : Nat) : (zwT T i k v).1 i k' = if k' = k then v else T.1 i k' := by unfold zwT; simp
theorem zIn_0 {T : zT} {b : Nat} (l m t : Nat) (h : T.1 1 b = 0) : zIn T b 0 l m t = zwT (zrw T (b * 6 + 0) l m t) 1 b 1 := by
  unfold zIn
  rw [h]
  rfl
theorem zIn_1 {T : zT} {b : Nat} (l m t : Nat) (h : T.1 1 b = 1) : zIn T b 1 l m t = zwT (zrw T (b * 6 + 1) l m t) 1 b 2 := by
  unfold zIn
  rw [h, zsh_p b 1 (Nat.le_refl 1)]
theorem zRz_e (T : zT) (fr bh l m : Nat) : zRz T fr bh l m = zwT (zwT (zrw (zwT (zrw (zwT (zwT (zer T 6) 0 0 2) 1 0 0) 0 0 0 fr) 1 0 1) 1 l m bh) 1 0 2) 7 0 (T.1 7 0 + 1) := by
  unfold zRz
  rw [zIn_0 0 0 fr (zwT_s _ _ _ _), zIn_1 l m bh (zwT_s _ _ _ _)]
theorem zer_gr (T : zT) (s : Nat) : zer T s = zgr T 0 (fun _ => (0, 0)) s := by
  induction s with
  | zero => rfl
  | succ s ih =>
    show zeT (zer T s) s 0 0 = zeT (zgr T 0 (fun _ => (0, 0)) s) (0 * 6 + s) 0 0
    rw [ih, Nat.zero_mul, Nat.zero_add]
theorem zRz_0 (T : zT) (fr bh l m k : Nat) : (zRz T fr bh l m).1 0 k = if k = 0 then 2 else T.1 0 k := by
  rw [zRz_e]; unfold zrw; simp (disch := omega) only [zwT_i, zwT_v, zwT_2]; rw [zer_i T 6 (by omega)]
theorem zRz_1 (T : zT) (fr bh l m k : Nat) : (zRz T fr bh l m).1 1 k = if k = 0 then 2 else T.1 1 k := by
  rw [zRz_e]; unfold zrw; simp (disch := omega) only [zwT_i, zwT_v, zwT_2]; rw [zer_i T 6 (by omega)]; split <;> rfl
theorem zRz_2 (T : zT) (fr bh l m : Nat) : (zRz T fr bh l m).1 2 = T.1 2 := by
  rw [zRz_e]; unfold zrw; simp (disch := omega) only [zwT_i, zwT_v, zwT_2]; rw [zer_i T 6 (by omega)]
theorem zRz_4 (T : zT) (fr bh l m k : Nat) : (zRz T fr bh l m).1 4 k = if k = 1 then l else if k = 0 then 0 else T.1 4 k := by
  rw [zRz_e]; unfold zrw; simp (disch := omega) only [zwT_i, zwT_v, zwT_2]; rw [zer_i T 6 (by omega)]
theorem zRz_5 (T : zT) (fr bh l m k : Nat) : (zRz T fr bh l m).1 5 k = if k = 1 then m else if k = 0 then 0 else T.1 5 k := by
  rw [zRz_e]; unfold zrw; simp (disch := omega) only [zwT_i, zwT_v, zwT_2]; rw [zer_i T 6 (by omega)]
theorem zRz_6 (T : zT) (fr bh l m k : Nat) : (zRz T fr bh l m).1 6 k = if k = 1 then bh else if k = 0 then fr else T.1 6 k := by
  rw [zRz_e]; unfold zrw; simp (disch := omega) only [zwT_i, zwT_v, zwT_2]; rw [zer_i T 6 (by omega)]
theorem zRz_7 (T : zT) (fr bh l m k : Nat) : (zRz T fr bh l m).1 7 k = if k = 0 then T.1 7 0 + 1 else T.1 7 k := by
  rw [zRz_e]; unfold zrw; simp (disch := omega) only [zwT_i, zwT_v, zwT_2]; rw [zer_i T 6 (by omega)]
theorem zRz_n (T : zT) (fr bh l m k : Nat) : (zRz T fr bh l m).2 k = if k < 6 then 0 else T.2 k := by
  rw [zRz_e]; unfold zrw; simp (disch := omega) only [zwT_i, zwT_v, zwT_2]; rw [zer_gr, zgr_2]
  by_cases h : k < 6
  · rw [if_pos (by omega), if_pos h]
  · rw [if_neg (by omega), if_neg h]
theorem zRz_3 (T : zT) (fr bh l m : Nat) {k : Nat} (h : 6 ≤ k) : (zRz T fr bh l m).1 3 k = T.1 3 k := by
  rw [zRz_e]; unfold zrw; simp (disch := omega) only [zwT_i, zwT_v, zwT_2]; rw [zer_gr, zgr_3, if_neg (by omega)]
theorem zRz_8 (T : zT) (fr bh l m : Nat) {i : Nat} (h : 8 ≤ i) : (zRz T fr bh l m).1 i = T.1 i := by
  rw [zRz_e]; unfold zrw; simp (disch := omega) only [zwT_i, zwT_v, zwT_2]; rw [zer_i T 6 (by omega)]
theorem zeq_r0 {T : zT} (fr bh l m : Nat) (h0 : T.1 7 0 = 0) : zeq (zrw (zrw (zwT (zwT (zwT (zgr T 0 (fun _ => (0, 0)) 6) 0 0 2) 7 0 1) 1 0 2) (0 * 6 + 0) 0 0 fr) (0 * 6 + 1) l m bh) (zRz T fr bh l m) := by
  rw [Nat.zero_mul, Nat.zero_add, Nat.zero_add]
  refine ⟨fun i k hi => ?_, fun k => ?_, fun k hk => ?_⟩
  · skip
    by_cases i0 : i = 0
    · subst i0
      rw [zRz_0]; unfold zrw; simp (disch := omega) only [zwT_i, zwT_v, zwT_2]; rw [zgr_i _ _ _ _ hi]
    by_cases i1 : i = 1
    · subst i1
      rw [zRz_1]; unfold zrw; simp (disch := omega) only [zwT_i, zwT_v, zwT_2]; rw [zgr_i _ _ _ _ hi]
    by_cases i2 : i = 2
    · subst i2
      rw [zRz_2]; unfold zrw; simp (disch := omega) only [zwT_i, zwT_v, zwT_2]; rw [zgr_i _ _ _ _ hi]
    by_cases i4 : i = 4
    · subst i4
      rw [zRz_4]; unfold zrw; simp (disch := omega) only [zwT_i, zwT_v, zwT_2]; rw [zgr_i _ _ _ _ hi]
    by_cases i5 : i = 5
    · subst i5
      rw [zRz_5]; unfold zrw; simp (disch := omega) only [zwT_i, zwT_v, zwT_2]; rw [zgr_i _ _ _ _ hi]
    by_cases i6 : i = 6
    · subst i6
      rw [zRz_6]; unfold zrw; simp (disch := omega) only [zwT_i, zwT_v, zwT_2]; rw [zgr_i _ _ _ _ hi]
    by_cases i7 : i = 7
    · subst i7
      rw [zRz_7]; unfold zrw; simp (disch := omega) only [zwT_i, zwT_v, zwT_2]; rw [zgr_i _ _ _ _ hi]; rw [h0]
    by_cases i8 : 8 ≤ i
    · rw [zRz_8 T fr bh l m i8]; unfold zrw; simp (disch := omega) only [zwT_i, zwT_v, zwT_2]; rw [zgr_i _ _ _ _ hi]
    · omega
  · rw [zRz_n]; unfold zrw; simp (disch := omega) only [zwT_i, zwT_v, zwT_2]; rw [zgr_2]
    by_cases h : k < 6
    · rw [if_pos h, if_pos (by omega)]
    · rw [if_neg h, if_neg (by omega)]
  · unfold zrw at hk
    simp only [zwT_2] at hk
    rw [zgr_2] at hk
    by_cases h : k < 6
    · rw [if_pos (by omega)] at hk
      exact absurd rfl hk
    · rw [zRz_3 T fr bh l m (by omega)]; unfold zrw; simp (disch := omega) only [zwT_i, zwT_v, zwT_2]; rw [zgr_3, if_neg (by omega)]
theorem zeq_r1 {T : zT} (fr bh l m : Nat) (h0 : T.1 0 0 = 2) (hn : ∀ k, k < 6 → T.2 k = 0) : zeq (zwT (zwT (zrw (zrw T (0 * 6 + 0) 0 0 fr) (0 * 6 + 1) l m bh) 1 0 2) 7 0 (T.1 7 0 + 1)) (zRz T fr bh l m) := by
  rw [Nat.zero_mul, Nat.zero_add, Nat.zero_add]
  refine ⟨fun i k hi => ?_, fun k => ?_, fun k hk => ?_⟩
  · skip
    by_cases i0 : i = 0
    · subst i0
      rw [zRz_0]; unfold zrw; simp (disch := omega) only [zwT_i, zwT_v, zwT_2]
      by_cases k0 : k = 0
      · rw [if_pos k0, k0, h0]
      · rw [if_neg k0]
    by_cases i1 : i = 1
    · subst i1
      rw [zRz_1]; unfold zrw; simp (disch := omega) only [zwT_i, zwT_v, zwT_2]
    by_cases i2 : i = 2
    · subst i2
      rw [zRz_2]; unfold zrw; simp (disch := omega) only [zwT_i, zwT_v, zwT_2]
    by_cases i4 : i = 4
    · subst i4
      rw [zRz_4]; unfold zrw; simp (disch := omega) only [zwT_i, zwT_v, zwT_2]
    by_cases i5 : i = 5
    · subst i5
      rw [zRz_5]; unfold zrw; simp (disch := omega) only [zwT_i, zwT_v, zwT_2]
    by_cases i6 : i = 6
    · subst i6
      rw [zRz_6]; unfold zrw; simp (disch := omega) only [zwT_i, zwT_v, zwT_2]
    by_cases i7 : i = 7
    · subst i7
      rw [zRz_7]; unfold zrw; simp (disch := omega) only [zwT_i, zwT_v, zwT_2]
    by_cases i8 : 8 ≤ i
    · rw [zRz_8 T fr bh l m i8]; unfold zrw; simp (disch := omega) only [zwT_i, zwT_v, zwT_2]
    · omega
  · rw [zRz_n]; unfold zrw; simp (disch := omega) only [zwT_i, zwT_v, zwT_2]
    by_cases h : k < 6
    · rw [if_pos h, hn k h]
    · rw [if_neg h]
  · unfold zrw at hk
    simp only [zwT_2] at hk
    by_cases h : k < 6
    · exact absurd (hn k h) hk
    · rw [zRz_3 T fr bh l m (by omega)]; unfold zrw; simp (disch := omega) only [zwT_i, zwT_v, zwT_2]
/-! above a block and its row, by what is needed alone -/
def zUq (T : zT) (v b0 r0 : Nat) : Prop := b0 < 40 ∧ T.1 0 b0 = 2 ∧ r0 < T.1 1 b0 ∧ T.1 6 (b0 * 6 + r0) = v ∧ (∀ b, b < 40 → T.1 0 b ≤ 2 ∧ T.1 1 b ≤ 6) ∧ (∀ b r, b < 40 → r < T.1 1 b → T.1 6 (b * 6 + r) < 40) ∧ (∀ b r, b < 40 → r < T.1 1 b → T.1 0 b = 2 → T.1 6 (b * 6 + r) = v → b = b0 ∧ r = r0)
theorem zu_n {S : sh_St} {T : zT} (hv : zVN S T) {v b0 r0 : Nat} (hu : zUq T v b0 r0) (rk : sh_St → Int32 → Int32 → Option (Int32 × sh_St)) {b : Nat} (hb : b < 40) (hk : T.1 0 b = 2) (hne : b ≠ b0) : ∀ (m r : Nat), r ≤ T.1 1 b → T.1 1 b - r < m → fX13_aboveOf_25 rk m S (nI v) (nI b) (nI r) = rk S (nI v) (nI (b + 1)) := by
  intro m
  induction m with
  | zero => intro r h1 h2; omega
  | succ m ih =>
    intro r h1 h2
    have h5 := (hu.2.2.2.2.1 b hb).2
    have hv4 : v < 40 := by rw [← hu.2.2.2.1]; exact hu.2.2.2.2.2.1 b0 r0 hu.1 hu.2.2.1
    rw [fX13_aboveOf_25]
    by_cases h : r = T.1 1 b
    · simp (disch := omega) only [zq_l2, pk_mul, nI_add, zq_t, zq_c, zq_bz, zq_bo, zq_g, zq_cl, zq_leT, zq_leF, zq_ltT, zq_ltF, zq_eqT, zq_eqF, zq_em, zq_me, zq_pm, zq_mm, zq_gm, pk_sub, zI_s, zI_k, zI_c, zI_2, zL_s, zL_k, zL_c, zL_1, if_true, if_false, eq_self, Nat.zero_add, Nat.add_zero, zM_c hv, fX13_aboveOf_61]
    · have hr : r < T.1 1 b := by omega
      have h8 : T.1 6 (b * 6 + r) ≠ v := fun q => hne (hu.2.2.2.2.2.2 b r hb hr hk q).1
      have := hu.2.2.2.2.2.1 b r hb hr
      simp (disch := omega) only [zq_l2, pk_mul, nI_add, zq_t, zq_c, zq_bz, zq_bo, zq_g, zq_cl, zq_leT, zq_leF, zq_ltT, zq_ltF, zq_eqT, zq_eqF, zq_em, zq_me, zq_pm, zq_mm, zq_gm, pk_sub, zI_s, zI_k, zI_c, zI_2, zL_s, zL_k, zL_c, zL_1, if_true, if_false, eq_self, Nat.zero_add, Nat.add_zero, zM_c hv, fX13_rowAt, zM_g hv hb hr]
      exact ih (r + 1) (by omega) (by omega)
theorem zu_y {S : sh_St} {T : zT} (hv : zVN S T) {v b0 r0 : Nat} (hu : zUq T v b0 r0) (rk : sh_St → Int32 → Int32 → Option (Int32 × sh_St)) : ∀ (m r : Nat), r ≤ r0 → r0 - r < m → fX13_aboveOf_25 rk m S (nI v) (nI b0) (nI r) = some (nI b0, S) := by
  intro m
  induction m with
  | zero => intro r h1 h2; omega
  | succ m ih =>
    intro r h1 h2
    have hb := hu.1
    have h5 := (hu.2.2.2.2.1 b0 hb).2
    have hr0 := hu.2.2.1
    have hv4 : v < 40 := by rw [← hu.2.2.2.1]; exact hu.2.2.2.2.2.1 b0 r0 hu.1 hu.2.2.1
    rw [fX13_aboveOf_25]
    by_cases h : r = r0
    · subst h
      have hq := zM_g hv hb hr0
      rw [hu.2.2.2.1] at hq
      simp (disch := omega) only [zq_l2, pk_mul, nI_add, zq_t, zq_c, zq_bz, zq_bo, zq_g, zq_cl, zq_leT, zq_leF, zq_ltT, zq_ltF, zq_eqT, zq_eqF, zq_em, zq_me, zq_pm, zq_mm, zq_gm, pk_sub, zI_s, zI_k, zI_c, zI_2, zL_s, zL_k, zL_c, zL_1, if_true, if_false, eq_self, Nat.zero_add, Nat.add_zero, zM_c hv, fX13_rowAt, hq]
    · have hr : r < T.1 1 b0 := by omega
      have h8 : T.1 6 (b0 * 6 + r) ≠ v := fun q => h (hu.2.2.2.2.2.2 b0 r hb hr hu.2.1 q).2
      have := hu.2.2.2.2.2.1 b0 r hb hr
      simp (disch := omega) only [zq_l2, pk_mul, nI_add, zq_t, zq_c, zq_bz, zq_bo, zq_g, zq_cl, zq_leT, zq_leF, zq_ltT, zq_ltF, zq_eqT, zq_eqF, zq_em, zq_me, zq_pm, zq_mm, zq_gm, pk_sub, zI_s, zI_k, zI_c, zI_2, zL_s, zL_k, zL_c, zL_1, if_true, if_false, eq_self, Nat.zero_add, Nat.add_zero, zM_c hv, fX13_rowAt, zM_g hv hb hr]
      exact ih (r + 1) (by omega) (by omega)
theorem zu_above_l {S : sh_St} {T : zT} (hv : zVN S T) {v b0 r0 : Nat} (hu : zUq T v b0 r0) : ∀ (m b : Nat), b ≤ b0 → b0 - b < m → fX13_aboveOf_2 m S (nI v) (nI b) = some (nI b0, S) := by
  intro m
  induction m with
  | zero => intro r h1 h2; omega
  | succ m ih =>
    intro b h1 h2
    have hb := hu.1
    have hkl := (hu.2.2.2.2.1 b (by omega)).1
    have h5b := (hu.2.2.2.2.1 b (by omega)).2
    have hr0 := hu.2.2.1
    have h50 := (hu.2.2.2.2.1 b0 hb).2
    rw [fX13_aboveOf_2]
    by_cases h : b = b0
    · subst h
      simp (disch := omega) only [zq_l2, pk_mul, nI_add, zq_t, zq_c, zq_bz, zq_bo, zq_g, zq_cl, zq_leT, zq_leF, zq_ltT, zq_ltF, zq_eqT, zq_eqF, zq_em, zq_me, zq_pm, zq_mm, zq_gm, pk_sub, zI_s, zI_k, zI_c, zI_2, zL_s, zL_k, zL_c, zL_1, if_true, if_false, eq_self, Nat.zero_add, Nat.add_zero, zM_k hv, hu.2.1]
      exact zu_y hv hu _ sh_FU 0 (by omega) (by have : sh_FU = 100000 := rfl; omega)
    · by_cases hk' : T.1 0 b = 2
      · simp (disch := omega) only [zq_l2, pk_mul, nI_add, zq_t, zq_c, zq_bz, zq_bo, zq_g, zq_cl, zq_leT, zq_leF, zq_ltT, zq_ltF, zq_eqT, zq_eqF, zq_em, zq_me, zq_pm, zq_mm, zq_gm, pk_sub, zI_s, zI_k, zI_c, zI_2, zL_s, zL_k, zL_c, zL_1, if_true, if_false, eq_self, Nat.zero_add, Nat.add_zero, zM_k hv, hk']
        have := zu_n hv hu (fX13_aboveOf_2 m) (show b < 40 by omega) hk' h sh_FU 0 (by omega) (by have : sh_FU = 100000 := rfl; omega)
        exact this.trans (ih (b + 1) (by omega) (by omega))
      · simp (disch := omega) only [zq_l2, pk_mul, nI_add, zq_t, zq_c, zq_bz, zq_bo, zq_g, zq_cl, zq_leT, zq_leF, zq_ltT, zq_ltF, zq_eqT, zq_eqF, zq_em, zq_me, zq_pm, zq_mm, zq_gm, pk_sub, zI_s, zI_k, zI_c, zI_2, zL_s, zL_k, zL_c, zL_1, if_true, if_false, eq_self, Nat.zero_add, Nat.add_zero, zM_k hv, fX13_aboveOf_61]
        exact ih (b + 1) (by omega) (by omega)
theorem zu_above {S : sh_St} {T : zT} (hv : zVN S T) {v b0 r0 : Nat} (hu : zUq T v b0 r0) : fX13_aboveOf S (nI v) = some (nI b0, S) := by
  have hb := hu.1
  rw [fX13_aboveOf]
  exact zu_above_l hv hu sh_FU 0 (by omega) (by have : sh_FU = 100000 := rfl; omega)
theorem zu_rowOf_l {S : sh_St} {T : zT} (hv : zVN S T) {v b r0 : Nat} (hb : b < 40) (hr0 : r0 < 6) (h0 : T.1 6 (b * 6 + r0) = v) (hne : ∀ r, r < r0 → T.1 6 (b * 6 + r) ≠ v) (hlt : ∀ r, r ≤ r0 → T.1 6 (b * 6 + r) < 40) : ∀ (m r : Nat), r ≤ r0 → r0 - r < m → fX13_rowOf_2 m S (nI b) (nI v) (nI r) = some (nI r0, S) := by
  intro m
  induction m with
  | zero => intro r h1 h2; omega
  | succ m ih =>
    intro r h1 h2
    have hq := (hv.2.2.1 (b * 6 + r) (by omega)).2.2
    have hv4 := hlt r0 (by omega)
    have hv5 := hlt r (by omega)
    rw [h0] at hv4
    rw [fX13_rowOf_2]
    by_cases h : r = r0
    · subst h
      rw [h0] at hq
      simp (disch := omega) only [zq_l2, pk_mul, nI_add, zq_t, zq_c, zq_bz, zq_bo, zq_g, zq_cl, zq_leT, zq_leF, zq_ltT, zq_ltF, zq_eqT, zq_eqF, zq_em, zq_me, zq_pm, zq_mm, zq_gm, pk_sub, zI_s, zI_k, zI_c, zI_2, zL_s, zL_k, zL_c, zL_1, if_true, if_false, eq_self, Nat.zero_add, Nat.add_zero, fX13_rowAt, show 120 + 18 * b + 3 * r = 120 + 3 * (b * 6 + r) from by omega, hq]
    · have h8 := hne r (by omega)
      simp (disch := omega) only [zq_l2, pk_mul, nI_add, zq_t, zq_c, zq_bz, zq_bo, zq_g, zq_cl, zq_leT, zq_leF, zq_ltT, zq_ltF, zq_eqT, zq_eqF, zq_em, zq_me, zq_pm, zq_mm, zq_gm, pk_sub, zI_s, zI_k, zI_c, zI_2, zL_s, zL_k, zL_c, zL_1, if_true, if_false, eq_self, Nat.zero_add, Nat.add_zero, fX13_rowAt, show 120 + 18 * b + 3 * r = 120 + 3 * (b * 6 + r) from by omega, hq]
      exact ih (r + 1) (by omega) (by omega)
theorem zu_rowOf {S : sh_St} {T : zT} (hv : zVN S T) {v b r0 : Nat} (hb : b < 40) (hr0 : r0 < 6) (h0 : T.1 6 (b * 6 + r0) = v) (hne : ∀ r, r < r0 → T.1 6 (b * 6 + r) ≠ v) (hlt : ∀ r, r ≤ r0 → T.1 6 (b * 6 + r) < 40) : fX13_rowOf S (nI b) (nI v) = some (nI r0, S) := by
  rw [fX13_rowOf]
  exact zu_rowOf_l hv hb hr0 h0 hne hlt sh_FU 0 (by omega) (by have : sh_FU = 100000 := rfl; omega)
theorem zUq_inv {T : zT} (hI : zInv T) {b r : Nat} (hb : b < 40) (hk : T.1 0 b = 2) (hr : r < T.1 1 b) : zUq T (T.1 6 (b * 6 + r)) b r := ⟨hb, hk, hr, rfl, fun b' hb' => ⟨(hI.2.1 b' hb').1, by have := zInv_c5 hI hb'; omega⟩, fun b' r' hb' hr' => zInv_ch hI hb' hr', fun b' r' hb' hr' _ e => hI.2.2.2.2.1 b' r' b r hb' hb hr' hr e⟩
theorem zUq_cg {T T' : zT} {v b r : Nat} (h : zUq T v b r) (h1 : T'.1 1 = T.1 1) (h6 : T'.1 6 = T.1 6) (h2 : ∀ b, b < 40 → T'.1 0 b ≤ 2 ∧ (T'.1 0 b = 2 ↔ T.1 0 b = 2)) : zUq T' v b r := by
  obtain ⟨a1, a2, a3, a4, a5, a6, a7⟩ := h
  refine ⟨a1, (h2 b a1).2.mpr a2, by rw [h1]; exact a3, by rw [h6]; exact a4, fun b' hb' => ⟨(h2 b' hb').1, by rw [h1]; exact (a5 b' hb').2⟩, ?_, ?_⟩
  · rw [h1, h6]; exact a6
  · rw [h1, h6]; exact fun b' r' hb' hr' hk e => a7 b' r' hb' hr' ((h2 b' hb').2.mp hk) e
