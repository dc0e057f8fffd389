/-! looking for a name -/
def zfi (p : Nat → Bool) : Nat → Nat → Nat
  | 0, k => k
  | m + 1, k => if p k = true then k else zfi p m (k + 1)
theorem zfi_t {p : Nat → Bool} {m k : Nat} (h : p k = true) : zfi p (m + 1) k = k := if_pos h
theorem zfi_f {p : Nat → Bool} {m k : Nat} (h : ¬ p k = true) : zfi p (m + 1) k = zfi p m (k + 1) := if_neg h
theorem zfi_le (p : Nat → Bool) : ∀ m k, k ≤ zfi p m k ∧ zfi p m k ≤ k + m := by
  intro m
  induction m with
  | zero => intro k; exact ⟨Nat.le_refl _, Nat.le_refl _⟩
  | succ m ih =>
    intro k
    unfold zfi
    have := ih (k + 1)
    split <;> omega
theorem zfi_p (p : Nat → Bool) : ∀ m k, zfi p m k < k + m → p (zfi p m k) = true := by
  intro m
  induction m with
  | zero => intro k h; unfold zfi at h; omega
  | succ m ih =>
    intro k h
    by_cases hp : p k = true
    · rw [zfi_t hp]; exact hp
    · rw [zfi_f hp] at h ⊢
      exact ih (k + 1) (by omega)
theorem zfi_b (p : Nat → Bool) : ∀ m k j, k ≤ j → j < zfi p m k → ¬ p j = true := by
  intro m
  induction m with
  | zero => intro k j h1 h2; unfold zfi at h2; omega
  | succ m ih =>
    intro k j h1 h2
    by_cases hp : p k = true
    · rw [zfi_t hp] at h2; omega
    · rw [zfi_f hp] at h2
      by_cases hj : j = k
      · subst hj; exact hp
      · exact ih (k + 1) j (by omega) h2
def zis (T : zT) (n : Int64) (k : Nat) : Bool := znz T k && zone (T.1 7 3) (T.2 k) n
theorem zis_0 {T : zT} {n : Int64} {k : Nat} (h : T.2 k = 0) : ¬ zis T n k = true := by unfold zis; rw [znz_f h]; simp
theorem zis_1 {T : zT} {n : Int64} {k : Nat} (h : T.2 k ≠ 0) : zis T n k = zone (T.1 7 3) (T.2 k) n := by unfold zis; rw [znz_t h]; rfl
def zsl (T : zT) (n : Int64) (b : Nat) : Nat := zfi (fun s => zis T n (b * 6 + s)) 6 0
theorem zsl_le (T : zT) (n : Int64) (b : Nat) : zsl T n b ≤ 6 := by have := (zfi_le (fun s => zis T n (b * 6 + s)) 6 0).2; unfold zsl; omega
theorem zbI_n (b : Bool) : zbI b = nI (if b = true then 1 else 0) := by cases b <;> rfl
/-- a place, or none -/
def zsp (m k : Nat) : Int32 := if k < m then nI k else -nI 1
theorem zsp_t {m k : Nat} (h : k < m) : zsp m k = nI k := if_pos h
theorem zsp_f {m k : Nat} (h : ¬ k < m) : zsp m k = -nI 1 := if_neg h
theorem zx_lookInto_l {S : sh_St} {T : zT} (hv : zVX S 4 T) (hI : zInv T) (n : Int64) {b : Nat} (hb : b < 40) : ∀ (m s : Nat), s ≤ 6 → 6 - s < m → fX4_lookInto_6 m S (nI b) n (nI (b * 6 + s)) = some (if zfi (fun s => zis T n (b * 6 + s)) (6 - s) s < 6 then nI (b * 6 + zfi (fun s => zis T n (b * 6 + s)) (6 - s) s) else -nI 1, S) := by
  intro m
  induction m with
  | zero => intro s h1 h2; omega
  | succ m ih =>
    intro s h1 h2
    have h7 := hI.1.2.2.2.2
    rw [fX4_lookInto_6]
    by_cases h : s = 6
    · subst h
      simp (disch := omega) only [zq_l2, pk_mul, nI_add, zq_t, zq_c, zq_bz, zq_bo, zq_g, zq_cl, zq_leT, zq_leF, zq_ltT, zq_ltF, zq_eqT, zq_eqF, zq_em, zq_me, zq_pm, zq_mm, zq_gm, pk_sub, zI_s, zI_k, zI_c, zI_2, zL_s, zL_k, zL_c, zL_1, if_true, if_false, eq_self, Nat.zero_add, Nat.add_zero]
      rw [if_neg (show ¬ zfi (fun s => zis T n (b * 6 + s)) (6 - 6) 6 < 6 from Nat.lt_irrefl 6)]
    · obtain ⟨j, hj⟩ : ∃ j, 6 - s = j + 1 := ⟨6 - s - 1, by omega⟩
      have hj' : 6 - (s + 1) = j := by omega
      have e := ih (s + 1) (by omega) (by omega)
      rw [hj'] at e
      rw [hj]
      by_cases h9 : T.2 (b * 6 + s) = 0
      · rw [zfi_f (p := fun s => zis T n (b * 6 + s)) (zis_0 h9)]
        simp (disch := omega) only [zq_l2, pk_mul, nI_add, zq_t, zq_c, zq_bz, zq_bo, zq_g, zq_cl, zq_leT, zq_leF, zq_ltT, zq_ltF, zq_eqT, zq_eqF, zq_em, zq_me, zq_pm, zq_mm, zq_gm, pk_sub, zI_s, zI_k, zI_c, zI_2, zL_s, zL_k, zL_c, zL_1, if_true, if_false, eq_self, Nat.zero_add, Nat.add_zero, zX_n hv, h9, fX4_lookInto_60]
        exact e
      · by_cases h8 : zone (T.1 7 3) (T.2 (b * 6 + s)) n = true
        · rw [zfi_t (p := fun s => zis T n (b * 6 + s)) (by show zis T n (b * 6 + s) = true; rw [zis_1 h9]; exact h8), if_pos (show s < 6 by omega)]
          simp (disch := omega) only [zq_l2, pk_mul, nI_add, zq_t, zq_c, zq_bz, zq_bo, zq_g, zq_cl, zq_leT, zq_leF, zq_ltT, zq_ltF, zq_eqT, zq_eqF, zq_em, zq_me, zq_pm, zq_mm, zq_gm, pk_sub, zI_s, zI_k, zI_c, zI_2, zL_s, zL_k, zL_c, zL_1, if_true, if_false, eq_self, Nat.zero_add, Nat.add_zero, zX_n hv, h9, zX_f hv, zx_areOne S _ _ h7, h8, zbI_n]
        · rw [zfi_f (p := fun s => zis T n (b * 6 + s)) (by show ¬ zis T n (b * 6 + s) = true; rw [zis_1 h9]; exact h8)]
          simp (disch := omega) only [zq_l2, pk_mul, nI_add, zq_t, zq_c, zq_bz, zq_bo, zq_g, zq_cl, zq_leT, zq_leF, zq_ltT, zq_ltF, zq_eqT, zq_eqF, zq_em, zq_me, zq_pm, zq_mm, zq_gm, pk_sub, zI_s, zI_k, zI_c, zI_2, zL_s, zL_k, zL_c, zL_1, if_true, if_false, eq_self, Nat.zero_add, Nat.add_zero, zX_n hv, h9, zX_f hv, zx_areOne S _ _ h7, h8, zbI_n, fX4_lookInto_60]
          exact e
theorem zx_lookInto {S : sh_St} {T : zT} (hv : zVX S 4 T) (hI : zInv T) (n : Int64) {b : Nat} (hb : b < 40) : fX4_lookInto S (nI b) n = some (if zsl T n b < 6 then nI (b * 6 + zsl T n b) else -nI 1, S) := by
  rw [fX4_lookInto]
  simp (disch := omega) only [zq_l2, pk_mul, nI_add, zq_t, zq_c, zq_bz, zq_bo, zq_g, zq_cl, zq_leT, zq_leF, zq_ltT, zq_ltF, zq_eqT, zq_eqF, zq_em, zq_me, zq_pm, zq_mm, zq_gm, pk_sub, zI_s, zI_k, zI_c, zI_2, zL_s, zL_k, zL_c, zL_1, if_true, if_false, eq_self, Nat.zero_add, Nat.add_zero]
  exact zx_lookInto_l hv hI n hb sh_FU 0 (by omega) (by decide)
theorem zFm_v {S S' : sh_St} (h : zFm S S') : S'.1 1 = S.1 1 ∧ S'.2 2 = S.2 2 := ⟨(h.2.2 1 (by decide) (by omega)).1, (h.2.2 2 (by decide) (by omega)).2⟩
theorem zm_isIn_l {S : sh_St} {T : zT} (hv : zVN S T) (hI : zInv T) {n : Int64} (hn : zval n) {b : Nat} (hb : b < 40) : ∀ (m s : Nat), s ≤ 6 → 6 - s < m → fX13_isInBlock_13 m S (nI b) n (nI s) = some (if zfi (fun s => zis T n (b * 6 + s)) (6 - s) s < 6 then (nI 1, sh_I (sh_I S 0 30 (nI b)) 0 31 (nI (zfi (fun s => zis T n (b * 6 + s)) (6 - s) s))) else (nI 0, S)) := by
  intro m
  induction m with
  | zero => intro s h1 h2; omega
  | succ m ih =>
    intro s h1 h2
    have h7 := hI.1.2.2.2.2
    have e6 : 6 * b + s = b * 6 + s := by omega
    rw [fX13_isInBlock_13]
    by_cases h : s = 6
    · subst h
      simp (disch := omega) only [zq_l2, pk_mul, nI_add, zq_t, zq_c, zq_bz, zq_bo, zq_g, zq_cl, zq_leT, zq_leF, zq_ltT, zq_ltF, zq_eqT, zq_eqF, zq_em, zq_me, zq_pm, zq_mm, zq_gm, pk_sub, zI_s, zI_k, zI_c, zI_2, zL_s, zL_k, zL_c, zL_1, if_true, if_false, eq_self, Nat.zero_add, Nat.add_zero]
      rw [if_neg (show ¬ zfi (fun s => zis T n (b * 6 + s)) (6 - 6) 6 < 6 from Nat.lt_irrefl 6)]
    · obtain ⟨j, hj⟩ : ∃ j, 6 - s = j + 1 := ⟨6 - s - 1, by omega⟩
      have hj' : 6 - (s + 1) = j := by omega
      have e := ih (s + 1) (by omega) (by omega)
      rw [hj'] at e
      rw [hj]
      by_cases h9 : T.2 (b * 6 + s) = 0
      · rw [zfi_f (p := fun s => zis T n (b * 6 + s)) (zis_0 h9)]
        simp (disch := omega) only [zq_l2, pk_mul, nI_add, zq_t, zq_c, zq_bz, zq_bo, zq_g, zq_cl, zq_leT, zq_leF, zq_ltT, zq_ltF, zq_eqT, zq_eqF, zq_em, zq_me, zq_pm, zq_mm, zq_gm, pk_sub, zI_s, zI_k, zI_c, zI_2, zL_s, zL_k, zL_c, zL_1, if_true, if_false, eq_self, Nat.zero_add, Nat.add_zero, zm_isEmpty_t hv hI hb (show s < 6 by omega) h9, fX13_isInBlock_65]
        exact e
      · have hva := zInv_va hI (show b * 6 + s < 240 by omega) h9
        have ha := zm_areOne S hva hn h7 (zM_f hv)
        by_cases h8 : zone (T.1 7 3) (T.2 (b * 6 + s)) n = true
        · rw [zfi_t (p := fun s => zis T n (b * 6 + s)) (by show zis T n (b * 6 + s) = true; rw [zis_1 h9]; exact h8), if_pos (show s < 6 by omega)]
          rw [h8, zbI_n, if_pos rfl] at ha
          simp (disch := omega) only [zq_l2, pk_mul, nI_add, zq_t, zq_c, zq_bz, zq_bo, zq_g, zq_cl, zq_leT, zq_leF, zq_ltT, zq_ltF, zq_eqT, zq_eqF, zq_em, zq_me, zq_pm, zq_mm, zq_gm, pk_sub, zI_s, zI_k, zI_c, zI_2, zL_s, zL_k, zL_c, zL_1, if_true, if_false, eq_self, Nat.zero_add, Nat.add_zero, zm_isEmpty_f hv hI hb (show s < 6 by omega) h9, fX13_slotAt, e6, zM_n hv, ha]
        · rw [zfi_f (p := fun s => zis T n (b * 6 + s)) (by show ¬ zis T n (b * 6 + s) = true; rw [zis_1 h9]; exact h8)]
          rw [zbI_n, if_neg h8] at ha
          simp (disch := omega) only [zq_l2, pk_mul, nI_add, zq_t, zq_c, zq_bz, zq_bo, zq_g, zq_cl, zq_leT, zq_leF, zq_ltT, zq_ltF, zq_eqT, zq_eqF, zq_em, zq_me, zq_pm, zq_mm, zq_gm, pk_sub, zI_s, zI_k, zI_c, zI_2, zL_s, zL_k, zL_c, zL_1, if_true, if_false, eq_self, Nat.zero_add, Nat.add_zero, zm_isEmpty_f hv hI hb (show s < 6 by omega) h9, fX13_slotAt, e6, zM_n hv, ha, fX13_isInBlock_65]
          exact e
theorem zm_isIn {S : sh_St} {T : zT} (hv : zVN S T) (hI : zInv T) {n : Int64} (hn : zval n) {b c : Nat} (hb : b < 40) (hc : S.1 0 32 = nI c) : fX13_isInBlock S (nI b) n = some (if zsl T n b < 6 then (nI 1, sh_I (sh_I (sh_I S 0 32 (nI (c + 1))) 0 30 (nI b)) 0 31 (nI (zsl T n b))) else (nI 0, sh_I S 0 32 (nI (c + 1)))) := by
  rw [fX13_isInBlock]
  simp (disch := omega) only [zq_l2, pk_mul, nI_add, zq_t, zq_c, zq_bz, zq_bo, zq_g, zq_cl, zq_leT, zq_leF, zq_ltT, zq_ltF, zq_eqT, zq_eqF, zq_em, zq_me, zq_pm, zq_mm, zq_gm, pk_sub, zI_s, zI_k, zI_c, zI_2, zL_s, zL_k, zL_c, zL_1, if_true, if_false, eq_self, Nat.zero_add, Nat.add_zero, hc]
  exact zm_isIn_l (zVN_fm (zFm_0 S _ (by omega)) hv) hI hn hb sh_FU 0 (by omega) (by decide)
/-- along the way; everywhere: the spot (240: none) and how many blocks were read -/
def zlw (T : zT) (n : Int64) (p : Nat) : Nat → Nat → Nat → Nat × Nat
  | 0, _, c => (240, c)
  | m + 1, i, c => if zsl T n (zlq T (p + i)).1 < 6 then ((zlq T (p + i)).1 * 6 + zsl T n (zlq T (p + i)).1, c + 1) else zlw T n p m (i + 1) (c + 1)
def zle (T : zT) (n : Int64) : Nat → Nat → Nat → Nat × Nat
  | 0, _, c => (240, c)
  | m + 1, b, c => if T.1 0 b = 1 then (if zsl T n b < 6 then (b * 6 + zsl T n b, c + 1) else zle T n m (b + 1) (c + 1)) else zle T n m (b + 1) c
def zsk (T : zT) (n : Int64) : Nat × Nat := if ztor T = 0 then zlw T n (zpl T (zha T n)) (zwn T (zha T n)) 0 (T.1 7 0) else zle T n 40 0 1
theorem zWay_fr {S S' : sh_St} {T : zT} {h : Nat} (h1 : S'.1 121 = S.1 121) (h2 : S'.1 122 = S.1 122) (h3 : S'.1 123 = S.1 123) (hw : zWay S T h) : zWay S' T h := by
  unfold zWay
  rw [h1, h2, h3]
  exact hw
theorem zx_look_l {T : zT} (hI : zInv T) (n : Int64) {h : Nat} : ∀ (m i : Nat) (S : sh_St) (c : Nat), zVX S 4 T → zWay S T h → i ≤ zwn T h → zwn T h - i < m → S.1 116 4 = nI c → c + zwn T h - i < 1000 →
    ∃ S', fX4_look_47 m S n (nI (T.1 7 0 + i)) = some (zsp 240 (zlw T n (zpl T h) (zwn T h - i) i c).1, S') ∧ S'.1 116 4 = nI (zlw T n (zpl T h) (zwn T h - i) i c).2 ∧ zFr 116 116 S S' := by
  intro m
  induction m with
  | zero => intro i S c _ _ h1 h2; omega
  | succ m ih =>
    intro i S c hv hw h1 h2 h3 hc
    have h7 := hI.1.1
    have h8 := zwn_le hI h
    have h9 := zln_le hI
    rw [fX4_look_47]
    by_cases hi : i = zwn T h
    · refine ⟨S, ?_, ?_, zFr_rf _ _ S⟩
      · rw [show zwn T h - i = 0 by omega]
        simp (disch := omega) only [zq_l2, pk_mul, nI_add, zq_t, zq_c, zq_bz, zq_bo, zq_g, zq_cl, zq_leT, zq_leF, zq_ltT, zq_ltF, zq_eqT, zq_eqF, zq_em, zq_me, zq_pm, zq_mm, zq_gm, pk_sub, zI_s, zI_k, zI_c, zI_2, zL_s, zL_k, zL_c, zL_1, if_true, if_false, eq_self, Nat.zero_add, Nat.add_zero, hw.2.1]
        rfl
      · rw [show zwn T h - i = 0 by omega]; exact h3
    · have hlt : zpl T h + i < zln T := by omega
      have hq := zlq_ok hI hlt
      obtain ⟨j, hj⟩ : ∃ j, zwn T h - i = j + 1 := ⟨zwn T h - i - 1, by omega⟩
      have hj' : zwn T h - (i + 1) = j := by omega
      have hf : zFr 116 116 S (sh_I S 116 4 (nI (c + 1))) := zFr_I S _ _ (by omega) (by omega)
      have hv1 := zVX_f4 hf (by omega) hv
      have hw1 : zWay (sh_I S 116 4 (nI (c + 1))) T h := zWay_fr (hf 121 (by omega)).1 (hf 122 (by omega)).1 (hf 123 (by omega)).1 hw
      have hli := zx_lookInto hv1 hI n hq.1
      have h22 := hw.2.2.1 i (by omega)
      rw [hj]
      unfold zlw
      have hsl := zsl_le T n (zlq T (zpl T h + i)).1
      by_cases hs : zsl T n (zlq T (zpl T h + i)).1 < 6
      · rw [if_pos hs] at hli
        rw [if_pos hs]
        refine ⟨_, ?_, ?_, hf⟩
        · simp (disch := omega) only [zq_l2, pk_mul, nI_add, zq_t, zq_c, zq_bz, zq_bo, zq_g, zq_cl, zq_leT, zq_leF, zq_ltT, zq_ltF, zq_eqT, zq_eqF, zq_em, zq_me, zq_pm, zq_mm, zq_gm, pk_sub, zI_s, zI_k, zI_c, zI_2, zL_s, zL_k, zL_c, zL_1, if_true, if_false, eq_self, Nat.zero_add, Nat.add_zero, hw.2.1, h3, h22, hli]
          rw [zsp_t (by omega)]
        · exact zI_s _ _ _ _
      · rw [if_neg hs] at hli
        rw [if_neg hs]
        obtain ⟨S', f1, f2, f3⟩ := ih (i + 1) _ (c + 1) hv1 hw1 (by omega) (by omega) (zI_s _ _ _ _) (by omega)
        rw [hj'] at f1 f2
        refine ⟨S', ?_, f2, zFr_tr hf f3⟩
        simp (disch := omega) only [zq_l2, pk_mul, nI_add, zq_t, zq_c, zq_bz, zq_bo, zq_g, zq_cl, zq_leT, zq_leF, zq_ltT, zq_ltF, zq_eqT, zq_eqF, zq_em, zq_me, zq_pm, zq_mm, zq_gm, pk_sub, zI_s, zI_k, zI_c, zI_2, zL_s, zL_k, zL_c, zL_1, if_true, if_false, eq_self, Nat.zero_add, Nat.add_zero, hw.2.1, h3, h22, hli]
        exact f1
theorem zx_every_l {T : zT} (hI : zInv T) (n : Int64) : ∀ (m b : Nat) (S : sh_St) (c : Nat), zVX S 4 T → b ≤ 40 → 40 - b < m → S.1 116 4 = nI c → c + 40 - b < 1000 →
    ∃ S', fX4_lookEverywhere_7 m S n (nI b) = some (zsp 240 (zle T n (40 - b) b c).1, S') ∧ S'.1 116 4 = nI (zle T n (40 - b) b c).2 ∧ zFr 116 116 S S' := by
  intro m
  induction m with
  | zero => intro b S c _ h1 h2; omega
  | succ m ih =>
    intro b S c hv h1 h2 h3 hc
    rw [fX4_lookEverywhere_7]
    by_cases hb : b = 40
    · refine ⟨S, ?_, ?_, zFr_rf _ _ S⟩
      · rw [show 40 - b = 0 by omega]
        simp (disch := omega) only [zq_l2, pk_mul, nI_add, zq_t, zq_c, zq_bz, zq_bo, zq_g, zq_cl, zq_leT, zq_leF, zq_ltT, zq_ltF, zq_eqT, zq_eqF, zq_em, zq_me, zq_pm, zq_mm, zq_gm, pk_sub, zI_s, zI_k, zI_c, zI_2, zL_s, zL_k, zL_c, zL_1, if_true, if_false, eq_self, Nat.zero_add, Nat.add_zero]
        rfl
      · rw [show 40 - b = 0 by omega]; exact h3
    · obtain ⟨j, hj⟩ : ∃ j, 40 - b = j + 1 := ⟨40 - b - 1, by omega⟩
      have hj' : 40 - (b + 1) = j := by omega
      have hkl := (hI.2.1 b (by omega)).1
      rw [hj]
      unfold zle
      by_cases hk : T.1 0 b = 1
      · rw [if_pos hk]
        have hf : zFr 116 116 S (sh_I S 116 4 (nI (c + 1))) := zFr_I S _ _ (by omega) (by omega)
        have hv1 := zVX_f4 hf (by omega) hv
        have hli := zx_lookInto hv1 hI n (show b < 40 by omega)
        have hsl := zsl_le T n b
        by_cases hs : zsl T n b < 6
        · rw [if_pos hs] at hli
          rw [if_pos hs]
          refine ⟨_, ?_, ?_, hf⟩
          · simp (disch := omega) only [zq_l2, pk_mul, nI_add, zq_t, zq_c, zq_bz, zq_bo, zq_g, zq_cl, zq_leT, zq_leF, zq_ltT, zq_ltF, zq_eqT, zq_eqF, zq_em, zq_me, zq_pm, zq_mm, zq_gm, pk_sub, zI_s, zI_k, zI_c, zI_2, zL_s, zL_k, zL_c, zL_1, if_true, if_false, eq_self, Nat.zero_add, Nat.add_zero, zX_k hv, hk, h3, hli]
            rw [zsp_t (by omega)]
          · exact zI_s _ _ _ _
        · rw [if_neg hs] at hli
          rw [if_neg hs]
          obtain ⟨S', f1, f2, f3⟩ := ih (b + 1) _ (c + 1) hv1 (by omega) (by omega) (zI_s _ _ _ _) (by omega)
          rw [hj'] at f1 f2
          refine ⟨S', ?_, f2, zFr_tr hf f3⟩
          simp (disch := omega) only [zq_l2, pk_mul, nI_add, zq_t, zq_c, zq_bz, zq_bo, zq_g, zq_cl, zq_leT, zq_leF, zq_ltT, zq_ltF, zq_eqT, zq_eqF, zq_em, zq_me, zq_pm, zq_mm, zq_gm, pk_sub, zI_s, zI_k, zI_c, zI_2, zL_s, zL_k, zL_c, zL_1, if_true, if_false, eq_self, Nat.zero_add, Nat.add_zero, zX_k hv, hk, h3, hli, fX4_lookEverywhere_53]
          exact f1
      · rw [if_neg hk]
        obtain ⟨S', f1, f2, f3⟩ := ih (b + 1) S c hv (by omega) (by omega) h3 (by omega)
        rw [hj'] at f1 f2
        refine ⟨S', ?_, f2, f3⟩
        simp (disch := omega) only [zq_l2, pk_mul, nI_add, zq_t, zq_c, zq_bz, zq_bo, zq_g, zq_cl, zq_leT, zq_leF, zq_ltT, zq_ltF, zq_eqT, zq_eqF, zq_em, zq_me, zq_pm, zq_mm, zq_gm, pk_sub, zI_s, zI_k, zI_c, zI_2, zL_s, zL_k, zL_c, zL_1, if_true, if_false, eq_self, Nat.zero_add, Nat.add_zero, zX_k hv, fX4_lookEverywhere_53]
        exact f1
theorem zx_look {S : sh_St} {T : zT} (hv : zVX S 4 T) (hI : zInv T) (n : Int64) : ∃ S', fX4_look S n = some (zsp 240 (zsk T n).1, S') ∧ S'.1 116 4 = nI (zsk T n).2 ∧ zFr 116 123 S S' := by
  have h7 := hI.1.1
  have ht := ztor_le T
  have hl := zha_lt hI n
  rw [fX4_look]
  unfold zsk
  by_cases h0 : ztor T = 0
  · rw [if_pos h0]
    obtain ⟨S1, e1, e2, e3, e4⟩ := zx_trace hv hI hl
    have h8 := zwn_le hI (zha T n)
    have h9 := zln_le hI
    have hf : zFr 116 123 S1 (sh_I S1 116 4 (nI (T.1 7 0))) := zFr_I S1 _ _ (by omega) (by omega)
    obtain ⟨S', f1, f2, f3⟩ := zx_look_l hI n sh_FU 0 (sh_I S1 116 4 (nI (T.1 7 0))) (T.1 7 0) (zVX_f4 hf (by omega) (zVX_f4 e4 (by omega) hv)) (zWay_fr (zI_c _ _ _ _ (by omega)) (zI_c _ _ _ _ (by omega)) (zI_c _ _ _ _ (by omega)) e2) (by omega) (by have : sh_FU = 100000 := rfl; omega) (zI_s _ _ _ _) (by omega)
    rw [Nat.sub_zero] at f1 f2
    refine ⟨S', ?_, f2, zFr_tr (zFr_tr (zFr_wd e4 (by omega) (by omega)) hf) (zFr_wd f3 (by omega) (by omega))⟩
    simp (disch := omega) only [zq_l2, pk_mul, nI_add, zq_t, zq_c, zq_bz, zq_bo, zq_g, zq_cl, zq_leT, zq_leF, zq_ltT, zq_ltF, zq_eqT, zq_eqF, zq_em, zq_me, zq_pm, zq_mm, zq_gm, pk_sub, zI_s, zI_k, zI_c, zI_2, zL_s, zL_k, zL_c, zL_1, if_true, if_false, eq_self, Nat.zero_add, Nat.add_zero, zx_tor hv hI, zx_hashOf hv hI, e1, e2.1]
    exact f1
  · rw [if_neg h0]
    have hf : zFr 116 116 S (sh_I S 116 4 (nI 1)) := zFr_I S _ _ (by omega) (by omega)
    obtain ⟨S', f1, f2, f3⟩ := zx_every_l hI n sh_FU 0 (sh_I S 116 4 (nI 1)) 1 (zVX_f4 hf (by omega) hv) (by omega) (by decide) (zI_s _ _ _ _) (by omega)
    refine ⟨S', ?_, f2, zFr_wd (zFr_tr hf f3) (by omega) (by omega)⟩
    simp (disch := omega) only [zq_l2, pk_mul, nI_add, zq_t, zq_c, zq_bz, zq_bo, zq_g, zq_cl, zq_leT, zq_leF, zq_ltT, zq_ltF, zq_eqT, zq_eqF, zq_em, zq_me, zq_pm, zq_mm, zq_gm, pk_sub, zI_s, zI_k, zI_c, zI_2, zL_s, zL_k, zL_c, zL_1, if_true, if_false, eq_self, Nat.zero_add, Nat.add_zero, zx_tor hv hI, fX4_lookEverywhere, f1]
/-- what the reference has found -/
def zFo (S : sh_St) (k : Nat) : Prop := S.1 0 30 = (if k < 240 then nI (k / 6) else -nI 1) ∧ S.1 0 31 = (if k < 240 then nI (k % 6) else -nI 1)
theorem zm_seeks_l {T : zT} (hI : zInv T) {n : Int64} (hn : zval n) {h : Nat} : ∀ (m i : Nat) (S : sh_St) (c : Nat), zVN S T → zGo S T h → zLin S (zLL T) → i ≤ zwn T h → zwn T h - i < m → S.1 0 32 = nI c → c + zwn T h - i < 1000 → zFo S 240 →
    ∃ S', fX13_seeks_84 m S n (nI i) = some (nI (if (zlw T n (zpl T h) (zwn T h - i) i c).1 < 240 then 1 else 0), S') ∧ S'.1 0 32 = nI (zlw T n (zpl T h) (zwn T h - i) i c).2 ∧ zFo S' (zlw T n (zpl T h) (zwn T h - i) i c).1 ∧ zFm S S' := by
  intro m
  induction m with
  | zero => intro i S c _ _ _ h1 h2; omega
  | succ m ih =>
    intro i S c hv hg hL h1 h2 h3 hc hfo
    have h7 := hI.1.1
    have h8 := zwn_le hI h
    have h9 := zln_le hI
    rw [fX13_seeks_84]
    by_cases hi : i = zwn T h
    · rw [show zwn T h - i = 0 by omega]
      refine ⟨S, ?_, h3, hfo, zFm_rf S⟩
      simp (disch := omega) only [zq_l2, pk_mul, nI_add, zq_t, zq_c, zq_bz, zq_bo, zq_g, zq_cl, zq_leT, zq_leF, zq_ltT, zq_ltF, zq_eqT, zq_eqF, zq_em, zq_me, zq_pm, zq_mm, zq_gm, pk_sub, zI_s, zI_k, zI_c, zI_2, zL_s, zL_k, zL_c, zL_1, if_true, if_false, eq_self, Nat.zero_add, Nat.add_zero, hg.2]
      rfl
    · have hlt : zpl T h + i < zln T := by omega
      have hq := zlq_ok hI hlt
      obtain ⟨j, hj⟩ : ∃ j, zwn T h - i = j + 1 := ⟨zwn T h - i - 1, by omega⟩
      have hj' : zwn T h - (i + 1) = j := by omega
      have hli := zm_isIn hv hI hn hq.1 h3
      have hla := (zLin_at hL hlt).1
      rw [hj]
      unfold zlw
      by_cases hs : zsl T n (zlq T (zpl T h + i)).1 < 6
      · rw [if_pos hs] at hli
        rw [if_pos hs]
        refine ⟨sh_I (sh_I (sh_I S 0 32 (nI (c + 1))) 0 30 (nI (zlq T (zpl T h + i)).1)) 0 31 (nI (zsl T n (zlq T (zpl T h + i)).1)), ?_, ?_, ⟨?_, ?_⟩, zFm_tr (zFm_tr (zFm_0 S _ (by omega)) (zFm_0 _ _ (by omega))) (zFm_0 _ _ (by omega))⟩
        · rw [if_pos (show (zlq T (zpl T h + i)).1 * 6 + zsl T n (zlq T (zpl T h + i)).1 < 240 by omega)]
          simp (disch := omega) only [zq_l2, pk_mul, nI_add, zq_t, zq_c, zq_bz, zq_bo, zq_g, zq_cl, zq_leT, zq_leF, zq_ltT, zq_ltF, zq_eqT, zq_eqF, zq_em, zq_me, zq_pm, zq_mm, zq_gm, pk_sub, zI_s, zI_k, zI_c, zI_2, zL_s, zL_k, zL_c, zL_1, if_true, if_false, eq_self, Nat.zero_add, Nat.add_zero, hg.1, hg.2, hla, hli]
        · simp (disch := omega) only [zq_l2, pk_mul, nI_add, zq_t, zq_c, zq_bz, zq_bo, zq_g, zq_cl, zq_leT, zq_leF, zq_ltT, zq_ltF, zq_eqT, zq_eqF, zq_em, zq_me, zq_pm, zq_mm, zq_gm, pk_sub, zI_s, zI_k, zI_c, zI_2, zL_s, zL_k, zL_c, zL_1, if_true, if_false, eq_self, Nat.zero_add, Nat.add_zero]
        · rw [if_pos (show (zlq T (zpl T h + i)).1 * 6 + zsl T n (zlq T (zpl T h + i)).1 < 240 by omega)]
          simp (disch := omega) only [zq_l2, pk_mul, nI_add, zq_t, zq_c, zq_bz, zq_bo, zq_g, zq_cl, zq_leT, zq_leF, zq_ltT, zq_ltF, zq_eqT, zq_eqF, zq_em, zq_me, zq_pm, zq_mm, zq_gm, pk_sub, zI_s, zI_k, zI_c, zI_2, zL_s, zL_k, zL_c, zL_1, if_true, if_false, eq_self, Nat.zero_add, Nat.add_zero]
        · rw [if_pos (show (zlq T (zpl T h + i)).1 * 6 + zsl T n (zlq T (zpl T h + i)).1 < 240 by omega)]
          simp (disch := omega) only [zq_l2, pk_mul, nI_add, zq_t, zq_c, zq_bz, zq_bo, zq_g, zq_cl, zq_leT, zq_leF, zq_ltT, zq_ltF, zq_eqT, zq_eqF, zq_em, zq_me, zq_pm, zq_mm, zq_gm, pk_sub, zI_s, zI_k, zI_c, zI_2, zL_s, zL_k, zL_c, zL_1, if_true, if_false, eq_self, Nat.zero_add, Nat.add_zero]
      · rw [if_neg hs] at hli
        rw [if_neg hs]
        have hf : zFm S (sh_I S 0 32 (nI (c + 1))) := zFm_0 S _ (by omega)
        obtain ⟨S', f1, f2, f3, f4⟩ := ih (i + 1) (sh_I S 0 32 (nI (c + 1))) (c + 1) (zVN_fm hf hv) (by unfold zGo; rw [zI_k S 0 32 _ (by omega), zI_k S 0 32 _ (by omega)]; exact hg) (zLin_0 _ (by omega) hL) (by omega) (by omega) (zI_s _ _ _ _) (by omega) (by unfold zFo; rw [zI_k S 0 32 _ (by omega), zI_k S 0 32 _ (by omega)]; exact hfo)
        rw [hj'] at f1 f2 f3
        refine ⟨S', ?_, f2, f3, zFm_tr hf f4⟩
        simp (disch := omega) only [zq_l2, pk_mul, nI_add, zq_t, zq_c, zq_bz, zq_bo, zq_g, zq_cl, zq_leT, zq_leF, zq_ltT, zq_ltF, zq_eqT, zq_eqF, zq_em, zq_me, zq_pm, zq_mm, zq_gm, pk_sub, zI_s, zI_k, zI_c, zI_2, zL_s, zL_k, zL_c, zL_1, if_true, if_false, eq_self, Nat.zero_add, Nat.add_zero, hg.1, hg.2, hla, hli]
        exact f1
theorem zm_every_l {T : zT} (hI : zInv T) {n : Int64} (hn : zval n) : ∀ (m b : Nat) (S : sh_St) (c : Nat), zVN S T → b ≤ 40 → 40 - b < m → S.1 0 32 = nI c → c + 40 - b < 1000 → zFo S 240 →
    ∃ S', fX13_seeks_24 m S n (nI b) = some (nI (if (zle T n (40 - b) b c).1 < 240 then 1 else 0), S') ∧ S'.1 0 32 = nI (zle T n (40 - b) b c).2 ∧ zFo S' (zle T n (40 - b) b c).1 ∧ zFm S S' := by
  intro m
  induction m with
  | zero => intro i S c _ h1 h2; omega
  | succ m ih =>
    intro b S c hv h1 h2 h3 hc hfo
    rw [fX13_seeks_24]
    by_cases hb : b = 40
    · rw [show 40 - b = 0 by omega]
      refine ⟨S, ?_, h3, hfo, zFm_rf S⟩
      simp (disch := omega) only [zq_l2, pk_mul, nI_add, zq_t, zq_c, zq_bz, zq_bo, zq_g, zq_cl, zq_leT, zq_leF, zq_ltT, zq_ltF, zq_eqT, zq_eqF, zq_em, zq_me, zq_pm, zq_mm, zq_gm, pk_sub, zI_s, zI_k, zI_c, zI_2, zL_s, zL_k, zL_c, zL_1, if_true, if_false, eq_self, Nat.zero_add, Nat.add_zero]
      rfl
    · obtain ⟨j, hj⟩ : ∃ j, 40 - b = j + 1 := ⟨40 - b - 1, by omega⟩
      have hj' : 40 - (b + 1) = j := by omega
      have hkl := (hI.2.1 b (by omega)).1
      rw [hj]
      unfold zle
      by_cases hk : T.1 0 b = 1
      · rw [if_pos hk]
        have hli := zm_isIn hv hI hn (show b < 40 by omega) h3
        by_cases hs : zsl T n b < 6
        · rw [if_pos hs] at hli
          rw [if_pos hs]
          refine ⟨sh_I (sh_I (sh_I S 0 32 (nI (c + 1))) 0 30 (nI b)) 0 31 (nI (zsl T n b)), ?_, ?_, ⟨?_, ?_⟩, zFm_tr (zFm_tr (zFm_0 S _ (by omega)) (zFm_0 _ _ (by omega))) (zFm_0 _ _ (by omega))⟩
          · rw [if_pos (show b * 6 + zsl T n b < 240 by omega)]
            simp (disch := omega) only [zq_l2, pk_mul, nI_add, zq_t, zq_c, zq_bz, zq_bo, zq_g, zq_cl, zq_leT, zq_leF, zq_ltT, zq_ltF, zq_eqT, zq_eqF, zq_em, zq_me, zq_pm, zq_mm, zq_gm, pk_sub, zI_s, zI_k, zI_c, zI_2, zL_s, zL_k, zL_c, zL_1, if_true, if_false, eq_self, Nat.zero_add, Nat.add_zero, zM_k hv, hk, hli]
          · simp (disch := omega) only [zq_l2, pk_mul, nI_add, zq_t, zq_c, zq_bz, zq_bo, zq_g, zq_cl, zq_leT, zq_leF, zq_ltT, zq_ltF, zq_eqT, zq_eqF, zq_em, zq_me, zq_pm, zq_mm, zq_gm, pk_sub, zI_s, zI_k, zI_c, zI_2, zL_s, zL_k, zL_c, zL_1, if_true, if_false, eq_self, Nat.zero_add, Nat.add_zero]
          · rw [if_pos (show b * 6 + zsl T n b < 240 by omega)]
            simp (disch := omega) only [zq_l2, pk_mul, nI_add, zq_t, zq_c, zq_bz, zq_bo, zq_g, zq_cl, zq_leT, zq_leF, zq_ltT, zq_ltF, zq_eqT, zq_eqF, zq_em, zq_me, zq_pm, zq_mm, zq_gm, pk_sub, zI_s, zI_k, zI_c, zI_2, zL_s, zL_k, zL_c, zL_1, if_true, if_false, eq_self, Nat.zero_add, Nat.add_zero]
          · rw [if_pos (show b * 6 + zsl T n b < 240 by omega)]
            simp (disch := omega) only [zq_l2, pk_mul, nI_add, zq_t, zq_c, zq_bz, zq_bo, zq_g, zq_cl, zq_leT, zq_leF, zq_ltT, zq_ltF, zq_eqT, zq_eqF, zq_em, zq_me, zq_pm, zq_mm, zq_gm, pk_sub, zI_s, zI_k, zI_c, zI_2, zL_s, zL_k, zL_c, zL_1, if_true, if_false, eq_self, Nat.zero_add, Nat.add_zero]
        · rw [if_neg hs] at hli
          rw [if_neg hs]
          have hf : zFm S (sh_I S 0 32 (nI (c + 1))) := zFm_0 S _ (by omega)
          obtain ⟨S', f1, f2, f3, f4⟩ := ih (b + 1) (sh_I S 0 32 (nI (c + 1))) (c + 1) (zVN_fm hf hv) (by omega) (by omega) (zI_s _ _ _ _) (by omega) (by unfold zFo; rw [zI_k S 0 32 _ (by omega), zI_k S 0 32 _ (by omega)]; exact hfo)
          rw [hj'] at f1 f2 f3
          refine ⟨S', ?_, f2, f3, zFm_tr hf f4⟩
          simp (disch := omega) only [zq_l2, pk_mul, nI_add, zq_t, zq_c, zq_bz, zq_bo, zq_g, zq_cl, zq_leT, zq_leF, zq_ltT, zq_ltF, zq_eqT, zq_eqF, zq_em, zq_me, zq_pm, zq_mm, zq_gm, pk_sub, zI_s, zI_k, zI_c, zI_2, zL_s, zL_k, zL_c, zL_1, if_true, if_false, eq_self, Nat.zero_add, Nat.add_zero, zM_k hv, hk, hli, fX13_seeks_53]
          exact f1
      · rw [if_neg hk]
        obtain ⟨S', f1, f2, f3, f4⟩ := ih (b + 1) S c hv (by omega) (by omega) h3 (by omega) hfo
        rw [hj'] at f1 f2 f3
        refine ⟨S', ?_, f2, f3, f4⟩
        simp (disch := omega) only [zq_l2, pk_mul, nI_add, zq_t, zq_c, zq_bz, zq_bo, zq_g, zq_cl, zq_leT, zq_leF, zq_ltT, zq_ltF, zq_eqT, zq_eqF, zq_em, zq_me, zq_pm, zq_mm, zq_gm, pk_sub, zI_s, zI_k, zI_c, zI_2, zL_s, zL_k, zL_c, zL_1, if_true, if_false, eq_self, Nat.zero_add, Nat.add_zero, zM_k hv, fX13_seeks_53]
        exact f1
theorem zm_seeks {S : sh_St} {T : zT} (hv : zVN S T) (hI : zInv T) {n : Int64} (hn : zval n) : ∃ S', fX13_seeks S n = some (nI (if (zsk T n).1 < 240 then 1 else 0), S') ∧ S'.1 0 32 = nI (zsk T n).2 ∧ zFo S' (zsk T n).1 ∧ zFm S S' := by
  have h7 := hI.1.1
  have ht := ztor_le T
  have hl := zha_lt hI n
  have hf : zFm S (sh_I (sh_I S 0 30 (-nI 1)) 0 31 (-nI 1)) := zFm_tr (zFm_0 S _ (by omega)) (zFm_0 _ _ (by omega))
  have hv1 := zVN_fm hf hv
  have ha := zm_any hv1 hI
  have hfo : zFo (sh_I (sh_I S 0 30 (-nI 1)) 0 31 (-nI 1)) 240 := by
    refine ⟨?_, ?_⟩
    · rw [if_neg (by omega)]
      simp (disch := omega) only [zq_l2, pk_mul, nI_add, zq_t, zq_c, zq_bz, zq_bo, zq_g, zq_cl, zq_leT, zq_leF, zq_ltT, zq_ltF, zq_eqT, zq_eqF, zq_em, zq_me, zq_pm, zq_mm, zq_gm, pk_sub, zI_s, zI_k, zI_c, zI_2, zL_s, zL_k, zL_c, zL_1, if_true, if_false, eq_self, Nat.zero_add, Nat.add_zero]
    · rw [if_neg (by omega)]
      simp (disch := omega) only [zq_l2, pk_mul, nI_add, zq_t, zq_c, zq_bz, zq_bo, zq_g, zq_cl, zq_leT, zq_leF, zq_ltT, zq_ltF, zq_eqT, zq_eqF, zq_em, zq_me, zq_pm, zq_mm, zq_gm, pk_sub, zI_s, zI_k, zI_c, zI_2, zL_s, zL_k, zL_c, zL_1, if_true, if_false, eq_self, Nat.zero_add, Nat.add_zero]
  rw [fX13_seeks]
  unfold zsk
  by_cases h0 : ztor T = 0
  · rw [if_pos h0]
    rw [if_pos h0] at ha
    obtain ⟨S1, e1, e2, e3, e4⟩ := zm_goes hv1 hI hl
    have h8 := zwn_le hI (zha T n)
    have h9 := zln_le hI
    have hf1 : zFm S1 (sh_I S1 0 32 (nI (T.1 7 0))) := zFm_0 S1 _ (by omega)
    have hv2 := zVN_fn e4 hv1
    have hfo1 : zFo S1 240 := by unfold zFo; rw [e4.1 30 (by omega), e4.1 31 (by omega)]; exact hfo
    obtain ⟨S', f1, f2, f3, f4⟩ := zm_seeks_l hI hn (h := zha T n) sh_FU 0 (sh_I S1 0 32 (nI (T.1 7 0))) (T.1 7 0) (zVN_fm hf1 hv2) (by unfold zGo; rw [zI_k S1 0 32 _ (by omega), zI_k S1 0 32 _ (by omega)]; exact e2) (zLin_0 _ (by omega) e3) (by omega) (by have : sh_FU = 100000 := rfl; omega) (zI_s _ _ _ _) (by omega) (by unfold zFo; rw [zI_k _ 0 32 _ (by omega), zI_k _ 0 32 _ (by omega)]; exact hfo1)
    rw [Nat.sub_zero] at f1 f2 f3
    refine ⟨S', ?_, f2, f3, zFm_tr (zFm_tr (zFm_tr hf (zFn_m e4)) hf1) f4⟩
    simp (disch := omega) only [zq_l2, pk_mul, nI_add, zq_t, zq_c, zq_bz, zq_bo, zq_g, zq_cl, zq_leT, zq_leF, zq_ltT, zq_ltF, zq_eqT, zq_eqF, zq_em, zq_me, zq_pm, zq_mm, zq_gm, pk_sub, zI_s, zI_k, zI_c, zI_2, zL_s, zL_k, zL_c, zL_1, if_true, if_false, eq_self, Nat.zero_add, Nat.add_zero, ha, zm_hashOf hv1 hI hn, e1, zM_v hv2]
    exact f1
  · rw [if_neg h0]
    rw [if_neg h0] at ha
    have hf1 : zFm (sh_I (sh_I S 0 30 (-nI 1)) 0 31 (-nI 1)) (sh_I (sh_I (sh_I S 0 30 (-nI 1)) 0 31 (-nI 1)) 0 32 (nI 1)) := zFm_0 _ _ (by omega)
    obtain ⟨S', f1, f2, f3, f4⟩ := zm_every_l hI hn sh_FU 0 (sh_I (sh_I (sh_I S 0 30 (-nI 1)) 0 31 (-nI 1)) 0 32 (nI 1)) 1 (zVN_fm hf1 hv1) (by omega) (by decide) (zI_s _ _ _ _) (by omega) (by unfold zFo; rw [zI_k _ 0 32 _ (by omega), zI_k _ 0 32 _ (by omega)]; exact hfo)
    refine ⟨S', ?_, f2, f3, zFm_tr (zFm_tr hf hf1) f4⟩
    simp (disch := omega) only [zq_l2, pk_mul, nI_add, zq_t, zq_c, zq_bz, zq_bo, zq_g, zq_cl, zq_leT, zq_leF, zq_ltT, zq_ltF, zq_eqT, zq_eqF, zq_em, zq_me, zq_pm, zq_mm, zq_gm, pk_sub, zI_s, zI_k, zI_c, zI_2, zL_s, zL_k, zL_c, zL_1, if_true, if_false, eq_self, Nat.zero_add, Nat.add_zero, ha]
    exact f1
