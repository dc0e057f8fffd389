/-! down to the first leaf; its place; the way -/
def zbk (T : zT) (h : Nat) : Nat → Nat
  | 0 => 0
  | l + 1 => T.1 6 (zbk T h l * 6 + zr T (zbk T h l) h)
theorem zInv_r2 {T : zT} (hI : zInv T) {b : Nat} (hb : b < 40) (hk : T.1 0 b = 2) (h : Nat) : zr T b h < T.1 1 b := zrf_lt T b h _ ((hI.2.1 b hb).2.2.2.2 hk)
theorem zInv_k0 {T : zT} (hI : zInv T) : T.1 0 0 = (if T.1 7 0 = 0 then 1 else 2) := hI.2.2.2.2.2.1.1
theorem zInv_k1 {T : zT} (hI : zInv T) {r : Nat} (hr : r < T.1 1 0) : T.1 0 (T.1 6 (0 * 6 + r)) = (if T.1 7 0 = 2 then 2 else 1) := by
  rw [Nat.zero_mul, Nat.zero_add]; exact hI.2.2.2.2.2.1.2.2.1 r hr
theorem zInv_k2 {T : zT} (hI : zInv T) {b r : Nat} (hb : b < 40) (h0 : b ≠ 0) (hr : r < T.1 1 b) : T.1 0 (T.1 6 (b * 6 + r)) = 1 := hI.2.2.2.2.2.1.2.2.2 b r hb h0 hr
theorem zInv_cz {T : zT} (hI : zInv T) {b r : Nat} (hb : b < 40) (hr : r < T.1 1 b) : T.1 6 (b * 6 + r) ≠ 0 := (hI.2.2.2.1 b r hb hr).2.2.2
theorem zbk_lo {T : zT} (hI : zInv T) (h : Nat) {l : Nat} (hl : l < T.1 7 0) : zbk T h l < 40 ∧ T.1 0 (zbk T h l) = 2 ∧ zr T (zbk T h l) h < T.1 1 (zbk T h l) := by
  have h2 := hI.1.1
  have k0 := zInv_k0 hI
  rw [if_neg (by omega)] at k0
  have r0 := zInv_r2 hI (b := 0) (by omega) k0 h
  match l, hl with
  | 0, _ => exact ⟨by unfold zbk; omega, k0, r0⟩
  | 1, hl =>
    have k1 := zInv_k1 hI r0
    rw [if_pos (by omega)] at k1
    have c1 := zInv_ch hI (b := 0) (by omega) r0
    exact ⟨c1, k1, zInv_r2 hI c1 k1 h⟩
  | l + 2, hl => omega
theorem zbk_n0 {T : zT} (hI : zInv T) (h : Nat) {l : Nat} (hl : l ≤ T.1 7 0) (h0 : l ≠ 0) : zbk T h l ≠ 0 := by
  obtain ⟨j, rfl⟩ : ∃ j, l = j + 1 := ⟨l - 1, by omega⟩
  obtain ⟨a, b, c⟩ := zbk_lo hI h (show j < T.1 7 0 by omega)
  exact zInv_cz hI a c
theorem zbk_le {T : zT} (hI : zInv T) (h : Nat) {l : Nat} (hl : l ≤ T.1 7 0) : zbk T h l < 40 := by
  cases l with
  | zero => unfold zbk; omega
  | succ j =>
    obtain ⟨a, b, c⟩ := zbk_lo hI h (show j < T.1 7 0 by omega)
    exact zInv_ch hI a c
abbrev zfl (T : zT) (h : Nat) : Nat := zbk T h (T.1 7 0)
theorem zfl_k {T : zT} (hI : zInv T) (h : Nat) : T.1 0 (zfl T h) = 1 := by
  have h2 := hI.1.1
  have k0 := zInv_k0 hI
  unfold zfl
  by_cases h0 : T.1 7 0 = 0
  · rw [h0]; rw [if_pos h0] at k0; exact k0
  · obtain ⟨j, hj⟩ : ∃ j, T.1 7 0 = j + 1 := ⟨T.1 7 0 - 1, by omega⟩
    obtain ⟨a, b, c⟩ := zbk_lo hI h (show j < T.1 7 0 by omega)
    rw [hj]
    show T.1 0 (T.1 6 (zbk T h j * 6 + zr T (zbk T h j) h)) = 1
    by_cases hj0 : j = 0
    · subst hj0
      have := zInv_k1 hI c
      rw [if_neg (by omega)] at this
      exact this
    · exact zInv_k2 hI a (zbk_n0 hI h (by omega) hj0) c
theorem zm_firstOf_l {S : sh_St} {T : zT} (hv : zVN S T) (hI : zInv T) {h : Nat} (hh : h < 4096) : ∀ (n l : Nat), l ≤ T.1 7 0 → T.1 7 0 - l < n → fX13_firstOf_4 n S (nI h) (nI (zbk T h l)) (nI l) = some (nI (zfl T h), S) := by
  intro n
  induction n with
  | zero => intro s h1 h2; omega
  | succ n ih =>
    intro l h1 h2
    have h7 := hI.1.1
    rw [fX13_firstOf_4]
    by_cases h9 : l = T.1 7 0
    · simp (disch := omega) only [zq_l2, pk_mul, nI_add, zq_t, zq_c, zq_bz, zq_bo, zq_g, zq_cl, zq_leT, zq_leF, zq_ltT, zq_ltF, zq_eqT, zq_eqF, zq_em, zq_me, zq_pm, zq_mm, zq_gm, pk_sub, zI_s, zI_k, zI_c, zI_2, zL_s, zL_k, zL_c, zL_1, if_true, if_false, eq_self, Nat.zero_add, Nat.add_zero, zM_v hv]
      rw [h9]
    · obtain ⟨a, b, c⟩ := zbk_lo hI h (show l < T.1 7 0 by omega)
      have h5 := zInv_c5 hI a
      simp (disch := omega) only [zq_l2, pk_mul, nI_add, zq_t, zq_c, zq_bz, zq_bo, zq_g, zq_cl, zq_leT, zq_leF, zq_ltT, zq_ltF, zq_eqT, zq_eqF, zq_em, zq_me, zq_pm, zq_mm, zq_gm, pk_sub, zI_s, zI_k, zI_c, zI_2, zL_s, zL_k, zL_c, zL_1, if_true, if_false, eq_self, Nat.zero_add, Nat.add_zero, zM_v hv, zm_rowFor hv hI a hh, fX13_rowAt, zM_g hv a c]
      exact ih (l + 1) (by omega) (by omega)
theorem zm_firstOf {S : sh_St} {T : zT} (hv : zVN S T) (hI : zInv T) {h : Nat} (hh : h < 4096) : fX13_firstOf S (nI h) = some (nI (zfl T h), S) := by
  have h7 := hI.1.1
  rw [fX13_firstOf]
  exact zm_firstOf_l hv hI hh sh_FU 0 (by omega) (by have : sh_FU = 100000 := rfl; omega)
/-- the k-th of the leaves in order, with its row -/
def zlq (T : zT) (k : Nat) : Nat × Nat × Nat := (zLL T).getD k (0, 0, 0)
def zln (T : zT) : Nat := (zLL T).length
theorem zlq_at {T : zT} {k : Nat} (hk : k < zln T) : (zLL T)[k]? = some (zlq T k) := by
  unfold zlq zln at *
  rw [List.getD_eq_getElem?_getD, List.getElem?_eq_getElem hk]
  rfl
theorem zLL_mem {T : zT} (hI : zInv T) {q : Nat × Nat × Nat} (hq : q ∈ zLL T) : q.1 < 40 ∧ q.2.1 < 4096 ∧ q.2.2 ≤ 1 ∧ T.1 0 q.1 = 1 := by
  have h2 := hI.1.1
  have k0 := zInv_k0 hI
  unfold zLL at hq
  by_cases h0 : T.1 7 0 = 0
  · rw [if_pos h0] at hq k0
    simp at hq
    subst hq
    exact ⟨by decide, by decide, by decide, k0⟩
  · rw [if_neg h0] at hq k0
    by_cases h1 : T.1 7 0 = 1
    · rw [if_pos h1] at hq
      unfold zL1 zLp at hq
      simp only [List.mem_map, List.mem_range] at hq
      obtain ⟨r, hr, rfl⟩ := hq
      have k1 := zInv_k1 hI hr
      rw [if_neg (by omega)] at k1
      exact ⟨zInv_ch hI (by omega) hr, zInv_li hI (by omega) hr, zInv_ma hI (by omega) hr, k1⟩
    · rw [if_neg h1] at hq
      unfold zQ zL1 zLp at hq
      simp only [List.mem_flatMap, List.mem_map, List.mem_range] at hq
      obtain ⟨a, ha, r, hr, rfl⟩ := hq
      have hc := zInv_c0 hI ha
      have hz := zInv_cz hI (b := 0) (by omega) ha
      rw [Nat.zero_mul, Nat.zero_add] at hz
      exact ⟨zInv_ch hI hc hr, zInv_li hI hc hr, zInv_ma hI hc hr, zInv_k2 hI hc hz hr⟩
theorem zlq_ok {T : zT} (hI : zInv T) {k : Nat} (hk : k < zln T) : (zlq T k).1 < 40 ∧ (zlq T k).2.1 < 4096 ∧ (zlq T k).2.2 ≤ 1 ∧ T.1 0 (zlq T k).1 = 1 := zLL_mem hI (List.mem_of_getElem? (zlq_at hk))
theorem zline_nd {T : zT} (hI : zInv T) : (zline T).Nodup := by
  have hj := hI.2.2.2.2.1
  unfold zline zLL
  split
  · simp
  · split
    · unfold zL1 zLp
      rw [List.map_map, List.Nodup, List.pairwise_map]
      apply List.Pairwise.imp_of_mem _ List.nodup_range
      intro a b ha hb hne he
      exact hne (hj 0 a 0 b (by omega) (by omega) (List.mem_range.mp ha) (List.mem_range.mp hb) he).2
    · unfold zQ
      rw [List.map_flatMap, List.Nodup, List.pairwise_flatMap]
      refine ⟨?_, ?_⟩
      · intro a ha
        have ha' := List.mem_range.mp ha
        have hc := zInv_c0 hI ha'
        unfold zL1 zLp
        rw [List.map_map, List.pairwise_map]
        apply List.Pairwise.imp_of_mem _ List.nodup_range
        intro x y hx hy hne he
        exact hne (hj _ x _ y hc hc (List.mem_range.mp hx) (List.mem_range.mp hy) he).2
      · apply List.Pairwise.imp_of_mem _ List.nodup_range
        intro a b ha hb hne x hx y hy he
        have hca := zInv_c0 hI (List.mem_range.mp ha)
        have hcb := zInv_c0 hI (List.mem_range.mp hb)
        unfold zL1 zLp at hx hy
        simp only [List.mem_map, List.mem_range] at hx hy
        obtain ⟨q, ⟨r, hr, rfl⟩, rfl⟩ := hx
        obtain ⟨q', ⟨r', hr', rfl⟩, rfl⟩ := hy
        have h1 := (hj _ r _ r' hca hcb hr hr' he).1
        have h2 := (hj 0 a 0 b (by omega) (by omega) (List.mem_range.mp ha) (List.mem_range.mp hb) (by simpa using h1)).2
        exact hne h2
theorem zfl_mem {T : zT} (hI : zInv T) (h : Nat) : zfl T h ∈ zline T := by
  have h2 := hI.1.1
  unfold zfl zline zLL
  by_cases h0 : T.1 7 0 = 0
  · rw [if_pos h0, h0]; simp [zbk]
  · rw [if_neg h0]
    obtain ⟨a0, b0, c0⟩ := zbk_lo hI h (show 0 < T.1 7 0 by omega)
    by_cases h1 : T.1 7 0 = 1
    · rw [if_pos h1, h1]
      unfold zL1 zLp
      rw [List.map_map, List.mem_map]
      exact ⟨zr T 0 h, List.mem_range.mpr c0, rfl⟩
    · have h3 : T.1 7 0 = 2 := by omega
      obtain ⟨a1, b1, c1⟩ := zbk_lo hI h (show 1 < T.1 7 0 by omega)
      rw [if_neg h1, h3]
      unfold zQ
      rw [List.map_flatMap, List.mem_flatMap]
      refine ⟨zr T 0 h, List.mem_range.mpr c0, ?_⟩
      unfold zL1 zLp
      rw [List.map_map, List.mem_map]
      have e : zbk T h 1 = T.1 6 (zr T 0 h) := by show T.1 6 (0 * 6 + zr T 0 h) = _; rw [Nat.zero_mul, Nat.zero_add]
      refine ⟨zr T (zbk T h 1) h, ?_, ?_⟩
      · rw [← e]; exact List.mem_range.mpr c1
      · rw [← e]; rfl
theorem zln_le {T : zT} (hI : zInv T) : zln T ≤ 25 := zLL_len hI
/-- the place of the first leaf in order -/
def zpl (T : zT) (h : Nat) : Nat := (zline T).idxOf (zfl T h)
theorem zpl_lt {T : zT} (hI : zInv T) (h : Nat) : zpl T h < zln T := by
  have h1 := List.idxOf_lt_length_of_mem (zfl_mem hI h)
  unfold zpl
  have h2 : (zline T).length = zln T := by unfold zline zln; rw [List.length_map]
  rw [← h2]; exact h1
theorem zline_at {T : zT} {k : Nat} (hk : k < zln T) : (zline T)[k]? = some (zlq T k).1 := by
  unfold zline
  rw [List.getElem?_map, zlq_at hk]
  rfl
theorem zpl_at {T : zT} (hI : zInv T) (h : Nat) : (zlq T (zpl T h)).1 = zfl T h := by
  have h1 := zline_at (zpl_lt hI h)
  have h3 := List.idxOf_lt_length_of_mem (zfl_mem hI h)
  have h2 : (zline T)[zpl T h]? = some (zfl T h) := by
    unfold zpl
    rw [List.getElem?_eq_getElem h3]
    exact congrArg some (List.getElem_idxOf h3)
  rw [h1] at h2
  exact Option.some.inj h2
theorem zlq_inj {T : zT} (hI : zInv T) {i j : Nat} (hi : i < zln T) (hj : j < zln T) (e : (zlq T i).1 = (zlq T j).1) : i = j := by
  have h2 : (zline T).length = zln T := by unfold zline zln; rw [List.length_map]
  exact (List.getElem?_inj (by omega) (zline_nd hI)).mp (by rw [zline_at hi, zline_at hj, e])
theorem zOrd_at {S : sh_St} {T : zT} (h : zOrd S (zLL T)) {k : Nat} (hk : k < zln T) : S.1 118 k = nI (zlq T k).1 ∧ S.1 119 k = nI (zlq T k).2.1 ∧ S.1 120 k = nI (zlq T k).2.2 := h.2 k _ (zlq_at hk)
theorem zLin_at {S : sh_St} {T : zT} (h : zLin S (zLL T)) {k : Nat} (hk : k < zln T) : S.1 15 k = nI (zlq T k).1 ∧ S.1 16 k = nI (zlq T k).2.1 ∧ S.1 17 k = nI (zlq T k).2.2 := h.2 k _ (zlq_at hk)
theorem zOrd_n {S : sh_St} {T : zT} (h : zOrd S (zLL T)) : S.1 117 3 = nI (zln T) := h.1
theorem zLin_n {S : sh_St} {T : zT} (h : zLin S (zLL T)) : S.1 0 27 = nI (zln T) := h.1
theorem zx_placeOf_l {S : sh_St} {T : zT} (hI : zInv T) (ho : zOrd S (zLL T)) {p : Nat} (hp : p < zln T) : ∀ (n k : Nat), k ≤ zln T → zln T - k < n → fX5_placeOf_4 n S (nI (zlq T p).1) (nI (if p < k then p else 0)) (nI k) = some (nI p, S) := by
  intro n
  induction n with
  | zero => intro s h1 h2; omega
  | succ n ih =>
    intro k h1 h2
    have h7 := zln_le hI
    rw [fX5_placeOf_4]
    by_cases h9 : k = zln T
    · simp (disch := omega) only [zq_l2, pk_mul, nI_add, zq_t, zq_c, zq_bz, zq_bo, zq_g, zq_cl, zq_leT, zq_leF, zq_ltT, zq_ltF, zq_eqT, zq_eqF, zq_em, zq_me, zq_pm, zq_mm, zq_gm, pk_sub, zI_s, zI_k, zI_c, zI_2, zL_s, zL_k, zL_c, zL_1, if_true, if_false, eq_self, Nat.zero_add, Nat.add_zero, zOrd_n ho]
      rw [if_pos (by omega)]
    · have hk : k < zln T := by omega
      have hq := zlq_ok hI hk
      have hq' := zlq_ok hI hp
      have e := ih (k + 1) (by omega) (by omega)
      by_cases h8 : p = k
      · subst h8
        rw [if_pos (by omega)] at e
        simp (disch := omega) only [zq_l2, pk_mul, nI_add, zq_t, zq_c, zq_bz, zq_bo, zq_g, zq_cl, zq_leT, zq_leF, zq_ltT, zq_ltF, zq_eqT, zq_eqF, zq_em, zq_me, zq_pm, zq_mm, zq_gm, pk_sub, zI_s, zI_k, zI_c, zI_2, zL_s, zL_k, zL_c, zL_1, if_true, if_false, eq_self, Nat.zero_add, Nat.add_zero, zOrd_n ho, (zOrd_at ho hk).1, fX5_placeOf_24]
        exact e
      · have hne : (zlq T k).1 ≠ (zlq T p).1 := fun q => h8 (zlq_inj hI hp hk q.symm)
        have e2 : (if p < k + 1 then p else 0) = (if p < k then p else 0) := by split <;> split <;> omega
        rw [e2] at e
        simp (disch := omega) only [zq_l2, pk_mul, nI_add, zq_t, zq_c, zq_bz, zq_bo, zq_g, zq_cl, zq_leT, zq_leF, zq_ltT, zq_ltF, zq_eqT, zq_eqF, zq_em, zq_me, zq_pm, zq_mm, zq_gm, pk_sub, zI_s, zI_k, zI_c, zI_2, zL_s, zL_k, zL_c, zL_1, if_true, if_false, eq_self, Nat.zero_add, Nat.add_zero, zOrd_n ho, (zOrd_at ho hk).1, fX5_placeOf_24]
        exact e
theorem zx_placeOf {S : sh_St} {T : zT} (hI : zInv T) (ho : zOrd S (zLL T)) (h : Nat) : fX5_placeOf S (nI (zfl T h)) = some (nI (zpl T h), S) := by
  have h7 := zln_le hI
  rw [fX5_placeOf, ← zpl_at hI h]
  exact zx_placeOf_l hI ho (zpl_lt hI h) sh_FU 0 (by omega) (by have : sh_FU = 100000 := rfl; omega)
theorem zm_placeOf_l {S : sh_St} {T : zT} (hI : zInv T) (ho : zLin S (zLL T)) {p : Nat} (hp : p < zln T) : ∀ (n k : Nat), k ≤ p → p - k < n → fX13_placeOf_2 n S (nI (zlq T p).1) (nI k) = some (nI p, S) := by
  intro n
  induction n with
  | zero => intro s h1 h2; omega
  | succ n ih =>
    intro k h1 h2
    have h7 := zln_le hI
    have hq' := zlq_ok hI hp
    have hq := zlq_ok hI (show k < zln T by omega)
    rw [fX13_placeOf_2]
    by_cases h9 : k = p
    · subst h9
      simp (disch := omega) only [zq_l2, pk_mul, nI_add, zq_t, zq_c, zq_bz, zq_bo, zq_g, zq_cl, zq_leT, zq_leF, zq_ltT, zq_ltF, zq_eqT, zq_eqF, zq_em, zq_me, zq_pm, zq_mm, zq_gm, pk_sub, zI_s, zI_k, zI_c, zI_2, zL_s, zL_k, zL_c, zL_1, if_true, if_false, eq_self, Nat.zero_add, Nat.add_zero, (zLin_at ho hp).1]
    · have hk : k < zln T := by omega
      have hne : (zlq T k).1 ≠ (zlq T p).1 := fun q => h9 (zlq_inj hI hk hp q)
      simp (disch := omega) only [zq_l2, pk_mul, nI_add, zq_t, zq_c, zq_bz, zq_bo, zq_g, zq_cl, zq_leT, zq_leF, zq_ltT, zq_ltF, zq_eqT, zq_eqF, zq_em, zq_me, zq_pm, zq_mm, zq_gm, pk_sub, zI_s, zI_k, zI_c, zI_2, zL_s, zL_k, zL_c, zL_1, if_true, if_false, eq_self, Nat.zero_add, Nat.add_zero, (zLin_at ho hk).1]
      exact ih (k + 1) (by omega) (by omega)
theorem zm_placeOf {S : sh_St} {T : zT} (hI : zInv T) (ho : zLin S (zLL T)) (h : Nat) : fX13_placeOf S (nI (zfl T h)) = some (nI (zpl T h), S) := by
  have h7 := zln_le hI
  have h8 := zpl_lt hI h
  rw [fX13_placeOf, ← zpl_at hI h]
  exact zm_placeOf_l hI ho h8 sh_FU 0 (by omega) (by have : sh_FU = 100000 := rfl; omega)
/-- how far a hash goes on -/
def zru (T : zT) (h : Nat) : Nat → Nat → Nat
  | 0, _ => 0
  | m + 1, k => if (zlq T k).2.1 = h ∧ (zlq T k).2.2 = 1 then zru T h m (k + 1) + 1 else 0
theorem zru_le (T : zT) (h : Nat) : ∀ m k, zru T h m k ≤ m := by
  intro m
  induction m with
  | zero => intro k; exact Nat.le_refl 0
  | succ m ih =>
    intro k
    unfold zru
    have := ih (k + 1)
    split <;> omega
def zwn (T : zT) (h : Nat) : Nat := 1 + zru T h (zln T - (zpl T h + 1)) (zpl T h + 1)
theorem zwn_le {T : zT} (hI : zInv T) (h : Nat) : zpl T h + zwn T h ≤ zln T ∧ 1 ≤ zwn T h := by
  have h1 := zru_le T h (zln T - (zpl T h + 1)) (zpl T h + 1)
  have h2 := zpl_lt hI h
  unfold zwn
  omega
/-- the way as the class has it -/
def zWay (S : sh_St) (T : zT) (h : Nat) : Prop := S.1 121 2 = nI (T.1 7 0) ∧ S.1 121 3 = nI (T.1 7 0 + zwn T h) ∧ (∀ i, i < zwn T h → S.1 122 (T.1 7 0 + i) = nI (zlq T (zpl T h + i)).1) ∧ (∀ l, l < T.1 7 0 → S.1 122 l = nI (zbk T h l) ∧ S.1 123 l = nI (zr T (zbk T h l) h))
theorem zx_goesOn {S : sh_St} {T : zT} (hI : zInv T) (ho : zOrd S (zLL T)) {h k : Nat} (hh : h < 4096) (hk : k < zln T) : fX11_goesOn S (nI k) (nI h) = some (nI (if (zlq T k).2.1 = h ∧ (zlq T k).2.2 = 1 then 1 else 0), S) := by
  have h7 := zln_le hI
  obtain ⟨q1, q2, q3, q4⟩ := zlq_ok hI hk
  obtain ⟨o1, o2, o3⟩ := zOrd_at ho hk
  rw [fX11_goesOn]
  by_cases c1 : (zlq T k).2.1 = h
  · by_cases c2 : (zlq T k).2.2 = 1
    · rw [show (if (zlq T k).2.1 = h ∧ (zlq T k).2.2 = 1 then 1 else 0 : Nat) = 1 from if_pos ⟨c1, c2⟩]
      simp (disch := omega) only [zq_l2, pk_mul, nI_add, zq_t, zq_c, zq_bz, zq_bo, zq_g, zq_cl, zq_leT, zq_leF, zq_ltT, zq_ltF, zq_eqT, zq_eqF, zq_em, zq_me, zq_pm, zq_mm, zq_gm, pk_sub, zI_s, zI_k, zI_c, zI_2, zL_s, zL_k, zL_c, zL_1, if_true, if_false, eq_self, Nat.zero_add, Nat.add_zero, o2, o3]
    · rw [show (if (zlq T k).2.1 = h ∧ (zlq T k).2.2 = 1 then 1 else 0 : Nat) = 0 from if_neg (fun q => c2 q.2)]
      simp (disch := omega) only [zq_l2, pk_mul, nI_add, zq_t, zq_c, zq_bz, zq_bo, zq_g, zq_cl, zq_leT, zq_leF, zq_ltT, zq_ltF, zq_eqT, zq_eqF, zq_em, zq_me, zq_pm, zq_mm, zq_gm, pk_sub, zI_s, zI_k, zI_c, zI_2, zL_s, zL_k, zL_c, zL_1, if_true, if_false, eq_self, Nat.zero_add, Nat.add_zero, o2, o3]
  · rw [show (if (zlq T k).2.1 = h ∧ (zlq T k).2.2 = 1 then 1 else 0 : Nat) = 0 from if_neg (fun q => c1 q.1)]
    simp (disch := omega) only [zq_l2, pk_mul, nI_add, zq_t, zq_c, zq_bz, zq_bo, zq_g, zq_cl, zq_leT, zq_leF, zq_ltT, zq_ltF, zq_eqT, zq_eqF, zq_em, zq_me, zq_pm, zq_mm, zq_gm, pk_sub, zI_s, zI_k, zI_c, zI_2, zL_s, zL_k, zL_c, zL_1, if_true, if_false, eq_self, Nat.zero_add, Nat.add_zero, o2, o3]
theorem zx_trace_i {T : zT} (hI : zInv T) {h : Nat} (hh : h < 4096) : ∀ (n k : Nat) (S : sh_St), zOrd S (zLL T) → zpl T h + 1 ≤ k → k ≤ zln T → zln T - k < n → (k - zpl T h) + zru T h (zln T - k) k = zwn T h →
    S.1 121 3 = nI (T.1 7 0 + (k - zpl T h)) → (∀ i, i < k - zpl T h → S.1 122 (T.1 7 0 + i) = nI (zlq T (zpl T h + i)).1) →
    ∃ S', fX11_trace_111 n S (nI h) (nI k) = some ((), S') ∧ S'.1 121 3 = nI (T.1 7 0 + zwn T h) ∧ (∀ i, i < zwn T h → S'.1 122 (T.1 7 0 + i) = nI (zlq T (zpl T h + i)).1) ∧ (∀ j, j < T.1 7 0 → S'.1 122 j = S.1 122 j) ∧ (∀ j, j ≠ 3 → S'.1 121 j = S.1 121 j) ∧ zFr 121 122 S S' := by
  intro n
  induction n with
  | zero => intro k S _ _ h1 h2; omega
  | succ n ih =>
    intro k S ho h1 h2 h3 h4 h5 h6
    have h7 := zln_le hI
    have h8 := hI.1.1
    rw [fX11_trace_111]
    by_cases h9 : k = zln T
    · have e0 : zln T - k = 0 := by omega
      rw [e0] at h4
      have e : k - zpl T h = zwn T h := by simpa [zru] using h4
      refine ⟨S, ?_, by rw [← e]; exact h5, by rw [← e]; exact h6, fun _ _ => rfl, fun _ _ => rfl, zFr_rf _ _ S⟩
      simp (disch := omega) only [zq_l2, pk_mul, nI_add, zq_t, zq_c, zq_bz, zq_bo, zq_g, zq_cl, zq_leT, zq_leF, zq_ltT, zq_ltF, zq_eqT, zq_eqF, zq_em, zq_me, zq_pm, zq_mm, zq_gm, pk_sub, zI_s, zI_k, zI_c, zI_2, zL_s, zL_k, zL_c, zL_1, if_true, if_false, eq_self, Nat.zero_add, Nat.add_zero, zOrd_n ho]
    · have hk : k < zln T := by omega
      have hg := zx_goesOn hI ho hh hk
      obtain ⟨q1, q2, q3, q4⟩ := zlq_ok hI hk
      obtain ⟨m, hm⟩ : ∃ m, zln T - k = m + 1 := ⟨zln T - k - 1, by omega⟩
      rw [hm] at h4
      unfold zru at h4
      by_cases c : (zlq T k).2.1 = h ∧ (zlq T k).2.2 = 1
      · rw [if_pos c] at h4 hg
        have hf : zFr 121 122 S (sh_I (sh_I S 122 (T.1 7 0 + (k - zpl T h)) (nI (zlq T k).1)) 121 3 (nI (T.1 7 0 + (k - zpl T h) + 1))) := zFr_tr (zFr_I S _ _ (by omega) (by omega)) (zFr_I _ _ _ (by omega) (by omega))
        have hm' : zln T - (k + 1) = m := by omega
        have ho' : zOrd (sh_I (sh_I S 122 (T.1 7 0 + (k - zpl T h)) (nI (zlq T k).1)) 121 3 (nI (T.1 7 0 + (k - zpl T h) + 1))) (zLL T) := by
          unfold zOrd
          rw [(hf 117 (by omega)).1, (hf 118 (by omega)).1, (hf 119 (by omega)).1, (hf 120 (by omega)).1]
          exact ho
        obtain ⟨S', f1, f2, f3, f4, f5, f6⟩ := ih (k + 1) _ ho' (by omega) (by omega) (by omega) (by rw [hm']; omega)
          (by rw [zI_s]; congr 1; omega)
          (by intro i hi
              by_cases hi' : i = k - zpl T h
              · subst hi'
                simp (disch := omega) only [zq_l2, pk_mul, nI_add, zq_t, zq_c, zq_bz, zq_bo, zq_g, zq_cl, zq_leT, zq_leF, zq_ltT, zq_ltF, zq_eqT, zq_eqF, zq_em, zq_me, zq_pm, zq_mm, zq_gm, pk_sub, zI_s, zI_k, zI_c, zI_2, zL_s, zL_k, zL_c, zL_1, if_true, if_false, eq_self, Nat.zero_add, Nat.add_zero]
                rw [show zpl T h + (k - zpl T h) = k by omega]
              · simp (disch := omega) only [zq_l2, pk_mul, nI_add, zq_t, zq_c, zq_bz, zq_bo, zq_g, zq_cl, zq_leT, zq_leF, zq_ltT, zq_ltF, zq_eqT, zq_eqF, zq_em, zq_me, zq_pm, zq_mm, zq_gm, pk_sub, zI_s, zI_k, zI_c, zI_2, zL_s, zL_k, zL_c, zL_1, if_true, if_false, eq_self, Nat.zero_add, Nat.add_zero, h6 i (by omega)])
        refine ⟨S', ?_, f2, f3, fun j hj => ?_, fun j hj => ?_, zFr_tr hf f6⟩
        · simp (disch := omega) only [zq_l2, pk_mul, nI_add, zq_t, zq_c, zq_bz, zq_bo, zq_g, zq_cl, zq_leT, zq_leF, zq_ltT, zq_ltF, zq_eqT, zq_eqF, zq_em, zq_me, zq_pm, zq_mm, zq_gm, pk_sub, zI_s, zI_k, zI_c, zI_2, zL_s, zL_k, zL_c, zL_1, if_true, if_false, eq_self, Nat.zero_add, Nat.add_zero, zOrd_n ho, hg, (zOrd_at ho hk).1, h5]
          exact f1
        · rw [f4 j hj]
          simp (disch := omega) only [zq_l2, pk_mul, nI_add, zq_t, zq_c, zq_bz, zq_bo, zq_g, zq_cl, zq_leT, zq_leF, zq_ltT, zq_ltF, zq_eqT, zq_eqF, zq_em, zq_me, zq_pm, zq_mm, zq_gm, pk_sub, zI_s, zI_k, zI_c, zI_2, zL_s, zL_k, zL_c, zL_1, if_true, if_false, eq_self, Nat.zero_add, Nat.add_zero]
        · rw [f5 j hj]
          simp (disch := omega) only [zq_l2, pk_mul, nI_add, zq_t, zq_c, zq_bz, zq_bo, zq_g, zq_cl, zq_leT, zq_leF, zq_ltT, zq_ltF, zq_eqT, zq_eqF, zq_em, zq_me, zq_pm, zq_mm, zq_gm, pk_sub, zI_s, zI_k, zI_c, zI_2, zL_s, zL_k, zL_c, zL_1, if_true, if_false, eq_self, Nat.zero_add, Nat.add_zero]
      · rw [if_neg c] at h4 hg
        have e : k - zpl T h = zwn T h := by omega
        refine ⟨S, ?_, by rw [← e]; exact h5, by rw [← e]; exact h6, fun _ _ => rfl, fun _ _ => rfl, zFr_rf _ _ S⟩
        simp (disch := omega) only [zq_l2, pk_mul, nI_add, zq_t, zq_c, zq_bz, zq_bo, zq_g, zq_cl, zq_leT, zq_leF, zq_ltT, zq_ltF, zq_eqT, zq_eqF, zq_em, zq_me, zq_pm, zq_mm, zq_gm, pk_sub, zI_s, zI_k, zI_c, zI_2, zL_s, zL_k, zL_c, zL_1, if_true, if_false, eq_self, Nat.zero_add, Nat.add_zero, zOrd_n ho, hg]
theorem zOrd_fr {lo hi : Nat} {S S' : sh_St} {L : List (Nat × Nat × Nat)} (hf : zFr lo hi S S') (h : 120 < lo ∨ hi < 117) (ho : zOrd S L) : zOrd S' L := by
  unfold zOrd
  rw [(hf 117 (by omega)).1, (hf 118 (by omega)).1, (hf 119 (by omega)).1, (hf 120 (by omega)).1]
  exact ho
theorem zx_trace_l {T : zT} (hI : zInv T) {h : Nat} (hh : h < 4096) : ∀ (n l : Nat) (S : sh_St), zVX S 4 T → zOrd S (zLL T) → l ≤ T.1 7 0 → T.1 7 0 - l < n → S.1 121 2 = nI (T.1 7 0) → (∀ j, j < l → S.1 122 j = nI (zbk T h j) ∧ S.1 123 j = nI (zr T (zbk T h j) h)) →
    ∃ S', fX11_trace_18 n S (nI h) (nI (zbk T h l)) (nI l) = some ((), S') ∧ zWay S' T h ∧ zFr 121 123 S S' := by
  intro n
  induction n with
  | zero => intro l S _ _ h1 h2; omega
  | succ n ih =>
    intro l S hv ho h1 h2 h3 h4
    have h7 := hI.1.1
    have h8 := zpl_lt hI h
    have h9 := zln_le hI
    rw [fX11_trace_18]
    by_cases hl : l = T.1 7 0
    · subst hl
      have hf : zFr 121 123 S (sh_I (sh_I S 122 (T.1 7 0) (nI (zfl T h))) 121 3 (nI (T.1 7 0 + 1))) := zFr_tr (zFr_I S _ _ (by omega) (by omega)) (zFr_I _ _ _ (by omega) (by omega))
      have ho' := zOrd_fr hf (by omega) ho
      have hp := zx_placeOf hI ho' h
      obtain ⟨S', f1, f2, f3, f4, f5, f6⟩ := zx_trace_i hI hh sh_FU (zpl T h + 1) _ ho' (by omega) (by omega) (by have : sh_FU = 100000 := rfl; omega)
        (by unfold zwn; congr 1; omega)
        (by rw [zI_s]; congr 1; omega)
        (by intro i hi
            have hi' : i = 0 := by omega
            subst hi'
            simp (disch := omega) only [zq_l2, pk_mul, nI_add, zq_t, zq_c, zq_bz, zq_bo, zq_g, zq_cl, zq_leT, zq_leF, zq_ltT, zq_ltF, zq_eqT, zq_eqF, zq_em, zq_me, zq_pm, zq_mm, zq_gm, pk_sub, zI_s, zI_k, zI_c, zI_2, zL_s, zL_k, zL_c, zL_1, if_true, if_false, eq_self, Nat.zero_add, Nat.add_zero, zpl_at hI h])
      refine ⟨S', ?_, ⟨?_, f2, f3, fun j hj => ⟨?_, ?_⟩⟩, zFr_tr hf (zFr_wd f6 (by omega) (by omega))⟩
      · simp (disch := omega) only [zq_l2, pk_mul, nI_add, zq_t, zq_c, zq_bz, zq_bo, zq_g, zq_cl, zq_leT, zq_leF, zq_ltT, zq_ltF, zq_eqT, zq_eqF, zq_em, zq_me, zq_pm, zq_mm, zq_gm, pk_sub, zI_s, zI_k, zI_c, zI_2, zL_s, zL_k, zL_c, zL_1, if_true, if_false, eq_self, Nat.zero_add, Nat.add_zero, h3, hp]
        exact f1
      · rw [f5 2 (by omega)]
        simp (disch := omega) only [zq_l2, pk_mul, nI_add, zq_t, zq_c, zq_bz, zq_bo, zq_g, zq_cl, zq_leT, zq_leF, zq_ltT, zq_ltF, zq_eqT, zq_eqF, zq_em, zq_me, zq_pm, zq_mm, zq_gm, pk_sub, zI_s, zI_k, zI_c, zI_2, zL_s, zL_k, zL_c, zL_1, if_true, if_false, eq_self, Nat.zero_add, Nat.add_zero, h3]
      · rw [f4 j hj]
        simp (disch := omega) only [zq_l2, pk_mul, nI_add, zq_t, zq_c, zq_bz, zq_bo, zq_g, zq_cl, zq_leT, zq_leF, zq_ltT, zq_ltF, zq_eqT, zq_eqF, zq_em, zq_me, zq_pm, zq_mm, zq_gm, pk_sub, zI_s, zI_k, zI_c, zI_2, zL_s, zL_k, zL_c, zL_1, if_true, if_false, eq_self, Nat.zero_add, Nat.add_zero, (h4 j hj).1]
      · rw [(f6 123 (by omega)).1]
        simp (disch := omega) only [zq_l2, pk_mul, nI_add, zq_t, zq_c, zq_bz, zq_bo, zq_g, zq_cl, zq_leT, zq_leF, zq_ltT, zq_ltF, zq_eqT, zq_eqF, zq_em, zq_me, zq_pm, zq_mm, zq_gm, pk_sub, zI_s, zI_k, zI_c, zI_2, zL_s, zL_k, zL_c, zL_1, if_true, if_false, eq_self, Nat.zero_add, Nat.add_zero, (h4 j hj).2]
    · obtain ⟨a, b, c⟩ := zbk_lo hI h (show l < T.1 7 0 by omega)
      have h5 := zInv_c5 hI a
      have hf1 : zFr 121 123 S (sh_I S 122 l (nI (zbk T h l))) := zFr_I S _ _ (by omega) (by omega)
      have hf : zFr 121 123 S (sh_I (sh_I S 122 l (nI (zbk T h l))) 123 l (nI (zr T (zbk T h l) h))) := zFr_tr hf1 (zFr_I _ _ _ (by omega) (by omega))
      have hv1 := zVX_f4 hf1 (by omega) hv
      have hrf := zx_rowFor hv1 hI a hh
      obtain ⟨S', f1, f2, f3⟩ := ih (l + 1) _ (zVX_f4 hf (by omega) hv) (zOrd_fr hf (by omega) ho) (by omega) (by omega)
        (by simp (disch := omega) only [zq_l2, pk_mul, nI_add, zq_t, zq_c, zq_bz, zq_bo, zq_g, zq_cl, zq_leT, zq_leF, zq_ltT, zq_ltF, zq_eqT, zq_eqF, zq_em, zq_me, zq_pm, zq_mm, zq_gm, pk_sub, zI_s, zI_k, zI_c, zI_2, zL_s, zL_k, zL_c, zL_1, if_true, if_false, eq_self, Nat.zero_add, Nat.add_zero, h3])
        (by intro j hj
            by_cases hj' : j = l
            · subst hj'
              refine ⟨?_, ?_⟩
              · simp (disch := omega) only [zq_l2, pk_mul, nI_add, zq_t, zq_c, zq_bz, zq_bo, zq_g, zq_cl, zq_leT, zq_leF, zq_ltT, zq_ltF, zq_eqT, zq_eqF, zq_em, zq_me, zq_pm, zq_mm, zq_gm, pk_sub, zI_s, zI_k, zI_c, zI_2, zL_s, zL_k, zL_c, zL_1, if_true, if_false, eq_self, Nat.zero_add, Nat.add_zero]
              · simp (disch := omega) only [zq_l2, pk_mul, nI_add, zq_t, zq_c, zq_bz, zq_bo, zq_g, zq_cl, zq_leT, zq_leF, zq_ltT, zq_ltF, zq_eqT, zq_eqF, zq_em, zq_me, zq_pm, zq_mm, zq_gm, pk_sub, zI_s, zI_k, zI_c, zI_2, zL_s, zL_k, zL_c, zL_1, if_true, if_false, eq_self, Nat.zero_add, Nat.add_zero]
            · refine ⟨?_, ?_⟩
              · simp (disch := omega) only [zq_l2, pk_mul, nI_add, zq_t, zq_c, zq_bz, zq_bo, zq_g, zq_cl, zq_leT, zq_leF, zq_ltT, zq_ltF, zq_eqT, zq_eqF, zq_em, zq_me, zq_pm, zq_mm, zq_gm, pk_sub, zI_s, zI_k, zI_c, zI_2, zL_s, zL_k, zL_c, zL_1, if_true, if_false, eq_self, Nat.zero_add, Nat.add_zero, (h4 j (by omega)).1]
              · simp (disch := omega) only [zq_l2, pk_mul, nI_add, zq_t, zq_c, zq_bz, zq_bo, zq_g, zq_cl, zq_leT, zq_leF, zq_ltT, zq_ltF, zq_eqT, zq_eqF, zq_em, zq_me, zq_pm, zq_mm, zq_gm, pk_sub, zI_s, zI_k, zI_c, zI_2, zL_s, zL_k, zL_c, zL_1, if_true, if_false, eq_self, Nat.zero_add, Nat.add_zero, (h4 j (by omega)).2])
      refine ⟨S', ?_, f2, zFr_tr hf f3⟩
      simp (disch := omega) only [zq_l2, pk_mul, nI_add, zq_t, zq_c, zq_bz, zq_bo, zq_g, zq_cl, zq_leT, zq_leF, zq_ltT, zq_ltF, zq_eqT, zq_eqF, zq_em, zq_me, zq_pm, zq_mm, zq_gm, pk_sub, zI_s, zI_k, zI_c, zI_2, zL_s, zL_k, zL_c, zL_1, if_true, if_false, eq_self, Nat.zero_add, Nat.add_zero, h3, hrf, zX_g hv a c]
      exact f1
theorem zx_way {S : sh_St} {T : zT} (hv : zVX S 4 T) (hI : zInv T) (ho : zOrd S (zLL T)) {h : Nat} (hh : h < 4096) : ∃ S', fX11_trace S (nI h) = some ((), S') ∧ zWay S' T h ∧ zFr 121 123 S S' := by
  have h7 := hI.1.1
  have hf : zFr 121 123 S (sh_I S 121 2 (nI (T.1 7 0))) := zFr_I S _ _ (by omega) (by omega)
  obtain ⟨S', f1, f2, f3⟩ := zx_trace_l hI hh sh_FU 0 _ (zVX_f4 hf (by omega) hv) (zOrd_fr hf (by omega) ho) (by omega) (by have : sh_FU = 100000 := rfl; omega) (zI_s _ _ _ _) (by intro j hj; omega)
  refine ⟨S', ?_, f2, zFr_tr hf f3⟩
  rw [fX11_trace]
  simp (disch := omega) only [zq_l2, pk_mul, nI_add, zq_t, zq_c, zq_bz, zq_bo, zq_g, zq_cl, zq_leT, zq_leF, zq_ltT, zq_ltF, zq_eqT, zq_eqF, zq_em, zq_me, zq_pm, zq_mm, zq_gm, pk_sub, zI_s, zI_k, zI_c, zI_2, zL_s, zL_k, zL_c, zL_1, if_true, if_false, eq_self, Nat.zero_add, Nat.add_zero, zX_v hv]
  exact f1
theorem zx_trace {S : sh_St} {T : zT} (hv : zVX S 4 T) (hI : zInv T) {h : Nat} (hh : h < 4096) : ∃ S', fX4_trace S (nI h) = some ((), S') ∧ zWay S' T h ∧ zOrd S' (zLL T) ∧ zFr 117 123 S S' := by
  obtain ⟨S1, e1, e2, e3⟩ := zx_gather hv hI
  obtain ⟨S2, f1, f2, f3⟩ := zx_way (zVX_f4 e3 (by omega) hv) hI e2 hh
  refine ⟨S2, ?_, f2, zOrd_fr f3 (by omega) e2, zFr_tr (zFr_wd e3 (by omega) (by omega)) (zFr_wd f3 (by omega) (by omega))⟩
  rw [fX4_trace]
  simp (disch := omega) only [zq_l2, pk_mul, nI_add, zq_t, zq_c, zq_bz, zq_bo, zq_g, zq_cl, zq_leT, zq_leF, zq_ltT, zq_ltF, zq_eqT, zq_eqF, zq_em, zq_me, zq_pm, zq_mm, zq_gm, pk_sub, zI_s, zI_k, zI_c, zI_2, zL_s, zL_k, zL_c, zL_1, if_true, if_false, eq_self, Nat.zero_add, Nat.add_zero, e1, f1]
/-- the way as the reference has it -/
def zGo (S : sh_St) (T : zT) (h : Nat) : Prop := S.1 0 28 = nI (zpl T h) ∧ S.1 0 29 = nI (zwn T h)
theorem zLin_0 {S : sh_St} {L : List (Nat × Nat × Nat)} {k : Nat} (v : Int32) (hk : k ≠ 27) (h : zLin S L) : zLin (sh_I S 0 k v) L := by
  unfold zLin
  rw [zI_c S 0 k v (show 15 ≠ 0 by decide), zI_c S 0 k v (show 16 ≠ 0 by decide), zI_c S 0 k v (show 17 ≠ 0 by decide), zI_k S 0 k v (show 27 ≠ k by omega)]
  exact h
theorem zm_goes_l {T : zT} (hI : zInv T) {h : Nat} (hh : h < 4096) : ∀ (n k : Nat) (S : sh_St), zLin S (zLL T) → zpl T h + 1 ≤ k → k ≤ zln T → zln T - k < n → (k - zpl T h) + zru T h (zln T - k) k = zwn T h →
    S.1 0 28 = nI (zpl T h) → S.1 0 29 = nI (k - zpl T h) → ∃ S', fX13_goes_22 n S (nI h) = some ((), S') ∧ zGo S' T h ∧ zLin S' (zLL T) ∧ zFn S S' := by
  intro n
  induction n with
  | zero => intro k S _ _ h1 h2; omega
  | succ n ih =>
    intro k S ho h1 h2 h3 h4 h5 h6
    have h7 := zln_le hI
    have ek : zpl T h + (k - zpl T h) = k := by omega
    rw [fX13_goes_22]
    by_cases h9 : k = zln T
    · have e0 : zln T - k = 0 := by omega
      rw [e0] at h4
      have e : k - zpl T h = zwn T h := by simpa [zru] using h4
      refine ⟨S, ?_, ⟨h5, by rw [← e]; exact h6⟩, ho, zFn_rf S⟩
      simp (disch := omega) only [zq_l2, pk_mul, nI_add, zq_t, zq_c, zq_bz, zq_bo, zq_g, zq_cl, zq_leT, zq_leF, zq_ltT, zq_ltF, zq_eqT, zq_eqF, zq_em, zq_me, zq_pm, zq_mm, zq_gm, pk_sub, zI_s, zI_k, zI_c, zI_2, zL_s, zL_k, zL_c, zL_1, if_true, if_false, eq_self, Nat.zero_add, Nat.add_zero, zLin_n ho, h5, h6]
    · have hk : k < zln T := by omega
      obtain ⟨q1, q2, q3, q4⟩ := zlq_ok hI hk
      obtain ⟨o1, o2, o3⟩ := zLin_at ho hk
      obtain ⟨m, hm⟩ : ∃ m, zln T - k = m + 1 := ⟨zln T - k - 1, by omega⟩
      rw [hm] at h4
      unfold zru at h4
      by_cases c : (zlq T k).2.1 = h ∧ (zlq T k).2.2 = 1
      · rw [if_pos c] at h4
        have hm' : zln T - (k + 1) = m := by omega
        have hf : zFn S (sh_I S 0 29 (nI (k - zpl T h + 1))) := zFn_0 S _ (by omega)
        obtain ⟨S', f1, f2, f3, f4⟩ := ih (k + 1) _ (zLin_0 (nI (k - zpl T h + 1)) (k := 29) (by omega) ho) (by omega) (by omega) (by omega) (by rw [hm']; omega)
          (by simp (disch := omega) only [zq_l2, pk_mul, nI_add, zq_t, zq_c, zq_bz, zq_bo, zq_g, zq_cl, zq_leT, zq_leF, zq_ltT, zq_ltF, zq_eqT, zq_eqF, zq_em, zq_me, zq_pm, zq_mm, zq_gm, pk_sub, zI_s, zI_k, zI_c, zI_2, zL_s, zL_k, zL_c, zL_1, if_true, if_false, eq_self, Nat.zero_add, Nat.add_zero, h5])
          (by rw [zI_s]; congr 1; omega)
        refine ⟨S', ?_, f2, f3, zFn_tr hf f4⟩
        have c1 := c.1
        have c2 := c.2
        simp (disch := omega) only [zq_l2, pk_mul, nI_add, zq_t, zq_c, zq_bz, zq_bo, zq_g, zq_cl, zq_leT, zq_leF, zq_ltT, zq_ltF, zq_eqT, zq_eqF, zq_em, zq_me, zq_pm, zq_mm, zq_gm, pk_sub, zI_s, zI_k, zI_c, zI_2, zL_s, zL_k, zL_c, zL_1, if_true, if_false, eq_self, Nat.zero_add, Nat.add_zero, zLin_n ho, h5, h6, ek, o2, o3]
        exact f1
      · rw [if_neg c] at h4
        have e : k - zpl T h = zwn T h := by omega
        refine ⟨S, ?_, ⟨h5, by rw [← e]; exact h6⟩, ho, zFn_rf S⟩
        by_cases c1 : (zlq T k).2.1 = h
        · have c2 : (zlq T k).2.2 ≠ 1 := fun q => c ⟨c1, q⟩
          simp (disch := omega) only [zq_l2, pk_mul, nI_add, zq_t, zq_c, zq_bz, zq_bo, zq_g, zq_cl, zq_leT, zq_leF, zq_ltT, zq_ltF, zq_eqT, zq_eqF, zq_em, zq_me, zq_pm, zq_mm, zq_gm, pk_sub, zI_s, zI_k, zI_c, zI_2, zL_s, zL_k, zL_c, zL_1, if_true, if_false, eq_self, Nat.zero_add, Nat.add_zero, zLin_n ho, h5, h6, ek, o2, o3]
        · simp (disch := omega) only [zq_l2, pk_mul, nI_add, zq_t, zq_c, zq_bz, zq_bo, zq_g, zq_cl, zq_leT, zq_leF, zq_ltT, zq_ltF, zq_eqT, zq_eqF, zq_em, zq_me, zq_pm, zq_mm, zq_gm, pk_sub, zI_s, zI_k, zI_c, zI_2, zL_s, zL_k, zL_c, zL_1, if_true, if_false, eq_self, Nat.zero_add, Nat.add_zero, zLin_n ho, h5, h6, ek, o2, o3]
theorem zm_goes {S : sh_St} {T : zT} (hv : zVN S T) (hI : zInv T) {h : Nat} (hh : h < 4096) : ∃ S', fX13_goes S (nI h) = some ((), S') ∧ zGo S' T h ∧ zLin S' (zLL T) ∧ zFn S S' := by
  have h8 := zpl_lt hI h
  have h9 := zln_le hI
  obtain ⟨S1, e1, e2, e3⟩ := zm_lays hv hI
  have hf := zm_firstOf (zVN_fn e3 hv) hI hh
  have hp := zm_placeOf hI e2 h
  have hf2 : zFn S1 (sh_I (sh_I S1 0 28 (nI (zpl T h))) 0 29 (nI 1)) := zFn_tr (zFn_0 S1 _ (by omega)) (zFn_0 _ _ (by omega))
  obtain ⟨S', f1, f2, f3, f4⟩ := zm_goes_l hI hh sh_FU (zpl T h + 1) (sh_I (sh_I S1 0 28 (nI (zpl T h))) 0 29 (nI 1)) (zLin_0 _ (by omega) (zLin_0 _ (by omega) e2)) (by omega) (by omega) (by have : sh_FU = 100000 := rfl; omega)
    (by unfold zwn; congr 1; omega)
    (by simp (disch := omega) only [zq_l2, pk_mul, nI_add, zq_t, zq_c, zq_bz, zq_bo, zq_g, zq_cl, zq_leT, zq_leF, zq_ltT, zq_ltF, zq_eqT, zq_eqF, zq_em, zq_me, zq_pm, zq_mm, zq_gm, pk_sub, zI_s, zI_k, zI_c, zI_2, zL_s, zL_k, zL_c, zL_1, if_true, if_false, eq_self, Nat.zero_add, Nat.add_zero])
    (by rw [zI_s]; congr 1; omega)
  refine ⟨S', ?_, f2, f3, zFn_tr (zFn_tr e3 hf2) f4⟩
  rw [fX13_goes]
  simp (disch := omega) only [zq_l2, pk_mul, nI_add, zq_t, zq_c, zq_bz, zq_bo, zq_g, zq_cl, zq_leT, zq_leF, zq_ltT, zq_ltF, zq_eqT, zq_eqF, zq_em, zq_me, zq_pm, zq_mm, zq_gm, pk_sub, zI_s, zI_k, zI_c, zI_2, zL_s, zL_k, zL_c, zL_1, if_true, if_false, eq_self, Nat.zero_add, Nat.add_zero, e1, hf, hp]
  exact f1
