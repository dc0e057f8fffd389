/-! the order of the hashes along the leaves: what is searched is found -/
def zqy (T : zT) (p h : Nat) : Prop := (zlq T p).2.1 < h ∨ ((zlq T p).2.1 = h ∧ (zlq T p).2.2 = 0)
def zbe (T : zT) (p h : Nat) : Prop := p + 1 < zln T → h < (zlq T (p + 1)).2.1 ∨ (h = (zlq T (p + 1)).2.1 ∧ (zlq T (p + 1)).2.2 = 1)
def zSo (T : zT) : Prop := (zlq T 0).2.1 = 0 ∧ (zlq T 0).2.2 = 0 ∧ ∀ p, zbe T p (zlq T p).2.1
def zRt (T : zT) : Prop := T.1 7 0 = 2 → ∀ r, r < T.1 1 0 → T.1 4 r = T.1 4 (T.1 6 r * 6) ∧ T.1 5 r = T.1 5 (T.1 6 r * 6)
def zLe (T : zT) : Prop := ∀ k, k < 240 → T.2 k ≠ 0 → ∃ p, p < zln T ∧ (zlq T p).1 = k / 6 ∧ (zlq T p).2.1 ≤ zha T (T.2 k) ∧ zbe T p (zha T (T.2 k))
theorem zrf_sp (T : zT) (b h : Nat) : ∀ s, (∀ r, zrf T b h s < r → r < s → ¬ zrp T b h r = true) ∧ (zrp T b h (zrf T b h s) = true ∨ zrf T b h s = 0) := by
  intro s
  induction s with
  | zero => exact ⟨fun r _ h2 => by omega, Or.inr rfl⟩
  | succ s ih =>
    by_cases c : zrp T b h s = true
    · rw [zrf_t c]
      exact ⟨fun r h1 h2 => by omega, Or.inl c⟩
    · rw [zrf_f c]
      refine ⟨fun r h1 h2 => ?_, ih.2⟩
      by_cases e : r = s
      · subst e; exact c
      · exact ih.1 r h1 (by omega)
theorem zLp_at {T : zT} {b s r : Nat} (h : r < s) : (zLp T b s)[r]? = some (T.1 6 (b * 6 + r), T.1 4 (b * 6 + r), T.1 5 (b * 6 + r)) := by
  unfold zLp
  rw [List.getElem?_map, List.getElem?_range h]
  rfl
theorem zQ_at {T : zT} : ∀ n r s, r < n → s < T.1 1 (T.1 6 r) → (zQ T n)[(zQ T r).length + s]? = some (T.1 6 (T.1 6 r * 6 + s), T.1 4 (T.1 6 r * 6 + s), T.1 5 (T.1 6 r * 6 + s)) := by
  intro n
  induction n with
  | zero => intro r s hr hs; omega
  | succ n ih =>
    intro r s hr hs
    rw [zQ_s]
    by_cases e : r = n
    · subst e
      rw [List.getElem?_append_right (by omega), Nat.add_sub_cancel_left]
      exact zLp_at hs
    · have h1 := ih r s (by omega) hs
      rw [List.getElem?_append_left (List.getElem?_eq_some_iff.mp h1).1]
      exact h1
theorem zQ_sl (T : zT) (r : Nat) : (zQ T (r + 1)).length = (zQ T r).length + T.1 1 (T.1 6 r) := by
  rw [zQ_s, List.length_append]
  unfold zL1
  rw [zLp_len]
theorem zlq_of {T : zT} {k : Nat} {q : Nat × Nat × Nat} (h : (zLL T)[k]? = some q) : zlq T k = q ∧ k < zln T := by
  refine ⟨?_, (List.getElem?_eq_some_iff.mp h).1⟩
  unfold zlq
  rw [List.getD_eq_getElem?_getD, h]
  rfl
theorem znq {T : zT} (hI : zInv T) {p h : Nat} (hp : p < zln T) (hq : ¬ zqy T p h) : h < (zlq T p).2.1 ∨ (h = (zlq T p).2.1 ∧ (zlq T p).2.2 = 1) := by
  have h1 := (zlq_ok hI hp).2.2.1
  unfold zqy at hq
  omega
theorem zpl_is {T : zT} (hI : zInv T) {p h : Nat} (hp : p < zln T) (e : (zlq T p).1 = zfl T h) : zpl T h = p := zlq_inj hI (zpl_lt hI h) hp (by rw [zpl_at hI h, e])
theorem zqy0 {T : zT} (hs : zSo T) (h : Nat) : zqy T 0 h := by
  unfold zqy
  rw [hs.1, hs.2.1]
  omega
theorem zrp_q {T : zT} {b h r p : Nat} (e : zlq T p = (T.1 6 (b * 6 + r), T.1 4 (b * 6 + r), T.1 5 (b * 6 + r))) : zrp T b h r = true ↔ zqy T p h := by
  unfold zrp zqy
  rw [e, decide_eq_true_iff]
theorem zLL_1 {T : zT} (h : T.1 7 0 = 1) : zLL T = zLp T 0 (T.1 1 0) := by
  unfold zLL
  rw [if_neg (by omega), if_pos h]
  rfl
theorem zLL_2 {T : zT} (h : T.1 7 0 = 2) : zLL T = zQ T (T.1 1 0) := by
  unfold zLL
  rw [if_neg (by omega), if_neg (by omega)]
theorem zLL_0 {T : zT} (h : T.1 7 0 = 0) : zLL T = [(0, 0, 0)] := by
  unfold zLL
  rw [if_pos h]
/-- the place of a row of an index below the root -/
theorem zpos2 {T : zT} (h2 : T.1 7 0 = 2) {r s : Nat} (hr : r < T.1 1 0) (hs : s < T.1 1 (T.1 6 r)) : zlq T ((zQ T r).length + s) = (T.1 6 (T.1 6 r * 6 + s), T.1 4 (T.1 6 r * 6 + s), T.1 5 (T.1 6 r * 6 + s)) ∧ (zQ T r).length + s < zln T := by
  have h := zQ_at (T := T) (T.1 1 0) r s hr hs
  rw [← zLL_2 h2] at h
  exact zlq_of h
theorem zpos1 {T : zT} (h1 : T.1 7 0 = 1) {r : Nat} (hr : r < T.1 1 0) : zlq T r = (T.1 6 (0 * 6 + r), T.1 4 (0 * 6 + r), T.1 5 (0 * 6 + r)) ∧ r < zln T := by
  have h := zLp_at (T := T) (b := 0) hr
  rw [← zLL_1 h1] at h
  exact zlq_of h
theorem zln_1 {T : zT} (h1 : T.1 7 0 = 1) : zln T = T.1 1 0 := by
  unfold zln
  rw [zLL_1 h1, zLp_len]
theorem zln_2 {T : zT} (h2 : T.1 7 0 = 2) : zln T = (zQ T (T.1 1 0)).length := by
  unfold zln
  rw [zLL_2 h2]
/-- the place of the first leaf, by the rows that are taken -/
theorem zpl_1 {T : zT} (hI : zInv T) (h1 : T.1 7 0 = 1) (h : Nat) : zpl T h = zr T 0 h ∧ zr T 0 h < T.1 1 0 := by
  have hk0 : T.1 0 0 = 2 := by rw [zInv_k0 hI, if_neg (by omega)]
  have hr := zInv_r2 hI (b := 0) (by omega) hk0 h
  refine ⟨zpl_is hI (zpos1 h1 hr).2 ?_, hr⟩
  rw [(zpos1 h1 hr).1]
  have e := zfl_up (T := T) (h := h) (by omega)
  rw [h1] at e
  exact e.symm
theorem zpl_2 {T : zT} (hI : zInv T) (h2 : T.1 7 0 = 2) (h : Nat) : zr T 0 h < T.1 1 0 ∧ zbk T h 1 = T.1 6 (zr T 0 h) ∧ zr T (T.1 6 (zr T 0 h)) h < T.1 1 (T.1 6 (zr T 0 h)) ∧ zpl T h = (zQ T (zr T 0 h)).length + zr T (T.1 6 (zr T 0 h)) h := by
  have hk0 : T.1 0 0 = 2 := by rw [zInv_k0 hI, if_neg (by omega)]
  have hr := zInv_r2 hI (b := 0) (by omega) hk0 h
  have eb : zbk T h 1 = T.1 6 (zr T 0 h) := by
    show T.1 6 (0 * 6 + zr T 0 h) = _
    rw [show 0 * 6 + zr T 0 h = zr T 0 h by omega]
  have hlo := zbk_lo hI h (l := 1) (by omega)
  rw [eb] at hlo
  refine ⟨hr, eb, hlo.2.2, zpl_is hI (zpos2 h2 hr hlo.2.2).2 ?_⟩
  rw [(zpos2 h2 hr hlo.2.2).1]
  have e := zfl_up (T := T) (h := h) (by omega)
  rw [h2] at e
  have e' : zfl T h = T.1 6 (zbk T h 1 * 6 + zr T (zbk T h 1) h) := e
  rw [eb] at e'
  exact e'.symm
theorem zfirst {T : zT} (hI : zInv T) (hs : zSo T) (ht : zRt T) (h : Nat) : zqy T (zpl T h) h ∧ zbe T (zpl T h) h := by
  have hl2 : T.1 7 0 ≤ 2 := hI.1.1
  by_cases h0 : T.1 7 0 = 0
  · have hn : zln T = 1 := by unfold zln; rw [zLL_0 h0]; rfl
    have hp : zpl T h = 0 := by have := zpl_lt hI h; omega
    rw [hp]
    exact ⟨zqy0 hs h, fun q => by omega⟩
  · have hk0 : T.1 0 0 = 2 := by rw [zInv_k0 hI, if_neg h0]
    obtain ⟨p1, p2⟩ := zrf_sp T 0 h (T.1 1 0)
    by_cases h1 : T.1 7 0 = 1
    · obtain ⟨e, hr⟩ := zpl_1 hI h1 h
      rw [e]
      refine ⟨?_, fun q => ?_⟩
      · rcases p2 with w | w
        · exact (zrp_q (zpos1 h1 hr).1).1 w
        · have : zr T 0 h = 0 := w
          rw [this]; exact zqy0 hs h
      · rw [zln_1 h1] at q
        have hq := p1 (zr T 0 h + 1) (Nat.lt_succ_self _) q
        exact znq hI (zpos1 h1 q).2 (fun w => hq ((zrp_q (zpos1 h1 q).1).2 w))
    · have h2 : T.1 7 0 = 2 := by omega
      obtain ⟨hr, eb, hc, e⟩ := zpl_2 hI h2 h
      have hz : ∀ r, 0 * 6 + r = r := fun r => by omega
      have hroot : ∀ r, r < T.1 1 0 → ∀ p, zlq T p = (T.1 6 (T.1 6 r * 6 + 0), T.1 4 (T.1 6 r * 6 + 0), T.1 5 (T.1 6 r * 6 + 0)) → (zrp T 0 h r = true ↔ zqy T p h) := fun r hr' p ep => by
        have hx := ht h2 r hr'
        unfold zrp zqy
        rw [ep, decide_eq_true_iff, hz, hx.1, hx.2]
        exact Iff.rfl
      obtain ⟨q1, q2⟩ := zrf_sp T (T.1 6 (zr T 0 h)) h (T.1 1 (T.1 6 (zr T 0 h)))
      rw [e]
      refine ⟨?_, fun q => ?_⟩
      · rcases q2 with w | w
        · exact (zrp_q (zpos2 h2 hr hc).1).1 w
        · have w0 : zr T (T.1 6 (zr T 0 h)) h = 0 := w
          rw [w0]
          rw [w0] at hc
          rcases p2 with v | v
          · exact (hroot _ hr _ (zpos2 h2 hr hc).1).1 v
          · have v0 : zr T 0 h = 0 := v
            rw [v0]
            exact zqy0 hs h
      · by_cases c : zr T (T.1 6 (zr T 0 h)) h + 1 < T.1 1 (T.1 6 (zr T 0 h))
        · have hq := q1 _ (Nat.lt_succ_self _) c
          exact znq hI q (fun w => hq ((zrp_q (zpos2 h2 hr c).1).2 w))
        · have hx : (zQ T (zr T 0 h)).length + zr T (T.1 6 (zr T 0 h)) h + 1 = (zQ T (zr T 0 h + 1)).length + 0 := by rw [zQ_sl]; omega
          by_cases d : zr T 0 h + 1 < T.1 1 0
          · have hq := p1 _ (Nat.lt_succ_self _) d
            have hc1 : T.1 6 (zr T 0 h + 1) < 40 := zInv_c0 hI d
            have hk1 : T.1 0 (T.1 6 (zr T 0 h + 1)) = 2 := by
              have := zInv_k1 hI d
              rw [hz, if_pos h2] at this
              exact this
            have h1c : 0 < T.1 1 (T.1 6 (zr T 0 h + 1)) := (hI.2.1 _ hc1).2.2.2.2 hk1
            rw [hx] at q ⊢
            exact znq hI q (fun w => hq ((hroot _ d _ (zpos2 h2 d h1c).1).2 w))
          · have : zr T 0 h + 1 = T.1 1 0 := by omega
            rw [hx, this, zln_2 h2] at q
            omega
/-- limits do not fall -/
theorem zmono {T : zT} (hs : zSo T) : ∀ (d p : Nat), p + d < zln T → (zlq T p).2.1 ≤ (zlq T (p + d)).2.1 := by
  intro d
  induction d with
  | zero => intro p _; exact Nat.le_refl _
  | succ d ih =>
    intro p h
    have h1 := ih p (by omega)
    have h2 := hs.2.2 (p + d) (by omega)
    rw [show p + (d + 1) = p + d + 1 by omega]
    omega
theorem zmono' {T : zT} (hs : zSo T) {p q : Nat} (h : p ≤ q) (hq : q < zln T) : (zlq T p).2.1 ≤ (zlq T q).2.1 := by
  have := zmono hs (q - p) p (by omega)
  rw [show p + (q - p) = q by omega] at this
  exact this
theorem zru_ge (T : zT) (h : Nat) : ∀ (m k t : Nat), t ≤ m → (∀ j, k ≤ j → j < k + t → (zlq T j).2.1 = h ∧ (zlq T j).2.2 = 1) → t ≤ zru T h m k := by
  intro m
  induction m with
  | zero => intro k t h1 _; omega
  | succ m ih =>
    intro k t h1 h2
    by_cases ht : t = 0
    · omega
    · unfold zru
      rw [if_pos (h2 k (by omega) (by omega))]
      have := ih (k + 1) (t - 1) (by omega) (fun j a b => h2 j (by omega) (by omega))
      omega
theorem zru_at (T : zT) (h : Nat) : ∀ (m k j : Nat), j < zru T h m k → (zlq T (k + j)).2.1 = h ∧ (zlq T (k + j)).2.2 = 1 := by
  intro m
  induction m with
  | zero => intro k j h1; unfold zru at h1; omega
  | succ m ih =>
    intro k j h1
    unfold zru at h1
    by_cases c : (zlq T k).2.1 = h ∧ (zlq T k).2.2 = 1
    · rw [if_pos c] at h1
      by_cases e : j = 0
      · subst e; exact c
      · have := ih (k + 1) (j - 1) (by omega)
        rw [show k + 1 + (j - 1) = k + j by omega] at this
        exact this
    · rw [if_neg c] at h1; omega
/-- a leaf where a hash may lie is on its way -/
theorem zonway {T : zT} (hI : zInv T) (hs : zSo T) (ht : zRt T) {p h : Nat} (hp : p < zln T) (h1 : (zlq T p).2.1 ≤ h) (h2 : zbe T p h) : ∃ i, i < zwn T h ∧ zpl T h + i = p := by
  obtain ⟨f1, f2⟩ := zfirst hI hs ht h
  have hq := zpl_lt hI h
  have hw := (zwn_le hI h).2
  by_cases c : p = zpl T h
  · exact ⟨0, by omega, by omega⟩
  by_cases c2 : p < zpl T h
  · exfalso
    have a := h2 (by omega)
    have b := zmono' hs (p := p + 1) (q := zpl T h) (by omega) hq
    unfold zqy at f1
    have e1 : (zlq T (p + 1)).2.1 = h := by omega
    have e2 : (zlq T (zpl T h)).2.1 = h := by omega
    have e3 : (zlq T (zpl T h)).2.2 = 0 := by omega
    by_cases d : p + 1 = zpl T h
    · rw [d] at a; omega
    · have x := zmono' hs (p := p + 1) (q := zpl T h - 1) (by omega) (by omega)
      have y := hs.2.2 (zpl T h - 1) (by omega)
      rw [show zpl T h - 1 + 1 = zpl T h by omega] at y
      omega
  · have hlt : zpl T h < p := by omega
    refine ⟨p - zpl T h, ?_, by omega⟩
    have a := f2 (by omega)
    have hall : ∀ j, zpl T h + 1 ≤ j → j < zpl T h + 1 + (p - zpl T h) → (zlq T j).2.1 = h ∧ (zlq T j).2.2 = 1 := fun j j1 j2 => by
      have x := zmono' hs (p := zpl T h + 1) (q := j) (by omega) (by omega)
      have y := zmono' hs (p := j) (q := p) (by omega) hp
      have e : (zlq T j).2.1 = h := by omega
      refine ⟨e, ?_⟩
      by_cases d : j = zpl T h + 1
      · rw [d] at e ⊢; omega
      · have z := hs.2.2 (j - 1) (by omega)
        have w := zmono' hs (p := zpl T h + 1) (q := j - 1) (by omega) (by omega)
        rw [show j - 1 + 1 = j by omega] at z
        omega
    have := zru_ge T h (zln T - (zpl T h + 1)) (zpl T h + 1) (p - zpl T h) (by omega) hall
    unfold zwn
    omega
/-- and a leaf on its way is one where it may lie -/
theorem zonleaf {T : zT} (hI : zInv T) (hs : zSo T) (ht : zRt T) {i h : Nat} (hi : i < zwn T h) : (zlq T (zpl T h + i)).2.1 ≤ h ∧ zbe T (zpl T h + i) h := by
  obtain ⟨f1, f2⟩ := zfirst hI hs ht h
  by_cases c : i = 0
  · subst c
    refine ⟨?_, f2⟩
    unfold zqy at f1
    rw [Nat.add_zero]
    omega
  · have hr := zru_at T h (zln T - (zpl T h + 1)) (zpl T h + 1) (i - 1) (by unfold zwn at hi; omega)
    rw [show zpl T h + 1 + (i - 1) = zpl T h + i by omega] at hr
    refine ⟨by omega, fun q => ?_⟩
    have := hs.2.2 (zpl T h + i) q
    rw [hr.1] at this
    exact this
theorem zfi_c (p : Nat → Bool) : ∀ m k j, k ≤ j → j < k + m → p j = true → zfi p m k ≤ j := by
  intro m
  induction m with
  | zero => intro k j h1 h2; omega
  | succ m ih =>
    intro k j h1 h2 h3
    by_cases hp : p k = true
    · rw [zfi_t hp]; exact h1
    · rw [zfi_f hp]
      have : j ≠ k := fun e => hp (by rw [← e]; exact h3)
      exact ih (k + 1) j (by omega) (by omega) h3
theorem zsl_c {T : zT} {n : Int64} {k : Nat} (h : zis T n k = true) : zsl T n (k / 6) < 6 := by
  have := zfi_c (fun s => zis T n (k / 6 * 6 + s)) 6 0 (k % 6) (by omega) (by omega) (by
    show zis T n (k / 6 * 6 + k % 6) = true
    rw [show k / 6 * 6 + k % 6 = k by omega]; exact h)
  unfold zsl
  omega
theorem zlw_c {T : zT} (hI : zInv T) (n : Int64) (p : Nat) : ∀ m i c j, p + i + m ≤ zln T → i ≤ j → j < i + m → zsl T n (zlq T (p + j)).1 < 6 → (zlw T n p m i c).1 < 240 := by
  intro m
  induction m with
  | zero => intro i c j _ h1 h2; omega
  | succ m ih =>
    intro i c j h0 h1 h2 h3
    unfold zlw
    by_cases q : zsl T n (zlq T (p + i)).1 < 6
    · rw [if_pos q]
      have := (zlq_ok hI (show p + i < zln T by omega)).1
      show (zlq T (p + i)).1 * 6 + zsl T n (zlq T (p + i)).1 < 240
      omega
    · rw [if_neg q]
      have : j ≠ i := fun e => q (by rw [← e]; exact h3)
      exact ih (i + 1) (c + 1) j (by omega) (by omega) (by omega) h3
theorem zle_c (T : zT) (n : Int64) : ∀ m b c j, b + m ≤ 40 → b ≤ j → j < b + m → T.1 0 j = 1 → zsl T n j < 6 → (zle T n m b c).1 < 240 := by
  intro m
  induction m with
  | zero => intro b c j _ h1 h2; omega
  | succ m ih =>
    intro b c j h0 h1 h2 h3 h4
    unfold zle
    by_cases q1 : T.1 0 b = 1
    · rw [if_pos q1]
      by_cases q : zsl T n b < 6
      · rw [if_pos q]
        show b * 6 + zsl T n b < 240
        omega
      · rw [if_neg q]
        have : j ≠ b := fun e => q (by rw [← e]; exact h4)
        exact ih (b + 1) (c + 1) j (by omega) (by omega) (by omega) h3 h4
    · rw [if_neg q1]
      have : j ≠ b := fun e => q1 (by rw [← e]; exact h3)
      exact ih (b + 1) c j (by omega) (by omega) (by omega) h3 h4
theorem zsk_c {T : zT} (hI : zInv T) (hs : zSo T) (ht : zRt T) (hl : zLe T) {n : Int64} {k : Nat} (hk : k < 240) (his : zis T n k = true) (hh : zha T (T.2 k) = zha T n) : (zsk T n).1 < 240 := by
  unfold zsk
  by_cases c : ztor T = 0
  · rw [if_pos c]
    obtain ⟨p, p1, p2, p3, p4⟩ := hl k hk (zis_nz his)
    rw [hh] at p3 p4
    obtain ⟨i, i1, i2⟩ := zonway hI hs ht p1 p3 p4
    exact zlw_c hI n _ _ 0 _ i (by have := (zwn_le hI (zha T n)).1; omega) (by omega) (by omega) (by rw [i2, p2]; exact zsl_c his)
  · rw [if_neg c]
    exact zle_c T n 40 0 1 (k / 6) (by omega) (by omega) (by omega) (hI.2.2.1 k hk (zis_nz his)).2.2 (zsl_c his)
/-- names that are one have one hash -/
theorem zlen_or {a b : Int64} (ha : zval a) (hb : zval b) (e : ∀ k, k < 8 → zb a k ||| 32 = zb b k ||| 32) : zlen a ≤ zlen b := by
  refine Classical.byContradiction fun c => ?_
  have h1 : zlen b < zlen a := by omega
  have h8 := zlen_le a
  have e1 := e (zlen b) (by omega)
  rw [zlen_at b (by omega)] at e1
  have h2 := (zlet_or (zb a (zlen b)) (zb_lt a _) (ha.2.1 _ h1)).1
  rw [e1] at h2
  exact absurd h2 (by decide)
theorem zone_ha {T : zT} {a b : Int64} (ha : zval a) (hb : zval b) (h : zone (T.1 7 3) a b = true) : zha T a = zha T b := by
  unfold zone at h
  by_cases c : T.1 7 3 = 0
  · rw [if_pos c] at h
    rw [of_decide_eq_true h]
  · rw [if_neg c] at h
    have e := (zor_iff a b).1 (of_decide_eq_true h)
    have el : zlen a = zlen b := Nat.le_antisymm (zlen_or ha hb e) (zlen_or hb ha (fun k hk => (e k hk).symm))
    have hx : ∀ k, k ≤ 8 → zhL a (T.1 7 3) (T.1 7 2) k = zhL b (T.1 7 3) (T.1 7 2) k := by
      intro k
      induction k with
      | zero => intro _; rfl
      | succ k ih =>
        intro hk
        unfold zhL
        rw [ih (by omega)]
        unfold zfo
        rw [if_neg c, if_neg c, e k (by omega)]
    unfold zha zhash
    rw [el, hx _ (zlen_le b)]
