/-! names, numbers, words of a text: the class -/
def zpk (B : Nat → Nat) (b l : Nat) : Nat → Nat
  | 0 => 0
  | k + 1 => zpk B b l k * 256 + (if k < l then B (b + k) else 0)
theorem zpk_lt {B : Nat → Nat} (hB : ∀ k, B k < 256) (b l : Nat) : ∀ k, zpk B b l k < 256 ^ k := by
  intro k
  induction k with
  | zero => show 0 < 256 ^ 0; decide
  | succ k ih =>
    unfold zpk
    have := hB (b + k)
    have h2 : 256 ^ (k + 1) = 256 ^ k * 256 := Nat.pow_succ ..
    split <;> omega
theorem zpk_div {B : Nat → Nat} (hB : ∀ k, B k < 256) (b l k : Nat) : ∀ j, zpk B b l (k + j) / 256 ^ j = zpk B b l k := by
  intro j
  induction j with
  | zero => rw [Nat.pow_zero, Nat.div_one, Nat.add_zero]
  | succ j ih =>
    have h1 : zpk B b l (k + (j + 1)) / 256 = zpk B b l (k + j) := by
      show (zpk B b l (k + j) * 256 + (if k + j < l then B (b + (k + j)) else 0)) / 256 = _
      have := hB (b + (k + j))
      split <;> omega
    rw [Nat.pow_succ, Nat.mul_comm, ← Nat.div_div_eq_div_mul, h1, ih]
theorem zpk_b {B : Nat → Nat} (hB : ∀ k, B k < 256) (b l : Nat) {k : Nat} (hk : k < 8) : zb (lN (zpk B b l 8)) k = if k < l then B (b + k) else 0 := by
  have h8 : zpk B b l 8 < 2 ^ 64 := Nat.lt_of_lt_of_le (zpk_lt hB b l 8) (by decide)
  have e : (lN (zpk B b l 8)).toBitVec.toNat = zpk B b l 8 := by
    show (BitVec.ofNat 64 (zpk B b l 8)).toNat = _
    rw [BitVec.toNat_ofNat, Nat.mod_eq_of_lt h8]
  unfold zb
  rw [e]
  have h1 := zpk_div hB b l (k + 1) (7 - k)
  rw [show k + 1 + (7 - k) = 8 by omega] at h1
  rw [h1]
  show (zpk B b l k * 256 + (if k < l then B (b + k) else 0)) % 256 = _
  have := hB (b + k)
  split <;> omega
theorem zpk_val {B : Nat → Nat} (hB : ∀ k, B k < 256) {b l : Nat} (h1 : 1 ≤ l) (h8 : l ≤ 8) (hl : ∀ k, k < l → zlet (B (b + k))) : zval (lN (zpk B b l 8)) := by
  have hb : ∀ k, k < 8 → zb (lN (zpk B b l 8)) k = if k < l then B (b + k) else 0 := fun k hk => zpk_b hB b l hk
  have hle := zlen_le (lN (zpk B b l 8))
  have el : zlen (lN (zpk B b l 8)) = l := by
    refine Nat.le_antisymm (Classical.byContradiction fun c => ?_) (Classical.byContradiction fun c => ?_)
    · have := zlen_lo (lN (zpk B b l 8)) l (by omega)
      rw [hb l (by omega), if_neg (by omega)] at this
      exact this rfl
    · have := zlen_at (lN (zpk B b l 8)) (by omega)
      rw [hb _ (by omega), if_pos (by omega)] at this
      have h2 := hl _ (show zlen (lN (zpk B b l 8)) < l by omega)
      unfold zlet at h2
      omega
  unfold zval
  rw [el]
  refine ⟨h1, fun k hk => ?_, fun k hk hk8 => ?_⟩
  · rw [hb k (by omega), if_pos hk]; exact hl k hk
  · rw [hb k hk8, if_neg (by omega)]
/-- a name that stands at a place: where it ends, whether it is one, which one -/
def zne (B : Nat → Nat) (E p : Nat) : Nat := zwd B E (zbl B E p)
def zno (B : Nat → Nat) (E p : Nat) : Prop := 1 ≤ zne B E p - zbl B E p ∧ zne B E p - zbl B E p ≤ 8
def znm (B : Nat → Nat) (E p : Nat) : Int64 := lN (zpk B (zbl B E p) (zne B E p - zbl B E p) 8)
theorem zne_le (B : Nat → Nat) {E p : Nat} (h : p ≤ E) : zbl B E p ≤ zne B E p ∧ zne B E p ≤ E := zwd_le B (zbl_le B h).2
theorem znm_val {B : Nat → Nat} (hB : ∀ k, B k < 256) {E p : Nat} (h : zno B E p) : zval (znm B E p) := by
  refine zpk_val hB h.1 h.2 (fun k hk => ?_)
  have := zfi_b (fun j => !zltb (B j)) (E - zbl B E p) (zbl B E p) (zbl B E p + k) (by omega) (by unfold zne zwd at hk; omega)
  rw [← zltb_iff]
  cases q : zltb (B (zbl B E p + k)) with
  | true => rfl
  | false => exact absurd (show (!zltb (B (zbl B E p + k))) = true by rw [q]; rfl) this
theorem zpk_56 {B : Nat → Nat} (hB : ∀ k, B k < 256) (b l : Nat) {k : Nat} (hk : k < 8) : zpk B b l k < 2 ^ 56 := Nat.lt_of_lt_of_le (zpk_lt hB b l k) (Nat.le_trans (Nat.pow_le_pow_right (by decide) (show k ≤ 7 by omega)) (by decide))
theorem zx_name37 {B : Nat → Nat} {E : Nat} (hB : ∀ k, B k < 256) {S : sh_St} (hT : zTX S B E) {b l : Nat} (hbl : b + l ≤ 400) (hl8 : l ≤ 8) : ∀ (n k : Nat), k ≤ 8 → 8 - k < n → fX10_readName_37 n S (nI b) (nI l) (lN (zpk B b l k)) (nI k) = some (lN (zpk B b l 8), S) := by
  intro n
  induction n with
  | zero => intro k _ h; omega
  | succ n ih =>
    intro k hk hn
    rw [fX10_readName_37]
    by_cases c : k = 8
    · subst c
      simp (disch := omega) only [zq_l9, pk_mul, nI_add, zq_t9, zq_c9, zq_bz9, zq_bo9, zq_g, zq_cl, zq_leT, zq_leF, zq_ltT, zq_ltF, zq_eqT, zq_eqF, zq_em, zq_me, zq_pm, zq_mm, zq_gm, pk_sub, zI_s, zI_k, zI_c, zI_2, zL_s, zL_k, zL_c, zL_1, if_true, if_false, eq_self, Nat.zero_add, Nat.add_zero]
    · have hih := ih (k + 1) (by omega) (by omega)
      have h56 := zpk_56 hB b l (show k < 8 by omega)
      by_cases d : k < l
      · have hb := zx_byteAt hT (k := b + k) (by omega)
        have e : zpk B b l (k + 1) = zpk B b l k * 256 + B (b + k) := by
          show zpk B b l k * 256 + (if k < l then B (b + k) else 0) = _
          rw [if_pos d]
        have hp := zq_pack h56 (hB (b + k))
        rw [← e] at hp
        simp (disch := omega) only [zq_l9, pk_mul, nI_add, zq_t9, zq_c9, zq_bz9, zq_bo9, zq_g, zq_cl, zq_leT, zq_leF, zq_ltT, zq_ltF, zq_eqT, zq_eqF, zq_em, zq_me, zq_pm, zq_mm, zq_gm, pk_sub, zI_s, zI_k, zI_c, zI_2, zL_s, zL_k, zL_c, zL_1, if_true, if_false, eq_self, Nat.zero_add, Nat.add_zero, hb, fX10_readName_66]
        rw [show (Int32.toInt64 (nI 8)) = Int32.toInt64 8 from rfl, hp]
        exact hih
      · have e : zpk B b l (k + 1) = zpk B b l k * 256 + 0 := by
          show zpk B b l k * 256 + (if k < l then B (b + k) else 0) = _
          rw [if_neg d]
        have hp := zq_pack h56 (show 0 < 256 by omega)
        rw [← e] at hp
        simp (disch := omega) only [zq_l9, pk_mul, nI_add, zq_t9, zq_c9, zq_bz9, zq_bo9, zq_g, zq_cl, zq_leT, zq_leF, zq_ltT, zq_ltF, zq_eqT, zq_eqF, zq_em, zq_me, zq_pm, zq_mm, zq_gm, pk_sub, zI_s, zI_k, zI_c, zI_2, zL_s, zL_k, zL_c, zL_1, if_true, if_false, eq_self, Nat.zero_add, Nat.add_zero, fX10_readName_66]
        rw [show (Int32.toInt64 (nI 8)) = Int32.toInt64 8 from rfl, hp]
        exact hih
theorem zx_readName {S : sh_St} {B : Nat → Nat} {E p : Nat} (hT : zTX S B E) (hE : E ≤ 400) (hB : ∀ k, B k < 256) (h2 : S.1 3 2 = nI p) (hp : p ≤ E) : ∃ r S', fX10_readName S = some (r, S') ∧ S'.1 3 2 = nI (zne B E p) ∧ zF3 S S' ∧ (zno B E p → r = znm B E p ∧ S'.1 3 3 = S.1 3 3) ∧ (¬ zno B E p → S'.1 3 3 = zfw (S.1 3 3) (zbl B E p)) := by
  rw [fX10_readName]
  obtain ⟨S1, g1, g2, g3⟩ := zx_skip hT hE hB h2 hp
  have hT1 := zTX_2 g3 hT
  have hbl := zbl_le B hp
  obtain ⟨S2, k1, k2, k3⟩ := zx_letters hT1 hE hB g2 hbl.2
  have hT2 := zTX_2 k3 hT1
  have hne := zne_le B hp
  have f33 : S2.1 3 3 = S.1 3 3 := (k3.1 3 (by omega)).trans (g3.1 3 (by omega))
  have hf2 : zF3 S S2 := zF3_2 (zF2_tr g3 k3)
  have ek : zwd B E (zbl B E p) = zne B E p := rfl
  rw [ek] at k1 k2
  by_cases c : zno B E p
  · have h37 := zx_name37 hB hT2 (b := zbl B E p) (l := zne B E p - zbl B E p) (by omega) c.2 sh_FU 0 (by omega) (by decide)
    refine ⟨znm B E p, S2, ?_, k2, hf2, fun _ => ⟨rfl, f33⟩, fun q => absurd c q⟩
    obtain ⟨c1, c2⟩ := c
    simp (disch := omega) only [zq_l9, pk_mul, nI_add, zq_t9, zq_c9, zq_bz9, zq_bo9, zq_g, zq_cl, zq_leT, zq_leF, zq_ltT, zq_ltF, zq_eqT, zq_eqF, zq_em, zq_me, zq_pm, zq_mm, zq_gm, pk_sub, zI_s, zI_k, zI_c, zI_2, zL_s, zL_k, zL_c, zL_1, if_true, if_false, eq_self, Nat.zero_add, Nat.add_zero, g1, g2, k1]
    exact h37
  · obtain ⟨S3, j1, j2, j3, j4⟩ := zx_wrong S2 (zbl B E p)
    refine ⟨0, S3, ?_, by rw [j3]; exact k2, zF3_tr hf2 j4, fun q => absurd q c, fun _ => by rw [j2, f33]⟩
    unfold zno at c
    by_cases d : zne B E p - zbl B E p < 1
    · simp (disch := omega) only [zq_l9, pk_mul, nI_add, zq_t9, zq_c9, zq_bz9, zq_bo9, zq_g, zq_cl, zq_leT, zq_leF, zq_ltT, zq_ltF, zq_eqT, zq_eqF, zq_em, zq_me, zq_pm, zq_mm, zq_gm, pk_sub, zI_s, zI_k, zI_c, zI_2, zL_s, zL_k, zL_c, zL_1, if_true, if_false, eq_self, Nat.zero_add, Nat.add_zero, g1, g2, k1, fX10_readName_25, j1]
    · simp (disch := omega) only [zq_l9, pk_mul, nI_add, zq_t9, zq_c9, zq_bz9, zq_bo9, zq_g, zq_cl, zq_leT, zq_leF, zq_ltT, zq_ltF, zq_eqT, zq_eqF, zq_em, zq_me, zq_pm, zq_mm, zq_gm, pk_sub, zI_s, zI_k, zI_c, zI_2, zL_s, zL_k, zL_c, zL_1, if_true, if_false, eq_self, Nat.zero_add, Nat.add_zero, g1, g2, k1, fX10_readName_25, j1]
/-- a number that stands at a place -/
def znu (B : Nat → Nat) (b : Nat) : Nat → Nat
  | 0 => 0
  | k + 1 => znu B b k * 10 + (B (b + k) - 48)
def zde (B : Nat → Nat) (E p : Nat) : Nat := zdg B E (zbl B E p)
def zdv (B : Nat → Nat) (E p : Nat) : Nat := znu B (zbl B E p) (zde B E p - zbl B E p)
def zdo (B : Nat → Nat) (E lo hi p : Nat) : Prop := 1 ≤ zde B E p - zbl B E p ∧ zde B E p - zbl B E p ≤ 5 ∧ lo ≤ zdv B E p ∧ zdv B E p ≤ hi
theorem zde_le (B : Nat → Nat) {E p : Nat} (h : p ≤ E) : zbl B E p ≤ zde B E p ∧ zde B E p ≤ E := zdg_le B (zbl_le B h).2
theorem zde_d {B : Nat → Nat} {E p k : Nat} (hk : k < zde B E p - zbl B E p) : 48 ≤ B (zbl B E p + k) ∧ B (zbl B E p + k) ≤ 57 := by
  have := zfi_b (fun j => !zdib (B j)) (E - zbl B E p) (zbl B E p) (zbl B E p + k) (by omega) (by unfold zde zdg at hk; omega)
  rw [← zdib_iff]
  cases q : zdib (B (zbl B E p + k)) with
  | true => rfl
  | false => exact absurd (show (!zdib (B (zbl B E p + k))) = true by rw [q]; rfl) this
theorem znu_lt {B : Nat → Nat} {b d : Nat} (h : ∀ k, k < d → 48 ≤ B (b + k) ∧ B (b + k) ≤ 57) : ∀ k, k ≤ d → znu B b k < 10 ^ k := by
  intro k
  induction k with
  | zero => intro _; show 0 < 10 ^ 0; decide
  | succ k ih =>
    intro hk
    unfold znu
    have h1 := ih (by omega)
    have h2 := h k (by omega)
    have h3 : 10 ^ (k + 1) = 10 ^ k * 10 := Nat.pow_succ ..
    omega
theorem znu_5 {B : Nat → Nat} {b d k : Nat} (h : ∀ k, k < d → 48 ≤ B (b + k) ∧ B (b + k) ≤ 57) (hk : k ≤ d) (h6 : k ≤ 6) : znu B b k < 1000000 := Nat.lt_of_lt_of_le (znu_lt h k hk) (Nat.le_trans (Nat.pow_le_pow_right (by decide) h6) (by decide))
theorem zx_num59 (S : sh_St) {lo hi b d v : Nat} (hd : d ≤ 400) (hv : v < 1000000) (hlo : lo < 100000) (hhi : hi < 100000) : (1 ≤ d ∧ d ≤ 5 ∧ lo ≤ v ∧ v ≤ hi → fX10_readNumber_59 S (nI lo) (nI hi) (nI b) (nI d) (nI v) = some (nI v, S)) ∧ (¬ (1 ≤ d ∧ d ≤ 5 ∧ lo ≤ v ∧ v ≤ hi) → fX10_readNumber_59 S (nI lo) (nI hi) (nI b) (nI d) (nI v) = fX10_readNumber_83 S (nI b)) := by
  rw [fX10_readNumber_59]
  refine ⟨fun q => ?_, fun q => ?_⟩
  · simp (disch := omega) only [zq_l9, pk_mul, nI_add, zq_t9, zq_c9, zq_bz9, zq_bo9, zq_g, zq_cl, zq_leT, zq_leF, zq_ltT, zq_ltF, zq_eqT, zq_eqF, zq_em, zq_me, zq_pm, zq_mm, zq_gm, pk_sub, zI_s, zI_k, zI_c, zI_2, zL_s, zL_k, zL_c, zL_1, if_true, if_false, eq_self, Nat.zero_add, Nat.add_zero]
  · by_cases c1 : d < 1
    · simp (disch := omega) only [zq_l9, pk_mul, nI_add, zq_t9, zq_c9, zq_bz9, zq_bo9, zq_g, zq_cl, zq_leT, zq_leF, zq_ltT, zq_ltF, zq_eqT, zq_eqF, zq_em, zq_me, zq_pm, zq_mm, zq_gm, pk_sub, zI_s, zI_k, zI_c, zI_2, zL_s, zL_k, zL_c, zL_1, if_true, if_false, eq_self, Nat.zero_add, Nat.add_zero]
    · by_cases c2 : 5 < d
      · simp (disch := omega) only [zq_l9, pk_mul, nI_add, zq_t9, zq_c9, zq_bz9, zq_bo9, zq_g, zq_cl, zq_leT, zq_leF, zq_ltT, zq_ltF, zq_eqT, zq_eqF, zq_em, zq_me, zq_pm, zq_mm, zq_gm, pk_sub, zI_s, zI_k, zI_c, zI_2, zL_s, zL_k, zL_c, zL_1, if_true, if_false, eq_self, Nat.zero_add, Nat.add_zero]
      · by_cases c3 : v < lo
        · simp (disch := omega) only [zq_l9, pk_mul, nI_add, zq_t9, zq_c9, zq_bz9, zq_bo9, zq_g, zq_cl, zq_leT, zq_leF, zq_ltT, zq_ltF, zq_eqT, zq_eqF, zq_em, zq_me, zq_pm, zq_mm, zq_gm, pk_sub, zI_s, zI_k, zI_c, zI_2, zL_s, zL_k, zL_c, zL_1, if_true, if_false, eq_self, Nat.zero_add, Nat.add_zero]
        · simp (disch := omega) only [zq_l9, pk_mul, nI_add, zq_t9, zq_c9, zq_bz9, zq_bo9, zq_g, zq_cl, zq_leT, zq_leF, zq_ltT, zq_ltF, zq_eqT, zq_eqF, zq_em, zq_me, zq_pm, zq_mm, zq_gm, pk_sub, zI_s, zI_k, zI_c, zI_2, zL_s, zL_k, zL_c, zL_1, if_true, if_false, eq_self, Nat.zero_add, Nat.add_zero]
theorem zx_num21 {B : Nat → Nat} {E : Nat} {S : sh_St} (hT : zTX S B E) {b d lo hi : Nat} (hbd : b + d ≤ 400) (hdd : ∀ k, k < d → 48 ≤ B (b + k) ∧ B (b + k) ≤ 57) : ∀ (n k : Nat), k ≤ d → k ≤ 5 → 6 - k < n → fX10_readNumber_21 n S (nI lo) (nI hi) (nI b) (nI d) (nI (znu B b k)) (nI k) = fX10_readNumber_59 S (nI lo) (nI hi) (nI b) (nI d) (nI (znu B b (min d 5))) := by
  intro n
  induction n with
  | zero => intro k _ _ h; omega
  | succ n ih =>
    intro k hk hk5 hn
    rw [fX10_readNumber_21]
    by_cases c : k = d
    · subst c
      rw [show min k 5 = k by omega]
      simp (disch := omega) only [zq_l9, pk_mul, nI_add, zq_t9, zq_c9, zq_bz9, zq_bo9, zq_g, zq_cl, zq_leT, zq_leF, zq_ltT, zq_ltF, zq_eqT, zq_eqF, zq_em, zq_me, zq_pm, zq_mm, zq_gm, pk_sub, zI_s, zI_k, zI_c, zI_2, zL_s, zL_k, zL_c, zL_1, if_true, if_false, eq_self, Nat.zero_add, Nat.add_zero]
    · by_cases c2 : k = 5
      · subst c2
        rw [show min d 5 = 5 by omega]
        simp (disch := omega) only [zq_l9, pk_mul, nI_add, zq_t9, zq_c9, zq_bz9, zq_bo9, zq_g, zq_cl, zq_leT, zq_leF, zq_ltT, zq_ltF, zq_eqT, zq_eqF, zq_em, zq_me, zq_pm, zq_mm, zq_gm, pk_sub, zI_s, zI_k, zI_c, zI_2, zL_s, zL_k, zL_c, zL_1, if_true, if_false, eq_self, Nat.zero_add, Nat.add_zero]
      · have hih := ih (k + 1) (by omega) (by omega) (by omega)
        have hb := zx_byteAt hT (k := b + k) (by omega)
        have h48 := hdd k (by omega)
        have hv := znu_5 (k := k) hdd (by omega) (by omega)
        have e : znu B b (k + 1) = znu B b k * 10 + B (b + k) - 48 := by
          show znu B b k * 10 + (B (b + k) - 48) = _
          omega
        rw [e] at hih
        simp (disch := omega) only [zq_l9, pk_mul, nI_add, zq_t9, zq_c9, zq_bz9, zq_bo9, zq_g, zq_cl, zq_leT, zq_leF, zq_ltT, zq_ltF, zq_eqT, zq_eqF, zq_em, zq_me, zq_pm, zq_mm, zq_gm, pk_sub, zI_s, zI_k, zI_c, zI_2, zL_s, zL_k, zL_c, zL_1, if_true, if_false, eq_self, Nat.zero_add, Nat.add_zero, hb]
        exact hih
theorem zx_readNum {S : sh_St} {B : Nat → Nat} {E p lo hi : Nat} (hT : zTX S B E) (hE : E ≤ 400) (hB : ∀ k, B k < 256) (h2 : S.1 3 2 = nI p) (hp : p ≤ E) (hlo : lo < 100000) (hhi : hi < 100000) : ∃ r S', fX10_readNumber S (nI lo) (nI hi) = some (r, S') ∧ S'.1 3 2 = nI (zde B E p) ∧ zF3 S S' ∧ (zdo B E lo hi p → r = nI (zdv B E p) ∧ S'.1 3 3 = S.1 3 3) ∧ (¬ zdo B E lo hi p → S'.1 3 3 = zfw (S.1 3 3) (zbl B E p)) := by
  rw [fX10_readNumber]
  obtain ⟨S1, g1, g2, g3⟩ := zx_skip hT hE hB h2 hp
  have hT1 := zTX_2 g3 hT
  have hbl := zbl_le B hp
  obtain ⟨S2, k1, k2, k3⟩ := zx_digits hT1 hE hB g2 hbl.2
  have hT2 := zTX_2 k3 hT1
  have hne := zde_le B hp
  have f33 : S2.1 3 3 = S.1 3 3 := (k3.1 3 (by omega)).trans (g3.1 3 (by omega))
  have hf2 : zF3 S S2 := zF3_2 (zF2_tr g3 k3)
  have ek : zdg B E (zbl B E p) = zde B E p := rfl
  rw [ek] at k1 k2
  have hdd : ∀ k, k < zde B E p - zbl B E p → 48 ≤ B (zbl B E p + k) ∧ B (zbl B E p + k) ≤ 57 := fun k hk => zde_d hk
  have h21 := zx_num21 (lo := lo) (hi := hi) hT2 (b := zbl B E p) (d := zde B E p - zbl B E p) (by omega) hdd sh_FU 0 (by omega) (by omega) (by decide)
  have hv5 := znu_5 (k := min (zde B E p - zbl B E p) 5) hdd (by omega) (by omega)
  obtain ⟨y1, y2⟩ := zx_num59 S2 (lo := lo) (hi := hi) (b := zbl B E p) (d := zde B E p - zbl B E p) (v := znu B (zbl B E p) (min (zde B E p - zbl B E p) 5)) (by omega) hv5 hlo hhi
  have ed : fX10_readNumber_21 sh_FU S2 (nI lo) (nI hi) (nI (zbl B E p)) (nI (zde B E p - zbl B E p)) (nI 0) (nI 0) = fX10_readNumber_59 S2 (nI lo) (nI hi) (nI (zbl B E p)) (nI (zde B E p - zbl B E p)) (nI (znu B (zbl B E p) (min (zde B E p - zbl B E p) 5))) := h21
  by_cases c : zdo B E lo hi p
  · have em : min (zde B E p - zbl B E p) 5 = zde B E p - zbl B E p := by have := c.2.1; omega
    rw [em] at y1 ed
    refine ⟨nI (zdv B E p), S2, ?_, k2, hf2, fun _ => ⟨rfl, f33⟩, fun q => absurd c q⟩
    simp (disch := omega) only [zq_l9, pk_mul, nI_add, zq_t9, zq_c9, zq_bz9, zq_bo9, zq_g, zq_cl, zq_leT, zq_leF, zq_ltT, zq_ltF, zq_eqT, zq_eqF, zq_em, zq_me, zq_pm, zq_mm, zq_gm, pk_sub, zI_s, zI_k, zI_c, zI_2, zL_s, zL_k, zL_c, zL_1, if_true, if_false, eq_self, Nat.zero_add, Nat.add_zero, g1, g2, k1]
    rw [ed]
    exact y1 c
  · have hc : ¬ (1 ≤ zde B E p - zbl B E p ∧ zde B E p - zbl B E p ≤ 5 ∧ lo ≤ znu B (zbl B E p) (min (zde B E p - zbl B E p) 5) ∧ znu B (zbl B E p) (min (zde B E p - zbl B E p) 5) ≤ hi) := fun q => c (by
      rw [show min (zde B E p - zbl B E p) 5 = zde B E p - zbl B E p by omega] at q
      exact q)
    obtain ⟨S3, j1, j2, j3, j4⟩ := zx_wrong S2 (zbl B E p)
    refine ⟨-nI 1, S3, ?_, by rw [j3]; exact k2, zF3_tr hf2 j4, fun q => absurd q c, fun _ => by rw [j2, f33]⟩
    simp (disch := omega) only [zq_l9, pk_mul, nI_add, zq_t9, zq_c9, zq_bz9, zq_bo9, zq_g, zq_cl, zq_leT, zq_leF, zq_ltT, zq_ltF, zq_eqT, zq_eqF, zq_em, zq_me, zq_pm, zq_mm, zq_gm, pk_sub, zI_s, zI_k, zI_c, zI_2, zL_s, zL_k, zL_c, zL_1, if_true, if_false, eq_self, Nat.zero_add, Nat.add_zero, g1, g2, k1]
    rw [ed, y2 hc, fX10_readNumber_83]
    simp (disch := omega) only [zq_l9, pk_mul, nI_add, zq_t9, zq_c9, zq_bz9, zq_bo9, zq_g, zq_cl, zq_leT, zq_leF, zq_ltT, zq_ltF, zq_eqT, zq_eqF, zq_em, zq_me, zq_pm, zq_mm, zq_gm, pk_sub, zI_s, zI_k, zI_c, zI_2, zL_s, zL_k, zL_c, zL_1, if_true, if_false, eq_self, Nat.zero_add, Nat.add_zero, j1]
