/-! evaluation with side conditions; counts -/
theorem zq_l2 (n : Nat) : (@OfNat.ofNat Int32 n Int32.instOfNat) = nI (@OfNat.ofNat Nat n (instOfNatNat n)) := rfl
theorem zq_bz {α : Type} (k : Option α) : sh_b (nI 0) k = k := rfl
theorem zq_bo {α : Type} (k : Option α) : sh_b (nI 1) k = k := rfl
theorem zq_leT {a b : Nat} (h : a ≤ b) (hb : b < 2 ^ 31) : (nI a ≤ nI b) = True := eq_true (nI_le h hb)
theorem zq_leF {a b : Nat} (h : b < a) (hb : a < 2 ^ 31) : (nI a ≤ nI b) = False := eq_false (nI_ge h hb)
theorem zq_ltT {a b : Nat} (h : a < b) (hb : b < 2 ^ 31) : (nI a < nI b) = True := eq_true (nI_lt h hb)
theorem zq_ltF {a b : Nat} (h : b ≤ a) (hb : a < 2 ^ 31) : (nI a < nI b) = False := eq_false (fun q => by have := (nI_ltI (by omega) (by omega)).mp q; omega)
theorem zq_eqT {a b : Nat} (h : a = b) : (nI a = nI b) = True := eq_true (by rw [h])
theorem zq_eqF {a b : Nat} (h : a ≠ b) (ha : a < 2 ^ 31) (hb : b < 2 ^ 31) : (nI a = nI b) = False := eq_false (fun q => h ((nI_eq ha hb).mp q))
theorem zq_n1 {a : Nat} (ha : a < 2 ^ 31) : nI a ≠ -nI 1 := by
  intro h
  have h1 := congrArg (fun z : Int32 => z.toBitVec.toNat) h
  have h2 : ((-nI 1 : Int32)).toBitVec.toNat = 4294967295 := by decide
  have h3 : (nI a).toBitVec.toNat = a := pk_tn (by omega)
  simp only [h2, h3] at h1
  omega
theorem zq_em {a : Nat} (ha : a < 2 ^ 31) : (nI a = -nI 1) = False := eq_false (zq_n1 ha)
theorem zq_me {a : Nat} (ha : a < 2 ^ 31) : (-nI 1 = nI a) = False := eq_false (fun h => zq_n1 ha h.symm)
theorem zq_pm {a : Nat} (h : 1 ≤ a) : nI a + -nI 1 = nI (a - 1) := by
  obtain ⟨c, rfl⟩ : ∃ c, a = c + 1 := ⟨a - 1, by omega⟩
  rw [← Int32.sub_eq_add_neg]
  exact nI_pred c
theorem zq_mm : (-nI 1 + nI 1) = nI 0 := by decide
theorem zq_gm {a : Nat} (ha : a < 2 ^ 31) : (-nI 1 < nI a) = True := by
  apply eq_true
  rw [Int32.lt_iff_toInt_lt, nI_toInt ha, show ((-nI 1 : Int32)).toInt = -1 from by decide]
  omega
def zcnt (p : Nat → Bool) : Nat → Nat
  | 0 => 0
  | n + 1 => zcnt p n + (if p n = true then 1 else 0)
theorem zcnt_le (p : Nat → Bool) (n : Nat) : zcnt p n ≤ n := by
  induction n with
  | zero => exact Nat.le_refl 0
  | succ n ih =>
    unfold zcnt
    split <;> omega
theorem zcnt_t {p : Nat → Bool} {n : Nat} (h : p n = true) : zcnt p (n + 1) = zcnt p n + 1 := by
  show zcnt p n + _ = _
  rw [if_pos h]
theorem zcnt_f {p : Nat → Bool} {n : Nat} (h : p n = false) : zcnt p (n + 1) = zcnt p n := by
  show zcnt p n + _ = _
  rw [if_neg (by rw [h]; decide)]
  rfl
theorem zcnt_ext {p q : Nat → Bool} (n : Nat) (h : ∀ k, k < n → p k = q k) : zcnt p n = zcnt q n := by
  induction n with
  | zero => rfl
  | succ n ih =>
    show zcnt p n + _ = zcnt q n + _
    rw [ih (fun k hk => h k (by omega)), h n (by omega)]
/-! reading the pictures -/
theorem zX_k {S : sh_St} {T : zT} (h : zVX S 4 T) {b : Nat} (hb : b < 40) : S.1 5 b = nI (T.1 0 b) := (h.1 b hb).1
theorem zX_c {S : sh_St} {T : zT} (h : zVX S 4 T) {b : Nat} (hb : b < 40) : S.1 6 b = nI (T.1 1 b) := (h.1 b hb).2.1
theorem zX_t {S : sh_St} {T : zT} (h : zVX S 4 T) {b : Nat} (hb : b < 40) : S.1 7 b = nI (T.1 2 b) := (h.1 b hb).2.2.1
theorem zX_n {S : sh_St} {T : zT} (h : zVX S 4 T) {k : Nat} (hk : k < 240) : S.2 8 k = T.2 k := (h.2.1 k hk).1
theorem zX_d {S : sh_St} {T : zT} (h : zVX S 4 T) {k : Nat} (hk : k < 240) (hn : T.2 k ≠ 0) : S.1 9 k = nI (T.1 3 k) := ((h.2.1 k hk).2 hn).1
theorem zX_h {S : sh_St} {T : zT} (h : zVX S 4 T) {k : Nat} (hk : k < 240) (hn : T.2 k ≠ 0) : S.1 10 k = nI (zha T (T.2 k)) := ((h.2.1 k hk).2 hn).2
theorem zX_l {S : sh_St} {T : zT} (h : zVX S 4 T) {b r : Nat} (hb : b < 40) (hr : r < T.1 1 b) : S.1 11 (b * 6 + r) = nI (T.1 4 (b * 6 + r)) := (h.2.2.1 (b * 6 + r) (by have := (h.1 b hb).2.2.2; omega)).1
theorem zX_m {S : sh_St} {T : zT} (h : zVX S 4 T) {b r : Nat} (hb : b < 40) (hr : r < T.1 1 b) : S.1 12 (b * 6 + r) = nI (T.1 5 (b * 6 + r)) := (h.2.2.1 (b * 6 + r) (by have := (h.1 b hb).2.2.2; omega)).2.1
theorem zX_g {S : sh_St} {T : zT} (h : zVX S 4 T) {b r : Nat} (hb : b < 40) (hr : r < T.1 1 b) : S.1 13 (b * 6 + r) = nI (T.1 6 (b * 6 + r)) := (h.2.2.1 (b * 6 + r) (by have := (h.1 b hb).2.2.2; omega)).2.2
theorem zX_b {S : sh_St} {T : zT} (h : zVX S 4 T) : S.1 4 0 = nI (T.1 7 1) := h.2.2.2.1
theorem zX_y {S : sh_St} {T : zT} (h : zVX S 4 T) : S.1 4 1 = nI (T.1 7 2) := h.2.2.2.2.1
theorem zX_f {S : sh_St} {T : zT} (h : zVX S 4 T) : S.1 4 2 = nI (T.1 7 3) := h.2.2.2.2.2.1
theorem zX_v {S : sh_St} {T : zT} (h : zVX S 4 T) : S.1 4 3 = nI (T.1 7 0) := h.2.2.2.2.2.2
abbrev zVN (S : sh_St) (T : zT) : Prop := zVM (S.1 1) (S.2 2) T
theorem zM_k {S : sh_St} {T : zT} (h : zVN S T) {b : Nat} (hb : b < 40) : S.1 1 b = nI (T.1 0 b) := (h.1 b hb).1
theorem zM_t {S : sh_St} {T : zT} (h : zVN S T) {b : Nat} (hb : b < 40) : S.1 1 (40 + b) = nI (T.1 2 b) := (h.1 b hb).2.1
theorem zM_c {S : sh_St} {T : zT} (h : zVN S T) {b : Nat} (hb : b < 40) : S.1 1 (80 + b) = nI (T.1 1 b) := (h.1 b hb).2.2.1
theorem zM_n {S : sh_St} {T : zT} (h : zVN S T) {k : Nat} (hk : k < 240) : S.2 2 k = T.2 k := (h.2.1 k hk).1
theorem zM_e {S : sh_St} {T : zT} (h : zVN S T) {k : Nat} (hk : k < 240) (hn : T.2 k = 0) : S.1 1 (840 + k) = -nI 1 := by rw [(h.2.1 k hk).2, if_pos hn]; rfl
theorem zM_d {S : sh_St} {T : zT} (h : zVN S T) {k : Nat} (hk : k < 240) (hn : T.2 k ≠ 0) : S.1 1 (840 + k) = nI (T.1 3 k) := by rw [(h.2.1 k hk).2, if_neg hn]
theorem zM_l {S : sh_St} {T : zT} (h : zVN S T) {b r : Nat} (hb : b < 40) (hr : r < T.1 1 b) : S.1 1 (120 + 18 * b + 3 * r) = nI (T.1 4 (b * 6 + r)) := by
  rw [show 120 + 18 * b + 3 * r = 120 + 3 * (b * 6 + r) by omega]
  exact (h.2.2.1 (b * 6 + r) (by have := (h.1 b hb).2.2.2; omega)).1
theorem zM_m {S : sh_St} {T : zT} (h : zVN S T) {b r : Nat} (hb : b < 40) (hr : r < T.1 1 b) : S.1 1 (120 + 18 * b + 3 * r + 1) = nI (T.1 5 (b * 6 + r)) := by
  rw [show 120 + 18 * b + 3 * r = 120 + 3 * (b * 6 + r) by omega]
  exact (h.2.2.1 (b * 6 + r) (by have := (h.1 b hb).2.2.2; omega)).2.1
theorem zM_g {S : sh_St} {T : zT} (h : zVN S T) {b r : Nat} (hb : b < 40) (hr : r < T.1 1 b) : S.1 1 (120 + 18 * b + 3 * r + 2) = nI (T.1 6 (b * 6 + r)) := by
  rw [show 120 + 18 * b + 3 * r = 120 + 3 * (b * 6 + r) by omega]
  exact (h.2.2.1 (b * 6 + r) (by have := (h.1 b hb).2.2.2; omega)).2.2
theorem zM_v {S : sh_St} {T : zT} (h : zVN S T) : S.1 1 1080 = nI (T.1 7 0) := h.2.2.2.1
theorem zM_b {S : sh_St} {T : zT} (h : zVN S T) : S.1 1 1081 = nI (T.1 7 1) := h.2.2.2.2.1
theorem zM_y {S : sh_St} {T : zT} (h : zVN S T) : S.1 1 1082 = nI (T.1 7 2) := h.2.2.2.2.2.1
theorem zM_f {S : sh_St} {T : zT} (h : zVN S T) : S.1 1 1083 = nI (T.1 7 3) := h.2.2.2.2.2.2
def znz (T : zT) (k : Nat) : Bool := decide (T.2 k ≠ 0)
theorem znz_t {T : zT} {k : Nat} (h : T.2 k ≠ 0) : znz T k = true := decide_eq_true h
theorem znz_f {T : zT} {k : Nat} (h : T.2 k = 0) : znz T k = false := decide_eq_false (fun q => q h)
def zall (T : zT) : Nat := zcnt (znz T) 240
def zent (T : zT) (b : Nat) : Nat := zcnt (fun s => znz T (b * 6 + s)) 6
def zkin (T : zT) (c : Nat) : Nat := zcnt (fun b => decide (T.1 0 b = c)) 40
def ztor (T : zT) : Nat := zcnt (fun b => decide (T.1 2 b = 1)) 40
theorem zx_all_l {S : sh_St} {T : zT} (hv : zVX S 4 T) : ∀ (n s : Nat), s ≤ 240 → 240 - s < n → fX7_entriesInAll_4 n S (nI (zcnt (znz T) s)) (nI s) = some (nI (zall T), S) := by
  intro n
  induction n with
  | zero => intro s h1 h2; omega
  | succ n ih =>
    intro s h1 h2
    have hc := zcnt_le (znz T) s
    rw [fX7_entriesInAll_4]
    by_cases h : s = 240
    · subst h
      simp (disch := omega) only [zq_l2, pk_mul, nI_add, zq_t, zq_c, zq_bz, zq_bo, zq_g, zq_cl, zq_leT, zq_leF, zq_ltT, zq_ltF, zq_eqT, zq_eqF, zq_em, zq_me, zq_pm, zq_mm, zq_gm, pk_sub, zI_s, zI_k, zI_c, zI_2, zL_s, zL_k, zL_c, zL_1, if_true, if_false, eq_self, Nat.zero_add, Nat.add_zero]
      rfl
    · have e := ih (s + 1) (by omega) (by omega)
      by_cases h9 : T.2 s = 0
      · rw [zcnt_f (znz_f h9)] at e
        simp (disch := omega) only [zq_l2, pk_mul, nI_add, zq_t, zq_c, zq_bz, zq_bo, zq_g, zq_cl, zq_leT, zq_leF, zq_ltT, zq_ltF, zq_eqT, zq_eqF, zq_em, zq_me, zq_pm, zq_mm, zq_gm, pk_sub, zI_s, zI_k, zI_c, zI_2, zL_s, zL_k, zL_c, zL_1, if_true, if_false, eq_self, Nat.zero_add, Nat.add_zero, zX_n hv, h9, fX7_entriesInAll_25]
        exact e
      · rw [zcnt_t (znz_t h9)] at e
        simp (disch := omega) only [zq_l2, pk_mul, nI_add, zq_t, zq_c, zq_bz, zq_bo, zq_g, zq_cl, zq_leT, zq_leF, zq_ltT, zq_ltF, zq_eqT, zq_eqF, zq_em, zq_me, zq_pm, zq_mm, zq_gm, pk_sub, zI_s, zI_k, zI_c, zI_2, zL_s, zL_k, zL_c, zL_1, if_true, if_false, eq_self, Nat.zero_add, Nat.add_zero, zX_n hv, h9, fX7_entriesInAll_25]
        exact e
theorem zx_all {S : sh_St} {T : zT} (hv : zVX S 4 T) : fX7_entriesInAll S = some (nI (zall T), S) := by
  rw [fX7_entriesInAll]
  exact zx_all_l hv sh_FU 0 (by omega) (by decide)
theorem zInv_nd {T : zT} (h : zInv T) {k : Nat} (hk : k < 240) (hn : T.2 k ≠ 0) : T.1 3 k ≤ 999 := (h.2.2.1 k hk hn).2.1
theorem zInv_va {T : zT} (h : zInv T) {k : Nat} (hk : k < 240) (hn : T.2 k ≠ 0) : zval (T.2 k) := (h.2.2.1 k hk hn).1
theorem zha_lt {T : zT} (h : zInv T) (n : Int64) : zha T n < 4096 := by
  have h1 := zhash_lt n (T.1 7 1) (T.1 7 2) (T.1 7 3)
  have h2 : 2 ^ (T.1 7 1) ≤ 2 ^ 12 := Nat.pow_le_pow_right (by decide) h.1.2.2.1
  have h3 : zha T n < 2 ^ (T.1 7 1) := h1
  omega
theorem zx_hashOf {S : sh_St} {T : zT} (hv : zVX S 4 T) (hI : zInv T) (n : Int64) : fX7_hashOf S n = some (nI (zha T n), S) := by
  rw [fX7_hashOf, zX_b hv, zX_y hv, zX_f hv, zx_hashBy S n (by have := hI.1; omega) (by have := hI.1; omega) (by have := hI.1; omega), zq_c]
  rfl
theorem zm_hashOf {S : sh_St} {T : zT} (hv : zVN S T) (hI : zInv T) {n : Int64} (hn : zval n) : fX13_hashOf S n = some (nI (zha T n), S) := by
  rw [fX13_hashOf]
  simp (disch := omega) only [zq_l2, pk_mul, nI_add, zq_t, zq_c, zq_bz, zq_bo, zq_g, zq_cl, zq_leT, zq_leF, zq_ltT, zq_ltF, zq_eqT, zq_eqF, zq_em, zq_me, zq_pm, zq_mm, zq_gm, pk_sub, zI_s, zI_k, zI_c, zI_2, zL_s, zL_k, zL_c, zL_1, if_true, if_false, eq_self, Nat.zero_add, Nat.add_zero, zM_b hv, zM_y hv, zM_f hv]
  rw [zm_hash S hn (by have := hI.1; omega) (by have := hI.1; omega) (by have := hI.1; omega), zq_c]
  rfl
theorem zx_ent_l {S : sh_St} {T : zT} (hv : zVX S 4 T) {b : Nat} (hb : b < 40) : ∀ (n s : Nat), s ≤ 6 → 6 - s < n → fX7_entriesIn_4 n S (nI b) (nI (zcnt (fun s => znz T (b * 6 + s)) s)) (nI s) = some (nI (zent T b), S) := by
  intro n
  induction n with
  | zero => intro s h1 h2; omega
  | succ n ih =>
    intro s h1 h2
    have hc := zcnt_le (fun s => znz T (b * 6 + s)) s
    rw [fX7_entriesIn_4]
    by_cases h : s = 6
    · subst h
      simp (disch := omega) only [zq_l2, pk_mul, nI_add, zq_t, zq_c, zq_bz, zq_bo, zq_g, zq_cl, zq_leT, zq_leF, zq_ltT, zq_ltF, zq_eqT, zq_eqF, zq_em, zq_me, zq_pm, zq_mm, zq_gm, pk_sub, zI_s, zI_k, zI_c, zI_2, zL_s, zL_k, zL_c, zL_1, if_true, if_false, eq_self, Nat.zero_add, Nat.add_zero]
      rfl
    · have e := ih (s + 1) (by omega) (by omega)
      by_cases h9 : T.2 (b * 6 + s) = 0
      · rw [zcnt_f (p := fun s => znz T (b * 6 + s)) (znz_f h9)] at e
        simp (disch := omega) only [zq_l2, pk_mul, nI_add, zq_t, zq_c, zq_bz, zq_bo, zq_g, zq_cl, zq_leT, zq_leF, zq_ltT, zq_ltF, zq_eqT, zq_eqF, zq_em, zq_me, zq_pm, zq_mm, zq_gm, pk_sub, zI_s, zI_k, zI_c, zI_2, zL_s, zL_k, zL_c, zL_1, if_true, if_false, eq_self, Nat.zero_add, Nat.add_zero, zX_n hv, h9, fX7_entriesIn_29]
        exact e
      · rw [zcnt_t (p := fun s => znz T (b * 6 + s)) (znz_t h9)] at e
        simp (disch := omega) only [zq_l2, pk_mul, nI_add, zq_t, zq_c, zq_bz, zq_bo, zq_g, zq_cl, zq_leT, zq_leF, zq_ltT, zq_ltF, zq_eqT, zq_eqF, zq_em, zq_me, zq_pm, zq_mm, zq_gm, pk_sub, zI_s, zI_k, zI_c, zI_2, zL_s, zL_k, zL_c, zL_1, if_true, if_false, eq_self, Nat.zero_add, Nat.add_zero, zX_n hv, h9, fX7_entriesIn_29]
        exact e
theorem zx_ent {S : sh_St} {T : zT} (hv : zVX S 4 T) {b : Nat} (hb : b < 40) : fX7_entriesIn S (nI b) = some (nI (zent T b), S) := by
  rw [fX7_entriesIn]
  exact zx_ent_l hv hb sh_FU 0 (by omega) (by decide)
/-- how many entries have a hash -/
def zhp (T : zT) (h k : Nat) : Bool := znz T k && decide (zha T (T.2 k) = h)
def zhit (T : zT) (h : Nat) : Nat := zcnt (zhp T h) 240
theorem zhp_0 {T : zT} {h k : Nat} (hk : T.2 k = 0) : zhp T h k = false := by unfold zhp; rw [znz_f hk]; rfl
theorem zhp_f {T : zT} {h k : Nat} (hk : zha T (T.2 k) ≠ h) : zhp T h k = false := by unfold zhp; rw [decide_eq_false hk, Bool.and_false]
theorem zhp_t {T : zT} {h k : Nat} (h0 : T.2 k ≠ 0) (hk : zha T (T.2 k) = h) : zhp T h k = true := by unfold zhp; rw [decide_eq_true hk, znz_t h0]; rfl
theorem zx_hit_l {S : sh_St} {T : zT} (hv : zVX S 4 T) (hI : zInv T) {g : Nat} (hg : g < 4096) : ∀ (n s : Nat), s ≤ 240 → 240 - s < n → fX7_entriesOfHash_4 n S (nI g) (nI (zcnt (zhp T g) s)) (nI s) = some (nI (zhit T g), S) := by
  intro n
  induction n with
  | zero => intro s h1 h2; omega
  | succ n ih =>
    intro s h1 h2
    have hc := zcnt_le (zhp T g) s
    rw [fX7_entriesOfHash_4]
    by_cases h : s = 240
    · subst h
      simp (disch := omega) only [zq_l2, pk_mul, nI_add, zq_t, zq_c, zq_bz, zq_bo, zq_g, zq_cl, zq_leT, zq_leF, zq_ltT, zq_ltF, zq_eqT, zq_eqF, zq_em, zq_me, zq_pm, zq_mm, zq_gm, pk_sub, zI_s, zI_k, zI_c, zI_2, zL_s, zL_k, zL_c, zL_1, if_true, if_false, eq_self, Nat.zero_add, Nat.add_zero]
      rfl
    · have e := ih (s + 1) (by omega) (by omega)
      have hl := zha_lt hI (T.2 s)
      by_cases h9 : T.2 s = 0
      · rw [zcnt_f (zhp_0 h9)] at e
        simp (disch := omega) only [zq_l2, pk_mul, nI_add, zq_t, zq_c, zq_bz, zq_bo, zq_g, zq_cl, zq_leT, zq_leF, zq_ltT, zq_ltF, zq_eqT, zq_eqF, zq_em, zq_me, zq_pm, zq_mm, zq_gm, pk_sub, zI_s, zI_k, zI_c, zI_2, zL_s, zL_k, zL_c, zL_1, if_true, if_false, eq_self, Nat.zero_add, Nat.add_zero, zX_n hv, h9, fX7_entriesOfHash_35]
        exact e
      · by_cases h8 : zha T (T.2 s) = g
        · rw [zcnt_t (zhp_t h9 h8)] at e
          simp (disch := omega) only [zq_l2, pk_mul, nI_add, zq_t, zq_c, zq_bz, zq_bo, zq_g, zq_cl, zq_leT, zq_leF, zq_ltT, zq_ltF, zq_eqT, zq_eqF, zq_em, zq_me, zq_pm, zq_mm, zq_gm, pk_sub, zI_s, zI_k, zI_c, zI_2, zL_s, zL_k, zL_c, zL_1, if_true, if_false, eq_self, Nat.zero_add, Nat.add_zero, zX_n hv, zX_h hv (show s < 240 by omega) h9, h9, fX7_entriesOfHash_35]
          exact e
        · rw [zcnt_f (zhp_f h8)] at e
          simp (disch := omega) only [zq_l2, pk_mul, nI_add, zq_t, zq_c, zq_bz, zq_bo, zq_g, zq_cl, zq_leT, zq_leF, zq_ltT, zq_ltF, zq_eqT, zq_eqF, zq_em, zq_me, zq_pm, zq_mm, zq_gm, pk_sub, zI_s, zI_k, zI_c, zI_2, zL_s, zL_k, zL_c, zL_1, if_true, if_false, eq_self, Nat.zero_add, Nat.add_zero, zX_n hv, zX_h hv (show s < 240 by omega) h9, h9, fX7_entriesOfHash_35]
          exact e
theorem zx_hit {S : sh_St} {T : zT} (hv : zVX S 4 T) (hI : zInv T) {g : Nat} (hg : g < 4096) : fX7_entriesOfHash S (nI g) = some (nI (zhit T g), S) := by
  rw [fX7_entriesOfHash]
  exact zx_hit_l hv hI hg sh_FU 0 (by omega) (by decide)
theorem zx_kin_l {S : sh_St} {T : zT} (hv : zVX S 4 T) (hI : zInv T) {g : Nat} (hg : g < 4096) : ∀ (n s : Nat), s ≤ 40 → 40 - s < n → fX7_blocksOfKind_4 n S (nI g) (nI (zcnt (fun b => decide (T.1 0 b = g)) s)) (nI s) = some (nI (zkin T g), S) := by
  intro n
  induction n with
  | zero => intro s h1 h2; omega
  | succ n ih =>
    intro s h1 h2
    have hc := zcnt_le (fun b => decide (T.1 0 b = g)) s
    rw [fX7_blocksOfKind_4]
    by_cases h : s = 40
    · subst h
      simp (disch := omega) only [zq_l2, pk_mul, nI_add, zq_t, zq_c, zq_bz, zq_bo, zq_g, zq_cl, zq_leT, zq_leF, zq_ltT, zq_ltF, zq_eqT, zq_eqF, zq_em, zq_me, zq_pm, zq_mm, zq_gm, pk_sub, zI_s, zI_k, zI_c, zI_2, zL_s, zL_k, zL_c, zL_1, if_true, if_false, eq_self, Nat.zero_add, Nat.add_zero]
      rfl
    · have e := ih (s + 1) (by omega) (by omega)
      have hl := (hI.2.1 s (by omega)).1
      by_cases h9 : T.1 0 s = g
      · rw [zcnt_t (p := fun b => decide (T.1 0 b = g)) (decide_eq_true h9)] at e
        simp (disch := omega) only [zq_l2, pk_mul, nI_add, zq_t, zq_c, zq_bz, zq_bo, zq_g, zq_cl, zq_leT, zq_leF, zq_ltT, zq_ltF, zq_eqT, zq_eqF, zq_em, zq_me, zq_pm, zq_mm, zq_gm, pk_sub, zI_s, zI_k, zI_c, zI_2, zL_s, zL_k, zL_c, zL_1, if_true, if_false, eq_self, Nat.zero_add, Nat.add_zero, zX_k hv, fX7_blocksOfKind_23]
        exact e
      · rw [zcnt_f (p := fun b => decide (T.1 0 b = g)) (decide_eq_false h9)] at e
        simp (disch := omega) only [zq_l2, pk_mul, nI_add, zq_t, zq_c, zq_bz, zq_bo, zq_g, zq_cl, zq_leT, zq_leF, zq_ltT, zq_ltF, zq_eqT, zq_eqF, zq_em, zq_me, zq_pm, zq_mm, zq_gm, pk_sub, zI_s, zI_k, zI_c, zI_2, zL_s, zL_k, zL_c, zL_1, if_true, if_false, eq_self, Nat.zero_add, Nat.add_zero, zX_k hv, fX7_blocksOfKind_23]
        exact e
theorem zx_kin {S : sh_St} {T : zT} (hv : zVX S 4 T) (hI : zInv T) {g : Nat} (hg : g < 4096) : fX7_blocksOfKind S (nI g) = some (nI (zkin T g), S) := by
  rw [fX7_blocksOfKind]
  exact zx_kin_l hv hI hg sh_FU 0 (by omega) (by decide)
theorem zx_tor_l {S : sh_St} {T : zT} (hv : zVX S 4 T) (hI : zInv T) : ∀ (n s : Nat), s ≤ 40 → 40 - s < n → fX7_tornIndexes_4 n S (nI (zcnt (fun b => decide (T.1 2 b = 1)) s)) (nI s) = some (nI (ztor T), S) := by
  intro n
  induction n with
  | zero => intro s h1 h2; omega
  | succ n ih =>
    intro s h1 h2
    have hc := zcnt_le (fun b => decide (T.1 2 b = 1)) s
    rw [fX7_tornIndexes_4]
    by_cases h : s = 40
    · subst h
      simp (disch := omega) only [zq_l2, pk_mul, nI_add, zq_t, zq_c, zq_bz, zq_bo, zq_g, zq_cl, zq_leT, zq_leF, zq_ltT, zq_ltF, zq_eqT, zq_eqF, zq_em, zq_me, zq_pm, zq_mm, zq_gm, pk_sub, zI_s, zI_k, zI_c, zI_2, zL_s, zL_k, zL_c, zL_1, if_true, if_false, eq_self, Nat.zero_add, Nat.add_zero]
      rfl
    · have e := ih (s + 1) (by omega) (by omega)
      have hl := (hI.2.1 s (by omega)).2.2.1
      by_cases h9 : T.1 2 s = 1
      · rw [zcnt_t (p := fun b => decide (T.1 2 b = 1)) (decide_eq_true h9)] at e
        simp (disch := omega) only [zq_l2, pk_mul, nI_add, zq_t, zq_c, zq_bz, zq_bo, zq_g, zq_cl, zq_leT, zq_leF, zq_ltT, zq_ltF, zq_eqT, zq_eqF, zq_em, zq_me, zq_pm, zq_mm, zq_gm, pk_sub, zI_s, zI_k, zI_c, zI_2, zL_s, zL_k, zL_c, zL_1, if_true, if_false, eq_self, Nat.zero_add, Nat.add_zero, zX_t hv, h9]
        exact e
      · rw [zcnt_f (p := fun b => decide (T.1 2 b = 1)) (decide_eq_false h9)] at e
        have h8 : T.1 2 s = 0 := by omega
        simp (disch := omega) only [zq_l2, pk_mul, nI_add, zq_t, zq_c, zq_bz, zq_bo, zq_g, zq_cl, zq_leT, zq_leF, zq_ltT, zq_ltF, zq_eqT, zq_eqF, zq_em, zq_me, zq_pm, zq_mm, zq_gm, pk_sub, zI_s, zI_k, zI_c, zI_2, zL_s, zL_k, zL_c, zL_1, if_true, if_false, eq_self, Nat.zero_add, Nat.add_zero, zX_t hv, h8]
        exact e
theorem zx_tor {S : sh_St} {T : zT} (hv : zVX S 4 T) (hI : zInv T) : fX7_tornIndexes S = some (nI (ztor T), S) := by
  rw [fX7_tornIndexes]
  exact zx_tor_l hv hI sh_FU 0 (by omega) (by decide)
/-! the same counts by the reference -/
theorem zm_isEmpty {S : sh_St} {T : zT} (hv : zVN S T) (hI : zInv T) {b s : Nat} (hb : b < 40) (hs : s < 6) : fX13_isEmpty S (nI b) (nI s) = some (nI (if T.2 (b * 6 + s) = 0 then 1 else 0), S) := by
  rw [fX13_isEmpty, fX13_slotAt]
  have e : 6 * b + s = b * 6 + s := by omega
  by_cases h : T.2 (b * 6 + s) = 0
  · simp (disch := omega) only [zq_l2, pk_mul, nI_add, zq_t, zq_c, zq_bz, zq_bo, zq_g, zq_cl, zq_leT, zq_leF, zq_ltT, zq_ltF, zq_eqT, zq_eqF, zq_em, zq_me, zq_pm, zq_mm, zq_gm, pk_sub, zI_s, zI_k, zI_c, zI_2, zL_s, zL_k, zL_c, zL_1, if_true, if_false, eq_self, Nat.zero_add, Nat.add_zero, e, zM_e hv (show b * 6 + s < 240 by omega) h, h]
  · have h1 := zInv_nd hI (show b * 6 + s < 240 by omega) h
    simp (disch := omega) only [zq_l2, pk_mul, nI_add, zq_t, zq_c, zq_bz, zq_bo, zq_g, zq_cl, zq_leT, zq_leF, zq_ltT, zq_ltF, zq_eqT, zq_eqF, zq_em, zq_me, zq_pm, zq_mm, zq_gm, pk_sub, zI_s, zI_k, zI_c, zI_2, zL_s, zL_k, zL_c, zL_1, if_true, if_false, eq_self, Nat.zero_add, Nat.add_zero, e, zM_d hv (show b * 6 + s < 240 by omega) h, h]
theorem zm_isEmpty_t {S : sh_St} {T : zT} (hv : zVN S T) (hI : zInv T) {b s : Nat} (hb : b < 40) (hs : s < 6) (h : T.2 (b * 6 + s) = 0) : fX13_isEmpty S (nI b) (nI s) = some (nI 1, S) := by rw [zm_isEmpty hv hI hb hs, if_pos h]
theorem zm_isEmpty_f {S : sh_St} {T : zT} (hv : zVN S T) (hI : zInv T) {b s : Nat} (hb : b < 40) (hs : s < 6) (h : T.2 (b * 6 + s) ≠ 0) : fX13_isEmpty S (nI b) (nI s) = some (nI 0, S) := by rw [zm_isEmpty hv hI hb hs, if_neg h]
theorem zm_ent_l {S : sh_St} {T : zT} (hv : zVN S T) (hI : zInv T) {b : Nat} (hb : b < 40) : ∀ (n s : Nat), s ≤ 6 → 6 - s < n → fX13_entries_4 n S (nI b) (nI (zcnt (fun s => znz T (b * 6 + s)) s)) (nI s) = some (nI (zent T b), S) := by
  intro n
  induction n with
  | zero => intro s h1 h2; omega
  | succ n ih =>
    intro s h1 h2
    have hc := zcnt_le (fun s => znz T (b * 6 + s)) s
    rw [fX13_entries_4]
    by_cases h : s = 6
    · subst h
      simp (disch := omega) only [zq_l2, pk_mul, nI_add, zq_t, zq_c, zq_bz, zq_bo, zq_g, zq_cl, zq_leT, zq_leF, zq_ltT, zq_ltF, zq_eqT, zq_eqF, zq_em, zq_me, zq_pm, zq_mm, zq_gm, pk_sub, zI_s, zI_k, zI_c, zI_2, zL_s, zL_k, zL_c, zL_1, if_true, if_false, eq_self, Nat.zero_add, Nat.add_zero]
      rfl
    · have e := ih (s + 1) (by omega) (by omega)
      by_cases h9 : T.2 (b * 6 + s) = 0
      · rw [zcnt_f (p := fun s => znz T (b * 6 + s)) (znz_f h9)] at e
        simp (disch := omega) only [zq_l2, pk_mul, nI_add, zq_t, zq_c, zq_bz, zq_bo, zq_g, zq_cl, zq_leT, zq_leF, zq_ltT, zq_ltF, zq_eqT, zq_eqF, zq_em, zq_me, zq_pm, zq_mm, zq_gm, pk_sub, zI_s, zI_k, zI_c, zI_2, zL_s, zL_k, zL_c, zL_1, if_true, if_false, eq_self, Nat.zero_add, Nat.add_zero, zm_isEmpty_t hv hI hb (show s < 6 by omega) h9, fX13_entries_25]
        exact e
      · rw [zcnt_t (p := fun s => znz T (b * 6 + s)) (znz_t h9)] at e
        simp (disch := omega) only [zq_l2, pk_mul, nI_add, zq_t, zq_c, zq_bz, zq_bo, zq_g, zq_cl, zq_leT, zq_leF, zq_ltT, zq_ltF, zq_eqT, zq_eqF, zq_em, zq_me, zq_pm, zq_mm, zq_gm, pk_sub, zI_s, zI_k, zI_c, zI_2, zL_s, zL_k, zL_c, zL_1, if_true, if_false, eq_self, Nat.zero_add, Nat.add_zero, zm_isEmpty_f hv hI hb (show s < 6 by omega) h9, fX13_entries_25]
        exact e
theorem zm_ent {S : sh_St} {T : zT} (hv : zVN S T) (hI : zInv T) {b : Nat} (hb : b < 40) : fX13_entries S (nI b) = some (nI (zent T b), S) := by
  rw [fX13_entries]
  exact zm_ent_l hv hI hb sh_FU 0 (by omega) (by decide)
theorem zm_all_l {S : sh_St} {T : zT} (hv : zVN S T) (hI : zInv T) : ∀ (n s : Nat), s ≤ 240 → 240 - s < n → fX13_allEntries_4 n S (nI (zcnt (znz T) s)) (nI s) = some (nI (zall T), S) := by
  intro n
  induction n with
  | zero => intro s h1 h2; omega
  | succ n ih =>
    intro s h1 h2
    have hc := zcnt_le (znz T) s
    rw [fX13_allEntries_4]
    by_cases h : s = 240
    · subst h
      simp (disch := omega) only [zq_l2, pk_mul, nI_add, zq_t, zq_c, zq_bz, zq_bo, zq_g, zq_cl, zq_leT, zq_leF, zq_ltT, zq_ltF, zq_eqT, zq_eqF, zq_em, zq_me, zq_pm, zq_mm, zq_gm, pk_sub, zI_s, zI_k, zI_c, zI_2, zL_s, zL_k, zL_c, zL_1, if_true, if_false, eq_self, Nat.zero_add, Nat.add_zero]
      rfl
    · have e := ih (s + 1) (by omega) (by omega)
      by_cases h9 : T.2 s = 0
      · rw [zcnt_f (znz_f h9)] at e
        simp (disch := omega) only [zq_l2, pk_mul, nI_add, zq_t, zq_c, zq_bz, zq_bo, zq_g, zq_cl, zq_leT, zq_leF, zq_ltT, zq_ltF, zq_eqT, zq_eqF, zq_em, zq_me, zq_pm, zq_mm, zq_gm, pk_sub, zI_s, zI_k, zI_c, zI_2, zL_s, zL_k, zL_c, zL_1, if_true, if_false, eq_self, Nat.zero_add, Nat.add_zero, zM_e hv (show s < 240 by omega) h9, fX13_allEntries_31]
        exact e
      · rw [zcnt_t (znz_t h9)] at e
        have h1 := zInv_nd hI (show s < 240 by omega) h9
        simp (disch := omega) only [zq_l2, pk_mul, nI_add, zq_t, zq_c, zq_bz, zq_bo, zq_g, zq_cl, zq_leT, zq_leF, zq_ltT, zq_ltF, zq_eqT, zq_eqF, zq_em, zq_me, zq_pm, zq_mm, zq_gm, pk_sub, zI_s, zI_k, zI_c, zI_2, zL_s, zL_k, zL_c, zL_1, if_true, if_false, eq_self, Nat.zero_add, Nat.add_zero, zM_d hv (show s < 240 by omega) h9, fX13_allEntries_31]
        exact e
theorem zm_all {S : sh_St} {T : zT} (hv : zVN S T) (hI : zInv T) : fX13_allEntries S = some (nI (zall T), S) := by
  rw [fX13_allEntries]
  exact zm_all_l hv hI sh_FU 0 (by omega) (by decide)
theorem zm_cnt_l {S : sh_St} {a g : Nat} (F : Nat → Nat) (ha : a ≤ 40) (hg : g < 4096) (hF : ∀ b, b < 40 → S.1 1 (a + b) = nI (F b) ∧ F b ≤ 2) : ∀ (n s : Nat), s ≤ 40 → 40 - s < n → fX13_countOf_5 n S (nI a) (nI g) (nI (zcnt (fun b => decide (F b = g)) s)) (nI s) = some (nI (zcnt (fun b => decide (F b = g)) 40), S) := by
  intro n
  induction n with
  | zero => intro s h1 h2; omega
  | succ n ih =>
    intro s h1 h2
    have hc := zcnt_le (fun b => decide (F b = g)) s
    rw [fX13_countOf_5]
    by_cases h : s = 40
    · subst h
      simp (disch := omega) only [zq_l2, pk_mul, nI_add, zq_t, zq_c, zq_bz, zq_bo, zq_g, zq_cl, zq_leT, zq_leF, zq_ltT, zq_ltF, zq_eqT, zq_eqF, zq_em, zq_me, zq_pm, zq_mm, zq_gm, pk_sub, zI_s, zI_k, zI_c, zI_2, zL_s, zL_k, zL_c, zL_1, if_true, if_false, eq_self, Nat.zero_add, Nat.add_zero]
    · have e := ih (s + 1) (by omega) (by omega)
      have hl := hF s (by omega)
      by_cases h9 : F s = g
      · rw [zcnt_t (p := fun b => decide (F b = g)) (decide_eq_true h9)] at e
        simp (disch := omega) only [zq_l2, pk_mul, nI_add, zq_t, zq_c, zq_bz, zq_bo, zq_g, zq_cl, zq_leT, zq_leF, zq_ltT, zq_ltF, zq_eqT, zq_eqF, zq_em, zq_me, zq_pm, zq_mm, zq_gm, pk_sub, zI_s, zI_k, zI_c, zI_2, zL_s, zL_k, zL_c, zL_1, if_true, if_false, eq_self, Nat.zero_add, Nat.add_zero, hl.1, fX13_countOf_31]
        exact e
      · rw [zcnt_f (p := fun b => decide (F b = g)) (decide_eq_false h9)] at e
        simp (disch := omega) only [zq_l2, pk_mul, nI_add, zq_t, zq_c, zq_bz, zq_bo, zq_g, zq_cl, zq_leT, zq_leF, zq_ltT, zq_ltF, zq_eqT, zq_eqF, zq_em, zq_me, zq_pm, zq_mm, zq_gm, pk_sub, zI_s, zI_k, zI_c, zI_2, zL_s, zL_k, zL_c, zL_1, if_true, if_false, eq_self, Nat.zero_add, Nat.add_zero, hl.1, fX13_countOf_31]
        exact e
theorem zm_kin {S : sh_St} {T : zT} (hv : zVN S T) (hI : zInv T) {g : Nat} (hg : g < 4096) : fX13_countOf S (nI 0) (nI g) = some (nI (zkin T g), S) := by
  rw [fX13_countOf]
  exact zm_cnt_l (a := 0) (T.1 0) (by omega) hg (fun b hb => ⟨by rw [Nat.zero_add]; exact zM_k hv hb, (hI.2.1 b hb).1⟩) sh_FU 0 (by omega) (by decide)
theorem zm_tor {S : sh_St} {T : zT} (hv : zVN S T) (hI : zInv T) : fX13_countOf S (nI 40) (nI 1) = some (nI (ztor T), S) := by
  rw [fX13_countOf]
  exact zm_cnt_l (a := 40) (T.1 2) (by omega) (by omega) (fun b hb => ⟨zM_t hv hb, by have := (hI.2.1 b hb).2.2.1; omega⟩) sh_FU 0 (by omega) (by decide)
theorem ztor_le (T : zT) : ztor T ≤ 40 := zcnt_le _ _
theorem zm_any {S : sh_St} {T : zT} (hv : zVN S T) (hI : zInv T) : fX13_isAnyTorn S = some (nI (if ztor T = 0 then 0 else 1), S) := by
  have h2 := ztor_le T
  rw [fX13_isAnyTorn]
  by_cases h : ztor T = 0
  · simp (disch := omega) only [zq_l2, pk_mul, nI_add, zq_t, zq_c, zq_bz, zq_bo, zq_g, zq_cl, zq_leT, zq_leF, zq_ltT, zq_ltF, zq_eqT, zq_eqF, zq_em, zq_me, zq_pm, zq_mm, zq_gm, pk_sub, zI_s, zI_k, zI_c, zI_2, zL_s, zL_k, zL_c, zL_1, if_true, if_false, eq_self, Nat.zero_add, Nat.add_zero, zm_tor hv hI, h]
  · simp (disch := omega) only [zq_l2, pk_mul, nI_add, zq_t, zq_c, zq_bz, zq_bo, zq_g, zq_cl, zq_leT, zq_leF, zq_ltT, zq_ltF, zq_eqT, zq_eqF, zq_em, zq_me, zq_pm, zq_mm, zq_gm, pk_sub, zI_s, zI_k, zI_c, zI_2, zL_s, zL_k, zL_c, zL_1, if_true, if_false, eq_self, Nat.zero_add, Nat.add_zero, zm_tor hv hI, h]
theorem zm_hit_l {S : sh_St} {T : zT} (hv : zVN S T) (hI : zInv T) {g : Nat} (hg : g < 4097) : ∀ (n s : Nat), s ≤ 240 → 240 - s < n → fX13_meets_4 n S (nI g) (nI (zcnt (zhp T g) s)) (nI s) = some (nI (zhit T g), S) := by
  intro n
  induction n with
  | zero => intro s h1 h2; omega
  | succ n ih =>
    intro s h1 h2
    have hc := zcnt_le (zhp T g) s
    rw [fX13_meets_4]
    by_cases h : s = 240
    · subst h
      simp (disch := omega) only [zq_l2, pk_mul, nI_add, zq_t, zq_c, zq_bz, zq_bo, zq_g, zq_cl, zq_leT, zq_leF, zq_ltT, zq_ltF, zq_eqT, zq_eqF, zq_em, zq_me, zq_pm, zq_mm, zq_gm, pk_sub, zI_s, zI_k, zI_c, zI_2, zL_s, zL_k, zL_c, zL_1, if_true, if_false, eq_self, Nat.zero_add, Nat.add_zero]
      rfl
    · have e := ih (s + 1) (by omega) (by omega)
      have hl := zha_lt hI (T.2 s)
      by_cases h9 : T.2 s = 0
      · rw [zcnt_f (zhp_0 h9)] at e
        simp (disch := omega) only [zq_l2, pk_mul, nI_add, zq_t, zq_c, zq_bz, zq_bo, zq_g, zq_cl, zq_leT, zq_leF, zq_ltT, zq_ltF, zq_eqT, zq_eqF, zq_em, zq_me, zq_pm, zq_mm, zq_gm, pk_sub, zI_s, zI_k, zI_c, zI_2, zL_s, zL_k, zL_c, zL_1, if_true, if_false, eq_self, Nat.zero_add, Nat.add_zero, zM_e hv (show s < 240 by omega) h9, fX13_meets_44, fX13_meets_45]
        exact e
      · have h1 := zInv_nd hI (show s < 240 by omega) h9
        have h3 := zInv_va hI (show s < 240 by omega) h9
        by_cases h8 : zha T (T.2 s) = g
        · rw [zcnt_t (zhp_t h9 h8)] at e
          simp (disch := omega) only [zq_l2, pk_mul, nI_add, zq_t, zq_c, zq_bz, zq_bo, zq_g, zq_cl, zq_leT, zq_leF, zq_ltT, zq_ltF, zq_eqT, zq_eqF, zq_em, zq_me, zq_pm, zq_mm, zq_gm, pk_sub, zI_s, zI_k, zI_c, zI_2, zL_s, zL_k, zL_c, zL_1, if_true, if_false, eq_self, Nat.zero_add, Nat.add_zero, zM_d hv (show s < 240 by omega) h9, zM_n hv, zm_hashOf hv hI h3, fX13_meets_44, fX13_meets_45]
          exact e
        · rw [zcnt_f (zhp_f h8)] at e
          simp (disch := omega) only [zq_l2, pk_mul, nI_add, zq_t, zq_c, zq_bz, zq_bo, zq_g, zq_cl, zq_leT, zq_leF, zq_ltT, zq_ltF, zq_eqT, zq_eqF, zq_em, zq_me, zq_pm, zq_mm, zq_gm, pk_sub, zI_s, zI_k, zI_c, zI_2, zL_s, zL_k, zL_c, zL_1, if_true, if_false, eq_self, Nat.zero_add, Nat.add_zero, zM_d hv (show s < 240 by omega) h9, zM_n hv, zm_hashOf hv hI h3, fX13_meets_44, fX13_meets_45]
          exact e
theorem zm_hit {S : sh_St} {T : zT} (hv : zVN S T) (hI : zInv T) {g : Nat} (hg : g < 4097) : fX13_meets S (nI g) = some (nI (zhit T g), S) := by
  rw [fX13_meets]
  exact zm_hit_l hv hI hg sh_FU 0 (by omega) (by decide)
