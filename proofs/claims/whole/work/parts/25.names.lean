/-! A name's bytes -/
def zb (n : Int64) (k : Nat) : Nat := n.toBitVec.toNat / 256 ^ (7 - k) % 256
theorem zb_lt (n : Int64) (k : Nat) : zb n k < 256 := Nat.mod_lt _ (by decide)
theorem zb_ext {a b : Int64} (h : ∀ k, k < 8 → zb a k = zb b k) : a = b := by
  have ha := a.toBitVec.isLt
  have hb := b.toBitVec.isLt
  apply Int64.toBitVec_inj.mp
  apply BitVec.eq_of_toNat_eq
  have h0 := h 0 (by omega)
  have h1 := h 1 (by omega)
  have h2 := h 2 (by omega)
  have h3 := h 3 (by omega)
  have h4 := h 4 (by omega)
  have h5 := h 5 (by omega)
  have h6 := h 6 (by omega)
  have h7 := h 7 (by omega)
  unfold zb at h0 h1 h2 h3 h4 h5 h6 h7
  generalize a.toBitVec.toNat = x at *
  generalize b.toBitVec.toNat = y at *
  simp only [Nat.reduceSub, Nat.reducePow, Nat.pow_zero, Nat.div_one, Nat.pow_one] at *
  omega
theorem zb_X0 (n : Int64) : Int64.toInt32 ((Int64.toUInt64 n >>> (56 : UInt64)).toInt64) &&& 255 = nI (zb n 0) := by
  rw [pk_and _ 8 (by decide)]
  unfold zb
  simp [Int64.toBitVec_toInt32, BitVec.signExtend_eq_setWidth_of_le, Nat.shiftRight_eq_div_pow]
  try omega
theorem zb_S0 (n : Int64) : Int64.toInt32 (n >>> (56 : Int64)) &&& 255 = Int64.toInt32 ((Int64.toUInt64 n >>> (56 : UInt64)).toInt64) &&& 255 := by
  apply Int32.toBitVec_inj.mp
  simp [Int32.toBitVec_and, Int64.toBitVec_toInt32, Int64.toBitVec_shiftRight]
  try (ext i hi
       by_cases h8 : i < 8
       · simp [BitVec.getElem_signExtend, BitVec.getElem_sshiftRight, BitVec.getElem_ushiftRight, show i < 64 by omega]
         try (rw [dif_pos (by omega)])
         try (rw [BitVec.getLsbD_eq_getElem (by omega)])
       · have : (255#32)[i] = false := by
           have h9 : ∀ i, ∀ h : i < 32, ¬ i < 8 → (255#32)[i] = false := by decide
           exact h9 i hi h8
         simp [this])
theorem zb_X1 (n : Int64) : Int64.toInt32 ((Int64.toUInt64 n >>> (48 : UInt64)).toInt64) &&& 255 = nI (zb n 1) := by
  rw [pk_and _ 8 (by decide)]
  unfold zb
  simp [Int64.toBitVec_toInt32, BitVec.signExtend_eq_setWidth_of_le, Nat.shiftRight_eq_div_pow]
  try omega
theorem zb_S1 (n : Int64) : Int64.toInt32 (n >>> (48 : Int64)) &&& 255 = Int64.toInt32 ((Int64.toUInt64 n >>> (48 : UInt64)).toInt64) &&& 255 := by
  apply Int32.toBitVec_inj.mp
  simp [Int32.toBitVec_and, Int64.toBitVec_toInt32, Int64.toBitVec_shiftRight]
  try (ext i hi
       by_cases h8 : i < 8
       · simp [BitVec.getElem_signExtend, BitVec.getElem_sshiftRight, BitVec.getElem_ushiftRight, show i < 64 by omega]
         try (rw [dif_pos (by omega)])
         try (rw [BitVec.getLsbD_eq_getElem (by omega)])
       · have : (255#32)[i] = false := by
           have h9 : ∀ i, ∀ h : i < 32, ¬ i < 8 → (255#32)[i] = false := by decide
           exact h9 i hi h8
         simp [this])
theorem zb_X2 (n : Int64) : Int64.toInt32 ((Int64.toUInt64 n >>> (40 : UInt64)).toInt64) &&& 255 = nI (zb n 2) := by
  rw [pk_and _ 8 (by decide)]
  unfold zb
  simp [Int64.toBitVec_toInt32, BitVec.signExtend_eq_setWidth_of_le, Nat.shiftRight_eq_div_pow]
  try omega
theorem zb_S2 (n : Int64) : Int64.toInt32 (n >>> (40 : Int64)) &&& 255 = Int64.toInt32 ((Int64.toUInt64 n >>> (40 : UInt64)).toInt64) &&& 255 := by
  apply Int32.toBitVec_inj.mp
  simp [Int32.toBitVec_and, Int64.toBitVec_toInt32, Int64.toBitVec_shiftRight]
  try (ext i hi
       by_cases h8 : i < 8
       · simp [BitVec.getElem_signExtend, BitVec.getElem_sshiftRight, BitVec.getElem_ushiftRight, show i < 64 by omega]
         try (rw [dif_pos (by omega)])
         try (rw [BitVec.getLsbD_eq_getElem (by omega)])
       · have : (255#32)[i] = false := by
           have h9 : ∀ i, ∀ h : i < 32, ¬ i < 8 → (255#32)[i] = false := by decide
           exact h9 i hi h8
         simp [this])
theorem zb_X3 (n : Int64) : Int64.toInt32 ((Int64.toUInt64 n >>> (32 : UInt64)).toInt64) &&& 255 = nI (zb n 3) := by
  rw [pk_and _ 8 (by decide)]
  unfold zb
  simp [Int64.toBitVec_toInt32, BitVec.signExtend_eq_setWidth_of_le, Nat.shiftRight_eq_div_pow]
  try omega
theorem zb_S3 (n : Int64) : Int64.toInt32 (n >>> (32 : Int64)) &&& 255 = Int64.toInt32 ((Int64.toUInt64 n >>> (32 : UInt64)).toInt64) &&& 255 := by
  apply Int32.toBitVec_inj.mp
  simp [Int32.toBitVec_and, Int64.toBitVec_toInt32, Int64.toBitVec_shiftRight]
  try (ext i hi
       by_cases h8 : i < 8
       · simp [BitVec.getElem_signExtend, BitVec.getElem_sshiftRight, BitVec.getElem_ushiftRight, show i < 64 by omega]
         try (rw [dif_pos (by omega)])
         try (rw [BitVec.getLsbD_eq_getElem (by omega)])
       · have : (255#32)[i] = false := by
           have h9 : ∀ i, ∀ h : i < 32, ¬ i < 8 → (255#32)[i] = false := by decide
           exact h9 i hi h8
         simp [this])
theorem zb_X4 (n : Int64) : Int64.toInt32 ((Int64.toUInt64 n >>> (24 : UInt64)).toInt64) &&& 255 = nI (zb n 4) := by
  rw [pk_and _ 8 (by decide)]
  unfold zb
  simp [Int64.toBitVec_toInt32, BitVec.signExtend_eq_setWidth_of_le, Nat.shiftRight_eq_div_pow]
  try omega
theorem zb_S4 (n : Int64) : Int64.toInt32 (n >>> (24 : Int64)) &&& 255 = Int64.toInt32 ((Int64.toUInt64 n >>> (24 : UInt64)).toInt64) &&& 255 := by
  apply Int32.toBitVec_inj.mp
  simp [Int32.toBitVec_and, Int64.toBitVec_toInt32, Int64.toBitVec_shiftRight]
  try (ext i hi
       by_cases h8 : i < 8
       · simp [BitVec.getElem_signExtend, BitVec.getElem_sshiftRight, BitVec.getElem_ushiftRight, show i < 64 by omega]
         try (rw [dif_pos (by omega)])
         try (rw [BitVec.getLsbD_eq_getElem (by omega)])
       · have : (255#32)[i] = false := by
           have h9 : ∀ i, ∀ h : i < 32, ¬ i < 8 → (255#32)[i] = false := by decide
           exact h9 i hi h8
         simp [this])
theorem zb_X5 (n : Int64) : Int64.toInt32 ((Int64.toUInt64 n >>> (16 : UInt64)).toInt64) &&& 255 = nI (zb n 5) := by
  rw [pk_and _ 8 (by decide)]
  unfold zb
  simp [Int64.toBitVec_toInt32, BitVec.signExtend_eq_setWidth_of_le, Nat.shiftRight_eq_div_pow]
  try omega
theorem zb_S5 (n : Int64) : Int64.toInt32 (n >>> (16 : Int64)) &&& 255 = Int64.toInt32 ((Int64.toUInt64 n >>> (16 : UInt64)).toInt64) &&& 255 := by
  apply Int32.toBitVec_inj.mp
  simp [Int32.toBitVec_and, Int64.toBitVec_toInt32, Int64.toBitVec_shiftRight]
  try (ext i hi
       by_cases h8 : i < 8
       · simp [BitVec.getElem_signExtend, BitVec.getElem_sshiftRight, BitVec.getElem_ushiftRight, show i < 64 by omega]
         try (rw [dif_pos (by omega)])
         try (rw [BitVec.getLsbD_eq_getElem (by omega)])
       · have : (255#32)[i] = false := by
           have h9 : ∀ i, ∀ h : i < 32, ¬ i < 8 → (255#32)[i] = false := by decide
           exact h9 i hi h8
         simp [this])
theorem zb_X6 (n : Int64) : Int64.toInt32 ((Int64.toUInt64 n >>> (8 : UInt64)).toInt64) &&& 255 = nI (zb n 6) := by
  rw [pk_and _ 8 (by decide)]
  unfold zb
  simp [Int64.toBitVec_toInt32, BitVec.signExtend_eq_setWidth_of_le, Nat.shiftRight_eq_div_pow]
  try omega
theorem zb_S6 (n : Int64) : Int64.toInt32 (n >>> (8 : Int64)) &&& 255 = Int64.toInt32 ((Int64.toUInt64 n >>> (8 : UInt64)).toInt64) &&& 255 := by
  apply Int32.toBitVec_inj.mp
  simp [Int32.toBitVec_and, Int64.toBitVec_toInt32, Int64.toBitVec_shiftRight]
  try (ext i hi
       by_cases h8 : i < 8
       · simp [BitVec.getElem_signExtend, BitVec.getElem_sshiftRight, BitVec.getElem_ushiftRight, show i < 64 by omega]
         try (rw [dif_pos (by omega)])
         try (rw [BitVec.getLsbD_eq_getElem (by omega)])
       · have : (255#32)[i] = false := by
           have h9 : ∀ i, ∀ h : i < 32, ¬ i < 8 → (255#32)[i] = false := by decide
           exact h9 i hi h8
         simp [this])
theorem zb_X7 (n : Int64) : Int64.toInt32 ((Int64.toUInt64 n >>> (0 : UInt64)).toInt64) &&& 255 = nI (zb n 7) := by
  rw [pk_and _ 8 (by decide)]
  unfold zb
  simp [Int64.toBitVec_toInt32, BitVec.signExtend_eq_setWidth_of_le, Nat.shiftRight_eq_div_pow]
  try omega
theorem zb_S7 (n : Int64) : Int64.toInt32 (n >>> (0 : Int64)) &&& 255 = Int64.toInt32 ((Int64.toUInt64 n >>> (0 : UInt64)).toInt64) &&& 255 := by
  apply Int32.toBitVec_inj.mp
  simp [Int32.toBitVec_and, Int64.toBitVec_toInt32, Int64.toBitVec_shiftRight]
  try (ext i hi
       by_cases h8 : i < 8
       · simp [BitVec.getElem_signExtend, BitVec.getElem_sshiftRight, BitVec.getElem_ushiftRight, show i < 64 by omega]
         try (rw [dif_pos (by omega)])
         try (rw [BitVec.getLsbD_eq_getElem (by omega)])
       · have : (255#32)[i] = false := by
           have h9 : ∀ i, ∀ h : i < 32, ¬ i < 8 → (255#32)[i] = false := by decide
           exact h9 i hi h8
         simp [this])
theorem zx_codeAt (S : sh_St) (n : Int64) {k : Nat} (hk : k < 8) : fX12_codeAt S n (nI k) = some (nI (zb n k), S) := by
  unfold fX12_codeAt
  match k, hk with
  | 0, _ => rw [show ((Int32.toInt64 (8 * (7 - nI 0))).toUInt64 &&& Int64.toUInt64 63) = (56 : UInt64) from by decide, zb_X0]
  | 1, _ => rw [show ((Int32.toInt64 (8 * (7 - nI 1))).toUInt64 &&& Int64.toUInt64 63) = (48 : UInt64) from by decide, zb_X1]
  | 2, _ => rw [show ((Int32.toInt64 (8 * (7 - nI 2))).toUInt64 &&& Int64.toUInt64 63) = (40 : UInt64) from by decide, zb_X2]
  | 3, _ => rw [show ((Int32.toInt64 (8 * (7 - nI 3))).toUInt64 &&& Int64.toUInt64 63) = (32 : UInt64) from by decide, zb_X3]
  | 4, _ => rw [show ((Int32.toInt64 (8 * (7 - nI 4))).toUInt64 &&& Int64.toUInt64 63) = (24 : UInt64) from by decide, zb_X4]
  | 5, _ => rw [show ((Int32.toInt64 (8 * (7 - nI 5))).toUInt64 &&& Int64.toUInt64 63) = (16 : UInt64) from by decide, zb_X5]
  | 6, _ => rw [show ((Int32.toInt64 (8 * (7 - nI 6))).toUInt64 &&& Int64.toUInt64 63) = (8 : UInt64) from by decide, zb_X6]
  | 7, _ => rw [show ((Int32.toInt64 (8 * (7 - nI 7))).toUInt64 &&& Int64.toUInt64 63) = (0 : UInt64) from by decide, zb_X7]
  | k + 8, h => omega
theorem zm_letterOf (S : sh_St) (n : Int64) {k : Nat} (hk : k < 8) : fX13_letterOf S n (nI k) = some (nI (zb n k), S) := by
  unfold fX13_letterOf
  match k, hk with
  | 0, _ => rw [show ((Int32.toInt64 (8 * (7 - nI 0))) &&& 63) = (56 : Int64) from by decide, zb_S0, zb_X0]
  | 1, _ => rw [show ((Int32.toInt64 (8 * (7 - nI 1))) &&& 63) = (48 : Int64) from by decide, zb_S1, zb_X1]
  | 2, _ => rw [show ((Int32.toInt64 (8 * (7 - nI 2))) &&& 63) = (40 : Int64) from by decide, zb_S2, zb_X2]
  | 3, _ => rw [show ((Int32.toInt64 (8 * (7 - nI 3))) &&& 63) = (32 : Int64) from by decide, zb_S3, zb_X3]
  | 4, _ => rw [show ((Int32.toInt64 (8 * (7 - nI 4))) &&& 63) = (24 : Int64) from by decide, zb_S4, zb_X4]
  | 5, _ => rw [show ((Int32.toInt64 (8 * (7 - nI 5))) &&& 63) = (16 : Int64) from by decide, zb_S5, zb_X5]
  | 6, _ => rw [show ((Int32.toInt64 (8 * (7 - nI 6))) &&& 63) = (8 : Int64) from by decide, zb_S6, zb_X6]
  | 7, _ => rw [show ((Int32.toInt64 (8 * (7 - nI 7))) &&& 63) = (0 : Int64) from by decide, zb_S7, zb_X7]
  | k + 8, h => omega
/-- a letter; a name: letters, then nothing -/
def zlet (c : Nat) : Prop := (65 ≤ c ∧ c ≤ 90) ∨ (97 ≤ c ∧ c ≤ 122)
def zlen (n : Int64) : Nat := if zb n 0 = 0 then 0 else if zb n 1 = 0 then 1 else if zb n 2 = 0 then 2 else if zb n 3 = 0 then 3 else if zb n 4 = 0 then 4 else if zb n 5 = 0 then 5 else if zb n 6 = 0 then 6 else if zb n 7 = 0 then 7 else 8
def zval (n : Int64) : Prop := 1 ≤ zlen n ∧ (∀ k, k < zlen n → zlet (zb n k)) ∧ ∀ k, zlen n ≤ k → k < 8 → zb n k = 0
theorem zlen_le (n : Int64) : zlen n ≤ 8 := by
  unfold zlen
  repeat' split
  all_goals omega
theorem zlen_at (n : Int64) (h : zlen n < 8) : zb n (zlen n) = 0 := by
  revert h
  unfold zlen
  repeat' split
  all_goals (intro h; first | assumption | omega)
theorem zlen_lo (n : Int64) : ∀ k, k < zlen n → zb n k ≠ 0 := by
  intro k hk
  have h8 := zlen_le n
  match k, (show k < 8 by omega) with
  | 0, _ => revert hk; unfold zlen; repeat' split
            all_goals (intro hk; first | assumption | omega)
  | 1, _ => revert hk; unfold zlen; repeat' split
            all_goals (intro hk; first | assumption | omega)
  | 2, _ => revert hk; unfold zlen; repeat' split
            all_goals (intro hk; first | assumption | omega)
  | 3, _ => revert hk; unfold zlen; repeat' split
            all_goals (intro hk; first | assumption | omega)
  | 4, _ => revert hk; unfold zlen; repeat' split
            all_goals (intro hk; first | assumption | omega)
  | 5, _ => revert hk; unfold zlen; repeat' split
            all_goals (intro hk; first | assumption | omega)
  | 6, _ => revert hk; unfold zlen; repeat' split
            all_goals (intro hk; first | assumption | omega)
  | 7, _ => revert hk; unfold zlen; repeat' split
            all_goals (intro hk; first | assumption | omega)
  | k + 8, h => omega
theorem zval_ne {n : Int64} (h : zval n) : n ≠ 0 := by
  intro e
  subst e
  have h1 := h.1
  exact absurd h1 (by decide)
theorem zq_xor {a b : Nat} (ha : a < 2 ^ 31) (hb : b < 2 ^ 31) : nI a ^^^ nI b = nI (a ^^^ b) := by
  apply Int32.toBitVec_inj.mp
  apply BitVec.eq_of_toNat_eq
  have h3 : a ^^^ b < 2 ^ 32 := Nat.xor_lt_two_pow (by omega) (by omega)
  rw [pk_tn h3]
  show ((nI a).toBitVec ^^^ (nI b).toBitVec).toNat = _
  rw [BitVec.toNat_xor, pk_tn (by omega), pk_tn (by omega)]
theorem zq_or {a b : Nat} (ha : a < 2 ^ 31) (hb : b < 2 ^ 31) : nI a ||| nI b = nI (a ||| b) := by
  apply Int32.toBitVec_inj.mp
  apply BitVec.eq_of_toNat_eq
  have h3 : a ||| b < 2 ^ 32 := Nat.or_lt_two_pow (by omega) (by omega)
  rw [pk_tn h3]
  show ((nI a).toBitVec ||| (nI b).toBitVec).toNat = _
  rw [BitVec.toNat_or, pk_tn (by omega), pk_tn (by omega)]
/-- the hash, letter by letter -/
def zst (h c : Nat) : Nat := ((31 * h + c) % 65536) ^^^ ((31 * h + c) % 65536 / 128)
theorem zst_lt (h c : Nat) : zst h c < 65536 := by
  have h1 : (31 * h + c) % 65536 < 2 ^ 16 := Nat.mod_lt _ (by decide)
  exact Nat.xor_lt_two_pow h1 (Nat.lt_of_le_of_lt (Nat.div_le_self _ _) h1)
theorem zx_stirred (S : sh_St) {h c : Nat} (hh : h < 65536) (hc : c < 65536) : fX12_stirred S (nI h) (nI c) = some (nI (zst h c), S) := by
  unfold fX12_stirred
  simp only [zq_t, zq_lit, pk_mul, nI_add]
  rw [pk_andN (m := nI 65535) (by omega) 16 (by decide)]
  have h1 : (31 * h + c) % 2 ^ 16 < 2 ^ 16 := Nat.mod_lt _ (by decide)
  rw [pk_shrN (by omega) _ 7 (by decide), zq_xor (by omega) (by omega)]
  rfl
def zfo (fo c : Nat) : Nat := if fo = 0 then c else c ||| 32
theorem zfo_lt {fo c : Nat} (h : c < 256) : zfo fo c < 256 := by
  unfold zfo
  split
  · exact h
  · exact Nat.or_lt_two_pow (n := 8) h (by decide)
def zhL (n : Int64) (fo h : Nat) : Nat → Nat
  | 0 => h
  | k + 1 => zst (zhL n fo h k) (zfo fo (zb n k))
theorem zhL_lt (n : Int64) (fo : Nat) {h : Nat} (hh : h < 65536) (k : Nat) : zhL n fo h k < 65536 := by
  cases k with
  | zero => exact hh
  | succ k => exact zst_lt _ _
def zhash (n : Int64) (bits key fo : Nat) : Nat := zhL n fo key (zlen n) % 2 ^ bits
theorem zhash_lt (n : Int64) (bits key fo : Nat) : zhash n bits key fo < 2 ^ bits := Nat.mod_lt _ (Nat.two_pow_pos bits)
theorem zq_mask : ∀ b, b < 13 → ((1 : Int32) <<< (nI b &&& 31)) - 1 = nI (2 ^ b - 1) := by decide +kernel
theorem zq_and {a b : Nat} (ha : a < 2 ^ 32) (hb : b < 13) : nI a &&& (((1 : Int32) <<< (nI b &&& 31)) - 1) = nI (a % 2 ^ b) := by
  rw [zq_mask b hb]
  exact pk_andN ha b (pk_tn (by have : 2 ^ b ≤ 2 ^ 12 := Nat.pow_le_pow_right (by decide) (by omega); omega))
theorem zx_hashBy_l (S : sh_St) (n : Int64) {b h fo : Nat} (hb : b < 13) (hh : h < 65536) (hf : fo < 2) : ∀ (m k : Nat), k ≤ zlen n → zlen n - k < m → fX12_hashBy_6 m S n (nI b) (nI fo) (nI (zhL n fo h k)) (nI k) = some (nI (zhash n b h fo), S) := by
  intro m
  induction m with
  | zero => intro k h1 h2; omega
  | succ m ih =>
    intro k h1 h2
    have h8 := zlen_le n
    rw [fX12_hashBy_6]
    have hk := zhL_lt n fo hh k
    by_cases hz : k = zlen n
    · have hend : fX12_hashBy_57 S (nI b) (nI (zhL n fo h k)) = some (nI (zhash n b h fo), S) := by
        unfold fX12_hashBy_57
        rw [zq_and (by omega) hb, hz]
        rfl
      by_cases h9 : k = 8
      · rw [if_pos (show (8 : Int32) ≤ nI k from by rw [h9]; decide)]
        exact hend
      · rw [if_neg (show ¬ (8 : Int32) ≤ nI k from nI_ge (b := 8) (by omega) (by decide)), zx_codeAt S n (by omega), zq_c]
        have e0 : zb n k = 0 := by rw [hz]; exact zlen_at n (by omega)
        rw [e0, if_pos (show nI 0 = 0 from rfl)]
        exact hend
    · have hlt : k < zlen n := by omega
      have hne := zlen_lo n k hlt
      have hb9 := zb_lt n k
      rw [if_neg (show ¬ (8 : Int32) ≤ nI k from nI_ge (b := 8) (by omega) (by decide)), zx_codeAt S n (by omega), zq_c, if_neg (nI_ne0 (by omega) (by omega))]
      have e := ih (k + 1) (by omega) (by omega)
      have hfo : ∀ c, c < 256 → fX12_hashBy_46 (fX12_hashBy_6 m) S n (nI b) (nI fo) (nI k) (nI c) (nI (zhL n fo h k)) = fX12_hashBy_6 m S n (nI b) (nI fo) (nI (zst (zhL n fo h k) c)) (nI (k + 1)) := by
        intro c hc
        unfold fX12_hashBy_46
        rw [zx_stirred S hk (by omega), zq_c, zq_t, nI_1]
      by_cases hz0 : fo = 0
      · subst hz0
        rw [if_pos (show nI 0 = 0 from rfl), hfo _ hb9]
        exact e
      · have h1' : fo = 1 := by omega
        subst h1'
        rw [if_neg (show ¬ nI 1 = 0 from by decide), show (nI (zb n k) ||| 32) = nI (zb n k ||| 32) from zq_or (b := 32) (by omega) (by decide), hfo _ (Nat.or_lt_two_pow (n := 8) hb9 (by decide))]
        exact e
theorem zx_hashBy (S : sh_St) (n : Int64) {b h fo : Nat} (hb : b < 13) (hh : h < 65536) (hf : fo < 2) : fX12_hashBy S n (nI h) (nI b) (nI fo) = some (nI (zhash n b h fo), S) := by
  rw [fX12_hashBy]
  exact zx_hashBy_l S n hb hh hf sh_FU 0 (by omega) (by have := zlen_le n; have : sh_FU = 100000 := rfl; omega)
theorem zm_longOf_l (S : sh_St) (n : Int64) : ∀ (m k : Nat), k ≤ zlen n → zlen n - k < m → fX13_longOf_2 m S n (nI k) = some (nI (zlen n), S) := by
  intro m
  induction m with
  | zero => intro k h1 h2; omega
  | succ m ih =>
    intro k h1 h2
    have h8 := zlen_le n
    rw [fX13_longOf_2]
    by_cases h9 : k = 8
    · rw [if_pos (show (8 : Int32) ≤ nI k from by rw [h9]; decide)]
      rw [show zlen n = k by omega]
    · rw [if_neg (show ¬ (8 : Int32) ≤ nI k from nI_ge (b := 8) (by omega) (by decide)), zm_letterOf S n (by omega), zq_c]
      by_cases hz : k = zlen n
      · have e0 : zb n k = 0 := by rw [hz]; exact zlen_at n (by omega)
        rw [e0, if_pos (show nI 0 ≤ 0 from by decide), hz]
      · have hlt : k < zlen n := by omega
        have hne := zlen_lo n k hlt
        have hb9 := zb_lt n k
        rw [if_neg (nI_nle (by omega) (by omega)), zq_t, nI_1]
        exact ih (k + 1) (by omega) (by omega)
theorem zm_longOf (S : sh_St) (n : Int64) : fX13_longOf S n = some (nI (zlen n), S) := by
  rw [fX13_longOf]
  exact zm_longOf_l S n sh_FU 0 (by omega) (by have := zlen_le n; have : sh_FU = 100000 := rfl; omega)
def zsm (c : Nat) : Nat := if 65 ≤ c ∧ c ≤ 90 then c + 32 else c
theorem zsm_let : ∀ c, c < 256 → zlet c → zsm c = c ||| 32 := by
  intro c hc
  unfold zlet zsm
  revert c
  decide +kernel
theorem zm_small (S : sh_St) {c : Nat} (hc : c < 256) : fX13_small S (nI c) = some (nI (zsm c), S) := by
  unfold fX13_small zsm
  simp only [zq_lit, nI_add]
  by_cases h1 : c < 65
  · rw [if_pos (nI_lt h1 (by decide)), if_neg (by omega)]
  · rw [if_neg (nI_nlt (by omega) (by omega))]
    by_cases h2 : 90 < c
    · rw [if_pos (nI_lt h2 (by omega)), if_neg (by omega)]
    · rw [if_neg (nI_nlt (by omega) (by decide)), if_pos (by omega)]
theorem zm_hash_l (S : sh_St) {n : Int64} (hv : zval n) {b h fo : Nat} (hb : b < 13) (hh : h < 65536) (hf : fo < 2) : ∀ (m k : Nat), k ≤ zlen n → zlen n - k < m → fX13_hash_6 m S n (nI b) (nI fo) (nI (zhL n fo h k)) (nI k) = some (nI (zhash n b h fo), S) := by
  intro m
  induction m with
  | zero => intro k h1 h2; omega
  | succ m ih =>
    intro k h1 h2
    have h8 := zlen_le n
    have hk := zhL_lt n fo hh k
    rw [fX13_hash_6, zm_longOf, zq_c]
    by_cases hz : k = zlen n
    · rw [if_pos (nI_le (by omega) (by omega)), zq_and (by omega) hb, hz]
      rfl
    · have hlt : k < zlen n := by omega
      have hb9 := zb_lt n k
      rw [if_neg (nI_ge hlt (by omega)), zm_letterOf S n (by omega), zq_c]
      have e := ih (k + 1) (by omega) (by omega)
      have hfo : ∀ c, c < 256 → fX13_hash_44 (fX13_hash_6 m) S n (nI b) (nI fo) (nI k) (nI c) (31 * nI (zhL n fo h k)) = fX13_hash_6 m S n (nI b) (nI fo) (nI (zst (zhL n fo h k) c)) (nI (k + 1)) := by
        intro c hc
        unfold fX13_hash_44
        simp only [zq_t, zq_lit, pk_mul, nI_add]
        rw [pk_andN (m := nI 65535) (by omega) 16 (by decide)]
        have h1 : (31 * zhL n fo h k + c) % 2 ^ 16 < 2 ^ 16 := Nat.mod_lt _ (by decide)
        rw [pk_shrN (by omega) _ 7 (by decide), zq_xor (by omega) (by omega)]
        rfl
      by_cases hz0 : fo = 0
      · subst hz0
        rw [if_neg (show ¬ nI 0 = 1 from by decide), hfo _ hb9]
        exact e
      · have h1' : fo = 1 := by omega
        subst h1'
        rw [if_pos (show nI 1 = 1 from rfl), zm_small S hb9, zq_c, zsm_let _ hb9 (hv.2.1 k hlt), hfo _ (Nat.or_lt_two_pow (n := 8) hb9 (by decide))]
        exact e
theorem zm_hash (S : sh_St) {n : Int64} (hv : zval n) {b h fo : Nat} (hb : b < 13) (hh : h < 65536) (hf : fo < 2) : fX13_hash S n (nI b) (nI h) (nI fo) = some (nI (zhash n b h fo), S) := by
  rw [fX13_hash]
  exact zm_hash_l S hv hb hh hf sh_FU 0 (by omega) (by have := zlen_le n; have : sh_FU = 100000 := rfl; omega)
