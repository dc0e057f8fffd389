/-! names that are one; the tree as numbers; the two pictures of it -/
def zSM : Int64 := 2314885530818453536
theorem zb_or (a b : Int64) (k : Nat) : zb (a ||| b) k = zb a k ||| zb b k := by
  unfold zb
  rw [Int64.toBitVec_or, BitVec.toNat_or]
  have e : 256 ^ (7 - k) = 2 ^ (8 * (7 - k)) := by rw [Nat.pow_mul]
  rw [e]
  apply Nat.eq_of_testBit_eq
  intro i
  rw [show (256 : Nat) = 2 ^ 8 from rfl]
  simp only [Nat.testBit_mod_two_pow, Nat.testBit_div_two_pow, Nat.testBit_or]
  cases decide (i < 8) <;> simp
theorem zb_SM : ∀ k, k < 8 → zb zSM k = 32 := by decide +kernel
def zone (fo : Nat) (a b : Int64) : Bool := if fo = 0 then decide (a = b) else decide (a ||| zSM = b ||| zSM)
theorem zone_refl (fo : Nat) (a : Int64) : zone fo a a = true := by
  unfold zone
  split <;> simp
theorem zor_iff (a b : Int64) : a ||| zSM = b ||| zSM ↔ ∀ k, k < 8 → zb a k ||| 32 = zb b k ||| 32 := by
  constructor
  · intro h k hk
    have h1 : zb (a ||| zSM) k = zb (b ||| zSM) k := by rw [h]
    rw [zb_or, zb_or, zb_SM k hk] at h1
    exact h1
  · intro h
    apply zb_ext
    intro k hk
    rw [zb_or, zb_or, zb_SM k hk]
    exact h k hk
/-- the name with small letters alone, after k of them -/
def zfv (n : Int64) : Nat → Nat
  | 0 => 0
  | k + 1 => zfv n k * 256 + zsm (zb n k)
theorem zsm_lt : ∀ c, c < 256 → zsm c < 256 := by decide +kernel
theorem zfv_lt (n : Int64) (k : Nat) : zfv n k < 256 ^ k := by
  induction k with
  | zero => exact Nat.one_pos
  | succ k ih =>
    have h1 := zsm_lt _ (zb_lt n k)
    show zfv n k * 256 + zsm (zb n k) < 256 ^ k * 256
    omega
theorem zq_pack {a c : Nat} (ha : a < 2 ^ 56) (hc : c < 256) : (lN a <<< ((Int32.toInt64 8) &&& 63)) ||| Int32.toInt64 (nI c) = lN (a * 256 + c) := by
  rw [nI_l (by omega), show ((Int32.toInt64 8) &&& 63) = (8 : Int64) from by decide]
  apply Int64.toBitVec_inj.mp
  apply BitVec.eq_of_toNat_eq
  have t1 : ∀ x, x < 2 ^ 64 → (lN x).toBitVec.toNat = x := by
    intro x hx
    show (BitVec.ofNat 64 x).toNat = x
    rw [BitVec.toNat_ofNat, Nat.mod_eq_of_lt hx]
  have t2 : (lN a <<< (8 : Int64)).toBitVec.toNat = a * 256 := by
    have h1 : (lN a <<< (8 : Int64)).toBitVec = (lN a).toBitVec <<< 8 := by simp
    rw [h1, BitVec.toNat_shiftLeft, t1 a (by omega), Nat.shiftLeft_eq]
    exact Nat.mod_eq_of_lt (by omega)
  rw [t1 _ (by omega)]
  show ((lN a <<< (8 : Int64)).toBitVec ||| (lN c).toBitVec).toNat = _
  rw [BitVec.toNat_or, t2, t1 c (by omega), Nat.mul_comm a 256]
  exact (Nat.two_pow_add_eq_or_of_lt (i := 8) hc a).symm
theorem zm_folded_l (S : sh_St) (n : Int64) : ∀ (m k : Nat), k ≤ 8 → 8 - k < m → fX13_folded_5 m S n (lN (zfv n k)) (nI k) = some (lN (zfv n 8), S) := by
  intro m
  induction m with
  | zero => intro k h1 h2; omega
  | succ m ih =>
    intro k h1 h2
    rw [fX13_folded_5]
    by_cases h9 : k = 8
    · subst h9
      rw [if_pos (show (8 : Int32) ≤ nI 8 from by decide)]
    · rw [if_neg (show ¬ (8 : Int32) ≤ nI k from nI_ge (b := 8) (by omega) (by decide)), zm_letterOf S n (by omega), zq_c, zm_small S (zb_lt n k), zq_c, zq_t, zq_t, nI_1]
      have h3 : zfv n k < 2 ^ 56 := Nat.lt_of_lt_of_le (zfv_lt n k) (by rw [show (256 : Nat) = 2 ^ 8 from rfl, ← Nat.pow_mul]; exact Nat.pow_le_pow_right (by decide) (by omega))
      rw [zq_pack h3 (zsm_lt _ (zb_lt n k))]
      exact ih (k + 1) (by omega) (by omega)
theorem zm_folded (S : sh_St) (n : Int64) : fX13_folded S n = some (lN (zfv n 8), S) := by
  rw [fX13_folded]
  exact zm_folded_l S n sh_FU 0 (by omega) (by decide)
theorem zlet_or : ∀ c, c < 256 → zlet c → 97 ≤ c ||| 32 ∧ zsm c = c ||| 32 := by
  intro c hc
  unfold zlet zsm
  revert c
  decide +kernel
theorem zfv_inj {a b : Int64} : ∀ k, zfv a k = zfv b k → ∀ j, j < k → zsm (zb a j) = zsm (zb b j) := by
  intro k
  induction k with
  | zero => intro _ j hj; omega
  | succ k ih =>
    intro h j hj
    have h1 : zfv a k * 256 + zsm (zb a k) = zfv b k * 256 + zsm (zb b k) := h
    have h2 := zsm_lt _ (zb_lt a k)
    have h3 := zsm_lt _ (zb_lt b k)
    by_cases hk : j = k
    · subst hk; omega
    · exact ih (by omega) j (by omega)
theorem zfv_ext {a b : Int64} : ∀ k, (∀ j, j < k → zsm (zb a j) = zsm (zb b j)) → zfv a k = zfv b k := by
  intro k
  induction k with
  | zero => intro _; rfl
  | succ k ih =>
    intro h
    show zfv a k * 256 + zsm (zb a k) = zfv b k * 256 + zsm (zb b k)
    rw [ih (fun j hj => h j (by omega)), h k (by omega)]
theorem zbyte {n : Int64} (hv : zval n) {k : Nat} (hk : k < 8) : zlet (zb n k) ∨ zb n k = 0 := by
  by_cases h : k < zlen n
  · exact Or.inl (hv.2.1 k h)
  · exact Or.inr (hv.2.2 k (by omega) hk)
theorem zfold_iff {a b : Int64} (ha : zval a) (hb : zval b) : zfv a 8 = zfv b 8 ↔ a ||| zSM = b ||| zSM := by
  rw [zor_iff]
  have key : ∀ k, k < 8 → (zsm (zb a k) = zsm (zb b k) ↔ zb a k ||| 32 = zb b k ||| 32) := by
    intro k hk
    have e0 : zsm 0 = 0 := rfl
    have e1 : (0 : Nat) ||| 32 = 32 := rfl
    rcases zbyte ha hk with h1 | h1 <;> rcases zbyte hb hk with h2 | h2
    · rw [(zlet_or _ (zb_lt a k) h1).2, (zlet_or _ (zb_lt b k) h2).2]
    · have h3 := zlet_or _ (zb_lt a k) h1
      rw [h3.2, h2, e0, e1]
      omega
    · have h3 := zlet_or _ (zb_lt b k) h2
      rw [h3.2, h1, e0, e1]
      omega
    · rw [h1, h2]
      exact ⟨fun _ => rfl, fun _ => rfl⟩
  constructor
  · intro h k hk
    exact (key k hk).mp (zfv_inj 8 h k hk)
  · intro h
    exact zfv_ext 8 (fun j hj => (key j hj).mpr (h j hj))
theorem zq_lNinj {a b : Nat} (ha : a < 2 ^ 64) (hb : b < 2 ^ 64) (h : lN a = lN b) : a = b := by
  have h1 := congrArg (fun z : Int64 => z.toBitVec.toNat) h
  have t1 : ∀ x, x < 2 ^ 64 → (lN x).toBitVec.toNat = x := by
    intro x hx
    show (BitVec.ofNat 64 x).toNat = x
    rw [BitVec.toNat_ofNat, Nat.mod_eq_of_lt hx]
  simp only [t1 a ha, t1 b hb] at h1
  exact h1
def zbI (b : Bool) : Int32 := if b then 1 else 0
theorem zx_areOne (S : sh_St) (a b : Int64) {fo : Nat} (hf : fo < 2) : fX12_areOne S a b (nI fo) = some (zbI (zone fo a b), S) := by
  unfold fX12_areOne zone zbI
  by_cases h0 : fo = 0
  · subst h0
    rw [if_pos (show nI 0 = 0 from rfl), if_pos rfl]
    by_cases h : a = b
    · rw [if_pos h, zq_b1]; simp [h]
    · rw [if_neg h, zq_b0]; simp [h]
  · have h1 : fo = 1 := by omega
    subst h1
    rw [if_neg (show ¬ nI 1 = 0 from by decide), if_neg (show ¬ (1 : Nat) = 0 by decide)]
    by_cases h : a ||| zSM = b ||| zSM
    · rw [if_pos (show a ||| 2314885530818453536 = b ||| 2314885530818453536 from h), zq_b1]; simp [h]
    · rw [if_neg (show ¬ a ||| 2314885530818453536 = b ||| 2314885530818453536 from h), zq_b0]; simp [h]
theorem zq_g9 {α : Type} (n : Nat) {a : Nat} (a' : Int32) {k : Option α} (e : a' = nI a) (h : a < n) (hn : n < 2 ^ 31) : sh_g a' n k = k := by subst e; exact zq_g h hn
theorem zm_areOne (S : sh_St) {a b : Int64} (ha : zval a) (hb : zval b) {fo : Nat} (hf : fo < 2) (hS : S.1 1 1083 = nI fo) : fX13_areOne S a b = some (zbI (zone fo a b), S) := by
  unfold fX13_areOne fX13_areOne_30
  by_cases h : a = b
  · rw [if_pos h, h, zone_refl, zq_b1]
    rfl
  · rw [if_neg h, zq_g9 1084 (a := 1083) (1083 : Int32) rfl (by decide) (by decide), show ((1083 : Int32).toNatClampNeg) = 1083 from by decide, hS]
    unfold zone zbI
    by_cases h0 : fo = 0
    · subst h0
      rw [if_neg (show ¬ nI 0 = 1 from by decide), zq_b0]
      simp [h]
    · have h1 : fo = 1 := by omega
      subst h1
      rw [if_pos (show nI 1 = 1 from rfl), zm_folded, zq_c, zm_folded, zq_c, if_neg (show ¬ (1 : Nat) = 0 by decide)]
      have l1 : zfv a 8 < 2 ^ 64 := Nat.lt_of_lt_of_le (zfv_lt a 8) (by decide)
      have l2 : zfv b 8 < 2 ^ 64 := Nat.lt_of_lt_of_le (zfv_lt b 8) (by decide)
      by_cases h2 : a ||| zSM = b ||| zSM
      · rw [if_pos (show lN (zfv a 8) = lN (zfv b 8) by rw [(zfold_iff ha hb).mpr h2]), zq_b1]
        simp [h2]
      · rw [if_neg (fun q => h2 ((zfold_iff ha hb).mp (zq_lNinj l1 l2 q))), zq_b0]
        simp [h2]
/-! the tree: kinds, counts, torn, nodes, limits, marks, children; levels, bits, key, fold; names -/
abbrev zT : Type := (Nat → Nat → Nat) × (Nat → Int64)
def zha (T : zT) (n : Int64) : Nat := zhash n (T.1 7 1) (T.1 7 2) (T.1 7 3)
def zVX (S : sh_St) (o : Nat) (T : zT) : Prop :=
  (∀ b, b < 40 → S.1 (o + 1) b = nI (T.1 0 b) ∧ S.1 (o + 2) b = nI (T.1 1 b) ∧ S.1 (o + 3) b = nI (T.1 2 b) ∧ T.1 1 b ≤ 6) ∧
  (∀ k, k < 240 → S.2 (o + 4) k = T.2 k ∧ (T.2 k ≠ 0 → S.1 (o + 5) k = nI (T.1 3 k) ∧ S.1 (o + 6) k = nI (zha T (T.2 k)))) ∧
  (∀ j, j < 240 → S.1 (o + 7) j = nI (T.1 4 j) ∧ S.1 (o + 8) j = nI (T.1 5 j) ∧ S.1 (o + 9) j = nI (T.1 6 j)) ∧
  S.1 o 0 = nI (T.1 7 1) ∧ S.1 o 1 = nI (T.1 7 2) ∧ S.1 o 2 = nI (T.1 7 3) ∧ S.1 o 3 = nI (T.1 7 0)
def zVM (f : Nat → Int32) (g : Nat → Int64) (T : zT) : Prop :=
  (∀ b, b < 40 → f b = nI (T.1 0 b) ∧ f (40 + b) = nI (T.1 2 b) ∧ f (80 + b) = nI (T.1 1 b) ∧ T.1 1 b ≤ 6) ∧
  (∀ k, k < 240 → g k = T.2 k ∧ f (840 + k) = if T.2 k = 0 then -1 else nI (T.1 3 k)) ∧
  (∀ j, j < 240 → f (120 + 3 * j) = nI (T.1 4 j) ∧ f (120 + 3 * j + 1) = nI (T.1 5 j) ∧ f (120 + 3 * j + 2) = nI (T.1 6 j)) ∧
  f 1080 = nI (T.1 7 0) ∧ f 1081 = nI (T.1 7 1) ∧ f 1082 = nI (T.1 7 2) ∧ f 1083 = nI (T.1 7 3)
/-- the rows of an index; the leaves in order with the rows that lead to them -/
def zLp (T : zT) (b s : Nat) : List (Nat × Nat × Nat) := (List.range s).map (fun r => (T.1 6 (b * 6 + r), T.1 4 (b * 6 + r), T.1 5 (b * 6 + r)))
def zL1 (T : zT) (b : Nat) : List (Nat × Nat × Nat) := zLp T b (T.1 1 b)
def zQ (T : zT) (s : Nat) : List (Nat × Nat × Nat) := (List.range s).flatMap (fun r => zL1 T (T.1 6 r))
def zLL (T : zT) : List (Nat × Nat × Nat) := if T.1 7 0 = 0 then [(0, 0, 0)] else if T.1 7 0 = 1 then zL1 T 0 else zQ T (T.1 1 0)
def zline (T : zT) : List Nat := (zLL T).map (fun q => q.1)
def zInv (T : zT) : Prop :=
  (T.1 7 0 ≤ 2 ∧ 1 ≤ T.1 7 1 ∧ T.1 7 1 ≤ 12 ∧ T.1 7 2 < 65536 ∧ T.1 7 3 < 2) ∧
  (∀ b, b < 40 → T.1 0 b ≤ 2 ∧ T.1 1 b ≤ 5 ∧ T.1 2 b ≤ 1 ∧ (T.1 0 b ≠ 2 → T.1 1 b = 0 ∧ T.1 2 b = 0) ∧ (T.1 0 b = 2 → 1 ≤ T.1 1 b)) ∧
  (∀ k, k < 240 → T.2 k ≠ 0 → zval (T.2 k) ∧ T.1 3 k ≤ 999 ∧ T.1 0 (k / 6) = 1) ∧
  (∀ b r, b < 40 → r < T.1 1 b → T.1 4 (b * 6 + r) < 4096 ∧ T.1 5 (b * 6 + r) ≤ 1 ∧ T.1 6 (b * 6 + r) < 40 ∧ T.1 6 (b * 6 + r) ≠ 0) ∧
  (∀ b r b' r', b < 40 → b' < 40 → r < T.1 1 b → r' < T.1 1 b' → T.1 6 (b * 6 + r) = T.1 6 (b' * 6 + r') → b = b' ∧ r = r') ∧
  (T.1 0 0 = (if T.1 7 0 = 0 then 1 else 2) ∧ (∀ b, b < 40 → b ≠ 0 → T.1 7 0 ≠ 2 → T.1 0 b ≠ 2) ∧ (∀ r, r < T.1 1 0 → T.1 0 (T.1 6 r) = (if T.1 7 0 = 2 then 2 else 1)) ∧ (∀ b r, b < 40 → b ≠ 0 → r < T.1 1 b → T.1 0 (T.1 6 (b * 6 + r)) = 1)) ∧
  (∀ b, b < 40 → b ≠ 0 → T.1 0 b ≠ 0 → ∃ b' r, b' < 40 ∧ r < T.1 1 b' ∧ T.1 6 (b' * 6 + r) = b)
/-- nothing but the cells lo .. hi has changed -/
def zFr (lo hi : Nat) (S S' : sh_St) : Prop := ∀ i, (i < lo ∨ hi < i) → S'.1 i = S.1 i ∧ S'.2 i = S.2 i
theorem zFr_rf (lo hi : Nat) (S : sh_St) : zFr lo hi S S := fun _ _ => ⟨rfl, rfl⟩
theorem zFr_tr {lo hi : Nat} {S S1 S2 : sh_St} (h1 : zFr lo hi S S1) (h2 : zFr lo hi S1 S2) : zFr lo hi S S2 := fun i hi' => ⟨(h2 i hi').1.trans (h1 i hi').1, (h2 i hi').2.trans (h1 i hi').2⟩
theorem zFr_wd {lo hi lo' hi' : Nat} {S S1 : sh_St} (h : zFr lo hi S S1) (h1 : lo' ≤ lo) (h2 : hi ≤ hi') : zFr lo' hi' S S1 := fun i hi9 => h i (by omega)
theorem zFr_I {lo hi : Nat} (S : sh_St) {c : Nat} (k : Nat) (v : Int32) (h1 : lo ≤ c) (h2 : c ≤ hi) : zFr lo hi S (sh_I S c k v) := fun i hi' => sh_I_ne S c k v i (by omega)
theorem zFr_L {lo hi : Nat} (S : sh_St) {c : Nat} (k : Nat) (v : Int64) (h1 : lo ≤ c) (h2 : c ≤ hi) : zFr lo hi S (sh_L S c k v) := fun i hi' => sh_L_ne S c k v i (by omega)
theorem zVX_fr {lo hi o : Nat} {S S' : sh_St} {T : zT} (h : zFr lo hi S S') (ho : o + 9 < lo ∨ hi < o) (hv : zVX S o T) : zVX S' o T := by
  have e : ∀ j, j ≤ 9 → S'.1 (o + j) = S.1 (o + j) ∧ S'.2 (o + j) = S.2 (o + j) := fun j hj => h (o + j) (by omega)
  have e0 : S'.1 o = S.1 o := (e 0 (by omega)).1
  obtain ⟨h1, h2, h3, h4, h5, h6, h7⟩ := hv
  refine ⟨?_, ?_, ?_, ?_, ?_, ?_, ?_⟩
  · rw [(e 1 (by omega)).1, (e 2 (by omega)).1, (e 3 (by omega)).1]; exact h1
  · rw [(e 4 (by omega)).2, (e 5 (by omega)).1, (e 6 (by omega)).1]; exact h2
  · rw [(e 7 (by omega)).1, (e 8 (by omega)).1, (e 9 (by omega)).1]; exact h3
  · rw [e0]; exact h4
  · rw [e0]; exact h5
  · rw [e0]; exact h6
  · rw [e0]; exact h7
theorem zI_s (S : sh_St) (c k : Nat) (v : Int32) : (sh_I S c k v).1 c k = v := by rw [sh_I_at]; exact pk_us
theorem zI_k (S : sh_St) (c k : Nat) (v : Int32) {j : Nat} (h : j ≠ k) : (sh_I S c k v).1 c j = S.1 c j := by rw [sh_I_at]; exact pk_un h
theorem zI_c (S : sh_St) (c k : Nat) (v : Int32) {i : Nat} (h : i ≠ c) : (sh_I S c k v).1 i = S.1 i := (sh_I_ne S c k v i h).1
theorem zI_2 (S : sh_St) (c k : Nat) (v : Int32) : (sh_I S c k v).2 = S.2 := rfl
theorem zL_s (S : sh_St) (c k : Nat) (v : Int64) : (sh_L S c k v).2 c k = v := by rw [sh_L_at]; exact pk_uLs
theorem zL_k (S : sh_St) (c k : Nat) (v : Int64) {j : Nat} (h : j ≠ k) : (sh_L S c k v).2 c j = S.2 c j := by rw [sh_L_at]; exact pk_uLn h
theorem zL_c (S : sh_St) (c k : Nat) (v : Int64) {i : Nat} (h : i ≠ c) : (sh_L S c k v).2 i = S.2 i := (sh_L_ne S c k v i h).2
theorem zL_1 (S : sh_St) (c k : Nat) (v : Int64) : (sh_L S c k v).1 = S.1 := rfl
