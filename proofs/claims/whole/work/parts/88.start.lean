/-! how both begin -/
def zT0 : zT := (fun i k => if i = 0 ∧ k = 0 then 1 else if i = 7 ∧ k = 1 then 6 else if i = 7 ∧ k = 2 then 1 else 0, fun _ => 0)
theorem zT0_k {b : Nat} (h : b ≠ 0) : zT0.1 0 b = 0 := by
  show (if 0 = 0 ∧ b = 0 then 1 else if 0 = 7 ∧ b = 1 then 6 else if 0 = 7 ∧ b = 2 then 1 else 0) = 0
  rw [if_neg (by omega), if_neg (by omega), if_neg (by omega)]
theorem zT0_0 : zT0.1 0 0 = 1 := rfl
theorem zT0_i {i : Nat} (k : Nat) (h : i ≠ 0) (h7 : i ≠ 7) : zT0.1 i k = 0 := by
  show (if i = 0 ∧ k = 0 then 1 else if i = 7 ∧ k = 1 then 6 else if i = 7 ∧ k = 2 then 1 else 0) = 0
  rw [if_neg (by omega), if_neg (by omega), if_neg (by omega)]
theorem zT0_n (k : Nat) : zT0.2 k = 0 := rfl
theorem zT0_70 : zT0.1 7 0 = 0 := rfl
theorem zT0_71 : zT0.1 7 1 = 6 := rfl
theorem zT0_72 : zT0.1 7 2 = 1 := rfl
theorem zT0_73 : zT0.1 7 3 = 0 := rfl
theorem zT0_kl (b : Nat) : zT0.1 0 b ≤ 1 := by
  by_cases c : b = 0
  · subst c; exact Nat.le_refl 1
  · rw [zT0_k c]; omega
theorem zT0_inv : zInv zT0 := by
  refine ⟨⟨?_, ?_, ?_, ?_, ?_⟩, fun b hb => ⟨?_, ?_, ?_, ?_, ?_⟩, fun k hk h => absurd (zT0_n k) h, fun b r hb hr => ?_, fun b r b' r' hb hb' hr => ?_, ⟨?_, fun b hb h0 _ => ?_, fun r hr => ?_, fun b r hb h0 hr => ?_⟩, fun b hb h0 h1 => absurd (zT0_k h0) h1⟩
  · rw [zT0_70]; omega
  · rw [zT0_71]; omega
  · rw [zT0_71]; omega
  · rw [zT0_72]; omega
  · rw [zT0_73]; omega
  · have := zT0_kl b; omega
  · rw [zT0_i b (by omega) (by omega)]; omega
  · rw [zT0_i b (by omega) (by omega)]; omega
  · intro _; rw [zT0_i b (by omega) (by omega), zT0_i b (by omega) (by omega)]; exact ⟨rfl, rfl⟩
  · intro h; have := zT0_kl b; omega
  · rw [zT0_i b (by omega) (by omega)] at hr; omega
  · rw [zT0_i b (by omega) (by omega)] at hr; omega
  · rw [zT0_70, if_pos rfl]; rfl
  · rw [zT0_k h0]; omega
  · rw [zT0_i 0 (by omega) (by omega)] at hr; omega
  · rw [zT0_i b (by omega) (by omega)] at hr; omega
theorem zT0_LL : zLL zT0 = [(0, 0, 0)] := by unfold zLL; rw [if_pos zT0_70]
theorem zT0_lq (k : Nat) : zlq zT0 k = (0, 0, 0) := by
  unfold zlq
  rw [zT0_LL]
  cases k with
  | zero => rfl
  | succ k => rfl
theorem zT0_G : zG zT0 := by
  refine ⟨zT0_inv, ⟨?_, ?_, fun p => ?_⟩, fun h => ?_, fun k _ h => absurd (zT0_n k) h, fun h => ?_⟩
  · rw [zT0_lq]
  · rw [zT0_lq]
  · intro q
    have e : zln zT0 = 1 := by unfold zln; rw [zT0_LL]; rfl
    omega
  · rw [zT0_70] at h; omega
  · rw [zT0_73] at h; omega
theorem zR_start {S M : sh_St} (x1 : S.1 1 1 = nI 0) (x2 : ∀ k, S.1 2 k = nI 0) (x3 : S.1 3 3 = -nI 1) (x40 : S.1 4 0 = nI 6) (x41 : S.1 4 1 = nI 1) (x42 : S.1 4 2 = nI 0) (x43 : S.1 4 3 = nI 0) (x50 : S.1 5 0 = nI 1) (x5 : ∀ k, k ≠ 0 → S.1 5 k = nI 0) (xi : ∀ i, 6 ≤ i → i ≤ 13 → ∀ k, S.1 i k = nI 0) (xn : ∀ k, S.2 8 k = 0) (x09 : S.1 0 9 = nI 0) (x010 : S.1 0 10 = nI 0) (xh1 : S.1 34 1 = nI 0) (xh2 : S.1 34 2 = nI 0) (xs : S.1 128 4 = nI 0) (xt : ∀ k, S.1 129 k = nI 0) (xc : ∀ r, r < 4 → ∀ k, S.1 (132 + 2 * r) k = nI 0)
    (m5 : M.1 0 5 = nI 0) (m10 : M.1 0 10 = nI 0) (m17 : M.1 0 17 = nI 0) (m20 : M.1 0 20 = -nI 1) (m21 : M.1 0 21 = nI 0) (mt : ∀ k, M.1 14 k = nI 0) (mc : ∀ i, 9 ≤ i → i ≤ 12 → ∀ k, M.1 i k = nI 0) (mn : ∀ k, M.2 2 k = 0) (m1 : ∀ k, M.1 1 k = if k = 0 then nI 1 else if 840 ≤ k ∧ k < 1080 then -nI 1 else if k = 1081 then nI 6 else if k = 1082 then nI 1 else nI 0) : zRR S M := by
  have mz : ∀ k, k ≠ 0 → (k < 840 ∨ k = 1080 ∨ 1082 < k) → M.1 1 k = nI 0 := fun k a b => by
    rw [m1, if_neg a, if_neg (by omega), if_neg (by omega), if_neg (by omega)]
  refine ⟨zT0, fun _ => 0, 0, zT0_G, ?_, ?_, ⟨x1, m17, by omega, fun _ => Nat.zero_lt_succ 255, fun k hk => ⟨x2 k, mt k⟩⟩, by rw [x3, m20], by rw [x010, m21], fun r hr => ?_, ⟨0, 0, fun _ => zT0, by omega, by omega, xh2, xh1, m5, fun j hj => absurd hj (Nat.not_lt_zero j)⟩, ⟨0, zT0, by omega, x09, m10, fun h => by omega⟩, ⟨0, by omega, xs, fun i hi => absurd hi (Nat.not_lt_zero i), fun h _ _ => xt h⟩⟩
  · refine ⟨fun b hb => ⟨?_, ?_, ?_, ?_⟩, fun k hk => ⟨xn k, fun h => absurd (zT0_n k) h⟩, fun j hj => ⟨?_, ?_, ?_⟩, x40, x41, x42, x43⟩
    · by_cases c : b = 0
      · subst c; exact x50
      · rw [zT0_k c]; exact x5 b c
    · rw [zT0_i b (by omega) (by omega)]; exact xi 6 (by omega) (by omega) b
    · rw [zT0_i b (by omega) (by omega)]; exact xi 7 (by omega) (by omega) b
    · rw [zT0_i b (by omega) (by omega)]; omega
    · rw [zT0_i j (by omega) (by omega)]; exact xi 11 (by omega) (by omega) j
    · rw [zT0_i j (by omega) (by omega)]; exact xi 12 (by omega) (by omega) j
    · rw [zT0_i j (by omega) (by omega)]; exact xi 13 (by omega) (by omega) j
  · refine ⟨fun b hb => ⟨?_, ?_, ?_, ?_⟩, fun k hk => ⟨mn k, ?_⟩, fun j hj => ⟨?_, ?_, ?_⟩, ?_, ?_, ?_, ?_⟩
    · by_cases c : b = 0
      · subst c; rw [m1, if_pos rfl]; rfl
      · rw [zT0_k c]; exact mz b c (by omega)
    · rw [zT0_i b (by omega) (by omega)]; exact mz _ (by omega) (by omega)
    · rw [zT0_i b (by omega) (by omega)]; exact mz _ (by omega) (by omega)
    · rw [zT0_i b (by omega) (by omega)]; omega
    · rw [if_pos (zT0_n k), m1, if_neg (by omega), if_pos (by omega)]; rfl
    · rw [zT0_i j (by omega) (by omega)]; exact mz _ (by omega) (by omega)
    · rw [zT0_i j (by omega) (by omega)]; exact mz _ (by omega) (by omega)
    · rw [zT0_i j (by omega) (by omega)]; exact mz _ (by omega) (by omega)
    · exact mz 1080 (by omega) (by omega)
    · rw [m1, if_neg (by omega), if_neg (by omega), if_pos rfl]; rfl
    · rw [m1, if_neg (by omega), if_neg (by omega), if_neg (by omega), if_pos rfl]; rfl
    · exact mz 1083 (by omega) (by omega)
  · refine ⟨0, 0, 0, by omega, by omega, by omega, xc r hr 1, mc 9 (by omega) (by omega) r, xc r hr 2, mc 10 (by omega) (by omega) r, ?_, xc r hr 4, mc 12 (by omega) (by omega) r, fun k hk => absurd hk (Nat.not_lt_zero k)⟩
    rw [xc r hr 3, mc 11 (by omega) (by omega) r]
