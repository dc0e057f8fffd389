/-! Pure part: numbers, evaluation of the functions -/
theorem zq_lit (n : Nat) : (@OfNat.ofNat Int32 n Int32.instOfNat) = nI n := rfl
theorem zq_g {α : Type} {a n : Nat} {k : Option α} (h : a < n) (hn : n < 2 ^ 31) : sh_g (nI a) n k = k := by
  unfold sh_g
  rw [if_neg (nI_in h hn)]
theorem zq_cl {a : Nat} (h : a < 2 ^ 31) : (nI a).toNatClampNeg = a := nI_clamp h
theorem zq_t {α β : Type} (x : α) (f : α → β) : sh_t x f = f x := rfl
theorem zq_c {α β : Type} (a : α) (S : sh_St) (f : α → sh_St → Option β) : sh_c (some (a, S)) f = f a S := rfl
theorem zq_b0 {α : Type} (k : Option α) : sh_b 0 k = k := rfl
theorem zq_b1 {α : Type} (k : Option α) : sh_b 1 k = k := rfl
/-- how many of the places a .. a + n - 1 are filled -/
def zc_fill (N : Nat → Int64) (a : Nat) : Nat → Nat
  | 0 => 0
  | n + 1 => zc_fill N a n + (if N (a + n) = 0 then 0 else 1)
theorem zc_fill_le (N : Nat → Int64) (a n : Nat) : zc_fill N a n ≤ n := by
  induction n with
  | zero => exact Nat.le_refl 0
  | succ n ih =>
    unfold zc_fill
    split <;> omega
theorem zx_entriesIn_l (S : sh_St) {b : Nat} (hb : b < 40) : ∀ (n s : Nat), s ≤ 6 → 6 - s < n → fX7_entriesIn_4 n S (nI b) (nI (zc_fill (S.2 8) (b * 6) s)) (nI s) = some (nI (zc_fill (S.2 8) (b * 6) 6), S) := by
  intro n
  induction n with
  | zero => intro s h1 h2; omega
  | succ n ih =>
    intro s h1 h2
    rw [fX7_entriesIn_4]
    simp only [zq_lit, pk_mul, nI_add]
    by_cases h : s = 6
    · subst h
      rw [if_pos (nI_le (Nat.le_refl 6) (by decide))]
    · rw [if_neg (nI_ge (show s < 6 by omega) (by decide)), zq_g (by omega) (by decide), zq_cl (by omega)]
      have e := ih (s + 1) (by omega) (by omega)
      simp only [fX7_entriesIn_29, zq_t, zq_lit, nI_add]
      unfold zc_fill at e
      by_cases h9 : S.2 8 (b * 6 + s) = 0
      · rw [if_pos h9] at e ⊢
        exact e
      · rw [if_neg h9] at e ⊢
        exact e
theorem zx_entriesIn (S : sh_St) {b : Nat} (hb : b < 40) : fX7_entriesIn S (nI b) = some (nI (zc_fill (S.2 8) (b * 6) 6), S) := by
  rw [fX7_entriesIn]
  exact zx_entriesIn_l S hb sh_FU 0 (by omega) (by decide)
