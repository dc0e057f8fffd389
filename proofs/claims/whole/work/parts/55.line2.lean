/-! the leaves' line when a row comes in, and when an index is parted -/
def zrq (T : zT) (j : Nat) : Nat × Nat × Nat := (T.1 6 j, T.1 4 j, T.1 5 j)
theorem zro_s {T T' : zT} {j j' : Nat} (h : zro T' j' = zro T j) : T'.1 4 j' = T.1 4 j ∧ T'.1 5 j' = T.1 5 j ∧ T'.1 6 j' = T.1 6 j := ⟨congrArg (fun q => q.1) h, congrArg (fun q => q.2.1) h, congrArg (fun q => q.2.2) h⟩
theorem zrq_o {T T' : zT} {j j' : Nat} (h : zro T' j' = zro T j) : zrq T' j' = zrq T j := by
  obtain ⟨h1, h2, h3⟩ := zro_s h
  unfold zrq
  rw [h1, h2, h3]
theorem zrq_p {T : zT} {j l m t : Nat} (h : zro T j = (l, m, t)) : zrq T j = (t, l, m) := by
  have h1 : T.1 4 j = l := congrArg (fun q => q.1) h
  have h2 : T.1 5 j = m := congrArg (fun q => q.2.1) h
  have h3 : T.1 6 j = t := congrArg (fun q => q.2.2) h
  unfold zrq
  rw [h1, h2, h3]
theorem zLp_cg {T T' : zT} {b b' s : Nat} (h : ∀ r, r < s → zrq T' (b' * 6 + r) = zrq T (b * 6 + r)) : zLp T' b' s = zLp T b s := by
  unfold zLp
  exact List.map_congr_left (fun r hr => h r (List.mem_range.mp hr))
theorem zLp_n (T : zT) (b s : Nat) : zLp T b (s + 1) = zLp T b s ++ [zrq T (b * 6 + s)] := zLp_s T b s
theorem zLp_ins {T : zT} {b p : Nat} (l m t : Nat) : ∀ d, p + d ≤ T.1 1 b → ∃ B, zLp T b (p + d) = zLp T b p ++ B ∧ zLp (zIn T b p l m t) b (p + d + 1) = zLp T b p ++ (t, l, m) :: B := by
  intro d
  induction d with
  | zero =>
    intro h
    refine ⟨[], (List.append_nil _).symm, ?_⟩
    rw [Nat.add_zero, zLp_n, zrq_p (zIn_p T b p l m t), zLp_cg (T := T) (b := b) (fun r hr => zrq_o (by rw [zIn_r T b p l m t (show r ≠ p by omega), if_neg (by omega)]))]
  | succ d ih =>
    intro h
    obtain ⟨B, h1, h2⟩ := ih (by omega)
    refine ⟨B ++ [zrq T (b * 6 + (p + d))], ?_, ?_⟩
    · rw [show p + (d + 1) = p + d + 1 from rfl, zLp_n, h1, List.append_assoc]
    · have e : zrq (zIn T b p l m t) (b * 6 + (p + d + 1)) = zrq T (b * 6 + (p + d)) := zrq_o (by rw [zIn_r T b p l m t (show p + d + 1 ≠ p by omega), if_pos (by omega)]; rfl)
      rw [show p + (d + 1) + 1 = p + d + 1 + 1 from rfl, zLp_n, h2, e, List.append_assoc]
      rfl
theorem zQ_cg {T T' : zT} : ∀ n, (∀ r, r < n → zL1 T' (T'.1 6 r) = zL1 T (T.1 6 r)) → zQ T' n = zQ T n := by
  intro n
  induction n with
  | zero => intro _; rfl
  | succ n ih =>
    intro h
    rw [zQ_s, zQ_s, ih (fun r hr => h r (by omega)), h n (by omega)]
theorem zQ_ins {T T' : zT} {r0 n0 : Nat} {A B : List (Nat × Nat × Nat)} {q : Nat × Nat × Nat} (hoth : ∀ r, r < n0 → r ≠ r0 → zL1 T' (T'.1 6 r) = zL1 T (T.1 6 r)) (h1 : zL1 T (T.1 6 r0) = A ++ B) (h2 : zL1 T' (T'.1 6 r0) = A ++ q :: B) : ∀ d, r0 + 1 + d ≤ n0 → ∃ B', zQ T (r0 + 1 + d) = (zQ T r0 ++ A) ++ B' ∧ zQ T' (r0 + 1 + d) = (zQ T r0 ++ A) ++ q :: B' := by
  intro d
  induction d with
  | zero =>
    intro h
    refine ⟨B, ?_, ?_⟩
    · rw [Nat.add_zero, zQ_s, h1, List.append_assoc]
    · rw [Nat.add_zero, zQ_s, h2, zQ_cg r0 (fun r hr => hoth r (by omega) (by omega)), List.append_assoc]
  | succ d ih =>
    intro h
    obtain ⟨B', e1, e2⟩ := ih (by omega)
    refine ⟨B' ++ zL1 T (T.1 6 (r0 + 1 + d)), ?_, ?_⟩
    · rw [show r0 + 1 + (d + 1) = r0 + 1 + d + 1 from rfl, zQ_s, e1, List.append_assoc]
    · rw [show r0 + 1 + (d + 1) = r0 + 1 + d + 1 from rfl, zQ_s, e2, hoth (r0 + 1 + d) (by omega) (by omega), List.append_assoc]
      rfl
/-- a row comes behind that of the first leaf of a way -/
theorem zline_in {T U : zT} (hI : zInv T) (h0 : T.1 7 0 ≠ 0) (h l m x : Nat) (hU : ∀ i, i ≠ 0 → i ≠ 3 → U.1 i = T.1 i) : ∃ A B, zLL T = A ++ B ∧ zLL (zIn U (zbk T h (T.1 7 0 - 1)) (zr T (zbk T h (T.1 7 0 - 1)) h + 1) l m x) = A ++ (x, l, m) :: B ∧ A.length = zpl T h + 1 := by
  have h72 := hI.1.1
  have u1 := hU 1 (by omega) (by omega)
  have u4 := hU 4 (by omega) (by omega)
  have u5 := hU 5 (by omega) (by omega)
  have u6 := hU 6 (by omega) (by omega)
  have u7 := hU 7 (by omega) (by omega)
  have uq : ∀ j, zrq U j = zrq T j := fun j => by unfold zrq; rw [u4, u5, u6]
  have uL : ∀ b s, zLp U b s = zLp T b s := fun b s => zLp_cg (fun r _ => uq _)
  by_cases h1 : T.1 7 0 = 1
  · rw [h1]
    show ∃ A B, zLL T = A ++ B ∧ zLL (zIn U 0 (zr T 0 h + 1) l m x) = A ++ (x, l, m) :: B ∧ A.length = zpl T h + 1
    obtain ⟨e, hr⟩ := zpl_1 hI h1 h
    have hc := zInv_c5 hI (b := 0) (by omega)
    obtain ⟨B, b1, b2⟩ := zLp_ins (T := U) (b := 0) (p := zr T 0 h + 1) l m x (T.1 1 0 - (zr T 0 h + 1)) (by rw [u1]; omega)
    rw [show zr T 0 h + 1 + (T.1 1 0 - (zr T 0 h + 1)) = T.1 1 0 by omega, uL, uL] at b1
    rw [show zr T 0 h + 1 + (T.1 1 0 - (zr T 0 h + 1)) = T.1 1 0 by omega, uL] at b2
    refine ⟨zLp T 0 (zr T 0 h + 1), B, ?_, ?_, ?_⟩
    · rw [zLL_1 h1, b1]
    · rw [zLL_1 (by rw [zIn_i _ _ _ _ _ _ (by omega) (by omega), u7]; exact h1), zIn_c, u1, b2]
    · rw [zLp_len, e]
  · have h2 : T.1 7 0 = 2 := by omega
    rw [h2]
    show ∃ A B, zLL T = A ++ B ∧ zLL (zIn U (zbk T h 1) (zr T (zbk T h 1) h + 1) l m x) = A ++ (x, l, m) :: B ∧ A.length = zpl T h + 1
    obtain ⟨hr, eb, hc, e⟩ := zpl_2 hI h2 h
    rw [eb]
    have hi0 : T.1 6 (zr T 0 h) ≠ 0 := by
      have := zInv_cz hI (b := 0) (by omega) hr
      rw [show 0 * 6 + zr T 0 h = zr T 0 h by omega] at this
      exact this
    have hi4 := zInv_c0 hI hr
    have hc5 := zInv_c5 hI hi4
    have hr5 := zInv_c5 hI (b := 0) (by omega)
    have hj := hI.2.2.2.2.1
    generalize hix : T.1 6 (zr T 0 h) = ix at *
    generalize hp : zr T ix h + 1 = p at *
    have v6 : ∀ r, r < 6 → (zIn U ix p l m x).1 6 r = T.1 6 r := fun r hr6 => by rw [zIn_o (by omega) (by rw [u1]; omega) (by omega) (by omega), u6]
    have v1 : (zIn U ix p l m x).1 1 ix = T.1 1 ix + 1 := by rw [zIn_c, u1]
    have v1' : ∀ b, b ≠ ix → (zIn U ix p l m x).1 1 b = T.1 1 b := fun b hb => by rw [zIn_d _ _ _ _ _ _ hb, u1]
    have voth : ∀ b, b ≠ ix → zL1 (zIn U ix p l m x) b = zL1 T b := fun b hb => by
      unfold zL1
      rw [v1' b hb]
      refine zLp_cg (fun r hr' => ?_)
      rw [← uq]
      refine zrq_o (zro_oo (fun i hi => ?_))
      have hb6 : T.1 1 b ≤ 6 ∨ ¬ b < 40 := by
        by_cases hb4 : b < 40
        · left; have := zInv_c5 hI hb4; omega
        · right; exact hb4
      by_cases hb4 : b < 40
      · have := zInv_c5 hI hb4
        exact zIn_o (by omega) (by rw [u1]; omega) (by omega) (by omega)
      · exact zIn_o (by omega) (by rw [u1]; omega) (by omega) (by omega)
    obtain ⟨B, b1, b2⟩ := zLp_ins (T := U) (b := ix) (p := p) l m x (T.1 1 ix - p) (by rw [u1]; omega)
    rw [show p + (T.1 1 ix - p) = T.1 1 ix by omega, uL, uL] at b1
    rw [show p + (T.1 1 ix - p) = T.1 1 ix by omega, uL] at b2
    obtain ⟨B', c1, c2⟩ := zQ_ins (T := T) (T' := zIn U ix p l m x) (r0 := zr T 0 h) (n0 := T.1 1 0) (A := zLp T ix p) (B := B) (q := (x, l, m)) (fun r hr' hne => by
      rw [v6 r (by omega)]
      refine voth _ (fun e9 => hne ?_)
      rw [← hix] at e9
      have := (hj 0 r 0 (zr T 0 h) (by omega) (by omega) hr' hr (by rw [show 0 * 6 + r = r by omega, show 0 * 6 + zr T 0 h = zr T 0 h by omega]; exact e9)).2
      exact this) (by rw [hix]; unfold zL1; exact b1) (by rw [v6 _ (by omega), hix]; unfold zL1; rw [v1]; exact b2) (T.1 1 0 - (zr T 0 h + 1)) (by omega)
    rw [show zr T 0 h + 1 + (T.1 1 0 - (zr T 0 h + 1)) = T.1 1 0 by omega] at c1 c2
    refine ⟨zQ T (zr T 0 h) ++ zLp T ix p, B', ?_, ?_, ?_⟩
    · rw [zLL_2 h2, c1]
    · rw [zLL_2 (by rw [zIn_i _ _ _ _ _ _ (by omega) (by omega), u7]; exact h2), v1' 0 (Ne.symm hi0), c2]
    · rw [List.length_append, zLp_len, e]
      omega
theorem zRt_in {T U : zT} (hI : zInv T) (ht : zRt T) {ix p : Nat} (l m x : Nat) (hix : ix < 40) (hp : 1 ≤ p ∧ p ≤ T.1 1 ix) (h0 : T.1 7 0 = 2 → ix ≠ 0) (hU : ∀ i, i ≠ 0 → i ≠ 3 → U.1 i = T.1 i) : zRt (zIn U ix p l m x) := by
  intro h2 r hr
  have u1 := hU 1 (by omega) (by omega)
  have u4 := hU 4 (by omega) (by omega)
  have u5 := hU 5 (by omega) (by omega)
  have u6 := hU 6 (by omega) (by omega)
  have u7 := hU 7 (by omega) (by omega)
  have h2' : T.1 7 0 = 2 := by rw [zIn_i _ _ _ _ _ _ (by omega) (by omega), u7] at h2; exact h2
  have hi0 := h0 h2'
  have hc5 := zInv_c5 hI hix
  have hr5 := zInv_c5 hI (b := 0) (by omega)
  rw [zIn_d _ _ _ _ _ _ (Ne.symm hi0), u1] at hr
  have v : ∀ i, i = 4 ∨ i = 5 ∨ i = 6 → (zIn U ix p l m x).1 i r = T.1 i r := fun i hi => by
    rw [zIn_o (by omega) (by rw [u1]; omega) (by omega) (by omega), hU i (by omega) (by omega)]
  rw [v 4 (by omega), v 5 (by omega), v 6 (by omega)]
  have hc4 := zInv_c0 hI hr
  have w : ∀ i, i = 4 ∨ i = 5 → (zIn U ix p l m x).1 i (T.1 6 r * 6) = T.1 i (T.1 6 r * 6) := fun i hi => by
    by_cases e : T.1 6 r = ix
    · rw [e]
      have h8 : zro (zIn U ix p l m x) (ix * 6 + 0) = zro U (ix * 6 + 0) := by rw [zIn_r U ix p l m x (show 0 ≠ p by omega), if_neg (by omega)]
      have h9 := zro_s h8
      rw [show ix * 6 = ix * 6 + 0 from rfl]
      rcases hi with q | q <;> subst q
      · rw [h9.1, u4]
      · rw [h9.2.1, u5]
    · rw [zIn_o (by omega) (by rw [u1]; omega) (by omega) (by omega), hU i (by omega) (by omega)]
  rw [w 4 (by omega), w 5 (by omega)]
  exact ht h2' r hr
