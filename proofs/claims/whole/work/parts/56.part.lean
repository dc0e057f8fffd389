/-! an index is parted: the line stays -/
theorem zK3_at {V : zT} {ix i q : Nat} (hne : ix ≠ zfr V) (hi : i = 4 ∨ i = 5 ∨ i = 6) (hq : q < 3) : (zK3 V ix).1 i (zfr V * 6 + q) = V.1 i (ix * 6 + (3 + q)) := by
  unfold zK3
  rw [zCp_at hne hi hq (by omega), zwT_i _ _ _ _ (by omega)]
theorem zK3_o {V : zT} {ix i j : Nat} (hi : i = 4 ∨ i = 5 ∨ i = 6) (h : j < zfr V * 6 ∨ zfr V * 6 + 3 ≤ j) : (zK3 V ix).1 i j = V.1 i j := by
  unfold zK3
  rw [zCp_o (by omega) h, zwT_i _ _ _ _ (by omega)]
theorem zK3_c {V : zT} {ix : Nat} : (zK3 V ix).1 1 (zfr V) = 3 := zCp_c _ _ _ _
theorem zRz_r {T : zT} {fr bh l m k i : Nat} (hk : 2 ≤ k) (hi : i = 4 ∨ i = 5 ∨ i = 6) : (zRz T fr bh l m).1 i k = T.1 i k := by
  rcases hi with q | q | q <;> subst q
  · rw [zRz_4, if_neg (by omega), if_neg (by omega)]
  · rw [zRz_5, if_neg (by omega), if_neg (by omega)]
  · rw [zRz_6, if_neg (by omega), if_neg (by omega)]
theorem zrq_i {T T' : zT} {j j' : Nat} (h : ∀ i, i = 4 ∨ i = 5 ∨ i = 6 → T'.1 i j' = T.1 i j) : zrq T' j' = zrq T j := by
  unfold zrq
  rw [h 6 (by omega), h 4 (by omega), h 5 (by omega)]
theorem zLp_36 {V T' : zT} {b y x : Nat} (h1 : ∀ q, q < 3 → zrq T' (y * 6 + q) = zrq V (b * 6 + q)) (h2 : ∀ q, q < 3 → zrq T' (x * 6 + q) = zrq V (b * 6 + (3 + q))) : zLp T' y 3 ++ zLp T' x 3 = zLp V b 6 := by
  rw [zLp_cg h1, zLp_n T' x 2, zLp_n T' x 1, zLp_n T' x 0, h2 0 (by omega), h2 1 (by omega), h2 2 (by omega), zLp_n V b 5, zLp_n V b 4, zLp_n V b 3, List.append_assoc, List.append_assoc]
  rfl
theorem zK4_line {V : zT} (h7 : V.1 7 0 = 1) (h6 : V.1 1 0 = 6) (hx0 : zfr V ≠ 0) (hy0 : zfr (zK3 V 0) ≠ 0) (hxy : zfr V ≠ zfr (zK3 V 0)) (h00 : V.1 4 0 = 0 ∧ V.1 5 0 = 0) : zLL (zK4 V) = zLL V ∧ zRt (zK4 V) := by
  have e3 : ∀ i q, (i = 4 ∨ i = 5 ∨ i = 6) → q < 3 → (zK3 V 0).1 i (zfr V * 6 + q) = V.1 i (0 * 6 + (3 + q)) := fun i q hi hq => zK3_at (Ne.symm hx0) hi hq
  have e3o : ∀ i j, (i = 4 ∨ i = 5 ∨ i = 6) → j < 6 → (zK3 V 0).1 i j = V.1 i j := fun i j hi hj => zK3_o hi (by omega)
  have e3c : (zK3 V 0).1 1 (zfr V) = 3 := zK3_c
  have e37 : (zK3 V 0).1 7 = V.1 7 := zK3_i (by omega)
  unfold zK4
  generalize zfr (zK3 V 0) = y at *
  generalize zfr V = x at *
  generalize zK3 V 0 = K at *
  have w : ∀ i q, (i = 4 ∨ i = 5 ∨ i = 6) → q < 3 → (zCp (zwT K 0 y 2) 0 y 0).1 i (y * 6 + q) = V.1 i (0 * 6 + q) := fun i q hi hq => by
    rw [zCp_at (Ne.symm hy0) hi hq (by omega), zwT_i _ _ _ _ (by omega), show 0 * 6 + (0 + q) = q by omega, show 0 * 6 + q = q by omega]
    exact e3o i q hi (by omega)
  have wo : ∀ i j, (i = 4 ∨ i = 5 ∨ i = 6) → (j < y * 6 ∨ y * 6 + 3 ≤ j) → (zCp (zwT K 0 y 2) 0 y 0).1 i j = K.1 i j := fun i j hi hj => by
    rw [zCp_o (by omega) hj, zwT_i _ _ _ _ (by omega)]
  have c7 : (zCp (zwT K 0 y 2) 0 y 0).1 7 0 = 1 := by rw [zCp_i _ _ _ _ (by omega) (by omega), zwT_i _ _ _ _ (by omega), e37]; exact h7
  have cy : (zCp (zwT K 0 y 2) 0 y 0).1 1 y = 3 := zCp_c _ _ _ _
  have cx : (zCp (zwT K 0 y 2) 0 y 0).1 1 x = 3 := by rw [zCp_d _ _ _ _ hxy, zwT_i _ _ _ _ (by omega)]; exact e3c
  have wx : ∀ i q, (i = 4 ∨ i = 5 ∨ i = 6) → q < 3 → (zCp (zwT K 0 y 2) 0 y 0).1 i (x * 6 + q) = K.1 i (x * 6 + q) := fun i q hi hq => wo i _ hi (by omega)
  generalize zCp (zwT K 0 y 2) 0 y 0 = W at *
  refine ⟨?_, ?_⟩
  · have t1 : (zRz W y x (K.1 4 (x * 6)) (K.1 5 (x * 6))).1 1 0 = 2 := by rw [zRz_1, if_pos rfl]
    have ty : (zRz W y x (K.1 4 (x * 6)) (K.1 5 (x * 6))).1 1 y = 3 := by rw [zRz_1, if_neg hy0]; exact cy
    have tx : (zRz W y x (K.1 4 (x * 6)) (K.1 5 (x * 6))).1 1 x = 3 := by rw [zRz_1, if_neg hx0]; exact cx
    have t60 : (zRz W y x (K.1 4 (x * 6)) (K.1 5 (x * 6))).1 6 0 = y := by rw [zRz_6, if_neg (by omega), if_pos rfl]
    have t61 : (zRz W y x (K.1 4 (x * 6)) (K.1 5 (x * 6))).1 6 1 = x := by rw [zRz_6, if_pos rfl]
    have q := zLp_36 (V := V) (T' := zRz W y x (K.1 4 (x * 6)) (K.1 5 (x * 6))) (b := 0) (y := y) (x := x) (fun q hq => zrq_i (fun i hi => by rw [zRz_r (by omega) hi]; exact w i q hi hq)) (fun q hq => zrq_i (fun i hi => by rw [zRz_r (by omega) hi, wx i q hi hq]; exact e3 i q hi hq))
    rw [zLL_2 (by rw [zRz_7, if_pos rfl, c7]), zLL_1 h7, h6, t1, zQ_s, zQ_s, t60, t61]
    unfold zL1
    rw [ty, tx]
    exact q
  · intro _ r hr
    rw [zRz_1, if_pos rfl] at hr
    have hc : r = 0 ∨ r = 1 := by omega
    rcases hc with q | q <;> subst q
    · have a := w 4 0 (by omega) (by omega)
      have b := w 5 0 (by omega) (by omega)
      rw [zRz_6, if_neg (by omega), if_pos rfl, zRz_4, if_neg (by omega), if_pos rfl, zRz_5, if_neg (by omega), if_pos rfl, zRz_r (by omega) (by omega), zRz_r (by omega) (by omega)]
      exact ⟨h00.1.symm.trans a.symm, h00.2.symm.trans b.symm⟩
    · have a := wx 4 0 (by omega) (by omega)
      have b := wx 5 0 (by omega) (by omega)
      rw [zRz_6, if_pos rfl, zRz_4, if_pos rfl, zRz_5, if_pos rfl, zRz_r (by omega) (by omega), zRz_r (by omega) (by omega)]
      exact ⟨a.symm, b.symm⟩
theorem zK5_line {V : zT} (h7 : V.1 7 0 = 2) {ix p : Nat} (hi0 : ix ≠ 0) (hp : p < V.1 1 0) (hpe : V.1 6 p = ix) (hc0 : V.1 1 0 ≤ 5) (h6 : V.1 1 ix = 6) (hx0 : zfr V ≠ 0) (hxi : ix ≠ zfr V) (hB : ∀ b, b < 40 → V.1 1 b ≤ 6) (hD : zSD V) (hE : zSE V) (hX : zSX (zfr V) V) (ht : zRt V) : zLL (zK5 V ix (p + 1)) = zLL V ∧ zRt (zK5 V ix (p + 1)) := by
  have hch : ∀ r, r < V.1 1 0 → V.1 6 r < 40 ∧ V.1 6 r ≠ 0 ∧ V.1 6 r ≠ zfr V := fun r hr => by
    have a := hD 0 r (by omega) hr
    have b := hX 0 r (by omega) hr
    rw [show 0 * 6 + r = r by omega] at a b
    exact ⟨a.2.2.1, a.2.2.2, b⟩
  have e3 : ∀ i q, (i = 4 ∨ i = 5 ∨ i = 6) → q < 3 → (zK3 V ix).1 i (zfr V * 6 + q) = V.1 i (ix * 6 + (3 + q)) := fun i q hi hq => zK3_at hxi hi hq
  have e3o : ∀ i j, (i = 4 ∨ i = 5 ∨ i = 6) → (j < zfr V * 6 ∨ zfr V * 6 + 3 ≤ j) → (zK3 V ix).1 i j = V.1 i j := fun i j hi hj => zK3_o hi hj
  have e3c : (zK3 V ix).1 1 (zfr V) = 3 := zK3_c
  have e3d : ∀ b, b ≠ zfr V → (zK3 V ix).1 1 b = V.1 1 b := fun b hb => zK3_d hb
  have e37 : (zK3 V ix).1 7 = V.1 7 := zK3_i (by omega)
  unfold zK5
  generalize zfr V = x at *
  generalize zK3 V ix = K at *
  have u1 : (zwT K 1 ix 3).1 1 0 = V.1 1 0 := by rw [zwT_k _ _ _ _ (Ne.symm hi0)]; exact e3d 0 (Ne.symm hx0)
  have u1x : (zwT K 1 ix 3).1 1 x = 3 := by rw [zwT_k _ _ _ _ (Ne.symm hxi)]; exact e3c
  have u1i : (zwT K 1 ix 3).1 1 ix = 3 := zwT_s _ _ _ _
  have u1o : ∀ b, b ≠ ix → b ≠ x → (zwT K 1 ix 3).1 1 b = V.1 1 b := fun b h1 h2 => by rw [zwT_k _ _ _ _ h1]; exact e3d b h2
  have ui : ∀ i, i ≠ 1 → (zwT K 1 ix 3).1 i = K.1 i := fun i hi => zwT_i _ _ _ _ hi
  generalize zwT K 1 ix 3 = U at *
  have u0 : ∀ i j, (i = 4 ∨ i = 5 ∨ i = 6) → j < 6 → U.1 i j = V.1 i j := fun i j hi hj => by rw [ui i (by omega)]; exact e3o i j hi (by omega)
  have t1 : (zIn U 0 (p + 1) (K.1 4 (x * 6)) (K.1 5 (x * 6)) x).1 1 0 = V.1 1 0 + 1 := by rw [zIn_c, u1]
  have tp : zro (zIn U 0 (p + 1) (K.1 4 (x * 6)) (K.1 5 (x * 6)) x) (0 * 6 + (p + 1)) = (K.1 4 (x * 6), K.1 5 (x * 6), x) := zIn_p _ _ _ _ _ _
  have tlo : ∀ r, r ≤ p → ∀ i, (i = 4 ∨ i = 5 ∨ i = 6) → (zIn U 0 (p + 1) (K.1 4 (x * 6)) (K.1 5 (x * 6)) x).1 i r = V.1 i r := fun r hr i hi => by
    have h9 : zro (zIn U 0 (p + 1) (K.1 4 (x * 6)) (K.1 5 (x * 6)) x) (0 * 6 + r) = zro U (0 * 6 + r) := by rw [zIn_r _ _ _ _ _ _ (show r ≠ p + 1 by omega), if_neg (by omega)]
    rw [show 0 * 6 + r = r by omega] at h9
    obtain ⟨a, b, c⟩ := zro_s h9
    rcases hi with q | q | q <;> subst q
    · rw [a]; exact u0 4 r (by omega) (by omega)
    · rw [b]; exact u0 5 r (by omega) (by omega)
    · rw [c]; exact u0 6 r (by omega) (by omega)
  have thi : ∀ r, p + 1 ≤ r → r < V.1 1 0 → ∀ i, (i = 4 ∨ i = 5 ∨ i = 6) → (zIn U 0 (p + 1) (K.1 4 (x * 6)) (K.1 5 (x * 6)) x).1 i (r + 1) = V.1 i r := fun r hr hr2 i hi => by
    have h9 : zro (zIn U 0 (p + 1) (K.1 4 (x * 6)) (K.1 5 (x * 6)) x) (0 * 6 + (r + 1)) = zro U (0 * 6 + r) := by
      rw [zIn_r _ _ _ _ _ _ (show r + 1 ≠ p + 1 by omega), if_pos (by rw [u1]; omega)]
      rfl
    rw [show 0 * 6 + r = r by omega, show 0 * 6 + (r + 1) = r + 1 by omega] at h9
    obtain ⟨a, b, c⟩ := zro_s h9
    rcases hi with q | q | q <;> subst q
    · rw [a]; exact u0 4 r (by omega) (by omega)
    · rw [b]; exact u0 5 r (by omega) (by omega)
    · rw [c]; exact u0 6 r (by omega) (by omega)
  have to : ∀ i j, (i = 4 ∨ i = 5 ∨ i = 6) → 6 ≤ j → (zIn U 0 (p + 1) (K.1 4 (x * 6)) (K.1 5 (x * 6)) x).1 i j = K.1 i j := fun i j hi hj => by
    rw [zIn_o (by omega) (by rw [u1]; omega) (by omega) (by omega), ui i (by omega)]
  have tc : ∀ b, b ≠ 0 → (zIn U 0 (p + 1) (K.1 4 (x * 6)) (K.1 5 (x * 6)) x).1 1 b = U.1 1 b := fun b hb => zIn_d _ _ _ _ _ _ hb
  have t7 : (zIn U 0 (p + 1) (K.1 4 (x * 6)) (K.1 5 (x * 6)) x).1 7 0 = 2 := by rw [zIn_i _ _ _ _ _ _ (by omega) (by omega), ui 7 (by omega), e37]; exact h7
  have tp4 : (zIn U 0 (p + 1) (K.1 4 (x * 6)) (K.1 5 (x * 6)) x).1 4 (p + 1) = K.1 4 (x * 6) := by
    have := congrArg (fun q => q.1) tp
    rw [show 0 * 6 + (p + 1) = p + 1 by omega] at this
    exact this
  have tp5 : (zIn U 0 (p + 1) (K.1 4 (x * 6)) (K.1 5 (x * 6)) x).1 5 (p + 1) = K.1 5 (x * 6) := by
    have := congrArg (fun q => q.2.1) tp
    rw [show 0 * 6 + (p + 1) = p + 1 by omega] at this
    exact this
  have tp6 : (zIn U 0 (p + 1) (K.1 4 (x * 6)) (K.1 5 (x * 6)) x).1 6 (p + 1) = x := by
    have := congrArg (fun q => q.2.2) tp
    rw [show 0 * 6 + (p + 1) = p + 1 by omega] at this
    exact this
  generalize zIn U 0 (p + 1) (K.1 4 (x * 6)) (K.1 5 (x * 6)) x = T' at *
  have hcix : ix < 40 := by have := (hch p hp).1; rw [hpe] at this; exact this
  have tL : ∀ c, c < 40 → c ≠ 0 → c ≠ ix → c ≠ x → zL1 T' c = zL1 V c := fun c c4 c0 ci cx => by
    unfold zL1
    rw [tc c c0, u1o c ci cx]
    have := hB c c4
    exact zLp_cg (fun r hr => zrq_i (fun i hi => by rw [to i _ hi (by omega)]; exact e3o i _ hi (by omega)))
  have hne : ∀ r, r < V.1 1 0 → r ≠ p → V.1 6 r ≠ ix := fun r hr hrp e => by
    have := (hE 0 r 0 p (by omega) (by omega) hr hp (by rw [show 0 * 6 + r = r by omega, show 0 * 6 + p = p by omega, hpe]; exact e)).2
    exact hrp this
  have hLix : zL1 T' ix ++ zL1 T' x = zL1 V ix := by
    unfold zL1
    rw [tc ix hi0, tc x hx0, u1i, u1x, h6]
    exact zLp_36 (fun q hq => zrq_i (fun i hi => by rw [to i _ hi (by omega)]; exact e3o i _ hi (by omega))) (fun q hq => zrq_i (fun i hi => by rw [to i _ hi (by omega)]; exact e3 i q hi hq))
  have hq : ∀ d, p + 1 + d ≤ V.1 1 0 → zQ T' (p + 1 + d + 1) = zQ V (p + 1 + d) := by
    intro d
    induction d with
    | zero =>
      intro h
      have hz : zQ T' p = zQ V p := zQ_cg p (fun r hr => by
        rw [tlo r (by omega) 6 (by omega)]
        have a := hch r (by omega)
        exact tL _ a.1 a.2.1 (hne r (by omega) (by omega)) a.2.2)
      rw [Nat.add_zero, zQ_s T' (p + 1), zQ_s T' p, zQ_s V p, hz, tlo p (Nat.le_refl p) 6 (by omega), tp6, hpe, List.append_assoc, hLix]
    | succ d ih =>
      intro h
      have a := hch (p + 1 + d) (by omega)
      rw [show p + 1 + (d + 1) = p + 1 + d + 1 from rfl, zQ_s T' (p + 1 + d + 1), ih (by omega), zQ_s V (p + 1 + d), thi (p + 1 + d) (by omega) (by omega) 6 (by omega), tL _ a.1 a.2.1 (hne _ (by omega) (by omega)) a.2.2]
  refine ⟨?_, ?_⟩
  · have := hq (V.1 1 0 - (p + 1)) (by omega)
    rw [show p + 1 + (V.1 1 0 - (p + 1)) = V.1 1 0 by omega] at this
    rw [zLL_2 t7, zLL_2 h7, t1, this]
  · intro _ r hr
    rw [t1] at hr
    have hold : ∀ r, r < V.1 1 0 → T'.1 4 (V.1 6 r * 6) = V.1 4 (V.1 6 r * 6) ∧ T'.1 5 (V.1 6 r * 6) = V.1 5 (V.1 6 r * 6) := fun r hr' => by
      have a := hch r hr'
      rw [to 4 _ (by omega) (by omega), to 5 _ (by omega) (by omega)]
      exact ⟨e3o 4 _ (by omega) (by omega), e3o 5 _ (by omega) (by omega)⟩
    by_cases c1 : r ≤ p
    · rw [tlo r c1 4 (by omega), tlo r c1 5 (by omega), tlo r c1 6 (by omega), (hold r (by omega)).1, (hold r (by omega)).2]
      exact ht h7 r (by omega)
    · by_cases c2 : r = p + 1
      · subst c2
        rw [tp4, tp5, tp6, to 4 _ (by omega) (by omega), to 5 _ (by omega) (by omega)]
        exact ⟨rfl, rfl⟩
      · obtain ⟨r', er⟩ : ∃ r', r = r' + 1 := ⟨r - 1, by omega⟩
        subst er
        rw [thi r' (by omega) (by omega) 4 (by omega), thi r' (by omega) (by omega) 5 (by omega), thi r' (by omega) (by omega) 6 (by omega), (hold r' (by omega)).1, (hold r' (by omega)).2]
        exact ht h7 r' (by omega)
