/-! the tree's structure and its entries apart; rows that move -/
def zro (T : zT) (j : Nat) : Nat × Nat × Nat := (T.1 4 j, T.1 5 j, T.1 6 j)
def zDj (T : zT) (j : Nat) : Prop := T.1 4 j < 4096 ∧ T.1 5 j ≤ 1 ∧ T.1 6 j < 40 ∧ T.1 6 j ≠ 0
theorem zDj_ro {T T' : zT} {j j' : Nat} (h : zro T' j' = zro T j) (hd : zDj T j) : zDj T' j' := by
  unfold zro at h
  have h1 := congrArg (fun q => q.1) h
  have h2 := congrArg (fun q => q.2.1) h
  have h3 := congrArg (fun q => q.2.2) h
  unfold zDj
  simp only at h1 h2 h3
  rw [h1, h2, h3]
  exact hd
theorem zro_6 {T T' : zT} {j j' : Nat} (h : zro T' j' = zro T j) : T'.1 6 j' = T.1 6 j := congrArg (fun q => q.2.2) h
def zSA (T : zT) : Prop := T.1 7 0 ≤ 2 ∧ 1 ≤ T.1 7 1 ∧ T.1 7 1 ≤ 12 ∧ T.1 7 2 < 65536 ∧ T.1 7 3 < 2
def zSB (c : Nat) (T : zT) : Prop := ∀ b, b < 40 → T.1 0 b ≤ 2 ∧ T.1 1 b ≤ c ∧ T.1 2 b ≤ 1 ∧ (T.1 0 b ≠ 2 → T.1 1 b = 0 ∧ T.1 2 b = 0) ∧ (T.1 0 b = 2 → 1 ≤ T.1 1 b)
def zSC (T : zT) : Prop := ∀ k, k < 240 → T.2 k ≠ 0 → zval (T.2 k) ∧ T.1 3 k ≤ 999 ∧ T.1 0 (k / 6) = 1
def zSD (T : zT) : Prop := ∀ b r, b < 40 → r < T.1 1 b → zDj T (b * 6 + r)
def zSE (T : zT) : Prop := ∀ b r b' r', b < 40 → b' < 40 → r < T.1 1 b → r' < T.1 1 b' → T.1 6 (b * 6 + r) = T.1 6 (b' * 6 + r') → b = b' ∧ r = r'
def zSF (T : zT) : Prop := T.1 0 0 = (if T.1 7 0 = 0 then 1 else 2) ∧ (∀ b, b < 40 → b ≠ 0 → T.1 7 0 ≠ 2 → T.1 0 b ≠ 2) ∧ (∀ r, r < T.1 1 0 → T.1 0 (T.1 6 r) = (if T.1 7 0 = 2 then 2 else 1)) ∧ (∀ b r, b < 40 → b ≠ 0 → r < T.1 1 b → T.1 0 (T.1 6 (b * 6 + r)) = 1)
/-- every block but x is reached -/
def zSG (x : Nat) (T : zT) : Prop := ∀ b, b < 40 → b ≠ 0 → b ≠ x → T.1 0 b ≠ 0 → ∃ b' r, b' < 40 ∧ r < T.1 1 b' ∧ T.1 6 (b' * 6 + r) = b
def zSX (x : Nat) (T : zT) : Prop := ∀ b r, b < 40 → r < T.1 1 b → T.1 6 (b * 6 + r) ≠ x
theorem zInv_of {T : zT} (a : zSA T) (b : zSB 5 T) (c : zSC T) (d : zSD T) (e : zSE T) (f : zSF T) (g : zSG 0 T) : zInv T := ⟨a, b, c, d, e, f, fun x hx h0 hk => g x hx h0 h0 hk⟩
theorem zInv_g {T : zT} (hI : zInv T) : zSG 0 T := fun b hb h0 _ hk => hI.2.2.2.2.2.2 b hb h0 hk
theorem zInv_d {T : zT} (hI : zInv T) : zSD T := hI.2.2.2.1
theorem zInv_e {T : zT} (hI : zInv T) : zSE T := hI.2.2.2.2.1
theorem zInv_f {T : zT} (hI : zInv T) : zSF T := hI.2.2.2.2.2.1
theorem zSF_ch {T : zT} (hf : zSF T) {b r : Nat} (hb : b < 40) (hr : r < T.1 1 b) : T.1 0 (T.1 6 (b * 6 + r)) ≠ 0 := by
  by_cases h0 : b = 0
  · subst h0
    have := hf.2.2.1 r hr
    rw [Nat.zero_mul, Nat.zero_add, this]
    split <;> omega
  · rw [hf.2.2.2 b r hb h0 hr]; omega
theorem zSX_free {T : zT} (hf : zSF T) {x : Nat} (hx : T.1 0 x = 0) : zSX x T := fun b r hb hr e => zSF_ch hf hb hr (by rw [e]; exact hx)
/-- rows of one tree as rows of another, but for new ones -/
def zMv (T T' : zT) (f : Nat → Nat → Nat × Nat) (N : Nat → Nat → Prop) : Prop :=
  (∀ b r, b < 40 → r < T'.1 1 b → N b r ∨ ∃ ob o, ob < 40 ∧ o < T.1 1 ob ∧ f ob o = (b, r) ∧ zro T' (b * 6 + r) = zro T (ob * 6 + o)) ∧
  (∀ ob o, ob < 40 → o < T.1 1 ob → (f ob o).1 < 40 ∧ (f ob o).2 < T'.1 1 (f ob o).1 ∧ zro T' ((f ob o).1 * 6 + (f ob o).2) = zro T (ob * 6 + o))
theorem zmv_D {T T' : zT} {f : Nat → Nat → Nat × Nat} {N : Nat → Nat → Prop} (hm : zMv T T' f N) (hN : ∀ b r, N b r → zDj T' (b * 6 + r)) (h : zSD T) : zSD T' := by
  intro b r hb hr
  rcases hm.1 b r hb hr with hn | ⟨ob, o, h1, h2, _, h4⟩
  · exact hN b r hn
  · exact zDj_ro h4 (h ob o h1 h2)
theorem zmv_E {T T' : zT} {f : Nat → Nat → Nat × Nat} {N : Nat → Nat → Prop} (hm : zMv T T' f N) (hN : ∀ b r b' r', N b r → N b' r' → T'.1 6 (b * 6 + r) = T'.1 6 (b' * 6 + r') → b = b' ∧ r = r') (hNT : ∀ b r, N b r → zSX (T'.1 6 (b * 6 + r)) T) (h : zSE T) : zSE T' := by
  intro b r b' r' hb hb' hr hr' e
  rcases hm.1 b r hb hr with hn | ⟨ob, o, h1, h2, h3, h4⟩
  · rcases hm.1 b' r' hb' hr' with hn' | ⟨ob', o', h1', h2', h3', h4'⟩
    · exact hN b r b' r' hn hn' e
    · rw [zro_6 h4'] at e
      exact absurd e.symm (hNT b r hn ob' o' h1' h2')
  · rcases hm.1 b' r' hb' hr' with hn' | ⟨ob', o', h1', h2', h3', h4'⟩
    · rw [zro_6 h4] at e
      exact absurd e (hNT b' r' hn' ob o h1 h2)
    · rw [zro_6 h4, zro_6 h4'] at e
      obtain ⟨e1, e2⟩ := h ob o ob' o' h1 h1' h2 h2' e
      subst e1; subst e2
      rw [h3] at h3'
      exact ⟨congrArg Prod.fst h3', congrArg Prod.snd h3'⟩
theorem zmv_G {T T' : zT} {f : Nat → Nat → Nat × Nat} {N : Nat → Nat → Prop} (hm : zMv T T' f N) {x x' : Nat} (hk : ∀ b, b < 40 → b ≠ 0 → b ≠ x' → T'.1 0 b ≠ 0 → (b ≠ x ∧ T.1 0 b ≠ 0) ∨ ∃ b' r, b' < 40 ∧ r < T'.1 1 b' ∧ T'.1 6 (b' * 6 + r) = b) (h : zSG x T) : zSG x' T' := by
  intro b hb h0 hx hk'
  rcases hk b hb h0 hx hk' with ⟨h1, h2⟩ | h1
  · obtain ⟨b', r, a1, a2, a3⟩ := h b hb h0 h1 h2
    obtain ⟨c1, c2, c3⟩ := hm.2 b' r a1 a2
    exact ⟨_, _, c1, c2, by rw [zro_6 c3]; exact a3⟩
  · exact h1
theorem zmv_X {T T' : zT} {f : Nat → Nat → Nat × Nat} {N : Nat → Nat → Prop} (hm : zMv T T' f N) {x : Nat} (hN : ∀ b r, N b r → T'.1 6 (b * 6 + r) ≠ x) (h : zSX x T) : zSX x T' := by
  intro b r hb hr
  rcases hm.1 b r hb hr with hn | ⟨ob, o, h1, h2, _, h4⟩
  · exact hN b r hn
  · rw [zro_6 h4]; exact h ob o h1 h2
/-! the rows behind an insertion -/
theorem zsh_at (b p : Nat) {i : Nat} (hi : i = 4 ∨ i = 5 ∨ i = 6) : ∀ (k : Nat) (T : zT) (r : Nat), (zsh b p k T).1 i (b * 6 + r) = if p < r ∧ r ≤ k then T.1 i (b * 6 + (r - 1)) else T.1 i (b * 6 + r) := by
  intro k
  induction k with
  | zero => intro T r; rw [if_neg (by omega)]; rfl
  | succ k ih =>
    intro T r
    unfold zsh
    by_cases c : p < k + 1
    · rw [if_pos c, ih]
      have hz : ∀ r', (zcR T (b * 6 + k) (b * 6 + (k + 1))).1 i (b * 6 + r') = if r' = k + 1 then T.1 i (b * 6 + k) else T.1 i (b * 6 + r') := by
        intro r'
        unfold zcR zrw
        by_cases e : r' = k + 1
        · subst e
          rw [if_pos rfl]
          rcases hi with rfl | rfl | rfl
          · rw [zwT_i _ _ _ _ (by omega), zwT_i _ _ _ _ (by omega), zwT_s]
          · rw [zwT_i _ _ _ _ (by omega), zwT_s]
          · rw [zwT_s]
        · rw [if_neg e]
          rcases hi with rfl | rfl | rfl
          · rw [zwT_i _ _ _ _ (by omega), zwT_i _ _ _ _ (by omega), zwT_k _ _ _ _ (by omega)]
          · rw [zwT_i _ _ _ _ (by omega), zwT_k _ _ _ _ (by omega), zwT_i _ _ _ _ (by omega)]
          · rw [zwT_k _ _ _ _ (by omega), zwT_i _ _ _ _ (by omega), zwT_i _ _ _ _ (by omega)]
      by_cases c2 : p < r ∧ r ≤ k
      · rw [if_pos c2, hz, if_neg (by omega), if_pos (by omega)]
      · rw [if_neg c2, hz]
        by_cases c3 : r = k + 1
        · rw [if_pos c3, if_pos (by omega), c3]; rfl
        · rw [if_neg c3, if_neg (by omega)]
    · rw [if_neg c, if_neg (by omega)]
theorem zsh_o (b p : Nat) {i : Nat} : ∀ (k : Nat) (T : zT) (j : Nat), k ≤ 5 → (j < b * 6 ∨ b * 6 + 6 ≤ j) → (zsh b p k T).1 i j = T.1 i j := by
  intro k
  induction k with
  | zero => intro T j _ _; rfl
  | succ k ih =>
    intro T j hk hj
    unfold zsh
    split
    · rw [ih _ j (by omega) hj]
      unfold zcR zrw
      by_cases i6 : i = 6
      · subst i6; rw [zwT_k _ _ _ _ (by omega), zwT_i _ _ _ _ (by omega), zwT_i _ _ _ _ (by omega)]
      · rw [zwT_i _ _ _ _ i6]
        by_cases i5 : i = 5
        · subst i5; rw [zwT_k _ _ _ _ (by omega), zwT_i _ _ _ _ (by omega)]
        · rw [zwT_i _ _ _ _ i5]
          by_cases i4 : i = 4
          · subst i4; rw [zwT_k _ _ _ _ (by omega)]
          · rw [zwT_i _ _ _ _ i4]
    · rfl
theorem zIn_o {T : zT} {b p l m t i j : Nat} (hp : p < 6) (hc : T.1 1 b ≤ 5) (hi : i ≠ 1) (hj : j < b * 6 ∨ b * 6 + 6 ≤ j) : (zIn T b p l m t).1 i j = T.1 i j := by
  unfold zIn zrw
  rw [zwT_i _ _ _ _ hi, ← zsh_o b p (T.1 1 b) T j hc hj]
  by_cases i6 : i = 6
  · subst i6; rw [zwT_k _ _ _ _ (by omega), zwT_i _ _ _ _ (by omega), zwT_i _ _ _ _ (by omega)]
  · rw [zwT_i _ _ _ _ i6]
    by_cases i5 : i = 5
    · subst i5; rw [zwT_k _ _ _ _ (by omega), zwT_i _ _ _ _ (by omega)]
    · rw [zwT_i _ _ _ _ i5]
      by_cases i4 : i = 4
      · subst i4; rw [zwT_k _ _ _ _ (by omega)]
      · rw [zwT_i _ _ _ _ i4]
theorem zIn_p (T : zT) (b p l m t : Nat) : zro (zIn T b p l m t) (b * 6 + p) = (l, m, t) := by
  unfold zro zIn zrw
  simp (disch := omega) only [zwT_i, zwT_s]
theorem zIn_r (T : zT) (b p l m t : Nat) {r : Nat} (hr : r ≠ p) : zro (zIn T b p l m t) (b * 6 + r) = if p < r ∧ r ≤ T.1 1 b then zro T (b * 6 + (r - 1)) else zro T (b * 6 + r) := by
  unfold zro zIn zrw
  simp (disch := omega) only [zwT_i, zwT_k]
  rw [zsh_at b p (Or.inl rfl), zsh_at b p (Or.inr (Or.inl rfl)), zsh_at b p (Or.inr (Or.inr rfl))]
  split <;> rfl
theorem zro_oo {T T' : zT} {j : Nat} (h : ∀ i, i = 4 ∨ i = 5 ∨ i = 6 → T'.1 i j = T.1 i j) : zro T' j = zro T j := by
  unfold zro
  rw [h 4 (by omega), h 5 (by omega), h 6 (by omega)]
/-- an insertion -/
theorem zIn_mv {T : zT} {b p l m t : Nat} (hb : b < 40) (hp : p ≤ T.1 1 b) (hc : T.1 1 b ≤ 5) (hc6 : ∀ b, b < 40 → T.1 1 b ≤ 6) : zMv T (zIn T b p l m t) (fun ob o => if ob = b ∧ p ≤ o then (ob, o + 1) else (ob, o)) (fun b' r => b' = b ∧ r = p) := by
  refine ⟨fun b' r hb' hr => ?_, fun ob o hob ho => ?_⟩
  · by_cases e : b' = b
    · subst e
      rw [zIn_c] at hr
      by_cases e2 : r = p
      · exact Or.inl ⟨rfl, e2⟩
      · right
        by_cases c : p < r
        · refine ⟨b', r - 1, hb', by omega, ?_, ?_⟩
          · show (if b' = b' ∧ p ≤ r - 1 then (b', r - 1 + 1) else (b', r - 1)) = _
            rw [if_pos ⟨rfl, by omega⟩, show r - 1 + 1 = r by omega]
          · rw [zIn_r T b' p l m t e2, if_pos (by omega)]
        · refine ⟨b', r, hb', by omega, ?_, ?_⟩
          · show (if b' = b' ∧ p ≤ r then (b', r + 1) else (b', r)) = _
            rw [if_neg (by omega)]
          · rw [zIn_r T b' p l m t e2, if_neg (by omega)]
    · right
      rw [zIn_d _ _ _ _ _ _ e] at hr
      have h6 := hc6 b' hb'
      refine ⟨b', r, hb', hr, ?_, ?_⟩
      · show (if b' = b ∧ p ≤ r then (b', r + 1) else (b', r)) = _
        rw [if_neg (fun q => e q.1)]
      · exact zro_oo (fun i hi => zIn_o (by omega) hc (by omega) (by omega))
  · by_cases e : ob = b
    · subst e
      by_cases c : p ≤ o
      · simp only [eq_self, true_and, if_pos c]
        refine ⟨hob, by show o + 1 < _; rw [zIn_c]; omega, ?_⟩
        show zro _ (ob * 6 + (o + 1)) = _
        rw [zIn_r T ob p l m t (by omega), if_pos (by omega)]
        rfl
      · simp only [eq_self, true_and, if_neg c]
        refine ⟨hob, by show o < _; rw [zIn_c]; omega, ?_⟩
        show zro _ (ob * 6 + o) = _
        rw [zIn_r T ob p l m t (by omega), if_neg (by omega)]
    · simp only [e, false_and, if_false]
      have h6 := hc6 ob hob
      refine ⟨hob, by show o < _; rw [zIn_d _ _ _ _ _ _ e]; exact ho, ?_⟩
      exact zro_oo (fun i hi => zIn_o (by omega) hc (by omega) (by show ob * 6 + o < b * 6 ∨ b * 6 + 6 ≤ ob * 6 + o; omega))
/-- a tree with one block that is not reached yet -/
def zSt (c x : Nat) (T : zT) : Prop := zSA T ∧ zSB c T ∧ zSD T ∧ zSE T ∧ zSF T ∧ zSG x T ∧ zSX x T
theorem zSt_ins {T : zT} {c x b p l m : Nat} (h : zSt c x T) (hc6 : c ≤ 6) (hx : x < 40) (hx0 : x ≠ 0) (hb : b < 40) (hk : T.1 0 b = 2) (hkx : T.1 0 x = if b = 0 ∧ T.1 7 0 = 2 then 2 else 1) (hp : p ≤ T.1 1 b) (hc : T.1 1 b ≤ 5) (hl : l < 4096) (hm : m ≤ 1) : zSA (zIn T b p l m x) ∧ zSB 6 (zIn T b p l m x) ∧ zSD (zIn T b p l m x) ∧ zSE (zIn T b p l m x) ∧ zSF (zIn T b p l m x) ∧ zSG 0 (zIn T b p l m x) := by
  obtain ⟨hA, hB, hD, hE, hF, hG, hX⟩ := h
  have hmv := zIn_mv (l := l) (m := m) (t := x) hb hp hc (fun b' hb' => by have := (hB b' hb').2.1; omega)
  have hp6 : zro (zIn T b p l m x) (b * 6 + p) = (l, m, x) := zIn_p T b p l m x
  have c6 : (zIn T b p l m x).1 6 (b * 6 + p) = x := congrArg (fun q => q.2.2) hp6
  have c5 : (zIn T b p l m x).1 5 (b * 6 + p) = m := congrArg (fun q => q.2.1) hp6
  have c4 : (zIn T b p l m x).1 4 (b * 6 + p) = l := congrArg (fun q => q.1) hp6
  have k0 : (zIn T b p l m x).1 0 = T.1 0 := zIn_i _ _ _ _ _ _ (by omega) (by omega)
  have k2 : (zIn T b p l m x).1 2 = T.1 2 := zIn_i _ _ _ _ _ _ (by omega) (by omega)
  have k7 : (zIn T b p l m x).1 7 = T.1 7 := zIn_i _ _ _ _ _ _ (by omega) (by omega)
  refine ⟨by unfold zSA; rw [k7]; exact hA, fun b' hb' => ?_, zmv_D hmv (fun b' r hn => ?_) hD, zmv_E hmv (fun b1 r1 b2 r2 h1 h2 _ => ⟨h1.1.trans h2.1.symm, h1.2.trans h2.2.symm⟩) (fun b' r hn => ?_) hE, ?_, zmv_G hmv (x := x) (fun b' hb' h0 _ hk' => ?_) hG⟩
  · rw [k0, k2]
    obtain ⟨a1, a2, a3, a4, a5⟩ := hB b' hb'
    by_cases e : b' = b
    · subst e
      rw [zIn_c]
      exact ⟨a1, by omega, a3, fun q => absurd hk q, fun _ => by omega⟩
    · rw [zIn_d _ _ _ _ _ _ e]
      exact ⟨a1, by omega, a3, a4, a5⟩
  · obtain ⟨rfl, rfl⟩ := hn
    unfold zDj
    rw [c4, c5, c6]
    exact ⟨hl, hm, hx, hx0⟩
  · obtain ⟨rfl, rfl⟩ := hn
    rw [c6]; exact hX
  · obtain ⟨f1, f2, f3, f4⟩ := hF
    refine ⟨by rw [k0, k7]; exact f1, by rw [k0, k7]; exact f2, fun r hr => ?_, fun b' r hb' h0 hr => ?_⟩
    · rw [k0, k7]
      rcases hmv.1 0 r (by omega) hr with ⟨e1, e2⟩ | ⟨ob, o, h1, h2, h3, h4⟩
      · subst e1; subst e2
        rw [Nat.zero_mul, Nat.zero_add] at c6
        rw [c6, hkx]
        by_cases q : T.1 7 0 = 2
        · rw [if_pos ⟨rfl, q⟩, if_pos q]
        · rw [if_neg (fun z => q z.2), if_neg q]
      · have e := zro_6 h4
        rw [Nat.zero_mul, Nat.zero_add] at e
        rw [e]
        have ho : ob = 0 := by
          have := congrArg Prod.fst h3
          simp only at this
          split at this <;> exact this
        subst ho
        rw [Nat.zero_mul, Nat.zero_add]
        exact f3 o h2
    · rw [k0]
      rcases hmv.1 b' r hb' hr with ⟨e1, e2⟩ | ⟨ob, o, h1, h2, h3, h4⟩
      · subst e1; subst e2
        rw [c6, hkx, if_neg (fun z => h0 z.1)]
      · rw [zro_6 h4]
        have ho : ob = b' := by
          have := congrArg Prod.fst h3
          simp only at this
          split at this <;> exact this
        subst ho
        exact f4 ob o h1 h0 h2
  · rw [k0] at hk'
    by_cases e : b' = x
    · right
      refine ⟨b, p, hb, by rw [zIn_c]; omega, by rw [c6, e]⟩
    · exact Or.inl ⟨e, hk'⟩
