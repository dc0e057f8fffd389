/-! the root's index is parted -/
theorem zSt_root {T : zT} (hA : zSA T) (hB : zSB 6 T) (hD : zSD T) (hE : zSE T) (hF : zSF T) (hG : zSG 0 T) (h7 : T.1 7 0 = 1) (h6 : T.1 1 0 = 6) {x y l m : Nat} (hx : x < 40) (hx0 : x ≠ 0) (hk : T.1 0 x = 0) (hy : y < 40) (hy0 : y ≠ 0) (hky : T.1 0 y = 0) (hxy : x ≠ y) (hl : l < 4096) (hm : m ≤ 1) :
    zSt 5 0 (zRz (zCp (zwT (zCp (zwT T 0 x 2) 0 x 3) 0 y 2) 0 y 0) y x l m) := by
  have hXx := zSX_free hF hk
  have hXy := zSX_free hF hky
  have cx := (hB x hx).2.2.2.1 (by omega)
  have cy := (hB y hy).2.2.2.1 (by omega)
  have cO : ∀ b, b < 40 → b ≠ 0 → T.1 1 b = 0 := fun b hb h0 => ((hB b hb).2.2.2.1 (hF.2.1 b hb h0 (by omega))).1
  have k0 : ∀ b, (zRz (zCp (zwT (zCp (zwT T 0 x 2) 0 x 3) 0 y 2) 0 y 0) y x l m).1 0 b = if b = 0 then 2 else if b = y then 2 else if b = x then 2 else T.1 0 b := fun b => by rw [zRz_0, zCp_i _ _ _ _ (by omega) (by omega), zwT_v, zCp_i _ _ _ _ (by omega) (by omega), zwT_v]
  have k1 : ∀ b, (zRz (zCp (zwT (zCp (zwT T 0 x 2) 0 x 3) 0 y 2) 0 y 0) y x l m).1 1 b = if b = 0 then 2 else if b = y then 3 else if b = x then 3 else T.1 1 b := by
    intro b
    rw [zRz_1]
    by_cases e0 : b = 0
    · rw [if_pos e0, if_pos e0]
    · rw [if_neg e0, if_neg e0]
      by_cases e1 : b = y
      · subst e1; rw [if_pos rfl, zCp_c]
      · rw [if_neg e1, zCp_d _ _ _ _ e1, zwT_i _ _ _ _ (by omega)]
        by_cases e2 : b = x
        · subst e2; rw [if_pos rfl, zCp_c]
        · rw [if_neg e2, zCp_d _ _ _ _ e2, zwT_i _ _ _ _ (by omega)]
  have k2 : (zRz (zCp (zwT (zCp (zwT T 0 x 2) 0 x 3) 0 y 2) 0 y 0) y x l m).1 2 = T.1 2 := by rw [zRz_2, zCp_i _ _ _ _ (by omega) (by omega), zwT_i _ _ _ _ (by omega), zCp_i _ _ _ _ (by omega) (by omega), zwT_i _ _ _ _ (by omega)]
  have k7 : ∀ k, (zRz (zCp (zwT (zCp (zwT T 0 x 2) 0 x 3) 0 y 2) 0 y 0) y x l m).1 7 k = if k = 0 then 2 else T.1 7 k := fun k => by rw [zRz_7, zCp_i _ _ _ _ (by omega) (by omega), zwT_i _ _ _ _ (by omega), zCp_i _ _ _ _ (by omega) (by omega), zwT_i _ _ _ _ (by omega), h7]
  have base : ∀ i j, i = 4 ∨ i = 5 ∨ i = 6 → 2 ≤ j → (zRz (zCp (zwT (zCp (zwT T 0 x 2) 0 x 3) 0 y 2) 0 y 0) y x l m).1 i j = (zCp (zwT (zCp (zwT T 0 x 2) 0 x 3) 0 y 2) 0 y 0).1 i j := by
    intro i j hi hj
    rcases hi with rfl | rfl | rfl
    · rw [zRz_4, if_neg (by omega), if_neg (by omega)]
    · rw [zRz_5, if_neg (by omega), if_neg (by omega)]
    · rw [zRz_6, if_neg (by omega), if_neg (by omega)]
  have rY : ∀ q, q < 3 → zro (zRz (zCp (zwT (zCp (zwT T 0 x 2) 0 x 3) 0 y 2) 0 y 0) y x l m) (y * 6 + q) = zro T (0 * 6 + q) := by
    intro q hq
    refine Eq.trans (zro_oo (T := zCp (zwT (zCp (zwT T 0 x 2) 0 x 3) 0 y 2) 0 y 0) (fun i hi => base i _ hi (by omega))) ?_
    unfold zro
    rw [zCp_at (Ne.symm hy0) (by omega) hq (by omega), zCp_at (Ne.symm hy0) (by omega) hq (by omega), zCp_at (Ne.symm hy0) (by omega) hq (by omega), zwT_i _ _ _ _ (by omega), zwT_i _ _ _ _ (by omega), zwT_i _ _ _ _ (by omega), zCp_o (by omega) (by omega), zCp_o (by omega) (by omega), zCp_o (by omega) (by omega)]
    simp only [Nat.zero_mul, Nat.zero_add]
    rfl
  have rX : ∀ q, q < 3 → zro (zRz (zCp (zwT (zCp (zwT T 0 x 2) 0 x 3) 0 y 2) 0 y 0) y x l m) (x * 6 + q) = zro T (0 * 6 + (3 + q)) := by
    intro q hq
    refine Eq.trans (zro_oo (T := zCp (zwT (zCp (zwT T 0 x 2) 0 x 3) 0 y 2) 0 y 0) (fun i hi => base i _ hi (by omega))) ?_
    unfold zro
    rw [zCp_o (by omega) (by omega), zCp_o (by omega) (by omega), zCp_o (by omega) (by omega), zwT_i _ _ _ _ (by omega), zwT_i _ _ _ _ (by omega), zwT_i _ _ _ _ (by omega), zCp_at (Ne.symm hx0) (by omega) hq (by omega), zCp_at (Ne.symm hx0) (by omega) hq (by omega), zCp_at (Ne.symm hx0) (by omega) hq (by omega)]
    rfl
  have n0 : zro (zRz (zCp (zwT (zCp (zwT T 0 x 2) 0 x 3) 0 y 2) 0 y 0) y x l m) (0 * 6 + 0) = (0, 0, y) := by
    unfold zro
    rw [zRz_4, zRz_5, zRz_6]
    rfl
  have n1 : zro (zRz (zCp (zwT (zCp (zwT T 0 x 2) 0 x 3) 0 y 2) 0 y 0) y x l m) (0 * 6 + 1) = (l, m, x) := by
    unfold zro
    rw [zRz_4, zRz_5, zRz_6]
    rfl
  have n06 : (zRz (zCp (zwT (zCp (zwT T 0 x 2) 0 x 3) 0 y 2) 0 y 0) y x l m).1 6 (0 * 6 + 0) = y := congrArg (fun q => q.2.2) n0
  have n16 : (zRz (zCp (zwT (zCp (zwT T 0 x 2) 0 x 3) 0 y 2) 0 y 0) y x l m).1 6 (0 * 6 + 1) = x := congrArg (fun q => q.2.2) n1
  have hmv : zMv T (zRz (zCp (zwT (zCp (zwT T 0 x 2) 0 x 3) 0 y 2) 0 y 0) y x l m) (fun _ o => if o < 3 then (y, o) else (x, o - 3)) (fun b r => b = 0 ∧ (r = 0 ∨ r = 1)) := by
    refine ⟨fun b r hb hr => ?_, fun ob o hob ho => ?_⟩
    · rw [k1] at hr
      by_cases e0 : b = 0
      · rw [if_pos e0] at hr
        exact Or.inl ⟨e0, by omega⟩
      · rw [if_neg e0] at hr
        right
        by_cases e1 : b = y
        · subst e1
          rw [if_pos rfl] at hr
          refine ⟨0, r, by omega, by omega, ?_, rY r hr⟩
          simp only [if_pos hr]
        · rw [if_neg e1] at hr
          by_cases e2 : b = x
          · subst e2
            rw [if_pos rfl] at hr
            refine ⟨0, 3 + r, by omega, by omega, ?_, rX r hr⟩
            simp only [if_neg (show ¬ 3 + r < 3 by omega)]
            rw [show 3 + r - 3 = r by omega]
          · rw [if_neg e2, cO b hb e0] at hr
            omega
    · have h0 : ob = 0 := by
        refine Decidable.byContradiction (fun q => ?_)
        rw [cO ob hob q] at ho
        omega
      subst h0
      by_cases c : o < 3
      · simp only [if_pos c]
        refine ⟨hy, ?_, rY o c⟩
        rw [k1, if_neg hy0, if_pos rfl]; exact c
      · simp only [if_neg c]
        refine ⟨hx, ?_, ?_⟩
        · rw [k1, if_neg hx0, if_neg hxy, if_pos rfl]; omega
        · rw [rX (o - 3) (by omega), show 3 + (o - 3) = o by omega]
  have hch : ∀ r, r < T.1 1 0 → (zRz (zCp (zwT (zCp (zwT T 0 x 2) 0 x 3) 0 y 2) 0 y 0) y x l m).1 0 (T.1 6 (0 * 6 + r)) = 1 := by
    intro r hr
    have e1 := hXx 0 r (by omega) hr
    have e2 := hXy 0 r (by omega) hr
    have e3 := (hD 0 r (by omega) hr).2.2.2
    rw [k0, if_neg e3, if_neg e2, if_neg e1]
    have := hF.2.2.1 r hr
    rw [if_neg (by omega)] at this
    rw [Nat.zero_mul, Nat.zero_add]
    exact this
  refine ⟨?_, fun b hb => ?_, zmv_D hmv (fun b r hn => ?_) hD, zmv_E hmv (fun b r b' r' hn hn' e => ?_) (fun b r hn => ?_) hE, ⟨?_, fun b hb hb0 hb7 => ?_, fun r hr => ?_, fun b r hb hb0 hr => ?_⟩, zmv_G hmv (x := 0) (fun b hb hb0 _ hbk => ?_) hG, fun b r hb hr => (zmv_D hmv (fun b r hn => ?_) hD b r hb hr).2.2.2⟩
  · unfold zSA
    rw [k7, k7, k7, k7]
    obtain ⟨a1, a2, a3, a4, a5⟩ := hA
    exact ⟨by rw [if_pos rfl]; omega, by rw [if_neg (by omega)]; exact a2, by rw [if_neg (by omega)]; exact a3, by rw [if_neg (by omega)]; exact a4, by rw [if_neg (by omega)]; exact a5⟩
  · obtain ⟨a1, a2, a3, a4, a5⟩ := hB b hb
    rw [k0, k1, k2]
    by_cases e0 : b = 0
    · rw [if_pos e0, if_pos e0]; omega
    · rw [if_neg e0, if_neg e0]
      by_cases e1 : b = y
      · subst e1; rw [if_pos rfl, if_pos rfl]; omega
      · rw [if_neg e1, if_neg e1]
        by_cases e2 : b = x
        · subst e2; rw [if_pos rfl, if_pos rfl]; omega
        · rw [if_neg e2, if_neg e2]
          have := cO b hb e0
          exact ⟨a1, by omega, a3, a4, a5⟩
  · obtain ⟨rfl, rfl | rfl⟩ := hn
    · unfold zDj
      have i1 := congrArg (fun q => q.1) n0
      have i2 := congrArg (fun q => q.2.1) n0
      simp only [zro] at i1 i2
      rw [i1, i2, n06]
      exact ⟨by omega, by omega, hy, hy0⟩
    · unfold zDj
      have i1 := congrArg (fun q => q.1) n1
      have i2 := congrArg (fun q => q.2.1) n1
      simp only [zro] at i1 i2
      rw [i1, i2, n16]
      exact ⟨hl, hm, hx, hx0⟩
  · obtain ⟨rfl, rfl | rfl⟩ := hn <;> obtain ⟨rfl, rfl | rfl⟩ := hn'
    · exact ⟨rfl, rfl⟩
    · rw [n06, n16] at e; exact absurd e.symm hxy
    · rw [n06, n16] at e; exact absurd e hxy
    · exact ⟨rfl, rfl⟩
  · obtain ⟨rfl, rfl | rfl⟩ := hn
    · rw [n06]; exact hXy
    · rw [n16]; exact hXx
  · rw [k0, k7, if_pos rfl, if_pos rfl, if_neg (by omega)]
  · rw [k7, if_pos rfl] at hb7; exact absurd rfl hb7
  · rw [k1, if_pos rfl] at hr
    rw [k7, if_pos rfl, if_pos rfl, k0]
    have q0 : (zRz (zCp (zwT (zCp (zwT T 0 x 2) 0 x 3) 0 y 2) 0 y 0) y x l m).1 6 0 = y := n06
    have q1 : (zRz (zCp (zwT (zCp (zwT T 0 x 2) 0 x 3) 0 y 2) 0 y 0) y x l m).1 6 1 = x := n16
    by_cases r0 : r = 0
    · subst r0; rw [q0, if_neg hy0, if_pos rfl]
    · have r1 : r = 1 := by omega
      subst r1; rw [q1, if_neg hx0, if_neg hxy, if_pos rfl]
  · rcases hmv.1 b r hb hr with ⟨h0, _⟩ | ⟨ob, o, h1, h2, h3, h4⟩
    · exact absurd h0 hb0
    · have h0 : ob = 0 := by
        refine Decidable.byContradiction (fun q => ?_)
        rw [cO ob h1 q] at h2
        omega
      subst h0
      rw [zro_6 h4]
      exact hch o h2
  · rw [k0, if_neg hb0] at hbk
    by_cases e1 : b = y
    · exact Or.inr ⟨0, 0, by omega, by rw [k1, if_pos rfl]; omega, by rw [n06, e1]⟩
    · rw [if_neg e1] at hbk
      by_cases e2 : b = x
      · exact Or.inr ⟨0, 1, by omega, by rw [k1, if_pos rfl]; omega, by rw [n16, e2]⟩
      · rw [if_neg e2] at hbk
        exact Or.inl ⟨hb0, hbk⟩
  · obtain ⟨rfl, rfl | rfl⟩ := hn
    · unfold zDj
      have i1 := congrArg (fun q => q.1) n0
      have i2 := congrArg (fun q => q.2.1) n0
      simp only [zro] at i1 i2
      rw [i1, i2, n06]
      exact ⟨by omega, by omega, hy, hy0⟩
    · unfold zDj
      have i1 := congrArg (fun q => q.1) n1
      have i2 := congrArg (fun q => q.2.1) n1
      simp only [zro] at i1 i2
      rw [i1, i2, n16]
      exact ⟨hl, hm, hx, hx0⟩
/-! the root's leaf is split: U has the kinds of T but for two leaves x and y -/
theorem zSt_zero {T U : zT} (hI : zInv T) (h7 : T.1 7 0 = 0) {x y l m : Nat} (hx : x < 40) (hx0 : x ≠ 0) (hy : y < 40) (hy0 : y ≠ 0) (hxy : x ≠ y) (hl : l < 4096) (hm : m ≤ 1) (u0 : ∀ b, U.1 0 b = if b = y then 1 else if b = x then 1 else T.1 0 b) (ui : ∀ i, i = 1 ∨ i = 2 ∨ i = 7 → U.1 i = T.1 i) : zSt 5 0 (zRz U y x l m) := by
  have hF := zInv_f hI
  have cO : ∀ b, b < 40 → T.1 1 b = 0 := fun b hb => by
    by_cases h0 : b = 0
    · subst h0; exact ((hI.2.1 0 (by omega)).2.2.2.1 (by rw [hF.1, if_pos h7]; omega)).1
    · exact ((hI.2.1 b hb).2.2.2.1 (hF.2.1 b hb h0 (by omega))).1
  have tO : ∀ b, b < 40 → T.1 2 b = 0 := fun b hb => by
    by_cases h0 : b = 0
    · subst h0; exact ((hI.2.1 0 (by omega)).2.2.2.1 (by rw [hF.1, if_pos h7]; omega)).2
    · exact ((hI.2.1 b hb).2.2.2.1 (hF.2.1 b hb h0 (by omega))).2
  have kO : ∀ b, b < 40 → b ≠ 0 → T.1 0 b = 0 := fun b hb h0 => by
    refine Decidable.byContradiction (fun q => ?_)
    obtain ⟨b', r, a1, a2, _⟩ := zInv_g hI b hb h0 h0 q
    rw [cO b' a1] at a2
    omega
  have k0 : ∀ b, (zRz U y x l m).1 0 b = if b = 0 then 2 else if b = y then 1 else if b = x then 1 else T.1 0 b := fun b => by rw [zRz_0, u0]
  have k1 : ∀ b, (zRz U y x l m).1 1 b = if b = 0 then 2 else T.1 1 b := fun b => by rw [zRz_1, ui 1 (by omega)]
  have k2 : (zRz U y x l m).1 2 = T.1 2 := by rw [zRz_2, ui 2 (by omega)]
  have k7 : ∀ k, (zRz U y x l m).1 7 k = if k = 0 then 1 else T.1 7 k := fun k => by rw [zRz_7, ui 7 (by omega), h7]
  have n04 : (zRz U y x l m).1 4 0 = 0 := by rw [zRz_4]; rfl
  have n05 : (zRz U y x l m).1 5 0 = 0 := by rw [zRz_5]; rfl
  have n06 : (zRz U y x l m).1 6 0 = y := by rw [zRz_6]; rfl
  have n14 : (zRz U y x l m).1 4 1 = l := by rw [zRz_4]; rfl
  have n15 : (zRz U y x l m).1 5 1 = m := by rw [zRz_5]; rfl
  have n16 : (zRz U y x l m).1 6 1 = x := by rw [zRz_6]; rfl
  have row : ∀ b r, b < 40 → r < (zRz U y x l m).1 1 b → b = 0 ∧ (r = 0 ∨ r = 1) := by
    intro b r hb hr
    rw [k1] at hr
    by_cases e : b = 0
    · rw [if_pos e] at hr; omega
    · rw [if_neg e, cO b hb] at hr; omega
  have hDD : zSD (zRz U y x l m) := by
    intro b r hb hr
    obtain ⟨rfl, rfl | rfl⟩ := row b r hb hr
    · unfold zDj
      rw [Nat.zero_mul, Nat.zero_add, n04, n05, n06]
      exact ⟨by omega, by omega, hy, hy0⟩
    · unfold zDj
      rw [Nat.zero_mul, Nat.zero_add, n14, n15, n16]
      exact ⟨hl, hm, hx, hx0⟩
  refine ⟨?_, fun b hb => ?_, hDD, fun b r b' r' hb hb' hr hr' e => ?_, ⟨?_, fun b hb hb0 hb7 => ?_, fun r hr => ?_, fun b r hb hb0 hr => ?_⟩, fun b hb hb0 _ hbk => ?_, fun b r hb hr => (hDD b r hb hr).2.2.2⟩
  · unfold zSA
    rw [k7, k7, k7, k7]
    obtain ⟨a1, a2, a3, a4, a5⟩ := hI.1
    exact ⟨by rw [if_pos rfl]; omega, by rw [if_neg (by omega)]; exact a2, by rw [if_neg (by omega)]; exact a3, by rw [if_neg (by omega)]; exact a4, by rw [if_neg (by omega)]; exact a5⟩
  · rw [k0, k1, k2, tO b hb]
    by_cases e0 : b = 0
    · rw [if_pos e0, if_pos e0]; omega
    · rw [if_neg e0, if_neg e0, cO b hb, kO b hb e0]
      by_cases e1 : b = y
      · rw [if_pos e1]; omega
      · rw [if_neg e1]
        by_cases e2 : b = x
        · rw [if_pos e2]; omega
        · rw [if_neg e2]; omega
  · obtain ⟨rfl, hr0⟩ := row b r hb hr
    obtain ⟨rfl, hr1⟩ := row b' r' hb' hr'
    rw [Nat.zero_mul, Nat.zero_add, Nat.zero_add] at e
    rcases hr0 with rfl | rfl <;> rcases hr1 with rfl | rfl
    · exact ⟨rfl, rfl⟩
    · rw [n06, n16] at e; exact absurd e.symm hxy
    · rw [n06, n16] at e; exact absurd e hxy
    · exact ⟨rfl, rfl⟩
  · rw [k0, k7, if_pos rfl, if_pos rfl, if_neg (by omega)]
  · rw [k0, if_neg hb0, kO b hb hb0]
    by_cases e1 : b = y
    · rw [if_pos e1]; omega
    · rw [if_neg e1]
      by_cases e2 : b = x
      · rw [if_pos e2]; omega
      · rw [if_neg e2]; omega
  · rw [k7, if_pos rfl, if_neg (by omega), k0]
    rcases (row 0 r (by omega) hr).2 with rfl | rfl
    · rw [n06, if_neg hy0, if_pos rfl]
    · rw [n16, if_neg hx0, if_neg hxy, if_pos rfl]
  · exact absurd (row b r hb hr).1 hb0
  · rw [k0, if_neg hb0, kO b hb hb0] at hbk
    by_cases e1 : b = y
    · exact ⟨0, 0, by omega, by rw [k1, if_pos rfl]; omega, by rw [Nat.zero_mul, Nat.zero_add, n06, e1]⟩
    · rw [if_neg e1] at hbk
      by_cases e2 : b = x
      · exact ⟨0, 1, by omega, by rw [k1, if_pos rfl]; omega, by rw [Nat.zero_mul, Nat.zero_add, n16, e2]⟩
      · rw [if_neg e2] at hbk
        exact absurd rfl hbk
/-! the tree stays a tree when a name is put -/
theorem zfr_ne {T' : zT} {x c : Nat} (hc : c ≠ 0) (hx : T'.1 0 x = c) (h : zfr T' < 40) : zfr T' ≠ x := fun e => by
  have := zfr_0 h
  rw [e, hx] at this
  exact hc this
theorem zPP_ok {T : zT} (hI : zInv T) {n : Int64} (hn : zval n) {d : Nat} (hd : d ≤ 999) {h : Nat} (hfull : zfull T (zfl T h)) (hf : zfl T h < 40) : ∀ x, x ∈ zPP T h n d → zval x.2.1 ∧ x.2.2 ≤ 999 := by
  intro x hx
  rcases zPP_mem hx with rfl | ⟨s, hs, rfl⟩
  · exact ⟨hn, hd⟩
  · have h9 := hfull s hs
    exact ⟨zInv_va hI (by omega) h9, zInv_nd hI (by omega) h9⟩
theorem zput_inv {T : zT} (hI : zInv T) {n : Int64} (hn : zval n) {d : Nat} (hd : d ≤ 999) (hn9 : zned T (zha T n) ≠ 9) : zInv (zput T n d) := by
  have hA9 := zInv_av hI
  have hA : zAv 3 T := ⟨hA9.1, hA9.2.1, by have := hA9.2.2; omega⟩
  have h72 := hI.1.1
  have hF := zInv_f hI
  unfold zput
  by_cases hs : zsw T (zha T n) < zwn T (zha T n)
  · rw [if_pos hs]
    have hb := zsb_ok hI hs
    have he := zsw_em hs
    have hkb : T.1 0 (zspt T (zha T n) / 6) = 1 := by
      unfold zspt
      rw [if_pos hs, show (zsb T (zha T n) * 6 + zem T (zsb T (zha T n))) / 6 = zsb T (zha T n) by omega]
      exact hb.2
    exact ⟨hI.1, hI.2.1, zSC_e hI.2.2.1 (fun _ => ⟨hn, hd, hkb⟩), hI.2.2.2⟩
  · rw [if_neg hs]
    have h8 := zwn_le hI (zha T n)
    have hsw := zsw_le T (zha T n)
    have hfull : zfull T (zfl T (zha T n)) := by
      have := zsw_b (T := T) (h := zha T n) (i := 0) (by omega)
      rw [Nat.add_zero, zpl_at hI] at this
      exact zfull_em this
    have hfll := zbk_le hI (zha T n) (Nat.le_refl (T.1 7 0))
    have hfk := zfl_k hI (zha T n)
    have hP7 := zPP_len T (zha T n) n d
    have hPok := zPP_ok hI hn hd hfull hfll
    have hPl := zPP_l hI (n := n) (d := d)
    have hlim : zlim (zPP T (zha T n) n d) < 4096 := hPl _ (List.mem_of_getElem? (zP_at (show 3 < _ by omega)))
    have hmk : zmrk (zPP T (zha T n) n d) ≤ 1 := by unfold zmrk; split <;> omega
    have hx := zfr_lt hA
    have hxz := zfr_0 hx
    have hx0 : zfr T ≠ 0 := fun e => hA.2.1 (by rw [e] at hxz; exact hxz)
    have hSC1 : zSC (zK1 T (zPP T (zha T n) n d)) := zSC_gr (zSC_w0 hI.2.2.1 1 (by omega)) (zwT_s _ _ _ _) (fun s _ => zlg_ok (by omega) hPok s) 6 (by omega)
    by_cases h0 : T.1 7 0 = 0
    · rw [if_pos h0]
      have hA1 := zK1_av (P := zPP T (zha T n) n d) hA
      have hy := zfr_lt hA1
      have hyz := zfr_0 hy
      have hy0 : zfr (zK1 T (zPP T (zha T n) n d)) ≠ 0 := fun e => hA1.2.1 (by rw [e] at hyz; exact hyz)
      have hxy : zfr T ≠ zfr (zK1 T (zPP T (zha T n) n d)) := Ne.symm (zfr_ne (c := 1) (by omega) (by rw [zK1_0, zwT_s]) hy)
      have st := zSt_zero (U := zgr (zwT (zK1 T (zPP T (zha T n) n d)) 0 (zfr (zK1 T (zPP T (zha T n) n d))) 1) (zfr (zK1 T (zPP T (zha T n) n d))) (zlg (zPP T (zha T n) n d) 0 3) 6) hI h0 hx hx0 hy hy0 hxy hlim hmk (fun b => by rw [zgr_i _ _ _ _ (by omega), zwT_v, zK1_0, zwT_v]) (fun i hi => by rw [zgr_i _ _ _ _ (by omega), zwT_i _ _ _ _ (by omega), zK1_i (by omega) (by omega)])
      obtain ⟨a, b, c, e, f, g, _⟩ := st
      refine zInv_of a b ?_ c e f g
      exact zSC_Rz (zSC_gr (zSC_w0 hSC1 1 (by omega)) (zwT_s _ _ _ _) (fun s _ => zlg_ok (by omega) hPok s) 6 (by omega)) _ _ _ _
    · rw [if_neg h0]
      obtain ⟨b1, b2, b3⟩ := zbk_lo hI (zha T n) (show T.1 7 0 - 1 < T.1 7 0 by omega)
      have b5 := zInv_c5 hI b1
      have hned : zned T (zha T n) = (if T.1 1 (zbk T (zha T n) (T.1 7 0 - 1)) < 5 then 1 else if T.1 7 0 = 1 then 3 else if T.1 1 0 < 5 then 2 else 9) := by
        unfold zned
        rw [if_neg hs, if_neg h0]
      generalize hix : zbk T (zha T n) (T.1 7 0 - 1) = ix at *
      generalize hfe : zfl T (zha T n) = f at *
      have hixx : ix ≠ zfr T := fun e => by rw [e] at b2; omega
      have hfx : f ≠ zfr T := fun e => by rw [e] at hfk; omega
      have hT1 := zSt_take hI hx hx0 hxz
      have hT2 : zSt 5 (zfr T) (zgr (zK1 T (zPP T (zha T n) n d)) f (zlg (zPP T (zha T n) n d) 0 3) 6) := zSt_cg (fun i hi => by rw [zgr_i _ _ _ _ hi]; unfold zK1; rw [zgr_i _ _ _ _ hi]) hT1
      have hSC2 : zSC (zgr (zK1 T (zPP T (zha T n) n d)) f (zlg (zPP T (zha T n) n d) 0 3) 6) := zSC_gr hSC1 (by rw [zK1_0, zwT_k _ _ _ _ hfx]; exact hfk) (fun s _ => zlg_ok (by omega) hPok s) 6 (by omega)
      have k0 : ∀ b, (zgr (zK1 T (zPP T (zha T n) n d)) f (zlg (zPP T (zha T n) n d) 0 3) 6).1 0 b = if b = zfr T then 1 else T.1 0 b := fun b => by rw [zgr_i _ _ _ _ (by omega), zK1_0, zwT_v]
      have k1 : (zgr (zK1 T (zPP T (zha T n) n d)) f (zlg (zPP T (zha T n) n d) 0 3) 6).1 1 = T.1 1 := by rw [zgr_i _ _ _ _ (by omega), zK1_i (by omega) (by omega)]
      have k7 : (zgr (zK1 T (zPP T (zha T n) n d)) f (zlg (zPP T (zha T n) n d) 0 3) 6).1 7 = T.1 7 := by rw [zgr_i _ _ _ _ (by omega), zK1_i (by omega) (by omega)]
      have ins := zSt_ins (p := zr T ix (zha T n) + 1) (l := zlim (zPP T (zha T n) n d)) (m := zmrk (zPP T (zha T n) n d)) hT2 (by omega) hx hx0 b1 (by rw [k0, if_neg hixx]; exact b2) (by
        rw [k0, if_pos rfl, k7]
        by_cases q : ix = 0 ∧ T.1 7 0 = 2
        · exfalso
          have := zbk_n0 hI (zha T n) (l := T.1 7 0 - 1) (by omega) (by omega)
          rw [hix] at this
          exact this q.1
        · rw [if_neg q]) (by rw [k1]; omega) (by rw [k1]; omega) hlim hmk
      have e2 : zK2 T (zPP T (zha T n) n d) f ix (zr T ix (zha T n) + 1) = zIn (zgr (zK1 T (zPP T (zha T n) n d)) f (zlg (zPP T (zha T n) n d) 0 3) 6) ix (zr T ix (zha T n) + 1) (zlim (zPP T (zha T n) n d)) (zmrk (zPP T (zha T n) n d)) (zfr T) := rfl
      rw [← e2] at ins
      have hSC3 : zSC (zK2 T (zPP T (zha T n) n d) f ix (zr T ix (zha T n) + 1)) := zSC_cg (zIn_i _ _ _ _ _ _ (by omega) (by omega)) (zIn_i _ _ _ _ _ _ (by omega) (by omega)) (zIn_2 _ _ _ _ _ _) hSC2
      have c2 : (zK2 T (zPP T (zha T n) n d) f ix (zr T ix (zha T n) + 1)).1 1 ix = T.1 1 ix + 1 := zK2_c
      have c2' : ∀ b, b ≠ ix → (zK2 T (zPP T (zha T n) n d) f ix (zr T ix (zha T n) + 1)).1 1 b = T.1 1 b := fun b hb => zK2_d hb
      have q0 : ∀ b, (zK2 T (zPP T (zha T n) n d) f ix (zr T ix (zha T n) + 1)).1 0 b = if b = zfr T then 1 else T.1 0 b := fun b => by rw [zK2_0, zwT_v]
      have q7 : (zK2 T (zPP T (zha T n) n d) f ix (zr T ix (zha T n) + 1)).1 7 = T.1 7 := zK2_7 (by omega)
      have hAv2 : zAv 2 (zK2 T (zPP T (zha T n) n d) f ix (zr T ix (zha T n) + 1)) := zK2_av (by omega) hA
      obtain ⟨sa, sb, sd, se, sf, sg⟩ := ins
      generalize zK2 T (zPP T (zha T n) n d) f ix (zr T ix (zha T n) + 1) = V at *
      unfold zK6
      by_cases c5 : V.1 1 ix ≤ 5
      · rw [if_pos c5]
        refine zInv_of sa (fun b hb => ?_) hSC3 sd se sf sg
        obtain ⟨a1, a2, a3, a4, a5⟩ := sb b hb
        refine ⟨a1, ?_, a3, a4, a5⟩
        by_cases e : b = ix
        · rw [e]; exact c5
        · rw [c2' b e]; exact zInv_c5 hI hb
      · rw [if_neg c5]
        have c6 : V.1 1 ix = 6 := by omega
        rw [if_neg (by omega)] at hned
        have hz := zfr_lt hAv2
        have hzz := zfr_0 hz
        have hz0 : zfr V ≠ 0 := fun e => hAv2.2.1 (by rw [e] at hzz; exact hzz)
        by_cases i0 : ix = 0
        · rw [if_pos i0]
          subst i0
          have l1 : T.1 7 0 = 1 := by
            refine Decidable.byContradiction (fun q => ?_)
            have := zbk_n0 hI (zha T n) (l := T.1 7 0 - 1) (by omega) (by omega)
            exact this hix
          have hA3 := zK3_av (ix := 0) hAv2
          have hw := zfr_lt hA3
          have hwz := zfr_0 hw
          have hw0 : zfr (zK3 V 0) ≠ 0 := fun e => hA3.2.1 (by rw [e] at hwz; exact hwz)
          have hzw : zfr V ≠ zfr (zK3 V 0) := Ne.symm (zfr_ne (c := 2) (by omega) (by rw [zK3_0, zwT_s]) hw)
          have hwV : V.1 0 (zfr (zK3 V 0)) = 0 := by rw [zK3_0, zwT_k _ _ _ _ (Ne.symm hzw)] at hwz; exact hwz
          have r4 : (zK3 V 0).1 4 (zfr V * 6) = V.1 4 (0 * 6 + (3 + 0)) := zCp_at (q := 0) (Ne.symm hz0) (by omega) (by omega) (by omega)
          have r5 : (zK3 V 0).1 5 (zfr V * 6) = V.1 5 (0 * 6 + (3 + 0)) := zCp_at (q := 0) (Ne.symm hz0) (by omega) (by omega) (by omega)
          have dd := sd 0 3 (by omega) (by omega)
          have st := zSt_root sa sb sd se sf sg (by rw [q7]; exact l1) c6 hz hz0 hzz hw hw0 hwV hzw (l := (zK3 V 0).1 4 (zfr V * 6)) (m := (zK3 V 0).1 5 (zfr V * 6)) (by rw [r4]; exact dd.1) (by rw [r5]; exact dd.2.1)
          obtain ⟨a, b, c, e, g1, g2, _⟩ := st
          refine zInv_of a b ?_ c e g1 g2
          have s1 : zSC (zK3 V 0) := zSC_cg (zCp_i _ _ _ _ (by omega) (by omega)) (zCp_i _ _ _ _ (by omega) (by omega)) (zCp_2 _ _ _ _) (zSC_w0 hSC3 2 (by omega))
          exact zSC_Rz (zSC_cg (zCp_i _ _ _ _ (by omega) (by omega)) (zCp_i _ _ _ _ (by omega) (by omega)) (zCp_2 _ _ _ _) (zSC_w0 s1 2 (by omega))) _ _ _ _
        · rw [if_neg i0]
          have l2 : T.1 7 0 = 2 := by
            refine Decidable.byContradiction (fun q => i0 ?_)
            rw [← hix, show T.1 7 0 - 1 = 0 by omega]
            rfl
          rw [if_neg (by omega)] at hned
          have c0 : T.1 1 0 ≤ 4 := by
            refine Decidable.byContradiction (fun q => hn9 ?_)
            rw [hned, if_neg (by omega)]
          have hzi : ix ≠ zfr V := fun e => by rw [← e, q0, if_neg hixx] at hzz; omega
          have st := zSt_low sa sb sd se sf sg b1 i0 (by rw [q7]; exact l2) (by rw [q0, if_neg hixx]; exact b2) c6 hz hz0 hzz
          have r4 : (zK3 V ix).1 4 (zfr V * 6) = V.1 4 (ix * 6 + (3 + 0)) := zCp_at (q := 0) hzi (by omega) (by omega) (by omega)
          have r5 : (zK3 V ix).1 5 (zfr V * 6) = V.1 5 (ix * 6 + (3 + 0)) := zCp_at (q := 0) hzi (by omega) (by omega) (by omega)
          have dd := sd ix 3 b1 (by omega)
          obtain ⟨r1, r2, r3⟩ := zbk_lo hI (zha T n) (show 0 < T.1 7 0 by omega)
          have r3' : zr T 0 (zha T n) < T.1 1 0 := r3
          have w1 : (zwT (zK3 V ix) 1 ix 3).1 1 0 = T.1 1 0 := by rw [zwT_k _ _ _ _ (Ne.symm i0), zK3_d (Ne.symm hz0), c2' 0 (Ne.symm i0)]
          have w0 : ∀ b, (zwT (zK3 V ix) 1 ix 3).1 0 b = if b = zfr V then 2 else V.1 0 b := fun b => by rw [zwT_i _ _ _ _ (by omega), zK3_0, zwT_v]
          have w7 : (zwT (zK3 V ix) 1 ix 3).1 7 = T.1 7 := by rw [zwT_i _ _ _ _ (by omega), zK3_i (by omega), q7]
          have k00 : T.1 0 0 = 2 := by have := hF.1; rw [if_neg h0] at this; exact this
          have ins2 := zSt_ins (p := zr T 0 (zha T n) + 1) (l := (zK3 V ix).1 4 (zfr V * 6)) (m := (zK3 V ix).1 5 (zfr V * 6)) st (by omega) hz hz0 (b := 0) (by omega) (by
            show (zwT (zK3 V ix) 1 ix 3).1 0 0 = 2
            rw [w0, if_neg (Ne.symm hz0), q0, if_neg (Ne.symm hx0)]; exact k00) (by
            show (zwT (zK3 V ix) 1 ix 3).1 0 (zfr V) = _
            rw [w0, if_pos rfl, if_pos ⟨rfl, by show (zwT (zK3 V ix) 1 ix 3).1 7 0 = 2; rw [w7]; exact l2⟩]) (by
            show _ ≤ (zwT (zK3 V ix) 1 ix 3).1 1 0
            rw [w1]; omega) (by
            show (zwT (zK3 V ix) 1 ix 3).1 1 0 ≤ 5
            rw [w1]; omega) (by rw [r4]; exact dd.1) (by rw [r5]; exact dd.2.1)
          obtain ⟨ta, tb, td, te, tf, tg⟩ := ins2
          refine zInv_of ta (fun b hb => ?_) ?_ td te tf tg
          · obtain ⟨a1, a2, a3, a4, a5⟩ := tb b hb
            refine ⟨a1, ?_, a3, a4, a5⟩
            show (zIn (zwT (zK3 V ix) 1 ix 3) 0 _ _ _ _).1 1 b ≤ 5
            by_cases e : b = 0
            · subst e; rw [zIn_c, w1]; omega
            · rw [zIn_d _ _ _ _ _ _ e]
              by_cases e1 : b = ix
              · subst e1; rw [zwT_s]; omega
              · rw [zwT_k _ _ _ _ e1]
                by_cases e2 : b = zfr V
                · subst e2; unfold zK3; rw [zCp_c]; omega
                · rw [zK3_d e2, c2' b e1]; exact zInv_c5 hI hb
          · have s1 : zSC (zK3 V ix) := zSC_cg (zCp_i _ _ _ _ (by omega) (by omega)) (zCp_i _ _ _ _ (by omega) (by omega)) (zCp_2 _ _ _ _) (zSC_w0 hSC3 2 (by omega))
            exact zSC_cg (zIn_i _ _ _ _ _ _ (by omega) (by omega)) (zIn_i _ _ _ _ _ _ (by omega) (by omega)) (zIn_2 _ _ _ _ _ _) (zSC_cg (zwT_i _ _ _ _ (by omega)) (zwT_i _ _ _ _ (by omega)) (zwT_2 _ _ _ _) s1)
