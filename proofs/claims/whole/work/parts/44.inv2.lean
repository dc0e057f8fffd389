/-! entries -/
theorem zSC_cg {T T' : zT} (h0 : T'.1 0 = T.1 0) (h3 : T'.1 3 = T.1 3) (h2 : T'.2 = T.2) (h : zSC T) : zSC T' := by
  unfold zSC
  rw [h0, h3, h2]
  exact h
theorem zSC_e {T : zT} (h : zSC T) {k : Nat} {n : Int64} {d : Nat} (hn : n ≠ 0 → zval n ∧ d ≤ 999 ∧ T.1 0 (k / 6) = 1) : zSC (zeT T k n d) := by
  intro k' hk' hn'
  rw [zeT_i T k n d (i' := 0) (by omega)]
  by_cases e : k' = k
  · subst e
    rw [zeT_2s] at hn'
    rw [zeT_2s, zeT_s]
    exact hn hn'
  · rw [zeT_2k T k n d e] at hn'
    rw [zeT_2k T k n d e, zeT_k T k n d e]
    exact h k' hk' hn'
theorem zSC_gr {T : zT} (h : zSC T) {b : Nat} {g : Nat → Int64 × Nat} (hk : T.1 0 b = 1) (hg : ∀ s, s < 6 → (g s).1 ≠ 0 → zval (g s).1 ∧ (g s).2 ≤ 999) : ∀ s, s ≤ 6 → zSC (zgr T b g s) := by
  intro s
  induction s with
  | zero => intro _; exact h
  | succ s ih =>
    intro hs
    refine zSC_e (ih (by omega)) (fun hn => ?_)
    have := hg s (by omega) hn
    exact ⟨this.1, this.2, by rw [show (b * 6 + s) / 6 = b by omega, zgr_i _ _ _ _ (by omega)]; exact hk⟩
theorem zSC_w0 {T : zT} (h : zSC T) {x : Nat} (c : Nat) (hx : T.1 0 x ≠ 1) : zSC (zwT T 0 x c) := by
  intro k hk hn
  obtain ⟨a1, a2, a3⟩ := h k hk hn
  refine ⟨a1, a2, ?_⟩
  rw [zwT_k T 0 x c (fun e => hx (by rw [← e]; exact a3))]
  exact a3
theorem zSC_Rz {T : zT} (h : zSC T) (fr bh l m : Nat) : zSC (zRz T fr bh l m) := by
  intro k hk hn
  rw [zRz_n] at hn
  by_cases h6 : k < 6
  · rw [if_pos h6] at hn; exact absurd rfl hn
  · rw [if_neg h6] at hn
    rw [zRz_n, if_neg h6, zRz_3 T fr bh l m (by omega), zRz_0, if_neg (by omega)]
    exact h k hk hn
theorem zlg_ok {P : List zE} {f t : Nat} (ht : t ≤ P.length) (hP : ∀ x, x ∈ P → zval x.2.1 ∧ x.2.2 ≤ 999) (s : Nat) : (zlg P f t s).1 ≠ 0 → zval (zlg P f t s).1 ∧ (zlg P f t s).2 ≤ 999 := by
  intro hn
  unfold zlg at hn ⊢
  by_cases c : f + s < t
  · rw [if_pos c]
    exact hP _ (List.mem_of_getElem? (zP_at (by omega)))
  · rw [if_neg c] at hn
    exact absurd rfl hn
/-! free blocks -/
theorem zcnt_fil (p : Nat → Bool) (n : Nat) : zcnt p n = ((List.range n).filter p).length := by
  induction n with
  | zero => rfl
  | succ n ih =>
    rw [List.range_succ, List.filter_append, List.length_append, ← ih]
    by_cases h : p n = true
    · rw [zcnt_t h]; simp [h]
    · rw [zcnt_f (by simpa using h)]; simp [h]
theorem zcnt_not (p : Nat → Bool) (n : Nat) : zcnt p n + zcnt (fun k => !p k) n = n := by
  induction n with
  | zero => rfl
  | succ n ih =>
    by_cases h : p n = true
    · rw [zcnt_t h, zcnt_f (p := fun k => !p k) (by simp [h])]; omega
    · rw [zcnt_f (by simpa using h), zcnt_t (p := fun k => !p k) (by simp [h])]; omega
theorem zInv_i2 {T : zT} (hI : zInv T) {b r : Nat} (hb : b < 40) (hr : r < T.1 1 b) : T.1 0 b = 2 := by
  refine Decidable.byContradiction (fun q => ?_)
  have := ((hI.2.1 b hb).2.2.2.1 q).1
  omega
theorem zInv_av {T : zT} (hI : zInv T) : zAv 9 T := by
  have k0 := zInv_k0 hI
  have f := zInv_f hI
  refine ⟨fun b hb => ⟨(hI.2.1 b hb).1, fun hz => (hI.2.1 b hb).2.2.2.1 (by omega)⟩, by rw [k0]; split <;> omega, ?_⟩
  have h5 := zInv_c5 hI (b := 0) (by omega)
  have hnot : zcnt (fun b => decide (T.1 0 b = 0)) 40 + zcnt (fun k => !decide (T.1 0 k = 0)) 40 = 40 := zcnt_not _ 40
  have hfil := zcnt_fil (fun k => !decide (T.1 0 k = 0)) 40
  have hsub : ((List.range 40).filter (fun k => !decide (T.1 0 k = 0))).length ≤ (0 :: ((List.range (T.1 1 0)).map (T.1 6) ++ (List.range (T.1 1 0)).flatMap (fun r => (List.range (T.1 1 (T.1 6 r))).map (fun r' => T.1 6 (T.1 6 r * 6 + r'))))).length := by
    apply List.Nodup.length_le_of_subset
    · exact List.Nodup.sublist List.filter_sublist List.nodup_range
    · intro b hb
      rw [List.mem_filter, List.mem_range] at hb
      have hb4 := hb.1
      have hk : T.1 0 b ≠ 0 := by simpa using hb.2
      rw [List.mem_cons, List.mem_append]
      by_cases h0 : b = 0
      · exact Or.inl h0
      · right
        obtain ⟨b', r, a1, a2, a3⟩ := zInv_g hI b hb4 h0 h0 hk
        by_cases h0' : b' = 0
        · left
          subst h0'
          rw [Nat.zero_mul, Nat.zero_add] at a3
          rw [List.mem_map]
          exact ⟨r, List.mem_range.mpr a2, a3⟩
        · right
          have k2 := zInv_i2 hI a1 a2
          obtain ⟨b'', r'', c1, c2, c3⟩ := zInv_g hI b' a1 h0' h0' (by omega)
          have h0'' : b'' = 0 := by
            refine Decidable.byContradiction (fun q => ?_)
            have := f.2.2.2 b'' r'' c1 q c2
            rw [c3] at this
            omega
          subst h0''
          rw [Nat.zero_mul, Nat.zero_add] at c3
          rw [List.mem_flatMap]
          refine ⟨r'', List.mem_range.mpr c2, ?_⟩
          rw [c3, List.mem_map]
          exact ⟨r, List.mem_range.mpr a2, a3⟩
  have hflat : ∀ s, s ≤ T.1 1 0 → ((List.range s).flatMap (fun r => (List.range (T.1 1 (T.1 6 r))).map (fun r' => T.1 6 (T.1 6 r * 6 + r')))).length ≤ 5 * s := by
    intro s
    induction s with
    | zero => intro _; exact Nat.le_refl 0
    | succ s ih =>
      intro hs
      have := ih (by omega)
      have hc := zInv_c5 hI (zInv_c0 hI (show s < T.1 1 0 by omega))
      rw [List.range_succ, List.flatMap_append, List.length_append]
      simp only [List.flatMap_cons, List.flatMap_nil, List.append_nil, List.length_map, List.length_range]
      omega
  have hfl := hflat (T.1 1 0) (Nat.le_refl _)
  rw [List.length_cons, List.length_append, List.length_map, List.length_range] at hsub
  unfold zkin
  omega
/-! a leaf is taken -/
theorem zSt_take {T : zT} (hI : zInv T) {x : Nat} (hx : x < 40) (hx0 : x ≠ 0) (hk : T.1 0 x = 0) : zSt 5 x (zwT T 0 x 1) := by
  have f := zInv_f hI
  have hX := zSX_free f hk
  have c1 : (zwT T 0 x 1).1 1 = T.1 1 := zwT_i _ _ _ _ (by omega)
  have c6 : (zwT T 0 x 1).1 6 = T.1 6 := zwT_i _ _ _ _ (by omega)
  have c7 : (zwT T 0 x 1).1 7 = T.1 7 := zwT_i _ _ _ _ (by omega)
  refine ⟨hI.1, fun b hb => ?_, hI.2.2.2.1, hI.2.2.2.2.1, ⟨?_, fun b hb h0 h7 => ?_, fun r hr => ?_, fun b r hb h0 hr => ?_⟩, fun b hb h0 hxb hk' => ?_, hX⟩
  · obtain ⟨a1, a2, a3, a4, a5⟩ := hI.2.1 b hb
    by_cases e : b = x
    · subst e
      rw [zwT_s]
      exact ⟨by omega, a2, a3, fun _ => a4 (by omega), fun q => by omega⟩
    · rw [zwT_k T 0 x 1 e]
      exact ⟨a1, a2, a3, a4, a5⟩
  · rw [zwT_k T 0 x 1 (Ne.symm hx0)]; exact f.1
  · by_cases e : b = x
    · subst e; rw [zwT_s]; omega
    · rw [zwT_k T 0 x 1 e]; exact f.2.1 b hb h0 h7
  · have hne := hX 0 r (by omega) hr
    rw [Nat.zero_mul, Nat.zero_add] at hne
    rw [c6, zwT_k T 0 x 1 hne]; exact f.2.2.1 r hr
  · have hne := hX b r hb hr
    rw [c6, zwT_k T 0 x 1 hne]; exact f.2.2.2 b r hb h0 hr
  · rw [zwT_k T 0 x 1 hxb] at hk'
    exact zInv_g hI b hb h0 h0 hk'
/-! the structure does not see the entries -/
theorem zSt_cg {T T' : zT} {c x : Nat} (h : ∀ i, i ≠ 3 → T'.1 i = T.1 i) (hs : zSt c x T) : zSt c x T' := by
  unfold zSt zSA zSB zSD zDj zSE zSF zSG zSX
  rw [h 0 (by omega), h 1 (by omega), h 2 (by omega), h 4 (by omega), h 5 (by omega), h 6 (by omega), h 7 (by omega)]
  exact hs
/-! an index below the root is parted -/
theorem zSt_low {T : zT} (hA : zSA T) (hB : zSB 6 T) (hD : zSD T) (hE : zSE T) (hF : zSF T) (hG : zSG 0 T) {ix x : Nat} (hix : ix < 40) (h0 : ix ≠ 0) (h7 : T.1 7 0 = 2) (hki : T.1 0 ix = 2) (h6 : T.1 1 ix = 6) (hx : x < 40) (hx0 : x ≠ 0) (hk : T.1 0 x = 0) : zSt 6 x (zwT (zCp (zwT T 0 x 2) ix x 3) 1 ix 3) := by
  have hix2 : ix ≠ x := fun e => by rw [e] at hki; omega
  have hX := zSX_free hF hk
  have cx := (hB x hx).2.2.2.1 (by omega)
  have k0 : ∀ b, (zwT (zCp (zwT T 0 x 2) ix x 3) 1 ix 3).1 0 b = if b = x then 2 else T.1 0 b := fun b => by rw [zwT_i _ _ _ _ (by omega), zCp_i _ _ _ _ (by omega) (by omega), zwT_v]
  have k2 : (zwT (zCp (zwT T 0 x 2) ix x 3) 1 ix 3).1 2 = T.1 2 := by rw [zwT_i _ _ _ _ (by omega), zCp_i _ _ _ _ (by omega) (by omega), zwT_i _ _ _ _ (by omega)]
  have k7 : (zwT (zCp (zwT T 0 x 2) ix x 3) 1 ix 3).1 7 = T.1 7 := by rw [zwT_i _ _ _ _ (by omega), zCp_i _ _ _ _ (by omega) (by omega), zwT_i _ _ _ _ (by omega)]
  have k1 : ∀ b, (zwT (zCp (zwT T 0 x 2) ix x 3) 1 ix 3).1 1 b = if b = ix then 3 else if b = x then 3 else T.1 1 b := by
    intro b
    rw [zwT_v]
    by_cases e : b = ix
    · rw [if_pos e, if_pos e]
    · rw [if_neg e, if_neg e]
      by_cases e2 : b = x
      · subst e2; rw [if_pos rfl, zCp_c]
      · rw [if_neg e2, zCp_d _ _ _ _ e2, zwT_i _ _ _ _ (by omega)]
  have rx : ∀ q, q < 3 → zro (zwT (zCp (zwT T 0 x 2) ix x 3) 1 ix 3) (x * 6 + q) = zro T (ix * 6 + (3 + q)) := by
    intro q hq
    unfold zro
    rw [zwT_i _ _ _ _ (by omega), zwT_i _ _ _ _ (by omega), zwT_i _ _ _ _ (by omega), zCp_at hix2 (by omega) hq (by omega), zCp_at hix2 (by omega) hq (by omega), zCp_at hix2 (by omega) hq (by omega)]
    rfl
  have ro : ∀ b r, b ≠ x → r < 6 → zro (zwT (zCp (zwT T 0 x 2) ix x 3) 1 ix 3) (b * 6 + r) = zro T (b * 6 + r) := by
    intro b r hb hr
    refine zro_oo (fun i hi => ?_)
    rw [zwT_i _ _ _ _ (by omega), zCp_o (by omega) (by omega), zwT_i _ _ _ _ (by omega)]
  have hmv : zMv T (zwT (zCp (zwT T 0 x 2) ix x 3) 1 ix 3) (fun ob o => if ob = ix ∧ 3 ≤ o then (x, o - 3) else (ob, o)) (fun _ _ => False) := by
    refine ⟨fun b r hb hr => Or.inr ?_, fun ob o hob ho => ?_⟩
    · rw [k1] at hr
      by_cases e : b = ix
      · subst e
        rw [if_pos rfl] at hr
        refine ⟨b, r, hb, by omega, ?_, ro b r hix2 (by omega)⟩
        simp only [eq_self, true_and, if_neg (show ¬ 3 ≤ r by omega)]
      · rw [if_neg e] at hr
        by_cases e2 : b = x
        · subst e2
          rw [if_pos rfl] at hr
          refine ⟨ix, 3 + r, hix, by omega, ?_, rx r hr⟩
          simp only [eq_self, true_and, if_pos (show 3 ≤ 3 + r by omega)]
          rw [show 3 + r - 3 = r by omega]
        · rw [if_neg e2] at hr
          have := (hB b hb).2.1
          refine ⟨b, r, hb, hr, ?_, ro b r e2 (by omega)⟩
          simp only [e, false_and, if_false]
    · by_cases e : ob = ix
      · subst e
        by_cases c : 3 ≤ o
        · simp only [eq_self, true_and, if_pos c]
          refine ⟨hx, ?_, ?_⟩
          · rw [k1, if_neg (Ne.symm hix2), if_pos rfl]; omega
          · rw [rx (o - 3) (by omega), show 3 + (o - 3) = o by omega]
        · simp only [eq_self, true_and, if_neg c]
          refine ⟨hob, ?_, ro ob o hix2 (by omega)⟩
          rw [k1, if_pos rfl]; omega
      · simp only [e, false_and, if_false]
        have := (hB ob hob).2.1
        have e2 : ob ≠ x := fun q => by rw [q, cx.1] at ho; omega
        refine ⟨hob, ?_, ro ob o e2 (by omega)⟩
        rw [k1, if_neg e, if_neg e2]; exact ho
  have hch : ∀ b r, b < 40 → r < T.1 1 b → (zwT (zCp (zwT T 0 x 2) ix x 3) 1 ix 3).1 0 (T.1 6 (b * 6 + r)) = T.1 0 (T.1 6 (b * 6 + r)) := fun b r hb hr => by rw [k0, if_neg (hX b r hb hr)]
  refine ⟨by unfold zSA; rw [k7]; exact hA, fun b hb => ?_, zmv_D hmv (fun _ _ h => h.elim) hD, zmv_E hmv (fun _ _ _ _ h => h.elim) (fun _ _ h => h.elim) hE, ⟨?_, fun b hb hb0 hb7 => ?_, fun r hr => ?_, fun b r hb hb0 hr => ?_⟩, zmv_G hmv (x := 0) (fun b hb hb0 hbx hbk => ?_) hG, zmv_X hmv (fun _ _ h => h.elim) hX⟩
  · obtain ⟨a1, a2, a3, a4, a5⟩ := hB b hb
    rw [k0, k1, k2]
    by_cases e2 : b = x
    · subst e2
      rw [if_pos rfl, if_neg (Ne.symm hix2), if_pos rfl]
      omega
    · rw [if_neg e2, if_neg e2]
      by_cases e : b = ix
      · subst e
        rw [if_pos rfl]
        omega
      · rw [if_neg e]
        exact ⟨a1, a2, a3, a4, a5⟩
  · rw [k0, if_neg (Ne.symm hx0), k7]; exact hF.1
  · rw [k7] at hb7; exact absurd h7 hb7
  · rcases hmv.1 0 r (by omega) hr with h | ⟨ob, o, h1, h2, h3, h4⟩
    · exact h.elim
    · have e := zro_6 h4
      rw [Nat.zero_mul, Nat.zero_add] at e
      rw [e, hch ob o h1 h2, k7]
      have ho : ob = 0 := by
        have := congrArg Prod.fst h3
        simp only at this
        split at this
        · exact absurd this hx0
        · exact this
      subst ho
      have := hF.2.2.1 o h2
      rw [Nat.zero_mul, Nat.zero_add]
      exact this
  · rcases hmv.1 b r hb hr with h | ⟨ob, o, h1, h2, h3, h4⟩
    · exact h.elim
    · rw [zro_6 h4, hch ob o h1 h2]
      have ho : ob ≠ 0 := by
        intro e
        subst e
        have := congrArg Prod.fst h3
        simp only [show ¬ 0 = ix from Ne.symm h0, false_and, if_false] at this
        exact hb0 this.symm
      exact hF.2.2.2 ob o h1 ho h2
  · rw [k0, if_neg hbx] at hbk
    exact Or.inl ⟨hb0, hbk⟩
