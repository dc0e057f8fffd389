/-! copies: the class -/
theorem zRI_s (S : sh_St) (c : Nat) (f : Nat → Int32) : (sh_RI S c f).1 c = f := by simp [sh_RI]
theorem zRI_c (S : sh_St) (c : Nat) (f : Nat → Int32) {i : Nat} (h : i ≠ c) : (sh_RI S c f).1 i = S.1 i := (sh_RI_ne S c f i h).1
theorem zRI_2 (S : sh_St) (c : Nat) (f : Nat → Int32) : (sh_RI S c f).2 = S.2 := rfl
theorem zRL_s (S : sh_St) (c : Nat) (f : Nat → Int64) : (sh_RL S c f).2 c = f := by simp [sh_RL]
theorem zRL_c (S : sh_St) (c : Nat) (f : Nat → Int64) {i : Nat} (h : i ≠ c) : (sh_RL S c f).2 i = S.2 i := (sh_RL_ne S c f i h).2
theorem zRL_1 (S : sh_St) (c : Nat) (f : Nat → Int64) : (sh_RL S c f).1 = S.1 := rfl
theorem zcpy {α : Type} (f g : Nat → α) {n k : Nat} (h : k < n) : va_cpy f g 0 0 n k = f k := by
  unfold va_cpy
  rw [if_pos (by omega)]
  congr 1
  omega
theorem zx_copyFrom {S : sh_St} {dd ss : Nat} {T : zT} (hv : zVX S ss T) (h7 : T.1 7 3 < 2) (hd : dd + 9 < ss ∨ ss + 9 < dd) : ∃ S', fX7_copyFrom S dd ss = some ((), S') ∧ zVX S' dd T ∧ ∀ i, (i < dd ∨ dd + 9 < i) → S'.1 i = S.1 i ∧ S'.2 i = S.2 i := by
  obtain ⟨v1, v2, v3, v4, v5, v6, v7⟩ := hv
  have hb : ∀ (k : Option (Unit × sh_St)), sh_b (nI (T.1 7 3)) k = k := fun k => by
    by_cases c : T.1 7 3 = 0
    · rw [c]; rfl
    · rw [show T.1 7 3 = 1 by omega]; rfl
  rw [fX7_copyFrom]
  simp (disch := omega) only [zq_t9, zI_s, zI_k, zI_c, zI_2, zRI_c, zRI_2, zRL_1, v4, v5, v6, v7, hb]
  refine ⟨_, rfl, ⟨fun b hb4 => ?_, fun k hk => ?_, fun j hj => ?_, ?_, ?_, ?_, ?_⟩, fun i hi => ⟨?_, ?_⟩⟩
  · simp (disch := omega) only [zI_s, zI_k, zI_c, zI_2, zRI_s, zRI_c, zRI_2, zRL_1, zcpy]
    exact v1 b hb4
  · simp (disch := omega) only [zI_s, zI_k, zI_c, zI_2, zRI_s, zRI_c, zRI_2, zRL_s, zRL_c, zRL_1, zcpy]
    exact v2 k hk
  · simp (disch := omega) only [zI_s, zI_k, zI_c, zI_2, zRI_s, zRI_c, zRI_2, zRL_1, zcpy]
    exact v3 j hj
  · simp (disch := omega) only [zI_s, zI_k, zI_c, zI_2, zRI_s, zRI_c, zRI_2, zRL_1]
  · simp (disch := omega) only [zI_s, zI_k, zI_c, zI_2, zRI_s, zRI_c, zRI_2, zRL_1]
  · simp (disch := omega) only [zI_s, zI_k, zI_c, zI_2, zRI_s, zRI_c, zRI_2, zRL_1]
  · simp (disch := omega) only [zI_s, zI_k, zI_c, zI_2, zRI_s, zRI_c, zRI_2, zRL_1]
  · simp (disch := omega) only [zI_s, zI_k, zI_c, zI_2, zRI_s, zRI_c, zRI_2, zRL_1]
  · simp (disch := omega) only [zI_2, zRI_2, zRL_c]
theorem zq_mod8 {a : Nat} (h : a < 2 ^ 31) : nI a - nI a / nI 8 * nI 8 = nI (a % 8) := by
  rw [pk_div h (by decide) (by decide), pk_mul, pk_sub (Nat.div_mul_le_self a 8)]
  congr 1
  omega
/-- a state is remembered; one is taken back -/
theorem zx_remember {S : sh_St} {T : zT} (hv : zVX S 4 T) (h7 : T.1 7 3 < 2) {t u : Nat} (ht : t < 8) (hu : u ≤ 8) (h2 : S.1 34 2 = nI t) (h1 : S.1 34 1 = nI u) : ∃ S', fX3_remember S = some ((), S') ∧ zVX S' (36 + 10 * t) T ∧ S'.1 34 2 = nI ((t + 1) % 8) ∧ S'.1 34 1 = nI (min (u + 1) 8) ∧ (∀ k, k ≠ 1 → k ≠ 2 → S'.1 34 k = S.1 34 k) ∧ S'.2 34 = S.2 34 ∧ ∀ i, i ≠ 34 → (i < 36 + 10 * t ∨ 36 + 10 * t + 9 < i) → S'.1 i = S.1 i ∧ S'.2 i = S.2 i := by
  rw [fX3_remember]
  obtain ⟨S1, g1, g2, g3⟩ := zx_copyFrom (dd := 36 + 10 * t) hv h7 (by omega)
  have e2 : S1.1 34 2 = nI t := by rw [(g3 34 (by omega)).1]; exact h2
  have e1 : S1.1 34 1 = nI u := by rw [(g3 34 (by omega)).1]; exact h1
  have hm : nI (t + 1) - nI (t + 1) / nI 8 * nI 8 = nI ((t + 1) % 8) := zq_mod8 (by omega)
  refine ⟨sh_I (sh_I S1 34 2 (nI ((t + 1) % 8))) 34 1 (nI (min (u + 1) 8)), ?_, ?_, ?_, zI_s _ _ _ _, fun k k1 k2 => ?_, ?_, fun i h34 hi => ⟨?_, ?_⟩⟩
  · by_cases c : u = 8
    · subst c
      simp (disch := omega) only [zq_l9, pk_mul, nI_add, zq_t9, zq_c9, zq_bz9, zq_bo9, zq_g, zq_cl, zq_leT, zq_leF, zq_ltT, zq_ltF, zq_eqT, zq_eqF, zq_em, zq_me, zq_pm, zq_mm, zq_gm, pk_sub, zI_s, zI_k, zI_c, zI_2, zL_s, zL_k, zL_c, zL_1, if_true, if_false, eq_self, Nat.zero_add, Nat.add_zero, h2, g1, e2, hm, e1]
      rfl
    · rw [show min (u + 1) 8 = u + 1 by omega]
      simp (disch := omega) only [zq_l9, pk_mul, nI_add, zq_t9, zq_c9, zq_bz9, zq_bo9, zq_g, zq_cl, zq_leT, zq_leF, zq_ltT, zq_ltF, zq_eqT, zq_eqF, zq_em, zq_me, zq_pm, zq_mm, zq_gm, pk_sub, zI_s, zI_k, zI_c, zI_2, zL_s, zL_k, zL_c, zL_1, if_true, if_false, eq_self, Nat.zero_add, Nat.add_zero, h2, g1, e2, hm, e1]
  · refine zVX_fr (lo := 34) (hi := 34) (S := S1) (zFr_tr (zFr_I S1 _ _ (by omega) (by omega)) (zFr_I _ _ _ (by omega) (by omega))) (Or.inr (by omega)) g2
  · rw [zI_k _ 34 1 _ (by omega), zI_s]
  · rw [zI_k _ 34 1 _ k1, zI_k _ 34 2 _ k2, (g3 34 (by omega)).1]
  · rw [zI_2, zI_2, (g3 34 (by omega)).2]
  · rw [zI_c _ 34 1 _ h34, zI_c _ 34 2 _ h34, (g3 i hi).1]
  · rw [zI_2, zI_2, (g3 i hi).2]
theorem zx_takeBack {S : sh_St} {T : zT} {t u : Nat} (ht : t < 8) (hu : u < 8) (h2 : S.1 34 2 = nI t) (h1 : S.1 34 1 = nI (u + 1)) (hv : zVX S (36 + 10 * ((t + 7) % 8)) T) (h7 : T.1 7 3 < 2) : ∃ S', fX3_takeBack S = some ((), S') ∧ zVX S' 4 T ∧ S'.1 34 2 = nI ((t + 7) % 8) ∧ S'.1 34 1 = nI u ∧ (∀ k, k ≠ 1 → k ≠ 2 → S'.1 34 k = S.1 34 k) ∧ S'.2 34 = S.2 34 ∧ ∀ i, i ≠ 34 → (i < 4 ∨ 13 < i) → S'.1 i = S.1 i ∧ S'.2 i = S.2 i := by
  rw [fX3_takeBack]
  have hm : nI (t + 7) - nI (t + 7) / nI 8 * nI 8 = nI ((t + 7) % 8) := zq_mod8 (by omega)
  have hv1 : zVX (sh_I S 34 2 (nI ((t + 7) % 8))) (36 + 10 * ((t + 7) % 8)) T := zVX_fr (lo := 34) (hi := 34) (S := S) (zFr_I S _ _ (by omega) (by omega)) (Or.inr (by omega)) hv
  obtain ⟨S1, g1, g2, g3⟩ := zx_copyFrom (dd := 4) hv1 h7 (by omega)
  have e2 : S1.1 34 2 = nI ((t + 7) % 8) := by rw [(g3 34 (by omega)).1]; exact zI_s _ _ _ _
  have e1 : S1.1 34 1 = nI (u + 1) := by rw [(g3 34 (by omega)).1, zI_k S 34 2 _ (by omega)]; exact h1
  refine ⟨sh_I S1 34 1 (nI u), ?_, ?_, ?_, zI_s _ _ _ _, fun k k1 k2 => ?_, ?_, fun i h34 hi => ⟨?_, ?_⟩⟩
  · simp (disch := omega) only [zq_l9, pk_mul, nI_add, zq_t9, zq_c9, zq_bz9, zq_bo9, zq_g, zq_cl, zq_leT, zq_leF, zq_ltT, zq_ltF, zq_eqT, zq_eqF, zq_em, zq_me, zq_pm, zq_mm, zq_gm, pk_sub, zI_s, zI_k, zI_c, zI_2, zL_s, zL_k, zL_c, zL_1, if_true, if_false, eq_self, Nat.zero_add, Nat.add_zero, h2, show t + 8 - 1 = t + 7 by omega, hm, g1, e1, Nat.add_sub_cancel]
  · exact zVX_fr (lo := 34) (hi := 34) (S := S1) (zFr_I S1 _ _ (by omega) (by omega)) (Or.inl (by omega)) g2
  · rw [zI_k S1 34 1 _ (by omega)]; exact e2
  · rw [zI_k S1 34 1 _ k1, (g3 34 (by omega)).1, zI_k S 34 2 _ k2]
  · rw [zI_2, (g3 34 (by omega)).2, zI_2]
  · rw [zI_c S1 34 1 _ h34, (g3 i hi).1, zI_c S 34 2 _ h34]
  · rw [zI_2, (g3 i hi).2, zI_2]
