/-! undo, image, back -/
theorem zVN_k {M' : sh_St} {f : Nat → Int32} {g : Nat → Int64} {T : zT} (h1 : ∀ k, k < 1084 → M'.1 1 k = f k) (h2 : ∀ k, k < 240 → M'.2 2 k = g k) (h : zVM f g T) : zVN M' T := zVM_cg h1 h2 h
theorem zc_undo {S M : sh_St} (h : zRR S M) : zCA ["java/lang/IllegalStateException"] (fX12_undo S) (fX13_undo M) := by
  obtain ⟨T, B, L, h⟩ := h
  have hh := h
  obtain ⟨hG, hv, hvm, ra, rb1, rb2, rc, rd, re, rg⟩ := h
  obtain ⟨t, u, Th, ht, hu, h2, h1, h5, hT⟩ := rd
  by_cases c : u = 0
  · subst c
    refine ⟨.inr "java/lang/IllegalStateException", S, nI 0, sh_I M 0 0 (nI 1), ?_, ?_, Or.inr ⟨0, _, rfl, rfl, zI_s _ _ _ _⟩, T, B, L, zR_q hh (zFr_rf _ _ S) (zMQ_0 M _)⟩
    · rw [fX12_undo]
      simp (disch := omega) only [zq_l9, pk_mul, nI_add, zq_t9, zq_c9, zq_bz9, zq_bo9, zq_g, zq_cl, zq_leT, zq_leF, zq_ltT, zq_ltF, zq_eqT, zq_eqF, zq_em, zq_me, zq_pm, zq_mm, zq_gm, pk_sub, zI_s, zI_k, zI_c, zI_2, zL_s, zL_k, zL_c, zL_1, if_true, if_false, eq_self, Nat.zero_add, Nat.add_zero, h1]
    · rw [fX13_undo]
      simp (disch := omega) only [zq_l9, pk_mul, nI_add, zq_t9, zq_c9, zq_bz9, zq_bo9, zq_g, zq_cl, zq_leT, zq_leF, zq_ltT, zq_ltF, zq_eqT, zq_eqF, zq_em, zq_me, zq_pm, zq_mm, zq_gm, pk_sub, zI_s, zI_k, zI_c, zI_2, zL_s, zL_k, zL_c, zL_1, if_true, if_false, eq_self, Nat.zero_add, Nat.add_zero, h5, fX13_undo_13]
  · obtain ⟨u', rfl⟩ : ∃ u', u = u' + 1 := ⟨u - 1, by omega⟩
    obtain ⟨q1, q2, q3⟩ := hT u' (by omega)
    rw [show (t + 8 - (u' + 1) + u') % 8 = (t + 7) % 8 by omega] at q1
    obtain ⟨S', f1, f2, f3, f4, f5, f6, f7⟩ := zx_takeBack ht (by omega) h2 h1 q1 q3.1.1.2.2.2.2
    obtain ⟨M', k1, k2, k3, k4, k5, k6, k7, k8⟩ := zm_undo (u := u') (by omega) h5
    refine ⟨.inl (nI u'), S', nI u', M', ?_, k1, Or.inl ⟨rfl, k5⟩, Th u', B, L, q3, f2, zVN_k k2 k3 q2, ?_, ?_, ?_, ?_, ?_, ?_, ?_⟩
    · rw [fX12_undo]
      simp (disch := omega) only [zq_l9, pk_mul, nI_add, zq_t9, zq_c9, zq_bz9, zq_bo9, zq_g, zq_cl, zq_leT, zq_leF, zq_ltT, zq_ltF, zq_eqT, zq_eqF, zq_em, zq_me, zq_pm, zq_mm, zq_gm, pk_sub, zI_s, zI_k, zI_c, zI_2, zL_s, zL_k, zL_c, zL_1, if_true, if_false, eq_self, Nat.zero_add, Nat.add_zero, h1, f1, f4]
    · refine zRa_cg ra L ra.2.2.1 ?_ (f7 2 (by omega) (by omega)).1 ?_ ?_
      · rw [(f7 1 (by omega) (by omega)).1]; exact ra.1
      · rw [k6 17 (by omega) (by omega)]; exact ra.2.1
      · rw [k7 14 (by omega) (by omega)]
    · rw [(f7 3 (by omega) (by omega)).1, k6 20 (by omega) (by omega)]; exact rb1
    · rw [(f7 0 (by omega) (by omega)).1, k6 21 (by omega) (by omega)]; exact rb2
    · exact zRc_cg rc (fun i hi => (f7 i (by omega) (by omega)).1) (fun i h3 h4 => k7 i (by omega) (by omega))
    · refine ⟨(t + 7) % 8, u', Th, by omega, by omega, f3, f4, k4, fun j hj => ?_⟩
      obtain ⟨p1, p2, p3⟩ := hT j (by omega)
      rw [show (t + 8 - (u' + 1) + j) % 8 = ((t + 7) % 8 + 8 - u' + j) % 8 by omega] at p1
      refine ⟨zVX_o (fun i h3 h4 => f7 i (by omega) (by omega)) p1, ?_, p3⟩
      rw [k7 3 (by omega) (by omega), k8 4 (by omega)]
      exact p2
    · exact zRe_cg re (by rw [(f7 0 (by omega) (by omega)).1]) (fun i h3 h4 => f7 i (by omega) (by omega)) (k6 10 (by omega) (by omega)) (k7 7 (by omega) (by omega)) (k8 8 (by omega))
    · exact zRg_cg rg (fun i h3 h4 => (f7 i (by omega) (by omega)).1)
theorem zc_image {S M : sh_St} (h : zRR S M) : ∃ S' M', fX12_image S = some ((), S') ∧ fX13_image M = some ((), M') ∧ zRR S' M' := by
  obtain ⟨T, B, L, h⟩ := h
  obtain ⟨hG, hv, hvm, ra, rb1, rb2, rc, rd, re, rg⟩ := h
  obtain ⟨S1, g1, g2, g3⟩ := zx_copyFrom (dd := 24) hv hG.1.1.2.2.2.2 (by omega)
  obtain ⟨M', k1, k2, k3, k4, k5, k6, k7, k8⟩ := zm_image M
  have f7 : ∀ i, i ≠ 0 → (i < 24 ∨ 33 < i) → (sh_I S1 0 9 (nI 1)).1 i = S.1 i ∧ (sh_I S1 0 9 (nI 1)).2 i = S.2 i := fun i h0 hi => ⟨by rw [zI_c S1 0 9 _ h0, (g3 i (by omega)).1], by rw [zI_2, (g3 i (by omega)).2]⟩
  refine ⟨sh_I S1 0 9 (nI 1), M', ?_, k1, T, B, L, hG, zVX_o (fun i h3 h4 => f7 i (by omega) (by omega)) hv, ?_, ?_, ?_, ?_, ?_, ?_, ?_, ?_⟩
  · rw [fX12_image]
    simp (disch := omega) only [zq_l9, pk_mul, nI_add, zq_t9, zq_c9, zq_bz9, zq_bo9, zq_g, zq_cl, zq_leT, zq_leF, zq_ltT, zq_ltF, zq_eqT, zq_eqF, zq_em, zq_me, zq_pm, zq_mm, zq_gm, pk_sub, zI_s, zI_k, zI_c, zI_2, zL_s, zL_k, zL_c, zL_1, if_true, if_false, eq_self, Nat.zero_add, Nat.add_zero, g1]
  · unfold zVN
    rw [k7 1 (by omega) (by omega), k8 2 (by omega)]
    exact hvm
  · refine zRa_cg ra L ra.2.2.1 ?_ (f7 2 (by omega) (by omega)).1 ?_ ?_
    · rw [(f7 1 (by omega) (by omega)).1]; exact ra.1
    · rw [k6 17 (by omega) (by omega)]; exact ra.2.1
    · rw [k7 14 (by omega) (by omega)]
  · rw [(f7 3 (by omega) (by omega)).1, k6 20 (by omega) (by omega)]; exact rb1
  · rw [zI_k S1 0 9 _ (by omega), (g3 0 (by omega)).1, k6 21 (by omega) (by omega)]; exact rb2
  · exact zRc_cg rc (fun i hi => (f7 i (by omega) (by omega)).1) (fun i h3 h4 => k7 i (by omega) (by omega))
  · exact zRd_cg rd (fun i h3 h4 => f7 i (by omega) (by omega)) (k6 5 (by omega) (by omega)) (k7 3 (by omega) (by omega)) (k8 4 (by omega))
  · refine ⟨1, T, by omega, zI_s _ _ _ _, k4, fun _ => ⟨zVX_o (fun i h3 h4 => ⟨zI_c S1 0 9 _ (by omega), rfl⟩) g2, zVM_cg k2 k3 hvm, hG⟩⟩
  · exact zRg_cg rg (fun i h3 h4 => (f7 i (by omega) (by omega)).1)
theorem zRd_0 {S M : sh_St} {t : Nat} (ht : t < 8) (h2 : S.1 34 2 = nI t) (h1 : S.1 34 1 = nI 0) (h5 : M.1 0 5 = nI 0) : zRd S M := ⟨t, 0, fun _ => (fun _ _ => 0, fun _ => 0), ht, by omega, h2, h1, h5, fun j hj => by omega⟩
theorem zc_back {S M : sh_St} (h : zRR S M) : zCB (fX12_back S) (fX13_back M) := by
  obtain ⟨T, B, L, h⟩ := h
  have hh := h
  obtain ⟨hG, hv, hvm, ra, rb1, rb2, rc, rd, re, rg⟩ := h
  obtain ⟨i, Tk, i1, e1, e2, e3⟩ := re
  by_cases c : i = 0
  · subst c
    refine ⟨nI 0, S, sh_I M 0 0 (nI 0), ?_, ?_, T, B, L, zR_q hh (zFr_rf _ _ S) (zMQ_0 M _)⟩
    · rw [fX12_back]
      simp (disch := omega) only [zq_l9, pk_mul, nI_add, zq_t9, zq_c9, zq_bz9, zq_bo9, zq_g, zq_cl, zq_leT, zq_leF, zq_ltT, zq_ltF, zq_eqT, zq_eqF, zq_em, zq_me, zq_pm, zq_mm, zq_gm, pk_sub, zI_s, zI_k, zI_c, zI_2, zL_s, zL_k, zL_c, zL_1, if_true, if_false, eq_self, Nat.zero_add, Nat.add_zero, e1]
    · rw [fX13_back]
      simp (disch := omega) only [zq_l9, pk_mul, nI_add, zq_t9, zq_c9, zq_bz9, zq_bo9, zq_g, zq_cl, zq_leT, zq_leF, zq_ltT, zq_ltF, zq_eqT, zq_eqF, zq_em, zq_me, zq_pm, zq_mm, zq_gm, pk_sub, zI_s, zI_k, zI_c, zI_2, zL_s, zL_k, zL_c, zL_1, if_true, if_false, eq_self, Nat.zero_add, Nat.add_zero, e2]
  · have ei : i = 1 := by omega
    subst ei
    obtain ⟨w1, w2, w3⟩ := e3 rfl
    obtain ⟨t, u, Th, ht, hu, h2, h1, h5, hT⟩ := rd
    obtain ⟨S1, g1, g2, g3⟩ := zx_copyFrom (dd := 4) w1 w3.1.1.2.2.2.2 (by omega)
    obtain ⟨S2, j1, j2, j3, j4⟩ := zx_close (sh_I S1 34 1 (nI 0))
    obtain ⟨M', k1, k2, k3, k4, k5, k6, k7, k8, k9⟩ := zm_back M e2
    have f7 : ∀ i, i < 132 → i ≠ 34 → (i < 4 ∨ 13 < i) → S2.1 i = S.1 i ∧ S2.2 i = S.2 i := fun i h0 h34 hi => ⟨by rw [j3 i h0, zI_c S1 34 1 _ h34, (g3 i (by omega)).1], by rw [j2, zI_2, (g3 i (by omega)).2]⟩
    refine ⟨nI 1, S2, M', ?_, k1, Tk, B, L, w3, ?_, zVN_k k2 k3 w2, ?_, ?_, ?_, ?_, ?_, ?_, ?_⟩
    · rw [fX12_back]
      simp (disch := omega) only [zq_l9, pk_mul, nI_add, zq_t9, zq_c9, zq_bz9, zq_bo9, zq_g, zq_cl, zq_leT, zq_leF, zq_ltT, zq_ltF, zq_eqT, zq_eqF, zq_em, zq_me, zq_pm, zq_mm, zq_gm, pk_sub, zI_s, zI_k, zI_c, zI_2, zL_s, zL_k, zL_c, zL_1, if_true, if_false, eq_self, Nat.zero_add, Nat.add_zero, e1, g1, fX3_forget, j1]
    · exact zVX_o (fun i h3 h4 => ⟨by rw [j3 i (by omega), zI_c S1 34 1 _ (by omega)], by rw [j2, zI_2]⟩) g2
    · refine zRa_cg ra L ra.2.2.1 ?_ (f7 2 (by omega) (by omega) (by omega)).1 ?_ ?_
      · rw [(f7 1 (by omega) (by omega) (by omega)).1]; exact ra.1
      · rw [k7 17 (by omega) (by omega)]; exact ra.2.1
      · rw [k8 14 (by omega) (by omega) (by omega)]
    · rw [(f7 3 (by omega) (by omega) (by omega)).1, k7 20 (by omega) (by omega)]; exact rb1
    · rw [(f7 0 (by omega) (by omega) (by omega)).1, k7 21 (by omega) (by omega)]; exact rb2
    · refine zRc_rd rc (c := 1) (zRD_eq j4 (fun i hi => by rw [zI_c S1 34 1 _ (by omega), (g3 i (by omega)).1]) (fun _ _ => rfl)) (fun j hj => by rw [k4 j hj, if_pos rfl]) (fun i h3 h4 => k8 i (by omega) (by omega) (by omega))
    · refine zRd_0 ht ?_ ?_ k5
      · rw [j3 34 (by omega), zI_k S1 34 1 _ (by omega), (g3 34 (by omega)).1]; exact h2
      · rw [j3 34 (by omega), zI_s]
    · exact zRe_cg ⟨1, Tk, i1, e1, e2, e3⟩ (by rw [(f7 0 (by omega) (by omega) (by omega)).1]) (fun i h3 h4 => f7 i (by omega) (by omega) (by omega)) (k7 10 (by omega) (by omega)) (k8 7 (by omega) (by omega) (by omega)) (k9 8 (by omega))
    · exact zRg_cg rg (fun i h3 h4 => (f7 i (by omega) (by omega) (by omega)).1)
/-! a text of acts -/
theorem ztx_pos (B : Nat → Nat) (E : Nat) : ∀ m T p d t, d + m = 14 → (ztx B E m T p d t).1 = 0 → 1 ≤ (ztx B E m T p d t).2.1 ∧ (ztx B E m T p d t).2.1 ≤ 14 ∧ ((ztx B E m T p d t).2.2.2.2 ≤ 1 ∨ ¬ t ≤ 1) := by
  intro m
  induction m with
  | zero => intro T p d t _ h; exact absurd h (Nat.succ_ne_zero 0)
  | succ m ih =>
    intro T p d t hd h
    rw [ztx] at h ⊢
    by_cases c9 : zA B E p = 9
    · rw [if_pos c9] at h; exact absurd h (Nat.succ_ne_zero 0)
    rw [if_neg c9] at h ⊢
    by_cases cok : zpo B E (zA B E p) (zne B E p)
    · rw [if_pos cok] at h ⊢
      by_cases cr : zref T (zA B E p) (zan B E p) (zam B E p) (zav B E p) = 0
      · rw [if_pos cr] at h ⊢
        have htu : ztu (zA B E p) t ≤ 1 ∨ ¬ t ≤ 1 := by unfold ztu; split <;> omega
        by_cases ce : zaq B E p = E
        · rw [if_pos ce]
          exact ⟨by show 1 ≤ d + 1; omega, by show d + 1 ≤ 14; omega, htu⟩
        · rw [if_neg ce] at h ⊢
          by_cases cs : B (zaq B E p) = 59
          · rw [if_pos cs] at h ⊢
            by_cases cm : m = 0
            · rw [if_pos cm] at h; exact absurd h (Nat.succ_ne_zero 0)
            · rw [if_neg cm] at h ⊢
              obtain ⟨x1, x2, x3⟩ := ih _ _ _ _ (by omega) h
              exact ⟨x1, x2, by omega⟩
          · rw [if_neg cs] at h; exact absurd h (Nat.succ_ne_zero 0)
      · rw [if_neg cr] at h; exact absurd h (Nat.succ_ne_zero 0)
    · rw [if_neg cok] at h; exact absurd h (Nat.succ_ne_zero 0)
theorem zc_wo : ∀ (n r : Nat) (S : sh_St), r ≤ 4 → 4 - r < n → (∀ j, j < 4 → S.1 9 j = nI 0 ∨ S.1 9 j = nI 1) → ∃ S', fX13_acts_10 n S (nI r) = fX13_acts_37 sh_FU S' (nI 0) (nI 0) ∧ (∀ j, r ≤ j → j < 4 → S'.1 21 j = S.1 9 j) ∧ (∀ j, j < r → S'.1 21 j = S.1 21 j) ∧ S'.2 = S.2 ∧ ∀ i, i ≠ 21 → S'.1 i = S.1 i := by
  intro n
  induction n with
  | zero => intro r S h1 h2; omega
  | succ n ih =>
    intro r S h1 h2 h3
    rw [fX13_acts_10]
    by_cases h : r = 4
    · subst h
      refine ⟨S, ?_, fun j a b => by omega, fun j _ => rfl, rfl, fun _ _ => rfl⟩
      simp (disch := omega) only [zq_l9, pk_mul, nI_add, zq_t9, zq_c9, zq_bz9, zq_bo9, zq_g, zq_cl, zq_leT, zq_leF, zq_ltT, zq_ltF, zq_eqT, zq_eqF, zq_em, zq_me, zq_pm, zq_mm, zq_gm, pk_sub, zI_s, zI_k, zI_c, zI_2, zL_s, zL_k, zL_c, zL_1, if_true, if_false, eq_self, Nat.zero_add, Nat.add_zero]
    · have hs9 : (sh_I S 21 r (S.1 9 r)).1 9 = S.1 9 := zI_c S 21 r _ (by omega)
      obtain ⟨S', f1, f2, f3, f4, f5⟩ := ih (r + 1) (sh_I S 21 r (S.1 9 r)) (by omega) (by omega) (fun j hj => by rw [hs9]; exact h3 j hj)
      refine ⟨S', ?_, fun j a b => ?_, fun j a => ?_, f4, fun i hi => ?_⟩
      · rcases h3 r (by omega) with e | e
        · rw [e] at f1; simp (disch := omega) only [zq_l9, pk_mul, nI_add, zq_t9, zq_c9, zq_bz9, zq_bo9, zq_g, zq_cl, zq_leT, zq_leF, zq_ltT, zq_ltF, zq_eqT, zq_eqF, zq_em, zq_me, zq_pm, zq_mm, zq_gm, pk_sub, zI_s, zI_k, zI_c, zI_2, zL_s, zL_k, zL_c, zL_1, if_true, if_false, eq_self, Nat.zero_add, Nat.add_zero, e]; exact f1
        · rw [e] at f1; simp (disch := omega) only [zq_l9, pk_mul, nI_add, zq_t9, zq_c9, zq_bz9, zq_bo9, zq_g, zq_cl, zq_leT, zq_leF, zq_ltT, zq_ltF, zq_eqT, zq_eqF, zq_em, zq_me, zq_pm, zq_mm, zq_gm, pk_sub, zI_s, zI_k, zI_c, zI_2, zL_s, zL_k, zL_c, zL_1, if_true, if_false, eq_self, Nat.zero_add, Nat.add_zero, e]; exact f1
      · by_cases e : j = r
        · subst e; rw [f3 j (by omega), zI_s]
        · rw [f2 j (by omega) b, hs9]
      · rw [f3 j (by omega), zI_k S 21 r _ (by omega)]
      · rw [f5 i hi, zI_c S 21 r _ hi]
theorem zc_wb : ∀ (n r : Nat) (S : sh_St), r ≤ 4 → 4 - r < n → (∀ j, j < 4 → S.1 21 j = nI 0 ∨ S.1 21 j = nI 1) → ∃ S', fX13_acts_121 n S (nI r) = (sh_c (fX13_comesBack S') fun _ S9 => some (nI 0, S9)) ∧ (∀ j, r ≤ j → j < 4 → S'.1 9 j = S.1 21 j) ∧ (∀ j, j < r → S'.1 9 j = S.1 9 j) ∧ S'.2 = S.2 ∧ ∀ i, i ≠ 9 → S'.1 i = S.1 i := by
  intro n
  induction n with
  | zero => intro r S h1 h2; omega
  | succ n ih =>
    intro r S h1 h2 h3
    rw [fX13_acts_121]
    by_cases h : r = 4
    · subst h
      refine ⟨S, ?_, fun j a b => by omega, fun j _ => rfl, rfl, fun _ _ => rfl⟩
      simp (disch := omega) only [zq_l9, pk_mul, nI_add, zq_t9, zq_c9, zq_bz9, zq_bo9, zq_g, zq_cl, zq_leT, zq_leF, zq_ltT, zq_ltF, zq_eqT, zq_eqF, zq_em, zq_me, zq_pm, zq_mm, zq_gm, pk_sub, zI_s, zI_k, zI_c, zI_2, zL_s, zL_k, zL_c, zL_1, if_true, if_false, eq_self, Nat.zero_add, Nat.add_zero]
    · have hs9 : (sh_I S 9 r (S.1 21 r)).1 21 = S.1 21 := zI_c S 9 r _ (by omega)
      obtain ⟨S', f1, f2, f3, f4, f5⟩ := ih (r + 1) (sh_I S 9 r (S.1 21 r)) (by omega) (by omega) (fun j hj => by rw [hs9]; exact h3 j hj)
      refine ⟨S', ?_, fun j a b => ?_, fun j a => ?_, f4, fun i hi => ?_⟩
      · rcases h3 r (by omega) with e | e
        · rw [e] at f1; simp (disch := omega) only [zq_l9, pk_mul, nI_add, zq_t9, zq_c9, zq_bz9, zq_bo9, zq_g, zq_cl, zq_leT, zq_leF, zq_ltT, zq_ltF, zq_eqT, zq_eqF, zq_em, zq_me, zq_pm, zq_mm, zq_gm, pk_sub, zI_s, zI_k, zI_c, zI_2, zL_s, zL_k, zL_c, zL_1, if_true, if_false, eq_self, Nat.zero_add, Nat.add_zero, e]; exact f1
        · rw [e] at f1; simp (disch := omega) only [zq_l9, pk_mul, nI_add, zq_t9, zq_c9, zq_bz9, zq_bo9, zq_g, zq_cl, zq_leT, zq_leF, zq_ltT, zq_ltF, zq_eqT, zq_eqF, zq_em, zq_me, zq_pm, zq_mm, zq_gm, pk_sub, zI_s, zI_k, zI_c, zI_2, zL_s, zL_k, zL_c, zL_1, if_true, if_false, eq_self, Nat.zero_add, Nat.add_zero, e]; exact f1
      · by_cases e : j = r
        · subst e; rw [f3 j (by omega), zI_s]
        · rw [f2 j (by omega) b, hs9]
      · rw [f3 j (by omega), zI_k S 9 r _ (by omega)]
      · rw [f5 i hi, zI_c S 9 r _ hi]
