/-! the reference's writes -/
def zFk (d : Nat) (S S' : sh_St) : Prop := (∀ k, k ≠ 37 → S'.1 0 k = S.1 0 k) ∧ (∀ c, S.1 0 37 = nI c → S'.1 0 37 = nI (c + d)) ∧ S'.2 0 = S.2 0 ∧ (∀ i, 3 ≤ i → S'.1 i = S.1 i ∧ S'.2 i = S.2 i)
theorem zFk_rf (S : sh_St) : zFk 0 S S := ⟨fun _ _ => rfl, fun _ h => h, rfl, fun _ _ => ⟨rfl, rfl⟩⟩
theorem zFk_tr {d e : Nat} {S S1 S2 : sh_St} (h1 : zFk d S S1) (h2 : zFk e S1 S2) : zFk (d + e) S S2 := ⟨fun k hk => (h2.1 k hk).trans (h1.1 k hk), fun c hc => by rw [← Nat.add_assoc]; exact h2.2.1 _ (h1.2.1 c hc), h2.2.2.1.trans h1.2.2.1, fun i hi => ⟨(h2.2.2.2 i hi).1.trans (h1.2.2.2 i hi).1, (h2.2.2.2 i hi).2.trans (h1.2.2.2 i hi).2⟩⟩
theorem zFk_t0 {S S1 S2 : sh_St} (h1 : zFk 0 S S1) (h2 : zFk 0 S1 S2) : zFk 0 S S2 := zFk_tr h1 h2
theorem zFk_I (S : sh_St) (k : Nat) (v : Int32) : zFk 0 S (sh_I S 1 k v) := ⟨fun j _ => by rw [zI_c S 1 k v (by omega)], fun c hc => by rw [zI_c S 1 k v (by omega)]; exact hc, rfl, fun i hi => sh_I_ne S 1 k v i (by omega)⟩
theorem zFk_L (S : sh_St) (k : Nat) (v : Int64) : zFk 0 S (sh_L S 2 k v) := ⟨fun _ _ => rfl, fun _ hc => hc, zL_c S 2 k v (by omega), fun i hi => sh_L_ne S 2 k v i (by omega)⟩
theorem zMwr {S : sh_St} {T : zT} (h : zVN S T) {j : Nat} (l m t : Nat) (hj : j < 240) : zVN (sh_I (sh_I (sh_I S 1 (120 + 3 * j) (nI l)) 1 (120 + 3 * j + 1) (nI m)) 1 (120 + 3 * j + 2) (nI t)) (zrw T j l m t) := by
  obtain ⟨h1, h2, h3, h4, h5, h6, h7⟩ := h
  have hk : ∀ q, q ≠ 120 + 3 * j → q ≠ 120 + 3 * j + 1 → q ≠ 120 + 3 * j + 2 → (sh_I (sh_I (sh_I S 1 (120 + 3 * j) (nI l)) 1 (120 + 3 * j + 1) (nI m)) 1 (120 + 3 * j + 2) (nI t)).1 1 q = S.1 1 q := fun q a b c => by rw [zI_k _ 1 _ _ c, zI_k _ 1 _ _ b, zI_k _ 1 _ _ a]
  refine ⟨fun b hb => ?_, fun k hk' => ?_, fun j' hj' => ?_, ?_, ?_, ?_, ?_⟩
  · obtain ⟨a1, a2, a3, a4⟩ := h1 b hb
    exact ⟨(hk _ (by omega) (by omega) (by omega)).trans a1, (hk _ (by omega) (by omega) (by omega)).trans a2, (hk _ (by omega) (by omega) (by omega)).trans a3, a4⟩
  · exact ⟨(h2 k hk').1, (hk _ (by omega) (by omega) (by omega)).trans (h2 k hk').2⟩
  · obtain ⟨a1, a2, a3⟩ := h3 j' hj'
    by_cases e : j' = j
    · subst e
      refine ⟨?_, ?_, ?_⟩
      · show _ = nI ((zwT T 4 j' l).1 4 j')
        rw [zwT_s, zI_k _ 1 _ _ (by omega), zI_k _ 1 _ _ (by omega)]; exact zI_s _ _ _ _
      · show _ = nI ((zwT T 5 j' m).1 5 j')
        rw [zwT_s, zI_k _ 1 _ _ (by omega)]; exact zI_s _ _ _ _
      · show _ = nI ((zwT T 6 j' t).1 6 j')
        rw [zwT_s]; exact zI_s _ _ _ _
    · refine ⟨?_, ?_, ?_⟩
      · show _ = nI ((zwT T 4 j l).1 4 j')
        rw [zwT_k T 4 j l e]; exact (hk _ (by omega) (by omega) (by omega)).trans a1
      · show _ = nI ((zwT T 5 j m).1 5 j')
        rw [zwT_k T 5 j m e]; exact (hk _ (by omega) (by omega) (by omega)).trans a2
      · show _ = nI ((zwT T 6 j t).1 6 j')
        rw [zwT_k T 6 j t e]; exact (hk _ (by omega) (by omega) (by omega)).trans a3
  · exact (hk _ (by omega) (by omega) (by omega)).trans h4
  · exact (hk _ (by omega) (by omega) (by omega)).trans h5
  · exact (hk _ (by omega) (by omega) (by omega)).trans h6
  · exact (hk _ (by omega) (by omega) (by omega)).trans h7
theorem zMw0 {S : sh_St} {T : zT} (h : zVN S T) {b : Nat} (v : Nat) (hb : b < 40) : zVN (sh_I S 1 b (nI v)) (zwT T 0 b v) := by
  obtain ⟨h1, h2, h3, h4, h5, h6, h7⟩ := h
  have hk : ∀ q, q ≠ b → (sh_I S 1 b (nI v)).1 1 q = S.1 1 q := fun q a => zI_k _ 1 _ _ a
  refine ⟨fun b' hb' => ?_, fun k hk' => ⟨(h2 k hk').1, (hk _ (by omega)).trans (h2 k hk').2⟩, fun j hj => ⟨(hk _ (by omega)).trans (h3 j hj).1, (hk _ (by omega)).trans (h3 j hj).2.1, (hk _ (by omega)).trans (h3 j hj).2.2⟩, (hk _ (by omega)).trans h4, (hk _ (by omega)).trans h5, (hk _ (by omega)).trans h6, (hk _ (by omega)).trans h7⟩
  obtain ⟨a1, a2, a3, a4⟩ := h1 b' hb'
  refine ⟨?_, (hk _ (by omega)).trans a2, (hk _ (by omega)).trans a3, a4⟩
  by_cases e : b' = b
  · subst e; rw [zwT_s]; exact zI_s _ _ _ _
  · rw [zwT_k T 0 b v e]; exact (hk _ e).trans a1
theorem zMw2 {S : sh_St} {T : zT} (h : zVN S T) {b : Nat} (v : Nat) (hb : b < 40) : zVN (sh_I S 1 (40 + b) (nI v)) (zwT T 2 b v) := by
  obtain ⟨h1, h2, h3, h4, h5, h6, h7⟩ := h
  have hk : ∀ q, q ≠ 40 + b → (sh_I S 1 (40 + b) (nI v)).1 1 q = S.1 1 q := fun q a => zI_k _ 1 _ _ a
  refine ⟨fun b' hb' => ?_, fun k hk' => ⟨(h2 k hk').1, (hk _ (by omega)).trans (h2 k hk').2⟩, fun j hj => ⟨(hk _ (by omega)).trans (h3 j hj).1, (hk _ (by omega)).trans (h3 j hj).2.1, (hk _ (by omega)).trans (h3 j hj).2.2⟩, (hk _ (by omega)).trans h4, (hk _ (by omega)).trans h5, (hk _ (by omega)).trans h6, (hk _ (by omega)).trans h7⟩
  obtain ⟨a1, a2, a3, a4⟩ := h1 b' hb'
  refine ⟨(hk _ (by omega)).trans a1, ?_, (hk _ (by omega)).trans a3, a4⟩
  by_cases e : b' = b
  · subst e; rw [zwT_s]; exact zI_s _ _ _ _
  · rw [zwT_k T 2 b v e]; exact (hk _ (by omega)).trans a2
theorem zMw1 {S : sh_St} {T : zT} (h : zVN S T) {b v : Nat} (hv : v ≤ 6) (hb : b < 40) : zVN (sh_I S 1 (80 + b) (nI v)) (zwT T 1 b v) := by
  obtain ⟨h1, h2, h3, h4, h5, h6, h7⟩ := h
  have hk : ∀ q, q ≠ 80 + b → (sh_I S 1 (80 + b) (nI v)).1 1 q = S.1 1 q := fun q a => zI_k _ 1 _ _ a
  refine ⟨fun b' hb' => ?_, fun k hk' => ⟨(h2 k hk').1, (hk _ (by omega)).trans (h2 k hk').2⟩, fun j hj => ⟨(hk _ (by omega)).trans (h3 j hj).1, (hk _ (by omega)).trans (h3 j hj).2.1, (hk _ (by omega)).trans (h3 j hj).2.2⟩, (hk _ (by omega)).trans h4, (hk _ (by omega)).trans h5, (hk _ (by omega)).trans h6, (hk _ (by omega)).trans h7⟩
  obtain ⟨a1, a2, a3, a4⟩ := h1 b' hb'
  refine ⟨(hk _ (by omega)).trans a1, (hk _ (by omega)).trans a2, ?_, ?_⟩
  · by_cases e : b' = b
    · subst e; rw [zwT_s]; exact zI_s _ _ _ _
    · rw [zwT_k T 1 b v e]; exact (hk _ (by omega)).trans a3
  · by_cases e : b' = b
    · subst e; rw [zwT_s]; exact hv
    · rw [zwT_k T 1 b v e]; exact a4
theorem zMw7 {S : sh_St} {T : zT} (h : zVN S T) (v : Nat) : zVN (sh_I S 1 1080 (nI v)) (zwT T 7 0 v) := by
  obtain ⟨h1, h2, h3, h4, h5, h6, h7⟩ := h
  have hk : ∀ q, q ≠ 1080 → (sh_I S 1 1080 (nI v)).1 1 q = S.1 1 q := fun q a => zI_k _ 1 _ _ a
  refine ⟨fun b' hb' => ?_, fun k hk' => ⟨(h2 k hk').1, (hk _ (by omega)).trans (h2 k hk').2⟩, fun j hj => ⟨(hk _ (by omega)).trans (h3 j hj).1, (hk _ (by omega)).trans (h3 j hj).2.1, (hk _ (by omega)).trans (h3 j hj).2.2⟩, ?_, (hk _ (by omega)).trans h5, (hk _ (by omega)).trans h6, (hk _ (by omega)).trans h7⟩
  · obtain ⟨a1, a2, a3, a4⟩ := h1 b' hb'
    exact ⟨(hk _ (by omega)).trans a1, (hk _ (by omega)).trans a2, (hk _ (by omega)).trans a3, a4⟩
  · rw [zwT_s]; exact zI_s _ _ _ _
theorem zMe {S : sh_St} {T : zT} (h : zVN S T) {k : Nat} (n : Int64) (d : Nat) (v : Int32) (hk4 : k < 240) (hv : v = if n = 0 then -1 else nI d) : zVN (sh_I (sh_L S 2 k n) 1 (840 + k) v) (zeT T k n d) := by
  obtain ⟨h1, h2, h3, h4, h5, h6, h7⟩ := h
  have hk : ∀ q, q ≠ 840 + k → (sh_I (sh_L S 2 k n) 1 (840 + k) v).1 1 q = S.1 1 q := fun q a => zI_k (sh_L S 2 k n) 1 _ _ a
  refine ⟨fun b' hb' => ?_, fun k' hk' => ?_, fun j hj => ⟨(hk _ (by omega)).trans (h3 j hj).1, (hk _ (by omega)).trans (h3 j hj).2.1, (hk _ (by omega)).trans (h3 j hj).2.2⟩, (hk _ (by omega)).trans h4, (hk _ (by omega)).trans h5, (hk _ (by omega)).trans h6, (hk _ (by omega)).trans h7⟩
  · obtain ⟨a1, a2, a3, a4⟩ := h1 b' hb'
    exact ⟨(hk _ (by omega)).trans a1, (hk _ (by omega)).trans a2, (hk _ (by omega)).trans a3, a4⟩
  · by_cases e : k' = k
    · subst e
      rw [zeT_2s, zeT_s]
      exact ⟨zL_s S 2 k' n, (zI_s _ _ _ _).trans hv⟩
    · rw [zeT_2k T k n d e, zeT_k T k n d e]
      exact ⟨(zL_k S 2 k n e).trans (h2 k' hk').1, (hk _ (by omega)).trans (h2 k' hk').2⟩
theorem zm_lay {S : sh_St} {T : zT} (h : zVN S T) {b s : Nat} (hb : b < 40) (hs : s < 6) (n : Int64) (d : Nat) (v : Int32) (hv : v = if n = 0 then -1 else nI d) : ∃ S', fX13_lays S (nI b) (nI s) n v = some ((), S') ∧ zVN S' (zeT T (b * 6 + s) n d) ∧ zFk 0 S S' := by
  refine ⟨_, ?_, zMe h n d v (show b * 6 + s < 240 by omega) hv, zFk_t0 (zFk_L S _ _) (zFk_I _ _ _)⟩
  rw [fX13_lays]
  simp (disch := omega) only [zq_l2, pk_mul, nI_add, zq_t, zq_c, zq_bz, zq_bo, zq_g, zq_cl, zq_leT, zq_leF, zq_ltT, zq_ltF, zq_eqT, zq_eqF, zq_em, zq_me, zq_pm, zq_mm, zq_gm, pk_sub, zI_s, zI_k, zI_c, zI_2, zL_s, zL_k, zL_c, zL_1, if_true, if_false, eq_self, Nat.zero_add, Nat.add_zero, fX13_slotAt, show 6 * b + s = b * 6 + s from by omega]
theorem zm_laysRow {S : sh_St} {T : zT} (h : zVN S T) {b r : Nat} (l m t : Nat) (hb : b < 40) (hr : r < 6) : ∃ S', fX13_laysRow S (nI b) (nI r) (nI l) (nI m) (nI t) = some ((), S') ∧ zVN S' (zrw T (b * 6 + r) l m t) ∧ zFk 0 S S' := by
  refine ⟨_, ?_, zMwr h l m t (show b * 6 + r < 240 by omega), zFk_t0 (zFk_t0 (zFk_I S _ _) (zFk_I _ _ _)) (zFk_I _ _ _)⟩
  rw [fX13_laysRow]
  simp (disch := omega) only [zq_l2, pk_mul, nI_add, zq_t, zq_c, zq_bz, zq_bo, zq_g, zq_cl, zq_leT, zq_leF, zq_ltT, zq_ltF, zq_eqT, zq_eqF, zq_em, zq_me, zq_pm, zq_mm, zq_gm, pk_sub, zI_s, zI_k, zI_c, zI_2, zL_s, zL_k, zL_c, zL_1, if_true, if_false, eq_self, Nat.zero_add, Nat.add_zero, fX13_rowAt, show 120 + 18 * b + 3 * r = 120 + 3 * (b * 6 + r) from by omega]
theorem zm_copyRow {S : sh_St} {T : zT} (h : zVN S T) {a r c q : Nat} (ha : a < 40) (hr : r < 6) (hc : c < 40) (hq : q < 6) : ∃ S', fX13_copiesRow S (nI a) (nI r) (nI c) (nI q) = some ((), S') ∧ zVN S' (zcR T (a * 6 + r) (c * 6 + q)) ∧ zFk 0 S S' := by
  obtain ⟨b1, b2, b3⟩ := h.2.2.1 (a * 6 + r) (by omega)
  obtain ⟨S', e1, e2, e3⟩ := zm_laysRow h (T.1 4 (a * 6 + r)) (T.1 5 (a * 6 + r)) (T.1 6 (a * 6 + r)) hc hq
  refine ⟨S', ?_, e2, e3⟩
  rw [fX13_copiesRow]
  simp (disch := omega) only [zq_l2, pk_mul, nI_add, zq_t, zq_c, zq_bz, zq_bo, zq_g, zq_cl, zq_leT, zq_leF, zq_ltT, zq_ltF, zq_eqT, zq_eqF, zq_em, zq_me, zq_pm, zq_mm, zq_gm, pk_sub, zI_s, zI_k, zI_c, zI_2, zL_s, zL_k, zL_c, zL_1, if_true, if_false, eq_self, Nat.zero_add, Nat.add_zero, fX13_rowAt, show 120 + 18 * a + 3 * r = 120 + 3 * (a * 6 + r) from by omega, b1, b2, b3, e1]
theorem zsh_p (b p : Nat) {k : Nat} (h : k ≤ p) (T : zT) : zsh b p k T = T := by
  cases k with
  | zero => rfl
  | succ k => unfold zsh; rw [if_neg (by omega)]
theorem zm_shift2 {b p : Nat} (hb : b < 40) (v3 v4 v5 : Int32) : ∀ (n k : Nat) (S : sh_St) (T : zT), zVN S T → k ≤ 5 → k - p < n → p ≤ k → ∃ S', fX13_comesBehind_v2_21 n S (nI b) v3 v4 v5 (nI p) (nI k) = fX13_comesBehind_v2_21 1 S' (nI b) v3 v4 v5 (nI p) (nI p) ∧ zVN S' (zsh b p k T) ∧ zFk 0 S S' := by
  intro n
  induction n with
  | zero => intro k S T _ _ h; omega
  | succ n ih =>
    intro k S T hv hk h hpk
    by_cases h1 : p = k
    · subst h1
      refine ⟨S, ?_, by rw [zsh_p b p (Nat.le_refl p)]; exact hv, zFk_rf S⟩
      rw [fX13_comesBehind_v2_21, fX13_comesBehind_v2_21]
      simp (disch := omega) only [zq_l2, pk_mul, nI_add, zq_t, zq_c, zq_bz, zq_bo, zq_g, zq_cl, zq_leT, zq_leF, zq_ltT, zq_ltF, zq_eqT, zq_eqF, zq_em, zq_me, zq_pm, zq_mm, zq_gm, pk_sub, zI_s, zI_k, zI_c, zI_2, zL_s, zL_k, zL_c, zL_1, if_true, if_false, eq_self, Nat.zero_add, Nat.add_zero]
    · obtain ⟨j, rfl⟩ : ∃ j, k = j + 1 := ⟨k - 1, by omega⟩
      rw [fX13_comesBehind_v2_21]
      unfold zsh
      rw [if_pos (show p < j + 1 by omega)]
      obtain ⟨S1, e1, e2, e3⟩ := zm_copyRow hv hb (show j < 6 by omega) hb (show j + 1 < 6 by omega)
      obtain ⟨S', f1, f2, f3⟩ := ih j S1 _ e2 (by omega) (by omega) (by omega)
      refine ⟨S', ?_, f2, zFk_t0 e3 f3⟩
      simp (disch := omega) only [zq_l2, pk_mul, nI_add, zq_t, zq_c, zq_bz, zq_bo, zq_g, zq_cl, zq_leT, zq_leF, zq_ltT, zq_ltF, zq_eqT, zq_eqF, zq_em, zq_me, zq_pm, zq_mm, zq_gm, pk_sub, zI_s, zI_k, zI_c, zI_2, zL_s, zL_k, zL_c, zL_1, if_true, if_false, eq_self, Nat.zero_add, Nat.add_zero, show j + 1 - 1 = j from by omega, e1]
      exact f1
theorem zm_shift1 {b p : Nat} (hb : b < 40) (v3 v4 v5 : Int32) : ∀ (n k : Nat) (S : sh_St) (T : zT), zVN S T → k ≤ 5 → k - p < n → p ≤ k → ∃ S', fX13_comesBehind_v1_21 n S (nI b) v3 v4 v5 (nI p) (nI k) = fX13_comesBehind_v1_21 1 S' (nI b) v3 v4 v5 (nI p) (nI p) ∧ zVN S' (zsh b p k T) ∧ zFk 0 S S' := by
  intro n
  induction n with
  | zero => intro k S T _ _ h; omega
  | succ n ih =>
    intro k S T hv hk h hpk
    by_cases h1 : p = k
    · subst h1
      refine ⟨S, ?_, by rw [zsh_p b p (Nat.le_refl p)]; exact hv, zFk_rf S⟩
      rw [fX13_comesBehind_v1_21, fX13_comesBehind_v1_21]
      simp (disch := omega) only [zq_l2, pk_mul, nI_add, zq_t, zq_c, zq_bz, zq_bo, zq_g, zq_cl, zq_leT, zq_leF, zq_ltT, zq_ltF, zq_eqT, zq_eqF, zq_em, zq_me, zq_pm, zq_mm, zq_gm, pk_sub, zI_s, zI_k, zI_c, zI_2, zL_s, zL_k, zL_c, zL_1, if_true, if_false, eq_self, Nat.zero_add, Nat.add_zero]
    · obtain ⟨j, rfl⟩ : ∃ j, k = j + 1 := ⟨k - 1, by omega⟩
      rw [fX13_comesBehind_v1_21]
      unfold zsh
      rw [if_pos (show p < j + 1 by omega)]
      obtain ⟨S1, e1, e2, e3⟩ := zm_copyRow hv hb (show j < 6 by omega) hb (show j + 1 < 6 by omega)
      obtain ⟨S', f1, f2, f3⟩ := ih j S1 _ e2 (by omega) (by omega) (by omega)
      refine ⟨S', ?_, f2, zFk_t0 e3 f3⟩
      simp (disch := omega) only [zq_l2, pk_mul, nI_add, zq_t, zq_c, zq_bz, zq_bo, zq_g, zq_cl, zq_leT, zq_leF, zq_ltT, zq_ltF, zq_eqT, zq_eqF, zq_em, zq_me, zq_pm, zq_mm, zq_gm, pk_sub, zI_s, zI_k, zI_c, zI_2, zL_s, zL_k, zL_c, zL_1, if_true, if_false, eq_self, Nat.zero_add, Nat.add_zero, show j + 1 - 1 = j from by omega, e1]
      exact f1
/-- taking a block: torn and count are set, as they are -/
theorem zm_take_l {S : sh_St} {T : zT} (hv : zVN S T) (hk2 : ∀ b, b < 40 → T.1 0 b ≤ 2 ∧ (T.1 0 b = 0 → T.1 1 b = 0 ∧ T.1 2 b = 0)) {c t : Nat} (ht : S.1 0 37 = nI t) (htl : t < 100) (hfr : zfr T < 40) : ∀ (n k : Nat), k ≤ zfr T → zfr T - k < n → ∃ S', fX13_takesBlock_2 n S (nI c) (nI k) = some (nI (zfr T), S') ∧ zVN S' (zwT T 0 (zfr T) c) ∧ zFk 1 S S' := by
  intro n
  induction n with
  | zero => intro k _ h; omega
  | succ n ih =>
    intro k h1 h2
    have hkk := (hk2 k (by omega)).1
    rw [fX13_takesBlock_2]
    by_cases h : k = zfr T
    · have hz : T.1 0 k = 0 := by rw [h]; exact of_decide_eq_true (zfi_p (fun b => decide (T.1 0 b = 0)) 40 0 (by rw [Nat.zero_add]; exact hfr))
      have h12 := (hk2 k (by omega)).2 hz
      have v3 := zMw1 (zMw2 (zMw0 hv c (show k < 40 by omega)) 0 (show k < 40 by omega)) (b := k) (v := 0) (by omega) (by omega)
      have he : zeq (zwT (zwT (zwT T 0 k c) 2 k 0) 1 k 0) (zwT T 0 k c) := by
        refine ⟨fun i q hi => ?_, fun _ => rfl, fun _ _ => rfl⟩
        by_cases i1 : i = 1
        · subst i1
          by_cases q1 : q = k
          · subst q1; rw [zwT_s]; exact h12.1
          · rw [zwT_k _ 1 k 0 q1, zwT_i _ 2 _ _ (by omega)]
        · rw [zwT_i _ 1 _ _ i1]
          by_cases i2 : i = 2
          · subst i2
            by_cases q1 : q = k
            · subst q1; rw [zwT_s]; exact h12.2
            · rw [zwT_k _ 2 k 0 q1]
          · rw [zwT_i _ 2 _ _ i2]
      refine ⟨sh_I (sh_I (sh_I (sh_I S 1 k (nI c)) 1 (40 + k) (nI 0)) 1 (80 + k) (nI 0)) 0 37 (nI (t + 1)), ?_, ?_, ?_⟩
      · rw [← h]
        simp (disch := omega) only [zq_l2, pk_mul, nI_add, zq_t, zq_c, zq_bz, zq_bo, zq_g, zq_cl, zq_leT, zq_leF, zq_ltT, zq_ltF, zq_eqT, zq_eqF, zq_em, zq_me, zq_pm, zq_mm, zq_gm, pk_sub, zI_s, zI_k, zI_c, zI_2, zL_s, zL_k, zL_c, zL_1, if_true, if_false, eq_self, Nat.zero_add, Nat.add_zero, zM_k hv, hz, ht]
      · rw [← h]
        exact zVM_eq he v3
      · have f3 := zFk_t0 (zFk_t0 (zFk_I S k (nI c)) (zFk_I _ (40 + k) (nI 0))) (zFk_I _ (80 + k) (nI 0))
        refine ⟨fun q hq => ?_, fun c' hc' => ?_, f3.2.2.1, fun i hi => ?_⟩
        · rw [zI_k _ 0 37 _ hq]; exact f3.1 q hq
        · rw [zI_s]
          rw [hc'] at ht
          by_cases hcl : c' < 2 ^ 31
          · rw [(nI_eq hcl (by omega)).mp ht]
          · have := congrArg (fun z => z + nI 1) ht
            simp only [nI_add] at this
            exact this.symm
        · exact ⟨((sh_I_ne _ 0 37 _ i (by omega)).1).trans (f3.2.2.2 i hi).1, (f3.2.2.2 i hi).2⟩
    · have hz : T.1 0 k ≠ 0 := by
        have := zfi_b (fun b => decide (T.1 0 b = 0)) 40 0 k (by omega) (by unfold zfr at h1 h; omega)
        simpa using this
      obtain ⟨S', f1, f2, f3⟩ := ih (k + 1) (by omega) (by omega)
      refine ⟨S', ?_, f2, f3⟩
      simp (disch := omega) only [zq_l2, pk_mul, nI_add, zq_t, zq_c, zq_bz, zq_bo, zq_g, zq_cl, zq_leT, zq_leF, zq_ltT, zq_ltF, zq_eqT, zq_eqF, zq_em, zq_me, zq_pm, zq_mm, zq_gm, pk_sub, zI_s, zI_k, zI_c, zI_2, zL_s, zL_k, zL_c, zL_1, if_true, if_false, eq_self, Nat.zero_add, Nat.add_zero, zM_k hv]
      exact f1
theorem zm_take {S : sh_St} {T : zT} (hv : zVN S T) (hk2 : ∀ b, b < 40 → T.1 0 b ≤ 2 ∧ (T.1 0 b = 0 → T.1 1 b = 0 ∧ T.1 2 b = 0)) {t : Nat} (ht : S.1 0 37 = nI t) (htl : t < 100) (hfr : zfr T < 40) (c : Nat) : ∃ S', fX13_takesBlock S (nI c) = some (nI (zfr T), S') ∧ zVN S' (zwT T 0 (zfr T) c) ∧ zFk 1 S S' := by
  obtain ⟨S', f1, f2, f3⟩ := zm_take_l hv hk2 ht htl hfr (c := c) sh_FU 0 (by omega) (by have : sh_FU = 100000 := rfl; omega)
  exact ⟨S', f1, f2, f3⟩
theorem zm_empties_l {T : zT} {b : Nat} (hb : b < 40) : ∀ (n s : Nat) (S : sh_St), zVN S (zgr T b (fun _ => (0, 0)) s) → s ≤ 6 → 6 - s < n → ∃ S', fX13_empties_2 n S (nI b) (nI s) = some ((), S') ∧ zVN S' (zgr T b (fun _ => (0, 0)) 6) ∧ zFk 0 S S' := by
  intro n
  induction n with
  | zero => intro s S _ _ h; omega
  | succ n ih =>
    intro s S hv h1 h2
    rw [fX13_empties_2]
    by_cases h : s = 6
    · subst h
      refine ⟨S, ?_, hv, zFk_rf S⟩
      simp (disch := omega) only [zq_l2, pk_mul, nI_add, zq_t, zq_c, zq_bz, zq_bo, zq_g, zq_cl, zq_leT, zq_leF, zq_ltT, zq_ltF, zq_eqT, zq_eqF, zq_em, zq_me, zq_pm, zq_mm, zq_gm, pk_sub, zI_s, zI_k, zI_c, zI_2, zL_s, zL_k, zL_c, zL_1, if_true, if_false, eq_self, Nat.zero_add, Nat.add_zero]
    · obtain ⟨S1, e1, e2, e3⟩ := zm_lay hv hb (show s < 6 by omega) 0 0 (-nI 1) (by rw [if_pos rfl]; rfl)
      obtain ⟨S', f1, f2, f3⟩ := ih (s + 1) S1 e2 (by omega) (by omega)
      refine ⟨S', ?_, f2, zFk_t0 e3 f3⟩
      simp (disch := omega) only [zq_l2, pk_mul, nI_add, zq_t, zq_c, zq_bz, zq_bo, zq_g, zq_cl, zq_leT, zq_leF, zq_ltT, zq_ltF, zq_eqT, zq_eqF, zq_em, zq_me, zq_pm, zq_mm, zq_gm, pk_sub, zI_s, zI_k, zI_c, zI_2, zL_s, zL_k, zL_c, zL_1, if_true, if_false, eq_self, Nat.zero_add, Nat.add_zero, e1]
      exact f1
theorem zm_empties {S : sh_St} {T : zT} (hv : zVN S T) {b : Nat} (hb : b < 40) : ∃ S', fX13_empties S (nI b) = some ((), S') ∧ zVN S' (zgr T b (fun _ => (0, 0)) 6) ∧ zFk 0 S S' := by
  obtain ⟨S', f1, f2, f3⟩ := zm_empties_l hb sh_FU 0 S hv (by omega) (by decide)
  exact ⟨S', f1, f2, f3⟩
theorem zPM_fk {d : Nat} {S S' : sh_St} {P : List zE} (h : zFk d S S') (hP : zPM S P) : zPM S' P := by
  unfold zPM zatM
  rw [h.1 36 (by omega), (h.2.2.2 18 (by omega)).2, (h.2.2.2 19 (by omega)).1, (h.2.2.2 20 (by omega)).1]
  exact hP
theorem zm_fills_l {T : zT} {P : List zE} (hPl : P.length ≤ 240) (hPn : ∀ x, x ∈ P → x.2.1 ≠ 0) {b f c : Nat} (hb : b < 40) (hc : c ≤ 6) (hfc : f + c ≤ P.length) : ∀ (n s : Nat) (S : sh_St), zVN S (zgr T b (zlg P f (f + c)) s) → zPM S P → s ≤ c → c - s < n →
    ∃ S', fX13_fills_8 n S (nI b) (nI f) (nI c) (nI s) = some ((), S') ∧ zVN S' (zgr T b (zlg P f (f + c)) c) ∧ zFk 0 S S' := by
  intro n
  induction n with
  | zero => intro s S _ _ _ h; omega
  | succ n ih =>
    intro s S hv hP h1 h2
    rw [fX13_fills_8]
    by_cases h : s = c
    · subst h
      refine ⟨S, ?_, hv, zFk_rf S⟩
      simp (disch := omega) only [zq_l2, pk_mul, nI_add, zq_t, zq_c, zq_bz, zq_bo, zq_g, zq_cl, zq_leT, zq_leF, zq_ltT, zq_ltF, zq_eqT, zq_eqF, zq_em, zq_me, zq_pm, zq_mm, zq_gm, pk_sub, zI_s, zI_k, zI_c, zI_2, zL_s, zL_k, zL_c, zL_1, if_true, if_false, eq_self, Nat.zero_add, Nat.add_zero]
    · have hk : f + s < P.length := by omega
      have hat := hP.2 (f + s) _ (zP_at hk)
      have hm := hPn _ (List.mem_of_getElem? (zP_at hk))
      have hg : zlg P f (f + c) s = ((P.getD (f + s) (0, 0, 0)).2.1, (P.getD (f + s) (0, 0, 0)).2.2) := if_pos (by omega)
      obtain ⟨S1, e1, e2, e3⟩ := zm_lay hv hb (show s < 6 by omega) (P.getD (f + s) (0, 0, 0)).2.1 (P.getD (f + s) (0, 0, 0)).2.2 (nI (P.getD (f + s) (0, 0, 0)).2.2) (by rw [if_neg hm])
      have e2' : zVN S1 (zgr T b (zlg P f (f + c)) (s + 1)) := by
        show zVM _ _ (zeT _ _ _ _)
        rw [hg]
        exact e2
      obtain ⟨S', f1, f2, f3⟩ := ih (s + 1) S1 e2' (zPM_fk e3 hP) (by omega) (by omega)
      refine ⟨S', ?_, f2, zFk_t0 e3 f3⟩
      simp (disch := omega) only [zq_l2, pk_mul, nI_add, zq_t, zq_c, zq_bz, zq_bo, zq_g, zq_cl, zq_leT, zq_leF, zq_ltT, zq_ltF, zq_eqT, zq_eqF, zq_em, zq_me, zq_pm, zq_mm, zq_gm, pk_sub, zI_s, zI_k, zI_c, zI_2, zL_s, zL_k, zL_c, zL_1, if_true, if_false, eq_self, Nat.zero_add, Nat.add_zero, hat.1, hat.2.1, hat.2.2, e1]
      exact f1
theorem zgr_2 (T : zT) (b : Nat) (g : Nat → Int64 × Nat) (s k : Nat) : (zgr T b g s).2 k = if b * 6 ≤ k ∧ k < b * 6 + s then (g (k - b * 6)).1 else T.2 k := by
  induction s with
  | zero => rw [if_neg (by omega)]; rfl
  | succ s ih =>
    show (zeT _ _ _ _).2 k = _
    by_cases e : k = b * 6 + s
    · subst e
      rw [zeT_2s, if_pos (by omega), show b * 6 + s - b * 6 = s by omega]
    · rw [zeT_2k _ _ _ _ e, ih]
      by_cases c : b * 6 ≤ k ∧ k < b * 6 + s
      · rw [if_pos c, if_pos (by omega)]
      · rw [if_neg c, if_neg (by omega)]
theorem zgr_3 (T : zT) (b : Nat) (g : Nat → Int64 × Nat) (s k : Nat) : (zgr T b g s).1 3 k = if b * 6 ≤ k ∧ k < b * 6 + s then (g (k - b * 6)).2 else T.1 3 k := by
  induction s with
  | zero => rw [if_neg (by omega)]; rfl
  | succ s ih =>
    show (zeT _ _ _ _).1 3 k = _
    by_cases e : k = b * 6 + s
    · subst e
      rw [zeT_s, if_pos (by omega), show b * 6 + s - b * 6 = s by omega]
    · rw [zeT_k _ _ _ _ e, ih]
      by_cases c : b * 6 ≤ k ∧ k < b * 6 + s
      · rw [if_pos c, if_pos (by omega)]
      · rw [if_neg c, if_neg (by omega)]
theorem zm_fills {S : sh_St} {T : zT} (hv : zVN S T) {P : List zE} (hP : zPM S P) (hPl : P.length ≤ 240) (hPn : ∀ x, x ∈ P → x.2.1 ≠ 0) {b f c : Nat} (hb : b < 40) (hc : c ≤ 6) (hfc : f + c ≤ P.length) : ∃ S', fX13_fills S (nI b) (nI f) (nI c) = some ((), S') ∧ zVN S' (zgr T b (zlg P f (f + c)) 6) ∧ zFk 0 S S' := by
  obtain ⟨S1, e1, e2, e3⟩ := zm_empties hv hb
  obtain ⟨S', f1, f2, f3⟩ := zm_fills_l (T := zgr T b (fun _ => (0, 0)) 6) hPl hPn hb hc hfc sh_FU 0 S1 e2 (zPM_fk e3 hP) (by omega) (by have : sh_FU = 100000 := rfl; omega)
  refine ⟨S', ?_, zVM_eq ?_ f2, zFk_t0 e3 f3⟩
  · rw [fX13_fills, e1, zq_c]
    exact f1
  · refine ⟨fun i k hi => ?_, fun k => ?_, fun k hn => ?_⟩
    · rw [zgr_i _ _ _ _ hi, zgr_i _ _ _ _ hi, zgr_i _ _ _ _ hi]
    · rw [zgr_2, zgr_2, zgr_2]
      by_cases c1 : b * 6 ≤ k ∧ k < b * 6 + c
      · rw [if_pos c1, if_pos (by omega)]
      · rw [if_neg c1]
        by_cases c2 : b * 6 ≤ k ∧ k < b * 6 + 6
        · rw [if_pos c2, if_pos c2]
          unfold zlg
          rw [if_neg (by omega)]
        · rw [if_neg c2, if_neg c2]
    · rw [zgr_2, zgr_2] at hn
      rw [zgr_3, zgr_3, zgr_3]
      by_cases c1 : b * 6 ≤ k ∧ k < b * 6 + c
      · rw [if_pos c1, if_pos (by omega)]
      · rw [if_neg c1] at hn ⊢
        by_cases c2 : b * 6 ≤ k ∧ k < b * 6 + 6
        · rw [if_pos c2] at hn
          exact absurd rfl hn
        · rw [if_neg c2, if_neg c2]
