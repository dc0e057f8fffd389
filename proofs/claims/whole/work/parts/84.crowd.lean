/-! crowds -/
theorem zR_t {S S' M M' : sh_St} {T : zT} {B : Nat → Nat} {L : Nat} (h : zR S M T B L) (hs : zFr 116 130 S S') (hg : zRg S') (hm : zMQ M M') : zR S' M' T B L := by
  obtain ⟨hG, hv, hvm, ra, rb1, rb2, rc, rd, re, rg⟩ := h
  refine ⟨hG, zVX_o (fun i h3 h4 => hs i (by omega)) hv, ?_, zRa_cg ra L ra.2.2.1 ?_ (hs 2 (by omega)).1 ?_ (hm.2 14 (by omega) (by omega)).1, ?_, ?_, zRc_cg rc (fun i hi => (hs i (by omega)).1) (fun i h3 h4 => (hm.2 i (by omega) (by omega)).1), zRd_cg rd (fun i h3 h4 => hs i (by omega)) (hm.1 5 (by omega) (by omega)) (hm.2 3 (by omega) (by omega)).1 (hm.2 4 (by omega) (by omega)).2, zRe_cg re ?_ (fun i h3 h4 => hs i (by omega)) (hm.1 10 (by omega) (by omega)) (hm.2 7 (by omega) (by omega)).1 (hm.2 8 (by omega) (by omega)).2, hg⟩
  · unfold zVN
    rw [(hm.2 1 (by omega) (by omega)).1, (hm.2 2 (by omega) (by omega)).2]
    exact hvm
  · rw [(hs 1 (by omega)).1]; exact ra.1
  · rw [hm.1 17 (by omega) (by omega)]; exact ra.2.1
  · rw [(hs 3 (by omega)).1, hm.1 20 (by omega) (by omega)]; exact rb1
  · rw [(hs 0 (by omega)).1, hm.1 21 (by omega) (by omega)]; exact rb2
  · rw [(hs 0 (by omega)).1]
/-- hashes by some key; how many have one -/
def zhk (T : zT) (y k : Nat) : Nat := zhash (T.2 k) (T.1 7 1) y (T.1 7 3)
def zct (T : zT) (y s h : Nat) : Nat := zcnt (fun k => znz T k && decide (zhk T y k = h)) s
theorem zct_t {T : zT} {y s h : Nat} (h0 : T.2 s ≠ 0) (e : zhk T y s = h) : zct T y (s + 1) h = zct T y s h + 1 := zcnt_t (p := fun k => znz T k && decide (zhk T y k = h)) (by rw [znz_t h0, decide_eq_true e]; rfl)
theorem zct_f {T : zT} {y s h : Nat} (e : T.2 s = 0 ∨ zhk T y s ≠ h) : zct T y (s + 1) h = zct T y s h := zcnt_f (p := fun k => znz T k && decide (zhk T y k = h)) (by
  rcases e with e | e
  · show (znz T s && _) = false
    rw [znz_f e]; rfl
  · show (_ && decide (zhk T y s = h)) = false
    rw [decide_eq_false e, Bool.and_false])
theorem zhk_lt {T : zT} (hI : zInv T) (y k : Nat) : zhk T y k < 4096 := zhash_lt12 _ (by have := hI.1; omega) _ _
/-- the tally as the class has it after s spots -/
def zTa (S : sh_St) (T : zT) (y s : Nat) : Prop := S.1 128 4 = nI (zcnt (znz T) s) ∧ (∀ h, h < 4096 → S.1 129 h = nI (zct T y s h)) ∧ (∀ i, i < zcnt (znz T) s → ∃ k, k < s ∧ T.2 k ≠ 0 ∧ S.1 130 i = nI (zhk T y k)) ∧ ∀ k, k < s → T.2 k ≠ 0 → ∃ i, i < zcnt (znz T) s ∧ S.1 130 i = nI (zhk T y k)
theorem zx_tally35 {T : zT} (hI : zInv T) {y : Nat} (hy : y < 65536) : ∀ (n s : Nat) (S : sh_St), zVX S 4 T → s ≤ 240 → 240 - s < n → zTa S T y s → ∃ S', fX8_tallyBy_35 n S (nI y) (nI s) = some ((), S') ∧ zTa S' T y 240 ∧ zFr 128 130 S S' := by
  have h1 := hI.1
  intro n
  induction n with
  | zero => intro s S _ h1 h2; omega
  | succ n ih =>
    intro s S hv hs hn ha
    rw [fX8_tallyBy_35]
    by_cases c : s = 240
    · subst c
      refine ⟨S, ?_, ha, zFr_rf _ _ S⟩
      simp (disch := omega) only [zq_l9, pk_mul, nI_add, zq_t9, zq_c9, zq_bz9, zq_bo9, zq_g, zq_cl, zq_leT, zq_leF, zq_ltT, zq_ltF, zq_eqT, zq_eqF, zq_em, zq_me, zq_pm, zq_mm, zq_gm, pk_sub, zI_s, zI_k, zI_c, zI_2, zL_s, zL_k, zL_c, zL_1, if_true, if_false, eq_self, Nat.zero_add, Nat.add_zero]
    · have hx := zX_n hv (show s < 240 by omega)
      by_cases h9 : T.2 s = 0
      · have e1 : zcnt (znz T) (s + 1) = zcnt (znz T) s := zcnt_f (znz_f h9)
        obtain ⟨S', f1, f2, f3⟩ := ih (s + 1) S hv (by omega) (by omega) (by
          obtain ⟨a1, a2, a3, a4⟩ := ha
          unfold zTa
          rw [e1]
          refine ⟨a1, fun h hh => by rw [zct_f (Or.inl h9)]; exact a2 h hh, fun i hi => ?_, fun k hk hz => ?_⟩
          · obtain ⟨k, k1, k2, k3⟩ := a3 i hi
            exact ⟨k, by omega, k2, k3⟩
          · by_cases e : k = s
            · subst e; exact absurd h9 hz
            · exact a4 k (by omega) hz)
        refine ⟨S', ?_, f2, f3⟩
        simp (disch := omega) only [zq_l9, pk_mul, nI_add, zq_t9, zq_c9, zq_bz9, zq_bo9, zq_g, zq_cl, zq_leT, zq_leF, zq_ltT, zq_ltF, zq_eqT, zq_eqF, zq_em, zq_me, zq_pm, zq_mm, zq_gm, pk_sub, zI_s, zI_k, zI_c, zI_2, zL_s, zL_k, zL_c, zL_1, if_true, if_false, eq_self, Nat.zero_add, Nat.add_zero, hx, h9, fX8_tallyBy_114]
        exact f1
      · have e1 : zcnt (znz T) (s + 1) = zcnt (znz T) s + 1 := zcnt_t (znz_t h9)
        have hc := zcnt_le (znz T) s
        have hlt := zhk_lt hI y s
        have hh := zx_hashBy S (T.2 s) (b := T.1 7 1) (h := y) (fo := T.1 7 3) (by omega) hy (by omega)
        have eh : zhash (T.2 s) (T.1 7 1) y (T.1 7 3) = zhk T y s := rfl
        rw [eh] at hh
        obtain ⟨a1, a2, a3, a4⟩ := id ha
        have hcn : zct T y s (zhk T y s) ≤ s := zcnt_le _ _
        have b1 := a2 (zhk T y s) hlt
        have hb := zX_b hv
        have hf := zX_f hv
        obtain ⟨S', f1, f2, f3⟩ := ih (s + 1) (sh_I (sh_I (sh_I S 129 (zhk T y s) (nI (zct T y s (zhk T y s) + 1))) 130 (zcnt (znz T) s) (nI (zhk T y s))) 128 4 (nI (zcnt (znz T) s + 1))) (zVX_o (fun i h3 h4 => ⟨by rw [zI_c _ 128 4 _ (by omega), zI_c _ 130 _ _ (by omega), zI_c _ 129 _ _ (by omega)], rfl⟩) hv) (by omega) (by omega) (by
          unfold zTa
          rw [e1]
          refine ⟨zI_s _ _ _ _, fun h hh4 => ?_, fun i hi => ?_, fun k hk hz => ?_⟩
          · rw [zI_c _ 128 4 _ (by omega), zI_c _ 130 _ _ (by omega)]
            by_cases e : h = zhk T y s
            · subst e
              rw [zI_s, zct_t h9 rfl]
            · rw [zI_k _ 129 _ _ e, zct_f (Or.inr (fun w => e w.symm))]
              exact a2 h hh4
          · rw [zI_c _ 128 4 _ (by omega)]
            by_cases e : i = zcnt (znz T) s
            · subst e
              exact ⟨s, by omega, h9, zI_s _ _ _ _⟩
            · obtain ⟨k, k1, k2, k3⟩ := a3 i (by omega)
              exact ⟨k, by omega, k2, by rw [zI_k _ 130 _ _ e, zI_c _ 129 _ _ (by omega)]; exact k3⟩
          · rw [zI_c _ 128 4 _ (by omega)]
            by_cases e : k = s
            · subst e
              exact ⟨zcnt (znz T) k, by omega, zI_s _ _ _ _⟩
            · obtain ⟨i, i1, i2⟩ := a4 k (by omega) hz
              exact ⟨i, by omega, by rw [zI_k _ 130 _ _ (by omega), zI_c _ 129 _ _ (by omega)]; exact i2⟩)
        refine ⟨S', ?_, f2, zFr_tr (zFr_tr (zFr_tr (zFr_I S _ _ (by omega) (by omega)) (zFr_I _ _ _ (by omega) (by omega))) (zFr_I _ _ _ (by omega) (by omega))) f3⟩
        simp (disch := omega) only [zq_l9, pk_mul, nI_add, zq_t9, zq_c9, zq_bz9, zq_bo9, zq_g, zq_cl, zq_leT, zq_leF, zq_ltT, zq_ltF, zq_eqT, zq_eqF, zq_em, zq_me, zq_pm, zq_mm, zq_gm, pk_sub, zI_s, zI_k, zI_c, zI_2, zL_s, zL_k, zL_c, zL_1, if_true, if_false, eq_self, Nat.zero_add, Nat.add_zero, hx, h9, hb, hf, hh, b1, a1, fX8_tallyBy_114]
        exact f1
theorem zx_tally2 {T : zT} (hI : zInv T) {y m : Nat} (hy : y < 65536) (hm : m ≤ 240) : ∀ (n i : Nat) (S : sh_St), zVX S 4 T → S.1 128 4 = nI m → (∀ j, j < m → ∃ h, h < 4096 ∧ S.1 130 j = nI h) → i ≤ m → m - i < n → (∀ h, h < 4096 → (∀ j, i ≤ j → j < m → S.1 130 j ≠ nI h) → S.1 129 h = nI 0) → ∃ S', fX8_tallyBy_2 n S (nI y) (nI i) = some ((), S') ∧ zTa S' T y 240 ∧ zFr 128 130 S S' := by
  intro n
  induction n with
  | zero => intro i S _ _ _ h1 h2; omega
  | succ n ih =>
    intro i S hv h4 hd hi hn h0
    rw [fX8_tallyBy_2]
    by_cases c : i = m
    · subst c
      have hv1 : zVX (sh_I S 128 4 (nI 0)) 4 T := zVX_o (fun i h3 h4 => ⟨zI_c _ 128 4 _ (by omega), rfl⟩) hv
      obtain ⟨S', f1, f2, f3⟩ := zx_tally35 hI hy sh_FU 0 (sh_I S 128 4 (nI 0)) hv1 (by omega) (zc_FU _ (by omega)) ⟨zI_s _ _ _ _, fun h hh => by rw [zI_c _ 128 4 _ (by omega)]; exact h0 h hh (fun j a b => by omega), fun i hi => absurd hi (Nat.not_lt_zero i), fun k hk => by omega⟩
      refine ⟨S', ?_, f2, zFr_tr (zFr_I S _ _ (by omega) (by omega)) f3⟩
      simp (disch := omega) only [zq_l9, pk_mul, nI_add, zq_t9, zq_c9, zq_bz9, zq_bo9, zq_g, zq_cl, zq_leT, zq_leF, zq_ltT, zq_ltF, zq_eqT, zq_eqF, zq_em, zq_me, zq_pm, zq_mm, zq_gm, pk_sub, zI_s, zI_k, zI_c, zI_2, zL_s, zL_k, zL_c, zL_1, if_true, if_false, eq_self, Nat.zero_add, Nat.add_zero, h4]
      exact f1
    · obtain ⟨h, hh, e⟩ := hd i (by omega)
      have h130 : (sh_I S 129 h (nI 0)).1 130 = S.1 130 := zI_c _ 129 _ _ (by omega)
      obtain ⟨S', f1, f2, f3⟩ := ih (i + 1) (sh_I S 129 h (nI 0)) (zVX_o (fun i h3 h4 => ⟨zI_c _ 129 _ _ (by omega), rfl⟩) hv) (by rw [zI_c _ 129 _ _ (by omega)]; exact h4) (fun j hj => by rw [h130]; exact hd j hj) (by omega) (by omega) (fun h' hh' q => by
        by_cases w : h' = h
        · subst w; exact zI_s _ _ _ _
        · rw [zI_k _ 129 _ _ w]
          refine h0 h' hh' (fun j a b => ?_)
          by_cases ej : j = i
          · subst ej
            rw [e]
            exact fun z => w ((nI_eq (by omega) (by omega)).mp z).symm
          · have := q j (by omega) b
            rw [h130] at this
            exact this)
      refine ⟨S', ?_, f2, zFr_tr (zFr_I S _ _ (by omega) (by omega)) f3⟩
      simp (disch := omega) only [zq_l9, pk_mul, nI_add, zq_t9, zq_c9, zq_bz9, zq_bo9, zq_g, zq_cl, zq_leT, zq_leF, zq_ltT, zq_ltF, zq_eqT, zq_eqF, zq_em, zq_me, zq_pm, zq_mm, zq_gm, pk_sub, zI_s, zI_k, zI_c, zI_2, zL_s, zL_k, zL_c, zL_1, if_true, if_false, eq_self, Nat.zero_add, Nat.add_zero, h4, e]
      exact f1
theorem zx_tally {S : sh_St} {T : zT} (hv : zVX S 4 T) (hI : zInv T) (hg : zRg S) {y : Nat} (hy : y < 65536) : ∃ S', fX8_tallyBy S (nI y) = some ((), S') ∧ zTa S' T y 240 ∧ zFr 128 130 S S' := by
  obtain ⟨m, m1, m2, m3, m4⟩ := hg
  exact zx_tally2 hI hy m1 sh_FU 0 S hv m2 m3 (by omega) (zc_FU _ (by omega)) (fun h hh q => m4 h hh (fun i hi => q i (by omega) hi))
theorem zTa_g {S : sh_St} {T : zT} (hI : zInv T) {y : Nat} (h : zTa S T y 240) : zRg S := by
  obtain ⟨a1, a2, a3, a4⟩ := h
  refine ⟨zcnt (znz T) 240, zcnt_le _ _, a1, fun i hi => ?_, fun h hh q => ?_⟩
  · obtain ⟨k, k1, k2, k3⟩ := a3 i hi
    exact ⟨_, zhk_lt hI y k, k3⟩
  · rw [a2 h hh]
    have : ∀ s, s ≤ 240 → zct T y s h = 0 := by
      intro s
      induction s with
      | zero => intro _; rfl
      | succ s ih =>
        intro hs
        rw [zct_f, ih (by omega)]
        by_cases z : T.2 s = 0
        · exact Or.inl z
        · right
          intro w
          obtain ⟨i, i1, i2⟩ := a4 s (by omega) z
          rw [w] at i2
          exact q i i1 i2
    rw [this 240 (by omega)]
/-- the most entries of one hash -/
def zCm (T : zT) (y r : Nat) : Prop := (∀ k, k < 240 → T.2 k ≠ 0 → zct T y 240 (zhk T y k) ≤ r) ∧ (r = 0 ∨ ∃ k, k < 240 ∧ T.2 k ≠ 0 ∧ r = zct T y 240 (zhk T y k))
theorem zCm_uq {T : zT} {y r r' : Nat} (h : zCm T y r) (h' : zCm T y r') : r = r' := by
  have key : ∀ a b, zCm T y a → zCm T y b → a ≤ b := fun a b ha hb => by
    rcases ha.2 with e | ⟨k, k1, k2, k3⟩
    · omega
    · have := hb.1 k k1 k2
      omega
  exact Nat.le_antisymm (key r r' h h') (key r' r h' h)
theorem zx_crowd9 {S : sh_St} {T : zT} (hI : zInv T) {y : Nat} (ha : zTa S T y 240) : ∀ (n i r : Nat), i ≤ zcnt (znz T) 240 → zcnt (znz T) 240 - i < n → r ≤ 240 → (∀ j, j < i → ∀ k, k < 240 → T.2 k ≠ 0 → S.1 130 j = nI (zhk T y k) → zct T y 240 (zhk T y k) ≤ r) → (r = 0 ∨ ∃ k, k < 240 ∧ T.2 k ≠ 0 ∧ r = zct T y 240 (zhk T y k)) → ∃ r', fX8_crowdBy_9 n S (nI r) (nI i) = some (nI r', S) ∧ zCm T y r' ∧ r' ≤ 240 := by
  obtain ⟨a1, a2, a3, a4⟩ := ha
  have hc := zcnt_le (znz T) 240
  intro n
  induction n with
  | zero => intro i r h1 h2; omega
  | succ n ih =>
    intro i r h1 h2 hr h3 h4
    rw [fX8_crowdBy_9]
    by_cases c : i = zcnt (znz T) 240
    · subst c
      refine ⟨r, ?_, ⟨fun k hk hz => ?_, h4⟩, hr⟩
      · simp (disch := omega) only [zq_l9, pk_mul, nI_add, zq_t9, zq_c9, zq_bz9, zq_bo9, zq_g, zq_cl, zq_leT, zq_leF, zq_ltT, zq_ltF, zq_eqT, zq_eqF, zq_em, zq_me, zq_pm, zq_mm, zq_gm, pk_sub, zI_s, zI_k, zI_c, zI_2, zL_s, zL_k, zL_c, zL_1, if_true, if_false, eq_self, Nat.zero_add, Nat.add_zero, a1]
      · obtain ⟨j, j1, j2⟩ := a4 k hk hz
        exact h3 j j1 k hk hz j2
    · obtain ⟨k, k1, k2, k3⟩ := a3 i (by omega)
      have hlt := zhk_lt hI y k
      have b1 := a2 _ hlt
      have hcl : zct T y 240 (zhk T y k) ≤ 240 := zcnt_le _ _
      have hnew : ∀ j, j < i + 1 → ∀ k', k' < 240 → T.2 k' ≠ 0 → S.1 130 j = nI (zhk T y k') → zct T y 240 (zhk T y k') ≤ max r (zct T y 240 (zhk T y k)) := fun j hj k' hk' hz' e => by
        by_cases ej : j = i
        · subst ej
          rw [k3] at e
          have := (nI_eq (by have := zhk_lt hI y k; omega) (by have := zhk_lt hI y k'; omega)).mp e
          rw [← this]; omega
        · have := h3 j (by omega) k' hk' hz' e
          omega
      by_cases d : r < zct T y 240 (zhk T y k)
      · rw [show max r (zct T y 240 (zhk T y k)) = zct T y 240 (zhk T y k) by omega] at hnew
        obtain ⟨r', f1, f2, f3⟩ := ih (i + 1) (zct T y 240 (zhk T y k)) (by omega) (by omega) hcl hnew (Or.inr ⟨k, k1, k2, rfl⟩)
        refine ⟨r', ?_, f2, f3⟩
        simp (disch := omega) only [zq_l9, pk_mul, nI_add, zq_t9, zq_c9, zq_bz9, zq_bo9, zq_g, zq_cl, zq_leT, zq_leF, zq_ltT, zq_ltF, zq_eqT, zq_eqF, zq_em, zq_me, zq_pm, zq_mm, zq_gm, pk_sub, zI_s, zI_k, zI_c, zI_2, zL_s, zL_k, zL_c, zL_1, if_true, if_false, eq_self, Nat.zero_add, Nat.add_zero, a1, k3, b1]
        exact f1
      · rw [show max r (zct T y 240 (zhk T y k)) = r by omega] at hnew
        obtain ⟨r', f1, f2, f3⟩ := ih (i + 1) r (by omega) (by omega) hr hnew h4
        refine ⟨r', ?_, f2, f3⟩
        simp (disch := omega) only [zq_l9, pk_mul, nI_add, zq_t9, zq_c9, zq_bz9, zq_bo9, zq_g, zq_cl, zq_leT, zq_leF, zq_ltT, zq_ltF, zq_eqT, zq_eqF, zq_em, zq_me, zq_pm, zq_mm, zq_gm, pk_sub, zI_s, zI_k, zI_c, zI_2, zL_s, zL_k, zL_c, zL_1, if_true, if_false, eq_self, Nat.zero_add, Nat.add_zero, a1, k3, b1]
        exact f1
theorem zx_crowd {S : sh_St} {T : zT} (hv : zVX S 4 T) (hI : zInv T) (hg : zRg S) {y : Nat} (hy : y < 65536) : ∃ r S', fX8_crowdBy S (nI y) = some (nI r, S') ∧ zCm T y r ∧ r ≤ 240 ∧ zRg S' ∧ zFr 128 130 S S' := by
  obtain ⟨S1, f1, f2, f3⟩ := zx_tally hv hI hg hy
  have hc := zcnt_le (znz T) 240
  obtain ⟨r, g1, g2, g3⟩ := zx_crowd9 hI f2 sh_FU 0 0 (by omega) (zc_FU _ (by omega)) (by omega) (fun j hj => by omega) (Or.inl rfl)
  refine ⟨r, S1, ?_, g2, g3, zTa_g hI f2, f3⟩
  rw [fX8_crowdBy]
  simp (disch := omega) only [zq_l9, pk_mul, nI_add, zq_t9, zq_c9, zq_bz9, zq_bo9, zq_g, zq_cl, zq_leT, zq_leF, zq_ltT, zq_ltF, zq_eqT, zq_eqF, zq_em, zq_me, zq_pm, zq_mm, zq_gm, pk_sub, zI_s, zI_k, zI_c, zI_2, zL_s, zL_k, zL_c, zL_1, if_true, if_false, eq_self, Nat.zero_add, Nat.add_zero, f1]
  exact g1
/-! the reference: runs of what is sorted -/
theorem ztk (P : List zE) (q : zE → Bool) : ∀ n, n ≤ P.length → zcnt (fun j => q (P.getD j (0, 0, 0))) n = ((P.take n).filter q).length := by
  intro n
  induction n with
  | zero => intro _; rw [List.take_zero]; rfl
  | succ n ih =>
    intro hn
    have e : P.take (n + 1) = P.take n ++ [P.getD n (0, 0, 0)] := by
      rw [zgetD (show n < P.length by omega)]
      exact List.take_succ_eq_append_getElem (by omega)
    rw [e, List.filter_append, List.length_append, ← ih (by omega)]
    by_cases c : q (P.getD n (0, 0, 0)) = true
    · rw [zcnt_t (p := fun j => q (P.getD j (0, 0, 0))) c, List.filter_cons_of_pos c]
      rfl
    · have c' : q (P.getD n (0, 0, 0)) = false := by
        cases h : q (P.getD n (0, 0, 0)) with
        | true => exact absurd h c
        | false => rfl
      rw [zcnt_f (p := fun j => q (P.getD j (0, 0, 0))) c', List.filter_cons_of_neg c]
      rfl
def zcq (P : List zE) (h k : Nat) : Nat := zcnt (fun j => decide ((P.getD j (0, 0, 0)).1 = h)) k
theorem zcq_mono (P : List zE) (h : Nat) : ∀ d k, zcq P h k ≤ zcq P h (k + d) := by
  intro d
  induction d with
  | zero => intro k; exact Nat.le_refl _
  | succ d ih =>
    intro k
    have := ih k
    by_cases c : decide ((P.getD (k + d) (0, 0, 0)).1 = h) = true
    · have e : zcq P h (k + (d + 1)) = zcq P h (k + d) + 1 := zcnt_t (p := fun j => decide ((P.getD j (0, 0, 0)).1 = h)) c
      omega
    · have e : zcq P h (k + (d + 1)) = zcq P h (k + d) := zcnt_f (p := fun j => decide ((P.getD j (0, 0, 0)).1 = h)) (decide_eq_false (fun w => c (decide_eq_true w)))
      omega
theorem zcq_all (T : zT) (y h : Nat) : zcq (zpc (znz T) (zen T (T.1 7 1) y (T.1 7 3)) 240) h (zpc (znz T) (zen T (T.1 7 1) y (T.1 7 3)) 240).length = zct T y 240 h := by
  have e := ztk (zpc (znz T) (zen T (T.1 7 1) y (T.1 7 3)) 240) (fun x => decide (x.1 = h)) _ (Nat.le_refl _)
  rw [List.take_length, zpc_fil] at e
  exact e.trans (zpc_len _ _ _)
theorem zm_crowd28 {M : sh_St} {P : List zE} (hP : zPM M P) (hl : P.length ≤ 240) (h4 : ∀ x, x ∈ P → x.1 < 4096) (hs : P.Pairwise zle2) : ∀ (n k r v : Nat), k ≤ P.length → P.length - k < n → r ≤ k → v ≤ k → (1 ≤ k → v = zcq P (P.getD (k - 1) (0, 0, 0)).1 k) → (∀ j, j < k → zcq P (P.getD j (0, 0, 0)).1 (j + 1) ≤ r) → (r = 0 ∨ ∃ j, j < k ∧ r = zcq P (P.getD j (0, 0, 0)).1 (j + 1)) → ∃ r', fX13_crowdBy_28 n M (nI r) (nI v) (nI k) = some (nI r', M) ∧ r' ≤ P.length ∧ (∀ j, j < P.length → zcq P (P.getD j (0, 0, 0)).1 (j + 1) ≤ r') ∧ (r' = 0 ∨ ∃ j, j < P.length ∧ r' = zcq P (P.getD j (0, 0, 0)).1 (j + 1)) := by
  intro n
  induction n with
  | zero => intro k r v h1 h2; omega
  | succ n ih =>
    intro k r v hk hn hr hv h1 h2 h3
    have h36 := hP.1
    rw [fX13_crowdBy_28]
    by_cases c : k = P.length
    · subst c
      refine ⟨r, ?_, hr, h2, h3⟩
      simp (disch := omega) only [zq_l9, pk_mul, nI_add, zq_t9, zq_c9, zq_bz9, zq_bo9, zq_g, zq_cl, zq_leT, zq_leF, zq_ltT, zq_ltF, zq_eqT, zq_eqF, zq_em, zq_me, zq_pm, zq_mm, zq_gm, pk_sub, zI_s, zI_k, zI_c, zI_2, zL_s, zL_k, zL_c, zL_1, if_true, if_false, eq_self, Nat.zero_add, Nat.add_zero, h36]
    · have hkl : k < P.length := by omega
      have hq := (hP.2 k _ (zP_at hkl)).1
      have hlt := h4 _ (zmemD hkl)
      have hcs : ∀ h, zcq P h (k + 1) = zcq P h k + (if (P.getD k (0, 0, 0)).1 = h then 1 else 0) := fun h => by
        by_cases w : (P.getD k (0, 0, 0)).1 = h
        · rw [if_pos w]
          exact zcnt_t (p := fun j => decide ((P.getD j (0, 0, 0)).1 = h)) (decide_eq_true w)
        · rw [if_neg w]
          exact zcnt_f (p := fun j => decide ((P.getD j (0, 0, 0)).1 = h)) (decide_eq_false w)
      have hgo : ∀ v', v' ≤ k + 1 → v' = zcq P (P.getD k (0, 0, 0)).1 (k + 1) → ∃ r', fX13_crowdBy_68 (fX13_crowdBy_28 n) M (nI r) (nI k) (nI v') = some (nI r', M) ∧ r' ≤ P.length ∧ (∀ j, j < P.length → zcq P (P.getD j (0, 0, 0)).1 (j + 1) ≤ r') ∧ (r' = 0 ∨ ∃ j, j < P.length ∧ r' = zcq P (P.getD j (0, 0, 0)).1 (j + 1)) := fun v' hv' e => by
        rw [fX13_crowdBy_68]
        have hstep : ∀ r2, r2 = max r v' → ∃ r', fX13_crowdBy_28 n M (nI r2) (nI v') (nI (k + 1)) = some (nI r', M) ∧ r' ≤ P.length ∧ (∀ j, j < P.length → zcq P (P.getD j (0, 0, 0)).1 (j + 1) ≤ r') ∧ (r' = 0 ∨ ∃ j, j < P.length ∧ r' = zcq P (P.getD j (0, 0, 0)).1 (j + 1)) := fun r2 er => by
          refine ih (k + 1) r2 v' (by clear h3; omega) (by clear h3; omega) (by clear h3; omega) hv' (fun _ => by rw [Nat.add_sub_cancel]; exact e) (fun j hj => ?_) ?_
          · by_cases ej : j = k
            · subst ej; rw [← e]; omega
            · have := h2 j (by omega); omega
          · by_cases d : r < v'
            · exact Or.inr ⟨k, by omega, by rw [← e]; omega⟩
            · rcases h3 with z | ⟨j, j1, j2⟩
              · by_cases z2 : v' = 0
                · left; omega
                · exact Or.inr ⟨k, by omega, by rw [← e]; omega⟩
              · exact Or.inr ⟨j, by omega, by omega⟩
        by_cases d : r ≤ v'
        · obtain ⟨r', f1, f2⟩ := hstep v' (by omega)
          refine ⟨r', ?_, f2⟩
          simp (disch := omega) only [zq_l9, pk_mul, nI_add, zq_t9, zq_c9, zq_bz9, zq_bo9, zq_g, zq_cl, zq_leT, zq_leF, zq_ltT, zq_ltF, zq_eqT, zq_eqF, zq_em, zq_me, zq_pm, zq_mm, zq_gm, pk_sub, zI_s, zI_k, zI_c, zI_2, zL_s, zL_k, zL_c, zL_1, if_true, if_false, eq_self, Nat.zero_add, Nat.add_zero, fX13_greater]
          exact f1
        · obtain ⟨r', f1, f2⟩ := hstep r (by omega)
          refine ⟨r', ?_, f2⟩
          simp (disch := omega) only [zq_l9, pk_mul, nI_add, zq_t9, zq_c9, zq_bz9, zq_bo9, zq_g, zq_cl, zq_leT, zq_leF, zq_ltT, zq_ltF, zq_eqT, zq_eqF, zq_em, zq_me, zq_pm, zq_mm, zq_gm, pk_sub, zI_s, zI_k, zI_c, zI_2, zL_s, zL_k, zL_c, zL_1, if_true, if_false, eq_self, Nat.zero_add, Nat.add_zero, fX13_greater]
          exact f1
      by_cases k0 : k = 0
      · subst k0
        obtain ⟨r', f1, f2⟩ := hgo 1 (by omega) (by rw [hcs, if_pos rfl]; rfl)
        refine ⟨r', ?_, f2⟩
        simp (disch := omega) only [zq_l9, pk_mul, nI_add, zq_t9, zq_c9, zq_bz9, zq_bo9, zq_g, zq_cl, zq_leT, zq_leF, zq_ltT, zq_ltF, zq_eqT, zq_eqF, zq_em, zq_me, zq_pm, zq_mm, zq_gm, pk_sub, zI_s, zI_k, zI_c, zI_2, zL_s, zL_k, zL_c, zL_1, if_true, if_false, eq_self, Nat.zero_add, Nat.add_zero, h36, fX13_crowdBy_67]
        exact f1
      · have hq1 := (hP.2 (k - 1) _ (zP_at (show k - 1 < P.length by omega))).1
        have hlt1 := h4 _ (zmemD (show k - 1 < P.length by omega))
        by_cases d : (P.getD k (0, 0, 0)).1 = (P.getD (k - 1) (0, 0, 0)).1
        · obtain ⟨r', f1, f2⟩ := hgo (v + 1) (by omega) (by rw [hcs, if_pos rfl, d, ← h1 (by omega)])
          refine ⟨r', ?_, f2⟩
          simp (disch := omega) only [zq_l9, pk_mul, nI_add, zq_t9, zq_c9, zq_bz9, zq_bo9, zq_g, zq_cl, zq_leT, zq_leF, zq_ltT, zq_ltF, zq_eqT, zq_eqF, zq_em, zq_me, zq_pm, zq_mm, zq_gm, pk_sub, zI_s, zI_k, zI_c, zI_2, zL_s, zL_k, zL_c, zL_1, if_true, if_false, eq_self, Nat.zero_add, Nat.add_zero, h36, hq, hq1, d]
          exact f1
        · have hz : zcq P (P.getD k (0, 0, 0)).1 k = 0 := by
            have : ∀ j, j ≤ k → zcq P (P.getD k (0, 0, 0)).1 j = 0 := by
              intro j
              induction j with
              | zero => intro _; rfl
              | succ j ihj =>
                intro hj
                have e : zcq P (P.getD k (0, 0, 0)).1 (j + 1) = zcq P (P.getD k (0, 0, 0)).1 j := zcnt_f (p := fun i => decide ((P.getD i (0, 0, 0)).1 = (P.getD k (0, 0, 0)).1)) (decide_eq_false (fun w => by
                  have a := (zsrt_at hs (show k - 1 < k by omega) hkl).1
                  by_cases e9 : j = k - 1
                  · rw [e9] at w; exact d w.symm
                  · have b := (zsrt_at hs (show j < k - 1 by omega) (by omega)).1
                    omega))
                rw [e, ihj (by omega)]
            exact this k (Nat.le_refl k)
          obtain ⟨r', f1, f2⟩ := hgo 1 (by omega) (by rw [hcs, if_pos rfl, hz])
          refine ⟨r', ?_, f2⟩
          simp (disch := omega) only [zq_l9, pk_mul, nI_add, zq_t9, zq_c9, zq_bz9, zq_bo9, zq_g, zq_cl, zq_leT, zq_leF, zq_ltT, zq_ltF, zq_eqT, zq_eqF, zq_em, zq_me, zq_pm, zq_mm, zq_gm, pk_sub, zI_s, zI_k, zI_c, zI_2, zL_s, zL_k, zL_c, zL_1, if_true, if_false, eq_self, Nat.zero_add, Nat.add_zero, h36, hq, hq1, fX13_crowdBy_67]
          exact f1
theorem zm_crowd {M : sh_St} {T : zT} (hm : zVN M T) (hI : zInv T) {y : Nat} (hy : y < 65536) : ∃ r M', fX13_crowdBy M (nI y) = some (nI r, M') ∧ zCm T y r ∧ r ≤ 240 ∧ zFm M M' := by
  have h1 := hI.1
  have hb := zM_b hm
  have hf := zM_f hm
  obtain ⟨M1, k1, k2, k3⟩ := zm_sortsAll hm hI (b := T.1 7 1) (y := y) (f := T.1 7 3) (by omega) hy (by omega)
  have hlen : (zpc (znz T) (zen T (T.1 7 1) y (T.1 7 3)) 240).length ≤ 240 := by rw [zpc_len]; exact zcnt_le _ _
  obtain ⟨r, f1, f2, f3, f4⟩ := zm_crowd28 k2 hlen (zpc_lt (by omega)) (zpc_srt _ _ _) sh_FU 0 0 0 (by omega) (zc_FU _ (by omega)) (by omega) (by omega) (fun w => by omega) (fun j hj => by omega) (Or.inl rfl)
  have hall := zcq_all T y
  have hmem : ∀ k, k < 240 → T.2 k ≠ 0 → zen T (T.1 7 1) y (T.1 7 3) k ∈ zpc (znz T) (zen T (T.1 7 1) y (T.1 7 3)) 240 := fun k hk hz => (zpc_pm _ _ _).mem_iff.mpr (List.mem_map.mpr ⟨k, List.mem_filter.mpr ⟨List.mem_range.mpr hk, znz_t hz⟩, rfl⟩)
  have hback : ∀ j, j < (zpc (znz T) (zen T (T.1 7 1) y (T.1 7 3)) 240).length → ∃ k, k < 240 ∧ T.2 k ≠ 0 ∧ ((zpc (znz T) (zen T (T.1 7 1) y (T.1 7 3)) 240).getD j (0, 0, 0)).1 = zhk T y k := fun j hj => by
    obtain ⟨k, a1, a2, a3⟩ := zpc_mem (zmemD hj)
    exact ⟨k, a1, of_decide_eq_true a2, congrArg (fun x => x.1) a3⟩
  generalize zpc (znz T) (zen T (T.1 7 1) y (T.1 7 3)) 240 = P at *
  have htot : ∀ h, (∃ j, j < P.length ∧ (P.getD j (0, 0, 0)).1 = h) → zcq P h P.length ≤ r := fun h hx => by
    -- the last place of the hash
    have hlast : ∀ n, n ≤ P.length → (∃ j, j < n ∧ (P.getD j (0, 0, 0)).1 = h) → zcq P h n ≤ r := by
      intro n
      induction n with
      | zero => intro _ hx; obtain ⟨j, j1, _⟩ := hx; omega
      | succ n ih =>
        intro hn hx
        by_cases w : (P.getD n (0, 0, 0)).1 = h
        · have := f3 n (by omega)
          rw [w] at this
          exact this
        · have e : zcq P h (n + 1) = zcq P h n := zcnt_f (p := fun j => decide ((P.getD j (0, 0, 0)).1 = h)) (decide_eq_false w)
          rw [e]
          refine ih (by omega) ?_
          obtain ⟨j, j1, j2⟩ := hx
          refine ⟨j, ?_, j2⟩
          by_cases ej : j = n
          · subst ej; exact absurd j2 w
          · omega
    exact hlast _ (Nat.le_refl _) hx
  refine ⟨r, M1, ?_, ⟨fun k hk hz => ?_, ?_⟩, by omega, zFs_m k3⟩
  · rw [fX13_crowdBy]
    simp (disch := omega) only [zq_l9, pk_mul, nI_add, zq_t9, zq_c9, zq_bz9, zq_bo9, zq_g, zq_cl, zq_leT, zq_leF, zq_ltT, zq_ltF, zq_eqT, zq_eqF, zq_em, zq_me, zq_pm, zq_mm, zq_gm, pk_sub, zI_s, zI_k, zI_c, zI_2, zL_s, zL_k, zL_c, zL_1, if_true, if_false, eq_self, Nat.zero_add, Nat.add_zero, hb, hf, k1]
    exact f1
  · rw [← hall]
    obtain ⟨i, hi⟩ := List.mem_iff_getElem?.mp (hmem k hk hz)
    refine htot _ ⟨i, (List.getElem?_eq_some_iff.mp hi).1, ?_⟩
    rw [List.getD_eq_getElem?_getD, hi]
    rfl
  · rcases f4 with e | ⟨j, j1, j2⟩
    · exact Or.inl e
    · obtain ⟨k, a1, a2, a3⟩ := hback j j1
      refine Or.inr ⟨k, a1, a2, ?_⟩
      rw [← hall, ← a3]
      have t1 := htot _ ⟨j, j1, rfl⟩
      have t2 := zcq_mono P (P.getD j (0, 0, 0)).1 (P.length - (j + 1)) (j + 1)
      rw [show j + 1 + (P.length - (j + 1)) = P.length by omega] at t2
      omega
