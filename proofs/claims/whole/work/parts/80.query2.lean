/-! feed; entries; readers -/
theorem zand255 (x : Int32) : ∃ b, b < 256 ∧ x &&& 255 = nI b := by
  refine ⟨x.toBitVec.toNat % 2 ^ 8, Nat.mod_lt _ (by decide), ?_⟩
  have e : x = nI x.toBitVec.toNat := by
    show x = Int32.ofNat x.toBitVec.toNat
    apply Int32.toBitVec_inj.mp
    show x.toBitVec = BitVec.ofNat 32 x.toBitVec.toNat
    rw [BitVec.ofNat_toNat, BitVec.setWidth_eq]
  have h := zq_and (a := x.toBitVec.toNat) (b := 8) x.toBitVec.isLt (by omega)
  rw [zq_mask 8 (by omega), ← e] at h
  exact h
def zby (v : Int32) (s : Nat) : Int32 := ((v.toUInt32 >>> (Int32.toUInt32 (nI s) &&& Int32.toUInt32 (nI 31))).toInt32) &&& nI 255
theorem zby_ok (v : Int32) (s : Nat) : ∃ b, b < 256 ∧ zby v s = nI b := zand255 _
def zsf (j : Nat) : Int32 := if j < 4 then nI (24 - 8 * j) else -nI 8
theorem zsf_s : ∀ j, j < 4 → zsf j + -nI 8 = zsf (j + 1) := by decide
theorem zx_app_l {L : Nat} (v : Int32) (hL : L + 4 ≤ 400) : ∀ (n j : Nat) (S : sh_St), j ≤ 4 → 4 - j < n → S.1 1 1 = nI (L + j) → ∃ S', fX9_append_3 n S v (zsf j) = some ((), S') ∧ S'.1 1 1 = nI (L + 4) ∧ (∀ i, j ≤ i → i < 4 → S'.1 2 (L + i) = zby v (24 - 8 * i)) ∧ (∀ k, (k < L + j ∨ L + 4 ≤ k) → S'.1 2 k = S.1 2 k) ∧ S'.2 = S.2 ∧ ∀ i, i ≠ 1 → i ≠ 2 → S'.1 i = S.1 i := by
  intro n
  induction n with
  | zero => intro j S h1 h2; omega
  | succ n ih =>
    intro j S h1 h2 h3
    rw [fX9_append_3]
    by_cases c : j = 4
    · subst c
      refine ⟨S, ?_, h3, fun i a b => by omega, fun _ _ => rfl, rfl, fun _ _ _ => rfl⟩
      have e : zsf 4 = -nI 8 := rfl
      have e2 : (-nI 8 < nI 0) = True := eq_true (by decide)
      simp (disch := omega) only [zq_l9, pk_mul, nI_add, zq_t9, zq_c9, zq_bz9, zq_bo9, zq_g, zq_cl, zq_leT, zq_leF, zq_ltT, zq_ltF, zq_eqT, zq_eqF, zq_em, zq_me, zq_pm, zq_mm, zq_gm, pk_sub, zI_s, zI_k, zI_c, zI_2, zL_s, zL_k, zL_c, zL_1, if_true, if_false, eq_self, Nat.zero_add, Nat.add_zero, e, e2]
    · have ej : zsf j = nI (24 - 8 * j) := if_pos (by omega)
      have es := zsf_s j (by omega)
      rw [ej] at es
      obtain ⟨S', f1, f2, f3, f4, f5, f6⟩ := ih (j + 1) (sh_I (sh_I S 2 (L + j) (zby v (24 - 8 * j))) 1 1 (nI (L + (j + 1)))) (by omega) (by omega) (zI_s _ _ _ _)
      refine ⟨S', ?_, f2, fun i a b => ?_, fun k hk => ?_, f5, fun i a b => ?_⟩
      · have e3 : nI (L + j + 1) = nI (L + (j + 1)) := rfl
        rw [ej]
        unfold zby at f1
        simp (disch := omega) only [zq_l9, pk_mul, nI_add, zq_t9, zq_c9, zq_bz9, zq_bo9, zq_g, zq_cl, zq_leT, zq_leF, zq_ltT, zq_ltF, zq_eqT, zq_eqF, zq_em, zq_me, zq_pm, zq_mm, zq_gm, pk_sub, zI_s, zI_k, zI_c, zI_2, zL_s, zL_k, zL_c, zL_1, if_true, if_false, eq_self, Nat.zero_add, Nat.add_zero, h3, fX9_append_43, es, e3]
        exact f1
      · by_cases e : i = j
        · subst e
          rw [f4 (L + i) (by omega), zI_c _ 1 1 _ (by omega), zI_s]
        · exact f3 i (by omega) b
      · rw [f4 k (by omega), zI_c _ 1 1 _ (by omega), zI_k S 2 _ _ (by omega)]
      · rw [f6 i a b, zI_c _ 1 1 _ a, zI_c S 2 _ _ b]
theorem zx_app {S : sh_St} {L : Nat} (v : Int32) (hL : L + 4 ≤ 400) (h : S.1 1 1 = nI L) : ∃ S', fX9_append S v = some ((), S') ∧ S'.1 1 1 = nI (L + 4) ∧ (∀ i, i < 4 → S'.1 2 (L + i) = zby v (24 - 8 * i)) ∧ (∀ k, (k < L ∨ L + 4 ≤ k) → S'.1 2 k = S.1 2 k) ∧ S'.2 = S.2 ∧ ∀ i, i ≠ 1 → i ≠ 2 → S'.1 i = S.1 i := by
  obtain ⟨S', f1, f2, f3, f4, f5, f6⟩ := zx_app_l v hL sh_FU 0 S (by omega) (by decide) h
  exact ⟨S', f1, f2, fun i hi => f3 i (by omega) hi, fun k hk => f4 k (by omega), f5, f6⟩
def zav5 (a b c d e : Int32) (i : Nat) : Int32 := if i = 0 then a else if i = 1 then b else if i = 2 then c else if i = 3 then d else e
theorem zm_feed_l {L : Nat} (a b c d e : Int32) (hL : L + 20 ≤ 400) : ∀ (n k : Nat) (M : sh_St), k ≤ 20 → 20 - k < n → M.1 0 17 = nI (L + k) → ∃ M', fX13_feed_23 n M a b c d e (nI k) = some (nI (L + 20), M') ∧ M'.1 0 17 = nI (L + 20) ∧ (∀ i, k ≤ i → i < 20 → M'.1 14 (L + i) = zby (zav5 a b c d e (i / 4)) (24 - 8 * (i % 4))) ∧ (∀ j, (j < L + k ∨ L + 20 ≤ j) → M'.1 14 j = M.1 14 j) ∧ (∀ j, j ≠ 17 → M'.1 0 j = M.1 0 j) ∧ M'.2 = M.2 ∧ ∀ i, i ≠ 0 → i ≠ 14 → M'.1 i = M.1 i := by
  intro n
  induction n with
  | zero => intro k M h1 h2; omega
  | succ n ih =>
    intro k M h1 h2 h3
    rw [fX13_feed_23]
    by_cases q : k = 20
    · subst q
      refine ⟨M, ?_, h3, fun i a b => by omega, fun _ _ => rfl, fun _ _ => rfl, rfl, fun _ _ _ => rfl⟩
      simp (disch := omega) only [zq_l9, pk_mul, nI_add, zq_t9, zq_c9, zq_bz9, zq_bo9, zq_g, zq_cl, zq_leT, zq_leF, zq_ltT, zq_ltF, zq_eqT, zq_eqF, zq_em, zq_me, zq_pm, zq_mm, zq_gm, pk_sub, zI_s, zI_k, zI_c, zI_2, zL_s, zL_k, zL_c, zL_1, if_true, if_false, eq_self, Nat.zero_add, Nat.add_zero, h3]
    · obtain ⟨M', f1, f2, f3, f4, f5, f6, f7⟩ := ih (k + 1) (sh_I (sh_I M 14 (L + k) (zby (zav5 a b c d e (k / 4)) (24 - 8 * (k % 4)))) 0 17 (nI (L + (k + 1)))) (by omega) (by omega) (zI_s _ _ _ _)
      refine ⟨M', ?_, f2, fun i x y => ?_, fun j hj => ?_, fun j hj => ?_, f6, fun i x y => ?_⟩
      · have e3 : nI (L + k + 1) = nI (L + (k + 1)) := rfl
        have ek : k - k / 4 * 4 = k % 4 := by omega
        have hdiv : nI k / nI 4 = nI (k / 4) := zq_div4 (by omega)
        have hall : ∀ t, t = zav5 a b c d e (k / 4) → fX13_feed_76 (fX13_feed_23 n) M a b c d e (nI k) t = some (nI (L + 20), M') := fun t et => by
          rw [fX13_feed_76, et]
          unfold zby at f1
          simp (disch := omega) only [zq_l9, pk_mul, nI_add, zq_t9, zq_c9, zq_bz9, zq_bo9, zq_g, zq_cl, zq_leT, zq_leF, zq_ltT, zq_ltF, zq_eqT, zq_eqF, zq_em, zq_me, zq_pm, zq_mm, zq_gm, pk_sub, zI_s, zI_k, zI_c, zI_2, zL_s, zL_k, zL_c, zL_1, if_true, if_false, eq_self, Nat.zero_add, Nat.add_zero, h3, hdiv, ek, e3]
          exact f1
        unfold zav5 at hall
        by_cases c4 : k < 4
        · simp (disch := omega) only [zq_l9, pk_mul, nI_add, zq_t9, zq_c9, zq_bz9, zq_bo9, zq_g, zq_cl, zq_leT, zq_leF, zq_ltT, zq_ltF, zq_eqT, zq_eqF, zq_em, zq_me, zq_pm, zq_mm, zq_gm, pk_sub, zI_s, zI_k, zI_c, zI_2, zL_s, zL_k, zL_c, zL_1, if_true, if_false, eq_self, Nat.zero_add, Nat.add_zero]
          exact hall a (by rw [if_pos (by omega)])
        · by_cases c8 : k < 8
          · simp (disch := omega) only [zq_l9, pk_mul, nI_add, zq_t9, zq_c9, zq_bz9, zq_bo9, zq_g, zq_cl, zq_leT, zq_leF, zq_ltT, zq_ltF, zq_eqT, zq_eqF, zq_em, zq_me, zq_pm, zq_mm, zq_gm, pk_sub, zI_s, zI_k, zI_c, zI_2, zL_s, zL_k, zL_c, zL_1, if_true, if_false, eq_self, Nat.zero_add, Nat.add_zero]
            exact hall b (by rw [if_neg (by omega), if_pos (by omega)])
          · by_cases c12 : k < 12
            · simp (disch := omega) only [zq_l9, pk_mul, nI_add, zq_t9, zq_c9, zq_bz9, zq_bo9, zq_g, zq_cl, zq_leT, zq_leF, zq_ltT, zq_ltF, zq_eqT, zq_eqF, zq_em, zq_me, zq_pm, zq_mm, zq_gm, pk_sub, zI_s, zI_k, zI_c, zI_2, zL_s, zL_k, zL_c, zL_1, if_true, if_false, eq_self, Nat.zero_add, Nat.add_zero]
              exact hall c (by rw [if_neg (by omega), if_neg (by omega), if_pos (by omega)])
            · by_cases c16 : k < 16
              · simp (disch := omega) only [zq_l9, pk_mul, nI_add, zq_t9, zq_c9, zq_bz9, zq_bo9, zq_g, zq_cl, zq_leT, zq_leF, zq_ltT, zq_ltF, zq_eqT, zq_eqF, zq_em, zq_me, zq_pm, zq_mm, zq_gm, pk_sub, zI_s, zI_k, zI_c, zI_2, zL_s, zL_k, zL_c, zL_1, if_true, if_false, eq_self, Nat.zero_add, Nat.add_zero]
                exact hall d (by rw [if_neg (by omega), if_neg (by omega), if_neg (by omega), if_pos (by omega)])
              · simp (disch := omega) only [zq_l9, pk_mul, nI_add, zq_t9, zq_c9, zq_bz9, zq_bo9, zq_g, zq_cl, zq_leT, zq_leF, zq_ltT, zq_ltF, zq_eqT, zq_eqF, zq_em, zq_me, zq_pm, zq_mm, zq_gm, pk_sub, zI_s, zI_k, zI_c, zI_2, zL_s, zL_k, zL_c, zL_1, if_true, if_false, eq_self, Nat.zero_add, Nat.add_zero]
                exact hall e (by rw [if_neg (by omega), if_neg (by omega), if_neg (by omega), if_neg (by omega)])
      · by_cases ei : i = k
        · subst ei
          rw [f4 (L + i) (by omega), zI_c _ 0 17 _ (by omega), zI_s]
        · exact f3 i (by omega) y
      · rw [f4 j (by omega), zI_c _ 0 17 _ (by omega), zI_k M 14 _ _ (by omega)]
      · rw [f5 j hj, zI_k _ 0 17 _ hj, zI_c M 14 _ _ (by omega)]
      · rw [f7 i x y, zI_c _ 0 17 _ x, zI_c M 14 _ _ y]
theorem zc_feed {S M : sh_St} (h : zRR S M) (a b c d e : Int32) : zCB (fX12_feed S a b c d e) (fX13_feed M a b c d e) := by
  obtain ⟨T, B, L, h⟩ := h
  have hh := h
  obtain ⟨hG, hv, hvm, ⟨d1, d2, d3, d4, d5⟩, rb1, rb2, rc, rd, re, rg⟩ := h
  have h17 : (sh_I M 0 0 (nI 0)).1 0 17 = nI L := by rw [zI_k M 0 0 _ (by omega)]; exact d2
  rw [fX12_feed, fX13_feed]
  by_cases q : L + 20 ≤ 400
  · obtain ⟨S1, a1, a2, a3, a4, a5, a6⟩ := zx_app (L := L) a (by omega) d1
    obtain ⟨S2, b1, b2, b3, b4, b5, b6⟩ := zx_app (L := L + 4) b (by omega) a2
    obtain ⟨S3, c1, c2, c3, c4, c5, c6⟩ := zx_app (L := L + 4 + 4) c (by omega) b2
    obtain ⟨S4, e1, e2, e3, e4, e5, e6⟩ := zx_app (L := L + 4 + 4 + 4) d (by omega) c2
    obtain ⟨S5, f1, f2, f3, f4, f5, f6⟩ := zx_app (L := L + 4 + 4 + 4 + 4) e (by omega) e2
    obtain ⟨M', g1, g2, g3, g4, g5, g6, g7⟩ := zm_feed_l (L := L) a b c d e q sh_FU 0 (sh_I M 0 0 (nI 0)) (by omega) (by decide) h17
    have hS : ∀ i, i ≠ 1 → i ≠ 2 → S5.1 i = S.1 i ∧ S5.2 i = S.2 i := fun i x y => ⟨by rw [f6 i x y, e6 i x y, c6 i x y, b6 i x y, a6 i x y], by rw [f5, e5, c5, b5, a5]⟩
    have hn : ∀ i, i < 20 → S5.1 2 (L + i) = zby (zav5 a b c d e (i / 4)) (24 - 8 * (i % 4)) := fun i hi => by
      unfold zav5
      by_cases q4 : i < 4
      · rw [f4 (L + i) (by omega), e4 (L + i) (by omega), c4 (L + i) (by omega), b4 (L + i) (by omega), a3 i q4, if_pos (by omega), show i % 4 = i by omega]
      · by_cases q8 : i < 8
        · have := b3 (i - 4) (by omega)
          rw [show L + 4 + (i - 4) = L + i by omega] at this
          rw [f4 (L + i) (by omega), e4 (L + i) (by omega), c4 (L + i) (by omega), this, if_neg (by omega), if_pos (by omega), show i % 4 = i - 4 by omega]
        · by_cases q12 : i < 12
          · have := c3 (i - 8) (by omega)
            rw [show L + 4 + 4 + (i - 8) = L + i by omega] at this
            rw [f4 (L + i) (by omega), e4 (L + i) (by omega), this, if_neg (by omega), if_neg (by omega), if_pos (by omega), show i % 4 = i - 8 by omega]
          · by_cases q16 : i < 16
            · have := e3 (i - 12) (by omega)
              rw [show L + 4 + 4 + 4 + (i - 12) = L + i by omega] at this
              rw [f4 (L + i) (by omega), this, if_neg (by omega), if_neg (by omega), if_neg (by omega), if_pos (by omega), show i % 4 = i - 12 by omega]
            · have := f3 (i - 16) (by omega)
              rw [show L + 4 + 4 + 4 + 4 + (i - 16) = L + i by omega] at this
              rw [this, if_neg (by omega), if_neg (by omega), if_neg (by omega), if_neg (by omega), show i % 4 = i - 16 by omega]
    have ho : ∀ k, (k < L ∨ L + 20 ≤ k) → S5.1 2 k = S.1 2 k := fun k hk => by rw [f4 k (by omega), e4 k (by omega), c4 k (by omega), b4 k (by omega), a4 k (by omega)]
    have hby := fun i => zby_ok (zav5 a b c d e (i / 4)) (24 - 8 * (i % 4))
    have hB' : ∀ k, ∃ x, x < 256 ∧ (k < 400 → S5.1 2 k = nI x ∧ M'.1 14 k = nI x) := fun k => by
      by_cases w : L ≤ k ∧ k < L + 20
      · obtain ⟨x, x1, x2⟩ := hby (k - L)
        refine ⟨x, x1, fun _ => ?_⟩
        have u1 := hn (k - L) (by omega)
        have u2 := g3 (k - L) (by omega) (by omega)
        rw [show L + (k - L) = k by omega] at u1 u2
        rw [u1, u2]
        exact ⟨x2, x2⟩
      · refine ⟨B k, d4 k, fun hk => ?_⟩
        rw [ho k (by omega), g4 k (by omega), zI_c M 0 0 _ (by omega)]
        exact d5 k hk
    refine ⟨nI (L + 20), S5, M', ?_, ?_, T, fun k => Classical.choose (hB' k), L + 20, hG, zVX_o (fun i h3 h4 => hS i (by omega) (by omega)) hv, ?_, ⟨f2, g2, q, fun k => (Classical.choose_spec (hB' k)).1, fun k hk => (Classical.choose_spec (hB' k)).2 hk⟩, ?_, ?_, ?_, ?_, ?_, ?_⟩
    · simp (disch := omega) only [zq_l9, pk_mul, nI_add, zq_t9, zq_c9, zq_bz9, zq_bo9, zq_g, zq_cl, zq_leT, zq_leF, zq_ltT, zq_ltF, zq_eqT, zq_eqF, zq_em, zq_me, zq_pm, zq_mm, zq_gm, pk_sub, zI_s, zI_k, zI_c, zI_2, zL_s, zL_k, zL_c, zL_1, if_true, if_false, eq_self, Nat.zero_add, Nat.add_zero, d1, a1, b1, c1, e1, f1, f2]
    · simp (disch := omega) only [zq_l9, pk_mul, nI_add, zq_t9, zq_c9, zq_bz9, zq_bo9, zq_g, zq_cl, zq_leT, zq_leF, zq_ltT, zq_ltF, zq_eqT, zq_eqF, zq_em, zq_me, zq_pm, zq_mm, zq_gm, pk_sub, zI_s, zI_k, zI_c, zI_2, zL_s, zL_k, zL_c, zL_1, if_true, if_false, eq_self, Nat.zero_add, Nat.add_zero, d2, h17]
      exact g1
    · unfold zVN
      rw [g7 1 (by omega) (by omega), g6, zI_c M 0 0 _ (by omega), zI_2]
      exact hvm
    · rw [(hS 3 (by omega) (by omega)).1, g5 20 (by omega), zI_k M 0 0 _ (by omega)]; exact rb1
    · rw [(hS 0 (by omega) (by omega)).1, g5 21 (by omega), zI_k M 0 0 _ (by omega)]; exact rb2
    · exact zRc_cg rc (fun i hi => (hS i (by omega) (by omega)).1) (fun i h3 h4 => by rw [g7 i (by omega) (by omega), zI_c M 0 0 _ (by omega)])
    · exact zRd_cg rd (fun i h3 h4 => hS i (by omega) (by omega)) (by rw [g5 5 (by omega), zI_k M 0 0 _ (by omega)]) (by rw [g7 3 (by omega) (by omega), zI_c M 0 0 _ (by omega)]) (by rw [g6]; rfl)
    · exact zRe_cg re (by rw [(hS 0 (by omega) (by omega)).1]) (fun i h3 h4 => hS i (by omega) (by omega)) (by rw [g5 10 (by omega), zI_k M 0 0 _ (by omega)]) (by rw [g7 7 (by omega) (by omega), zI_c M 0 0 _ (by omega)]) (by rw [g6]; rfl)
    · exact zRg_cg rg (fun i h3 h4 => (hS i (by omega) (by omega)).1)
  · refine ⟨-nI 1, S, sh_I M 0 0 (nI 0), ?_, ?_, T, B, L, zR_q hh (zFr_rf _ _ S) (zMQ_0 M _)⟩
    · simp (disch := omega) only [zq_l9, pk_mul, nI_add, zq_t9, zq_c9, zq_bz9, zq_bo9, zq_g, zq_cl, zq_leT, zq_leF, zq_ltT, zq_ltF, zq_eqT, zq_eqF, zq_em, zq_me, zq_pm, zq_mm, zq_gm, pk_sub, zI_s, zI_k, zI_c, zI_2, zL_s, zL_k, zL_c, zL_1, if_true, if_false, eq_self, Nat.zero_add, Nat.add_zero, d1]
    · simp (disch := omega) only [zq_l9, pk_mul, nI_add, zq_t9, zq_c9, zq_bz9, zq_bo9, zq_g, zq_cl, zq_leT, zq_leF, zq_ltT, zq_ltF, zq_eqT, zq_eqF, zq_em, zq_me, zq_pm, zq_mm, zq_gm, pk_sub, zI_s, zI_k, zI_c, zI_2, zL_s, zL_k, zL_c, zL_1, if_true, if_false, eq_self, Nat.zero_add, Nat.add_zero, d2, h17]
/-! entries and letters -/
theorem zx_lets_l (S : sh_St) (n : Int64) : ∀ (m k : Nat), k ≤ 8 → 8 - k < m → fX12_lettersOf_4 m S n (nI (zcnt (fun k => decide (zb n k ≠ 0)) k)) (nI k) = some (nI (zcnt (fun k => decide (zb n k ≠ 0)) 8), S) := by
  intro m
  induction m with
  | zero => intro k h1 h2; omega
  | succ m ih =>
    intro k h1 h2
    rw [fX12_lettersOf_4]
    have hle := zcnt_le (fun k => decide (zb n k ≠ 0)) k
    by_cases c : k = 8
    · subst c
      simp (disch := omega) only [zq_l9, pk_mul, nI_add, zq_t9, zq_c9, zq_bz9, zq_bo9, zq_g, zq_cl, zq_leT, zq_leF, zq_ltT, zq_ltF, zq_eqT, zq_eqF, zq_em, zq_me, zq_pm, zq_mm, zq_gm, pk_sub, zI_s, zI_k, zI_c, zI_2, zL_s, zL_k, zL_c, zL_1, if_true, if_false, eq_self, Nat.zero_add, Nat.add_zero]
    · have hih := ih (k + 1) (by omega) (by omega)
      have hb := zx_codeAt S n (show k < 8 by omega)
      have hlt := zb_lt n k
      by_cases d : zb n k = 0
      · rw [zcnt_f (p := fun k => decide (zb n k ≠ 0)) (decide_eq_false (fun w => w d))] at hih
        rw [d] at hb
        simp (disch := omega) only [zq_l9, pk_mul, nI_add, zq_t9, zq_c9, zq_bz9, zq_bo9, zq_g, zq_cl, zq_leT, zq_leF, zq_ltT, zq_ltF, zq_eqT, zq_eqF, zq_em, zq_me, zq_pm, zq_mm, zq_gm, pk_sub, zI_s, zI_k, zI_c, zI_2, zL_s, zL_k, zL_c, zL_1, if_true, if_false, eq_self, Nat.zero_add, Nat.add_zero, hb, fX12_lettersOf_21]
        exact hih
      · rw [zcnt_t (p := fun k => decide (zb n k ≠ 0)) (decide_eq_true d)] at hih
        simp (disch := omega) only [zq_l9, pk_mul, nI_add, zq_t9, zq_c9, zq_bz9, zq_bo9, zq_g, zq_cl, zq_leT, zq_leF, zq_ltT, zq_ltF, zq_eqT, zq_eqF, zq_em, zq_me, zq_pm, zq_mm, zq_gm, pk_sub, zI_s, zI_k, zI_c, zI_2, zL_s, zL_k, zL_c, zL_1, if_true, if_false, eq_self, Nat.zero_add, Nat.add_zero, hb, fX12_lettersOf_21]
        exact hih
theorem zx_lets (S : sh_St) (n : Int64) : fX12_lettersOf S n = some (nI (zcnt (fun k => decide (zb n k ≠ 0)) 8), S) := by
  rw [fX12_lettersOf]
  exact zx_lets_l S n sh_FU 0 (by omega) (by decide)
theorem zcnt_len {n : Int64} (h : zval n) : zcnt (fun k => decide (zb n k ≠ 0)) 8 = zlen n := by
  have h8 := zlen_le n
  have hx : ∀ k, k ≤ 8 → zcnt (fun k => decide (zb n k ≠ 0)) k = min k (zlen n) := by
    intro k
    induction k with
    | zero => intro _; show 0 = _; omega
    | succ k ih =>
      intro hk
      by_cases c : k < zlen n
      · rw [zcnt_t (p := fun k => decide (zb n k ≠ 0)) (decide_eq_true (zlen_lo n k c)), ih (by omega)]
        omega
      · rw [zcnt_f (p := fun k => decide (zb n k ≠ 0)) (decide_eq_false (fun w => w (h.2.2 k (by omega) (by omega)))), ih (by omega)]
        omega
  rw [hx 8 (by omega)]
  omega
theorem zcnt_0 : zcnt (fun k => decide (zb (0 : Int64) k ≠ 0)) 8 = 0 := by decide +kernel
theorem zx_isSlot (S : sh_St) (v : Int32) : (∀ b, v = nI b → b < 6 → fX12_isSlot S v = some (nI 1, S)) ∧ ((∀ b, b < 6 → v ≠ nI b) → fX12_isSlot S v = some (nI 0, S)) := by
  rw [fX12_isSlot]
  refine ⟨fun b e hb => ?_, fun q => ?_⟩
  · subst e
    simp (disch := omega) only [zq_l9, pk_mul, nI_add, zq_t9, zq_c9, zq_bz9, zq_bo9, zq_g, zq_cl, zq_leT, zq_leF, zq_ltT, zq_ltF, zq_eqT, zq_eqF, zq_em, zq_me, zq_pm, zq_mm, zq_gm, pk_sub, zI_s, zI_k, zI_c, zI_2, zL_s, zL_k, zL_c, zL_1, if_true, if_false, eq_self, Nat.zero_add, Nat.add_zero]
  · rcases zn_cs v with hv | ⟨j, hj, rfl⟩
    · simp (disch := omega) only [zq_l9, pk_mul, nI_add, zq_t9, zq_c9, zq_bz9, zq_bo9, zq_g, zq_cl, zq_leT, zq_leF, zq_ltT, zq_ltF, zq_eqT, zq_eqF, zq_em, zq_me, zq_pm, zq_mm, zq_gm, pk_sub, zI_s, zI_k, zI_c, zI_2, zL_s, zL_k, zL_c, zL_1, if_true, if_false, eq_self, Nat.zero_add, Nat.add_zero, zn_lt hv]
    · have : 6 ≤ j := Nat.le_of_not_lt (fun w => q j w rfl)
      simp (disch := omega) only [zq_l9, pk_mul, nI_add, zq_t9, zq_c9, zq_bz9, zq_bo9, zq_g, zq_cl, zq_leT, zq_leF, zq_ltT, zq_ltF, zq_eqT, zq_eqF, zq_em, zq_me, zq_pm, zq_mm, zq_gm, pk_sub, zI_s, zI_k, zI_c, zI_2, zL_s, zL_k, zL_c, zL_1, if_true, if_false, eq_self, Nat.zero_add, Nat.add_zero]
theorem zm_isPlace (M : sh_St) (v w : Int32) : (∀ b s, v = nI b → b < 40 → w = nI s → s < 6 → fX13_isPlace M v w = some (nI 1, M)) ∧ (((∀ b, b < 40 → v ≠ nI b) ∨ ∀ b, b < 6 → w ≠ nI b) → fX13_isPlace M v w = some (nI 0, M)) := by
  rw [fX13_isPlace]
  refine ⟨fun b s e hb e2 hs => ?_, fun q => ?_⟩
  · subst e2
    have m1 := (zm_isBlock M v).1 b e hb
    have h := zm_within' M (v := s) (lo := 0) (hi := 5) (by omega) (by omega) (by omega)
    rw [if_pos (by omega)] at h
    simp (disch := omega) only [zq_l9, pk_mul, nI_add, zq_t9, zq_c9, zq_bz9, zq_bo9, zq_g, zq_cl, zq_leT, zq_leF, zq_ltT, zq_ltF, zq_eqT, zq_eqF, zq_em, zq_me, zq_pm, zq_mm, zq_gm, pk_sub, zI_s, zI_k, zI_c, zI_2, zL_s, zL_k, zL_c, zL_1, if_true, if_false, eq_self, Nat.zero_add, Nat.add_zero, m1, h]
  · rcases zblk v 40 (by omega) with ⟨b, e, hb⟩ | q1
    · have m1 := (zm_isBlock M v).1 b e hb
      have q2 : ∀ b, b < 6 → w ≠ nI b := by
        rcases q with q | q
        · exact absurd e (q b hb)
        · exact q
      have h : fX13_isIn M w (nI 0) (nI 5) = some (nI 0, M) := by
        rcases zn_cs w with hv | ⟨j, hj, rfl⟩
        · exact zn_isIn M hv (by omega)
        · have := zm_within' M (v := j) (lo := 0) (hi := 5) hj (by omega) (by omega)
          rw [if_neg (fun z => q2 j (by omega) rfl)] at this
          exact this
      simp (disch := omega) only [zq_l9, pk_mul, nI_add, zq_t9, zq_c9, zq_bz9, zq_bo9, zq_g, zq_cl, zq_leT, zq_leF, zq_ltT, zq_ltF, zq_eqT, zq_eqF, zq_em, zq_me, zq_pm, zq_mm, zq_gm, pk_sub, zI_s, zI_k, zI_c, zI_2, zL_s, zL_k, zL_c, zL_1, if_true, if_false, eq_self, Nat.zero_add, Nat.add_zero, m1, h]
    · have m1 := (zm_isBlock M v).2 q1
      simp (disch := omega) only [zq_l9, pk_mul, nI_add, zq_t9, zq_c9, zq_bz9, zq_bo9, zq_g, zq_cl, zq_leT, zq_leF, zq_ltT, zq_ltF, zq_eqT, zq_eqF, zq_em, zq_me, zq_pm, zq_mm, zq_gm, pk_sub, zI_s, zI_k, zI_c, zI_2, zL_s, zL_k, zL_c, zL_1, if_true, if_false, eq_self, Nat.zero_add, Nat.add_zero, m1]
theorem zm_hasEntry {M : sh_St} {T : zT} (hm : zVN M T) (hI : zInv T) {b s : Nat} (hb : b < 40) (hs : s < 6) : fX13_hasEntry M (nI b) (nI s) = some (nI (if T.2 (b * 6 + s) = 0 then 0 else 1), M) := by
  rw [fX13_hasEntry]
  have mk := zM_k hm hb
  have b1 := (hI.2.1 b hb).1
  by_cases c : T.2 (b * 6 + s) = 0
  · rw [if_pos c]
    have he := zm_isEmpty_t hm hI hb hs c
    by_cases c1 : T.1 0 b = 1
    · simp (disch := omega) only [zq_l9, pk_mul, nI_add, zq_t9, zq_c9, zq_bz9, zq_bo9, zq_g, zq_cl, zq_leT, zq_leF, zq_ltT, zq_ltF, zq_eqT, zq_eqF, zq_em, zq_me, zq_pm, zq_mm, zq_gm, pk_sub, zI_s, zI_k, zI_c, zI_2, zL_s, zL_k, zL_c, zL_1, if_true, if_false, eq_self, Nat.zero_add, Nat.add_zero, mk, c1, he]
    · simp (disch := omega) only [zq_l9, pk_mul, nI_add, zq_t9, zq_c9, zq_bz9, zq_bo9, zq_g, zq_cl, zq_leT, zq_leF, zq_ltT, zq_ltF, zq_eqT, zq_eqF, zq_em, zq_me, zq_pm, zq_mm, zq_gm, pk_sub, zI_s, zI_k, zI_c, zI_2, zL_s, zL_k, zL_c, zL_1, if_true, if_false, eq_self, Nat.zero_add, Nat.add_zero, mk]
  · rw [if_neg c]
    have he := zm_isEmpty_f hm hI hb hs c
    have c1 : T.1 0 b = 1 := by
      have := (hI.2.2.1 (b * 6 + s) (by omega) c).2.2
      rw [show (b * 6 + s) / 6 = b by omega] at this
      exact this
    simp (disch := omega) only [zq_l9, pk_mul, nI_add, zq_t9, zq_c9, zq_bz9, zq_bo9, zq_g, zq_cl, zq_leT, zq_leF, zq_ltT, zq_ltF, zq_eqT, zq_eqF, zq_em, zq_me, zq_pm, zq_mm, zq_gm, pk_sub, zI_s, zI_k, zI_c, zI_2, zL_s, zL_k, zL_c, zL_1, if_true, if_false, eq_self, Nat.zero_add, Nat.add_zero, mk, c1, he]
theorem zc_entry {S M : sh_St} (h : zRR S M) (v s w : Int32) : zCA ["java/lang/IndexOutOfBoundsException", "java/util/NoSuchElementException"] (fX12_entry S v s w) (fX13_entry M v s w) := by
  obtain ⟨T, B, L, h⟩ := h
  have hI := h.1.1
  have h0 : ∀ t, zR S (sh_I M 0 0 t) T B L := fun t => zR_q h (zFr_rf _ _ S) (zMQ_0 M _)
  have hm := (h0 (nI 0)).2.2.1
  rw [fX12_entry, fX13_entry]
  have hbad : ∀ f g, f = some (.inr "java/lang/IndexOutOfBoundsException", S) → g = some (nI 0, sh_I M 0 0 (nI 1)) → zCA ["java/lang/IndexOutOfBoundsException", "java/util/NoSuchElementException"] f g := fun f g a b => ⟨_, _, _, _, a, b, Or.inr ⟨0, _, rfl, rfl, zI_s _ _ _ _⟩, T, B, L, h0 _⟩
  rcases zblk v 40 (by omega) with ⟨b, rfl, hb⟩ | q
  · have x1 := (zx_isBlock S (nI b)).1 b rfl hb
    rcases zblk s 6 (by omega) with ⟨k, rfl, hk⟩ | q
    · have x2 := (zx_isSlot S (nI k)).1 k rfl hk
      have m1 := (zm_isPlace M (nI b) (nI k)).1 b k rfl hb rfl hk
      have xn := zX_n h.2.1 (show b * 6 + k < 240 by omega)
      have mn := zM_n hm (show b * 6 + k < 240 by omega)
      have e6 : 6 * b + k = b * 6 + k := by omega
      have he := zm_hasEntry hm hI hb hk
      rcases zrng w 0 2 with ⟨j, rfl, _, hj⟩ | q
      · have hin := zm_within' M (v := j) (lo := 0) (hi := 2) (by omega) (by omega) (by omega)
        rw [if_pos (by omega)] at hin
        by_cases c : T.2 (b * 6 + k) = 0
        · rw [if_pos c] at he
          rw [c] at xn
          refine ⟨_, S, -nI 1, sh_I M 0 0 (nI 0), ?_, ?_, Or.inl ⟨rfl, zI_s _ _ _ _⟩, T, B, L, h0 _⟩
          · simp (disch := omega) only [zq_l9, pk_mul, nI_add, zq_t9, zq_c9, zq_bz9, zq_bo9, zq_g, zq_cl, zq_leT, zq_leF, zq_ltT, zq_ltF, zq_eqT, zq_eqF, zq_em, zq_me, zq_pm, zq_mm, zq_gm, pk_sub, zI_s, zI_k, zI_c, zI_2, zL_s, zL_k, zL_c, zL_1, if_true, if_false, eq_self, Nat.zero_add, Nat.add_zero, x1, x2, xn]
          · simp (disch := omega) only [zq_l9, pk_mul, nI_add, zq_t9, zq_c9, zq_bz9, zq_bo9, zq_g, zq_cl, zq_leT, zq_leF, zq_ltT, zq_ltF, zq_eqT, zq_eqF, zq_em, zq_me, zq_pm, zq_mm, zq_gm, pk_sub, zI_s, zI_k, zI_c, zI_2, zL_s, zL_k, zL_c, zL_1, if_true, if_false, eq_self, Nat.zero_add, Nat.add_zero, m1, hin, fX13_entry_27, he]
        · rw [if_neg c] at he
          have xd := zX_d h.2.1 (show b * 6 + k < 240 by omega) c
          have xh := zX_h h.2.1 (show b * 6 + k < 240 by omega) c
          have md := zM_d h.2.2.1 (show b * 6 + k < 240 by omega) c
          have hva := zInv_va hI (show b * 6 + k < 240 by omega) c
          have cn : ¬ T.2 (b * 6 + k) = 0 := c
          have mn' := zM_n h.2.2.1 (show b * 6 + k < 240 by omega)
          have hc : j = 0 ∨ j = 1 ∨ j = 2 := by omega
          rcases hc with e | e | e <;> subst e
          · refine ⟨_, S, nI (T.1 3 (b * 6 + k)), sh_I M 0 0 (nI 0), ?_, ?_, Or.inl ⟨rfl, zI_s _ _ _ _⟩, T, B, L, h0 _⟩
            · simp (disch := omega) only [zq_l9, pk_mul, nI_add, zq_t9, zq_c9, zq_bz9, zq_bo9, zq_g, zq_cl, zq_leT, zq_leF, zq_ltT, zq_ltF, zq_eqT, zq_eqF, zq_em, zq_me, zq_pm, zq_mm, zq_gm, pk_sub, zI_s, zI_k, zI_c, zI_2, zL_s, zL_k, zL_c, zL_1, if_true, if_false, eq_self, Nat.zero_add, Nat.add_zero, x1, x2, xn, cn, xd]
            · simp (disch := omega) only [zq_l9, pk_mul, nI_add, zq_t9, zq_c9, zq_bz9, zq_bo9, zq_g, zq_cl, zq_leT, zq_leF, zq_ltT, zq_ltF, zq_eqT, zq_eqF, zq_em, zq_me, zq_pm, zq_mm, zq_gm, pk_sub, zI_s, zI_k, zI_c, zI_2, zL_s, zL_k, zL_c, zL_1, if_true, if_false, eq_self, Nat.zero_add, Nat.add_zero, m1, hin, fX13_entry_27, he, fX13_slotAt, e6, md]
          · refine ⟨_, S, nI (zha T (T.2 (b * 6 + k))), sh_I M 0 0 (nI 0), ?_, ?_, Or.inl ⟨rfl, zI_s _ _ _ _⟩, T, B, L, h0 _⟩
            · simp (disch := omega) only [zq_l9, pk_mul, nI_add, zq_t9, zq_c9, zq_bz9, zq_bo9, zq_g, zq_cl, zq_leT, zq_leF, zq_ltT, zq_ltF, zq_eqT, zq_eqF, zq_em, zq_me, zq_pm, zq_mm, zq_gm, pk_sub, zI_s, zI_k, zI_c, zI_2, zL_s, zL_k, zL_c, zL_1, if_true, if_false, eq_self, Nat.zero_add, Nat.add_zero, x1, x2, xn, cn, xh]
            · have hh := zm_hashOf hm hI hva
              simp (disch := omega) only [zq_l9, pk_mul, nI_add, zq_t9, zq_c9, zq_bz9, zq_bo9, zq_g, zq_cl, zq_leT, zq_leF, zq_ltT, zq_ltF, zq_eqT, zq_eqF, zq_em, zq_me, zq_pm, zq_mm, zq_gm, pk_sub, zI_s, zI_k, zI_c, zI_2, zL_s, zL_k, zL_c, zL_1, if_true, if_false, eq_self, Nat.zero_add, Nat.add_zero, m1, hin, fX13_entry_27, he, fX13_slotAt, e6, mn', hh]
          · refine ⟨_, S, nI (zlen (T.2 (b * 6 + k))), sh_I M 0 0 (nI 0), ?_, ?_, Or.inl ⟨rfl, zI_s _ _ _ _⟩, T, B, L, h0 _⟩
            · have hl := zx_lets S (T.2 (b * 6 + k))
              rw [zcnt_len hva] at hl
              simp (disch := omega) only [zq_l9, pk_mul, nI_add, zq_t9, zq_c9, zq_bz9, zq_bo9, zq_g, zq_cl, zq_leT, zq_leF, zq_ltT, zq_ltF, zq_eqT, zq_eqF, zq_em, zq_me, zq_pm, zq_mm, zq_gm, pk_sub, zI_s, zI_k, zI_c, zI_2, zL_s, zL_k, zL_c, zL_1, if_true, if_false, eq_self, Nat.zero_add, Nat.add_zero, x1, x2, xn, cn, hl]
            · have hh := zm_longOf (sh_I M 0 0 (nI 0)) (T.2 (b * 6 + k))
              simp (disch := omega) only [zq_l9, pk_mul, nI_add, zq_t9, zq_c9, zq_bz9, zq_bo9, zq_g, zq_cl, zq_leT, zq_leF, zq_ltT, zq_ltF, zq_eqT, zq_eqF, zq_em, zq_me, zq_pm, zq_mm, zq_gm, pk_sub, zI_s, zI_k, zI_c, zI_2, zL_s, zL_k, zL_c, zL_1, if_true, if_false, eq_self, Nat.zero_add, Nat.add_zero, m1, hin, fX13_entry_27, he, fX13_slotAt, e6, mn', hh]
      · have hin : fX13_isIn M w (nI 0) (nI 2) = some (nI 0, M) := by
          rcases zn_cs w with hv | ⟨j, hj, rfl⟩
          · exact zn_isIn M hv (by omega)
          · have := zm_within' M (v := j) (lo := 0) (hi := 2) hj (by omega) (by omega)
            rw [if_neg (fun z => q j z.1 z.2 rfl)] at this
            exact this
        refine ⟨.inr "java/util/NoSuchElementException", S, nI 0, sh_I M 0 0 (nI 2), ?_, ?_, Or.inr ⟨1, _, rfl, rfl, zI_s _ _ _ _⟩, T, B, L, h0 _⟩
        · rcases zn_cs w with hv' | ⟨j, hj, rfl⟩
          · simp (disch := omega) only [zq_l9, pk_mul, nI_add, zq_t9, zq_c9, zq_bz9, zq_bo9, zq_g, zq_cl, zq_leT, zq_leF, zq_ltT, zq_ltF, zq_eqT, zq_eqF, zq_em, zq_me, zq_pm, zq_mm, zq_gm, pk_sub, zI_s, zI_k, zI_c, zI_2, zL_s, zL_k, zL_c, zL_1, if_true, if_false, eq_self, Nat.zero_add, Nat.add_zero, x1, x2, zn_lt hv', fX12_entry_33]
          · have : 2 < j := Nat.lt_of_not_le (fun z => q j (by omega) z rfl)
            simp (disch := omega) only [zq_l9, pk_mul, nI_add, zq_t9, zq_c9, zq_bz9, zq_bo9, zq_g, zq_cl, zq_leT, zq_leF, zq_ltT, zq_ltF, zq_eqT, zq_eqF, zq_em, zq_me, zq_pm, zq_mm, zq_gm, pk_sub, zI_s, zI_k, zI_c, zI_2, zL_s, zL_k, zL_c, zL_1, if_true, if_false, eq_self, Nat.zero_add, Nat.add_zero, x1, x2, fX12_entry_33]
        · simp (disch := omega) only [zq_l9, pk_mul, nI_add, zq_t9, zq_c9, zq_bz9, zq_bo9, zq_g, zq_cl, zq_leT, zq_leF, zq_ltT, zq_ltF, zq_eqT, zq_eqF, zq_em, zq_me, zq_pm, zq_mm, zq_gm, pk_sub, zI_s, zI_k, zI_c, zI_2, zL_s, zL_k, zL_c, zL_1, if_true, if_false, eq_self, Nat.zero_add, Nat.add_zero, m1, hin, fX13_entry_27]
    · have x2 := (zx_isSlot S s).2 q
      have m1 := (zm_isPlace M (nI b) s).2 (Or.inr q)
      refine hbad _ _ ?_ ?_
      · simp (disch := omega) only [zq_l9, pk_mul, nI_add, zq_t9, zq_c9, zq_bz9, zq_bo9, zq_g, zq_cl, zq_leT, zq_leF, zq_ltT, zq_ltF, zq_eqT, zq_eqF, zq_em, zq_me, zq_pm, zq_mm, zq_gm, pk_sub, zI_s, zI_k, zI_c, zI_2, zL_s, zL_k, zL_c, zL_1, if_true, if_false, eq_self, Nat.zero_add, Nat.add_zero, x1, x2, fX12_entry_14]
      · simp (disch := omega) only [zq_l9, pk_mul, nI_add, zq_t9, zq_c9, zq_bz9, zq_bo9, zq_g, zq_cl, zq_leT, zq_leF, zq_ltT, zq_ltF, zq_eqT, zq_eqF, zq_em, zq_me, zq_pm, zq_mm, zq_gm, pk_sub, zI_s, zI_k, zI_c, zI_2, zL_s, zL_k, zL_c, zL_1, if_true, if_false, eq_self, Nat.zero_add, Nat.add_zero, m1, fX13_entry_27]
  · have x1 := (zx_isBlock S v).2 q
    have m1 := (zm_isPlace M v s).2 (Or.inl q)
    refine hbad _ _ ?_ ?_
    · simp (disch := omega) only [zq_l9, pk_mul, nI_add, zq_t9, zq_c9, zq_bz9, zq_bo9, zq_g, zq_cl, zq_leT, zq_leF, zq_ltT, zq_ltF, zq_eqT, zq_eqF, zq_em, zq_me, zq_pm, zq_mm, zq_gm, pk_sub, zI_s, zI_k, zI_c, zI_2, zL_s, zL_k, zL_c, zL_1, if_true, if_false, eq_self, Nat.zero_add, Nat.add_zero, x1, fX12_entry_14]
    · simp (disch := omega) only [zq_l9, pk_mul, nI_add, zq_t9, zq_c9, zq_bz9, zq_bo9, zq_g, zq_cl, zq_leT, zq_leF, zq_ltT, zq_ltF, zq_eqT, zq_eqF, zq_em, zq_me, zq_pm, zq_mm, zq_gm, pk_sub, zI_s, zI_k, zI_c, zI_2, zL_s, zL_k, zL_c, zL_1, if_true, if_false, eq_self, Nat.zero_add, Nat.add_zero, m1, fX13_entry_27]
theorem zc_letter {S M : sh_St} (h : zRR S M) (v s w : Int32) : zCA ["java/lang/IndexOutOfBoundsException"] (fX12_letter S v s w) (fX13_letter M v s w) := by
  obtain ⟨T, B, L, h⟩ := h
  have hI := h.1.1
  have h0 : ∀ t, zR S (sh_I M 0 0 t) T B L := fun t => zR_q h (zFr_rf _ _ S) (zMQ_0 M _)
  have hm := (h0 (nI 0)).2.2.1
  rw [fX12_letter, fX13_letter]
  have hbad : ∀ f g, f = some (.inr "java/lang/IndexOutOfBoundsException", S) → g = some (nI 0, sh_I M 0 0 (nI 1)) → zCA ["java/lang/IndexOutOfBoundsException"] f g := fun f g a b => ⟨_, _, _, _, a, b, Or.inr ⟨0, _, rfl, rfl, zI_s _ _ _ _⟩, T, B, L, h0 _⟩
  rcases zblk v 40 (by omega) with ⟨b, rfl, hb⟩ | q
  · have x1 := (zx_isBlock S (nI b)).1 b rfl hb
    rcases zblk s 6 (by omega) with ⟨k, rfl, hk⟩ | q
    · have x2 := (zx_isSlot S (nI k)).1 k rfl hk
      have m1 := (zm_isPlace M (nI b) (nI k)).1 b k rfl hb rfl hk
      have xn := zX_n h.2.1 (show b * 6 + k < 240 by omega)
      have mn := zM_n h.2.2.1 (show b * 6 + k < 240 by omega)
      have e6 : 6 * b + k = b * 6 + k := by omega
      have he := zm_hasEntry hm hI hb hk
      have hl := zx_lets S (T.2 (b * 6 + k))
      by_cases c : T.2 (b * 6 + k) = 0
      · rw [if_pos c] at he
        rw [c, zcnt_0] at hl
        rw [c] at xn
        refine ⟨_, S, -nI 1, sh_I M 0 0 (nI 0), ?_, ?_, Or.inl ⟨rfl, zI_s _ _ _ _⟩, T, B, L, h0 _⟩
        · rcases zn_cs w with hv' | ⟨j, hj, rfl⟩
          · simp (disch := omega) only [zq_l9, pk_mul, nI_add, zq_t9, zq_c9, zq_bz9, zq_bo9, zq_g, zq_cl, zq_leT, zq_leF, zq_ltT, zq_ltF, zq_eqT, zq_eqF, zq_em, zq_me, zq_pm, zq_mm, zq_gm, pk_sub, zI_s, zI_k, zI_c, zI_2, zL_s, zL_k, zL_c, zL_1, if_true, if_false, eq_self, Nat.zero_add, Nat.add_zero, x1, x2, xn, zn_lt hv']
          · simp (disch := omega) only [zq_l9, pk_mul, nI_add, zq_t9, zq_c9, zq_bz9, zq_bo9, zq_g, zq_cl, zq_leT, zq_leF, zq_ltT, zq_ltF, zq_eqT, zq_eqF, zq_em, zq_me, zq_pm, zq_mm, zq_gm, pk_sub, zI_s, zI_k, zI_c, zI_2, zL_s, zL_k, zL_c, zL_1, if_true, if_false, eq_self, Nat.zero_add, Nat.add_zero, x1, x2, xn, hl]
        · simp (disch := omega) only [zq_l9, pk_mul, nI_add, zq_t9, zq_c9, zq_bz9, zq_bo9, zq_g, zq_cl, zq_leT, zq_leF, zq_ltT, zq_ltF, zq_eqT, zq_eqF, zq_em, zq_me, zq_pm, zq_mm, zq_gm, pk_sub, zI_s, zI_k, zI_c, zI_2, zL_s, zL_k, zL_c, zL_1, if_true, if_false, eq_self, Nat.zero_add, Nat.add_zero, m1, fX13_letter_14, he, fX13_letter_33]
      · rw [if_neg c] at he
        have hva := zInv_va hI (show b * 6 + k < 240 by omega) c
        rw [zcnt_len hva] at hl
        have h8 := zlen_le (T.2 (b * 6 + k))
        have h1 := hva.1
        have hh := zm_longOf (sh_I M 0 0 (nI 0)) (T.2 (b * 6 + k))
        rcases zblk w (zlen (T.2 (b * 6 + k))) (by omega) with ⟨j, rfl, hj⟩ | q
        · have hin := zm_within' (sh_I M 0 0 (nI 0)) (v := j) (lo := 0) (hi := zlen (T.2 (b * 6 + k)) - 1) (by omega) (by omega) (by omega)
          rw [if_pos (by omega)] at hin
          have hx := zx_codeAt S (T.2 (b * 6 + k)) (show j < 8 by omega)
          have hy := zm_letterOf (sh_I M 0 0 (nI 0)) (T.2 (b * 6 + k)) (show j < 8 by omega)
          refine ⟨_, S, nI (zb (T.2 (b * 6 + k)) j), sh_I M 0 0 (nI 0), ?_, ?_, Or.inl ⟨rfl, zI_s _ _ _ _⟩, T, B, L, h0 _⟩
          · simp (disch := omega) only [zq_l9, pk_mul, nI_add, zq_t9, zq_c9, zq_bz9, zq_bo9, zq_g, zq_cl, zq_leT, zq_leF, zq_ltT, zq_ltF, zq_eqT, zq_eqF, zq_em, zq_me, zq_pm, zq_mm, zq_gm, pk_sub, zI_s, zI_k, zI_c, zI_2, zL_s, zL_k, zL_c, zL_1, if_true, if_false, eq_self, Nat.zero_add, Nat.add_zero, x1, x2, xn, hl, hx]
          · simp (disch := omega) only [zq_l9, pk_mul, nI_add, zq_t9, zq_c9, zq_bz9, zq_bo9, zq_g, zq_cl, zq_leT, zq_leF, zq_ltT, zq_ltF, zq_eqT, zq_eqF, zq_em, zq_me, zq_pm, zq_mm, zq_gm, pk_sub, zI_s, zI_k, zI_c, zI_2, zL_s, zL_k, zL_c, zL_1, if_true, if_false, eq_self, Nat.zero_add, Nat.add_zero, m1, fX13_letter_14, he, fX13_slotAt, e6, mn, hh, hin, hy]
        · have hin : fX13_isIn (sh_I M 0 0 (nI 0)) w (nI 0) (nI (zlen (T.2 (b * 6 + k)) - 1)) = some (nI 0, sh_I M 0 0 (nI 0)) := by
            rcases zn_cs w with hv | ⟨j, hj, rfl⟩
            · exact zn_isIn _ hv (by omega)
            · have := zm_within' (sh_I M 0 0 (nI 0)) (v := j) (lo := 0) (hi := zlen (T.2 (b * 6 + k)) - 1) hj (by omega) (by omega)
              rw [if_neg (fun z => q j (by omega) rfl)] at this
              exact this
          refine ⟨_, S, -nI 1, sh_I M 0 0 (nI 0), ?_, ?_, Or.inl ⟨rfl, zI_s _ _ _ _⟩, T, B, L, h0 _⟩
          · rcases zn_cs w with hv' | ⟨j, hj, rfl⟩
            · simp (disch := omega) only [zq_l9, pk_mul, nI_add, zq_t9, zq_c9, zq_bz9, zq_bo9, zq_g, zq_cl, zq_leT, zq_leF, zq_ltT, zq_ltF, zq_eqT, zq_eqF, zq_em, zq_me, zq_pm, zq_mm, zq_gm, pk_sub, zI_s, zI_k, zI_c, zI_2, zL_s, zL_k, zL_c, zL_1, if_true, if_false, eq_self, Nat.zero_add, Nat.add_zero, x1, x2, xn, zn_lt hv']
            · have : zlen (T.2 (b * 6 + k)) ≤ j := Nat.le_of_not_lt (fun z => q j z rfl)
              simp (disch := omega) only [zq_l9, pk_mul, nI_add, zq_t9, zq_c9, zq_bz9, zq_bo9, zq_g, zq_cl, zq_leT, zq_leF, zq_ltT, zq_ltF, zq_eqT, zq_eqF, zq_em, zq_me, zq_pm, zq_mm, zq_gm, pk_sub, zI_s, zI_k, zI_c, zI_2, zL_s, zL_k, zL_c, zL_1, if_true, if_false, eq_self, Nat.zero_add, Nat.add_zero, x1, x2, xn, hl]
          · simp (disch := omega) only [zq_l9, pk_mul, nI_add, zq_t9, zq_c9, zq_bz9, zq_bo9, zq_g, zq_cl, zq_leT, zq_leF, zq_ltT, zq_ltF, zq_eqT, zq_eqF, zq_em, zq_me, zq_pm, zq_mm, zq_gm, pk_sub, zI_s, zI_k, zI_c, zI_2, zL_s, zL_k, zL_c, zL_1, if_true, if_false, eq_self, Nat.zero_add, Nat.add_zero, m1, fX13_letter_14, he, fX13_slotAt, e6, mn, hh, hin]
    · have x2 := (zx_isSlot S s).2 q
      have m1 := (zm_isPlace M (nI b) s).2 (Or.inr q)
      refine hbad _ _ ?_ ?_
      · simp (disch := omega) only [zq_l9, pk_mul, nI_add, zq_t9, zq_c9, zq_bz9, zq_bo9, zq_g, zq_cl, zq_leT, zq_leF, zq_ltT, zq_ltF, zq_eqT, zq_eqF, zq_em, zq_me, zq_pm, zq_mm, zq_gm, pk_sub, zI_s, zI_k, zI_c, zI_2, zL_s, zL_k, zL_c, zL_1, if_true, if_false, eq_self, Nat.zero_add, Nat.add_zero, x1, x2, fX12_letter_14]
      · simp (disch := omega) only [zq_l9, pk_mul, nI_add, zq_t9, zq_c9, zq_bz9, zq_bo9, zq_g, zq_cl, zq_leT, zq_leF, zq_ltT, zq_ltF, zq_eqT, zq_eqF, zq_em, zq_me, zq_pm, zq_mm, zq_gm, pk_sub, zI_s, zI_k, zI_c, zI_2, zL_s, zL_k, zL_c, zL_1, if_true, if_false, eq_self, Nat.zero_add, Nat.add_zero, m1, fX13_letter_14, fX13_letter_33]
  · have x1 := (zx_isBlock S v).2 q
    have m1 := (zm_isPlace M v s).2 (Or.inl q)
    refine hbad _ _ ?_ ?_
    · simp (disch := omega) only [zq_l9, pk_mul, nI_add, zq_t9, zq_c9, zq_bz9, zq_bo9, zq_g, zq_cl, zq_leT, zq_leF, zq_ltT, zq_ltF, zq_eqT, zq_eqF, zq_em, zq_me, zq_pm, zq_mm, zq_gm, pk_sub, zI_s, zI_k, zI_c, zI_2, zL_s, zL_k, zL_c, zL_1, if_true, if_false, eq_self, Nat.zero_add, Nat.add_zero, x1, fX12_letter_14]
    · simp (disch := omega) only [zq_l9, pk_mul, nI_add, zq_t9, zq_c9, zq_bz9, zq_bo9, zq_g, zq_cl, zq_leT, zq_leF, zq_ltT, zq_ltF, zq_eqT, zq_eqF, zq_em, zq_me, zq_pm, zq_mm, zq_gm, pk_sub, zI_s, zI_k, zI_c, zI_2, zL_s, zL_k, zL_c, zL_1, if_true, if_false, eq_self, Nat.zero_add, Nat.add_zero, m1, fX13_letter_14, fX13_letter_33]
