/-! shape -/
theorem zdn0 {a b : Nat} (h : a < b) (hb : b ≤ 6) : (nI 0 ≤ nI a - nI b) = False := by
  have key : ∀ b : Fin 7, ∀ a : Fin 7, a.1 < b.1 → ¬ (nI 0 ≤ nI a.1 - nI b.1) := by decide +kernel
  exact eq_false (key ⟨b, by omega⟩ ⟨a, by omega⟩ h)
theorem zdn1 {a b : Nat} (h : a < b) (hb : b ≤ 6) : (nI a - nI b ≤ nI 0) = True := by
  have key : ∀ b : Fin 7, ∀ a : Fin 7, a.1 < b.1 → (nI a.1 - nI b.1 ≤ nI 0) := by decide +kernel
  exact eq_true (key ⟨b, by omega⟩ ⟨a, by omega⟩ h)
theorem zle_m {a : Nat} (h : a < 2 ^ 31) : (nI a ≤ -nI 1) = False := eq_false (fun w => by
  have := zq_gm h
  have h2 : -nI 1 < nI a := by rw [this]; trivial
  exact absurd w (Int32.not_le.mpr h2))
/-- the longest chain -/
theorem zchn {T : zT} {B : Nat → Nat} {L : Nat} : ∀ (n m s x : Nat) (S M : sh_St), zR S M T B L → zOrd S (zLL T) → s ≤ 240 → 240 - s < n → 240 - s < m → x ≤ 25 → ∃ r S' M', fX8_longestChain_4 n S (nI x) (nI s) = some (nI r, S') ∧ fX13_chain_4 m M (nI x) (nI s) = some (nI r, M') ∧ zR S' M' T B L ∧ M'.1 0 0 = M.1 0 0 := by
  intro n
  induction n with
  | zero => intro m s x S M h ho h1 h2; omega
  | succ n ih =>
    intro m s x S M h ho h1 h2 h3 hx
    cases m with
    | zero => omega
    | succ m =>
      have hI := h.1.1
      rw [fX8_longestChain_4, fX13_chain_4]
      by_cases d : s = 240
      · subst d
        refine ⟨x, S, M, ?_, ?_, h, rfl⟩
        · simp (disch := omega) only [zq_l9, pk_mul, nI_add, zq_t9, zq_c9, zq_bz9, zq_bo9, zq_g, zq_cl, zq_leT, zq_leF, zq_ltT, zq_ltF, zq_eqT, zq_eqF, zq_em, zq_me, zq_pm, zq_mm, zq_gm, pk_sub, zI_s, zI_k, zI_c, zI_2, zL_s, zL_k, zL_c, zL_1, if_true, if_false, eq_self, Nat.zero_add, Nat.add_zero]
        · simp (disch := omega) only [zq_l9, pk_mul, nI_add, zq_t9, zq_c9, zq_bz9, zq_bo9, zq_g, zq_cl, zq_leT, zq_leF, zq_ltT, zq_ltF, zq_eqT, zq_eqF, zq_em, zq_me, zq_pm, zq_mm, zq_gm, pk_sub, zI_s, zI_k, zI_c, zI_2, zL_s, zL_k, zL_c, zL_1, if_true, if_false, eq_self, Nat.zero_add, Nat.add_zero]
      · have hs : s < 240 := by omega
        have hn := zX_n h.2.1 hs
        by_cases z : T.2 s = 0
        · have me := zM_e h.2.2.1 hs z
          obtain ⟨r, S', M', f1, f2, f3, f4⟩ := ih m (s + 1) x S M h ho (by omega) (by omega) (by omega) hx
          refine ⟨r, S', M', ?_, ?_, f3, f4⟩
          · simp (disch := omega) only [zq_l9, pk_mul, nI_add, zq_t9, zq_c9, zq_bz9, zq_bo9, zq_g, zq_cl, zq_leT, zq_leF, zq_ltT, zq_ltF, zq_eqT, zq_eqF, zq_em, zq_me, zq_pm, zq_mm, zq_gm, pk_sub, zI_s, zI_k, zI_c, zI_2, zL_s, zL_k, zL_c, zL_1, if_true, if_false, eq_self, Nat.zero_add, Nat.add_zero, hn, z, fX8_longestChain_81]
            exact f1
          · simp (disch := omega) only [zq_l9, pk_mul, nI_add, zq_t9, zq_c9, zq_bz9, zq_bo9, zq_g, zq_cl, zq_leT, zq_leF, zq_ltT, zq_ltF, zq_eqT, zq_eqF, zq_em, zq_me, zq_pm, zq_mm, zq_gm, pk_sub, zI_s, zI_k, zI_c, zI_2, zL_s, zL_k, zL_c, zL_1, if_true, if_false, eq_self, Nat.zero_add, Nat.add_zero, me, fX13_chain_51]
            exact f2
        · have hh := zX_h h.2.1 hs z
          have hd := zM_d h.2.2.1 hs z
          have hmn := zM_n h.2.2.1 hs
          have hd9 := (hI.2.2.1 s hs z).2.1
          have hlt := zha_lt hI (T.2 s)
          have hho := zm_hashOf h.2.2.1 hI (zInv_va hI hs z)
          obtain ⟨S1, w1, w2, w3⟩ := zx_way h.2.1 hI ho hlt
          obtain ⟨M1, g1, g2, _, g4⟩ := zm_goes h.2.2.1 hI hlt
          have hwl := zwn_le hI (zha T (T.2 s))
          have hln := zln_le hI
          have h70 := hI.1.1
          have eS : S1.1 121 3 - S1.1 121 2 = nI (zwn T (zha T (T.2 s))) := by
            rw [w2.1, w2.2.1, pk_sub (by omega), Nat.add_sub_cancel_left]
          have hR1 : zR S1 M1 T B L := zR_q h (zFr_wd w3 (by omega) (by omega)) (zMQ_m (zFn_m g4))
          have ho1 : zOrd S1 (zLL T) := zOrd_fr w3 (by omega) ho
          have e29 := g2.2
          have e00 : M1.1 0 0 = M.1 0 0 := g4.1 0 (by omega)
          generalize zwn T (zha T (T.2 s)) = wn at *
          by_cases c : x < wn
          · obtain ⟨r, S', M', f1, f2, f3, f4⟩ := ih m (s + 1) wn S1 M1 hR1 ho1 (by omega) (by omega) (by omega) (by omega)
            refine ⟨r, S', M', ?_, ?_, f3, f4.trans e00⟩
            · simp (disch := omega) only [zq_l9, pk_mul, nI_add, zq_t9, zq_c9, zq_bz9, zq_bo9, zq_g, zq_cl, zq_leT, zq_leF, zq_ltT, zq_ltF, zq_eqT, zq_eqF, zq_em, zq_me, zq_pm, zq_mm, zq_gm, pk_sub, zI_s, zI_k, zI_c, zI_2, zL_s, zL_k, zL_c, zL_1, if_true, if_false, eq_self, Nat.zero_add, Nat.add_zero, hn, z, hh, w1, eS, fX8_longestChain_81]
              exact f1
            · simp (disch := omega) only [zq_l9, pk_mul, nI_add, zq_t9, zq_c9, zq_bz9, zq_bo9, zq_g, zq_cl, zq_leT, zq_leF, zq_ltT, zq_ltF, zq_eqT, zq_eqF, zq_em, zq_me, zq_pm, zq_mm, zq_gm, pk_sub, zI_s, zI_k, zI_c, zI_2, zL_s, zL_k, zL_c, zL_1, if_true, if_false, eq_self, Nat.zero_add, Nat.add_zero, hd, hmn, hho, g1, e29, fX13_greater, fX13_chain_51]
              exact f2
          · obtain ⟨r, S', M', f1, f2, f3, f4⟩ := ih m (s + 1) x S1 M1 hR1 ho1 (by omega) (by omega) (by omega) hx
            refine ⟨r, S', M', ?_, ?_, f3, f4.trans e00⟩
            · simp (disch := omega) only [zq_l9, pk_mul, nI_add, zq_t9, zq_c9, zq_bz9, zq_bo9, zq_g, zq_cl, zq_leT, zq_leF, zq_ltT, zq_ltF, zq_eqT, zq_eqF, zq_em, zq_me, zq_pm, zq_mm, zq_gm, pk_sub, zI_s, zI_k, zI_c, zI_2, zL_s, zL_k, zL_c, zL_1, if_true, if_false, eq_self, Nat.zero_add, Nat.add_zero, hn, z, hh, w1, eS, fX8_longestChain_81]
              exact f1
            · by_cases e : x = wn
              · subst e
                simp (disch := omega) only [zq_l9, pk_mul, nI_add, zq_t9, zq_c9, zq_bz9, zq_bo9, zq_g, zq_cl, zq_leT, zq_leF, zq_ltT, zq_ltF, zq_eqT, zq_eqF, zq_em, zq_me, zq_pm, zq_mm, zq_gm, pk_sub, zI_s, zI_k, zI_c, zI_2, zL_s, zL_k, zL_c, zL_1, if_true, if_false, eq_self, Nat.zero_add, Nat.add_zero, hd, hmn, hho, g1, e29, fX13_greater, fX13_chain_51]
                exact f2
              · simp (disch := omega) only [zq_l9, pk_mul, nI_add, zq_t9, zq_c9, zq_bz9, zq_bo9, zq_g, zq_cl, zq_leT, zq_leF, zq_ltT, zq_ltF, zq_eqT, zq_eqF, zq_em, zq_me, zq_pm, zq_mm, zq_gm, pk_sub, zI_s, zI_k, zI_c, zI_2, zL_s, zL_k, zL_c, zL_1, if_true, if_false, eq_self, Nat.zero_add, Nat.add_zero, hd, hmn, hho, g1, e29, fX13_greater, fX13_chain_51]
                exact f2
/-- fewest -/
theorem zfwst {S M : sh_St} {T : zT} (hv : zVX S 4 T) (hm : zVN M T) (hI : zInv T) (ho : zOrd S (zLL T)) (hl : zLin M (zLL T)) : ∀ (n m k p : Nat), k ≤ zln T → zln T - k < n → zln T - k < m → p < zln T → ∃ p', fX8_fewestInLeaf_5 n S (nI (zent T (zlq T p).1)) (nI k) = some (nI (zent T (zlq T p').1), S) ∧ fX13_leafBy_8 m M (nI 0) (nI p) (nI k) = some (nI p', M) ∧ p' < zln T := by
  have hln := zln_le hI
  have o1 := zOrd_n ho
  have o2 := zLin_n hl
  intro n
  induction n with
  | zero => intro m k p h1 h2; omega
  | succ n ih =>
    intro m k p h1 h2 h3 hp
    cases m with
    | zero => omega
    | succ m =>
      rw [fX8_fewestInLeaf_5, fX13_leafBy_8]
      by_cases d : k = zln T
      · refine ⟨p, ?_, ?_, hp⟩
        · simp (disch := omega) only [zq_l9, pk_mul, nI_add, zq_t9, zq_c9, zq_bz9, zq_bo9, zq_g, zq_cl, zq_leT, zq_leF, zq_ltT, zq_ltF, zq_eqT, zq_eqF, zq_em, zq_me, zq_pm, zq_mm, zq_gm, pk_sub, zI_s, zI_k, zI_c, zI_2, zL_s, zL_k, zL_c, zL_1, if_true, if_false, eq_self, Nat.zero_add, Nat.add_zero, o1]
        · simp (disch := omega) only [zq_l9, pk_mul, nI_add, zq_t9, zq_c9, zq_bz9, zq_bo9, zq_g, zq_cl, zq_leT, zq_leF, zq_ltT, zq_ltF, zq_eqT, zq_eqF, zq_em, zq_me, zq_pm, zq_mm, zq_gm, pk_sub, zI_s, zI_k, zI_c, zI_2, zL_s, zL_k, zL_c, zL_1, if_true, if_false, eq_self, Nat.zero_add, Nat.add_zero, o2]
      · have hk : k < zln T := by omega
        have a1 := (zOrd_at ho hk).1
        have a2 := (zLin_at hl hk).1
        have a3 := (zLin_at hl hp).1
        have b1 := (zlq_ok hI hk).1
        have b2 := (zlq_ok hI hp).1
        have x1 := zx_ent hv b1
        have m1 := zm_ent hm hI b1
        have m2 := zm_ent hm hI b2
        have l1 : zent T (zlq T k).1 ≤ 6 := zcnt_le _ _
        have l2 : zent T (zlq T p).1 ≤ 6 := zcnt_le _ _
        by_cases c : zent T (zlq T k).1 < zent T (zlq T p).1
        · obtain ⟨p', f1, f2, f3⟩ := ih m (k + 1) k (by omega) (by omega) (by omega) hk
          refine ⟨p', ?_, ?_, f3⟩
          · simp (disch := omega) only [zq_l9, pk_mul, nI_add, zq_t9, zq_c9, zq_bz9, zq_bo9, zq_g, zq_cl, zq_leT, zq_leF, zq_ltT, zq_ltF, zq_eqT, zq_eqF, zq_em, zq_me, zq_pm, zq_mm, zq_gm, pk_sub, zI_s, zI_k, zI_c, zI_2, zL_s, zL_k, zL_c, zL_1, if_true, if_false, eq_self, Nat.zero_add, Nat.add_zero, o1, a1, x1]
            exact f1
          · have z0 := zdn0 c l2
            simp (disch := omega) only [zq_l9, pk_mul, nI_add, zq_t9, zq_c9, zq_bz9, zq_bo9, zq_g, zq_cl, zq_leT, zq_leF, zq_ltT, zq_ltF, zq_eqT, zq_eqF, zq_em, zq_me, zq_pm, zq_mm, zq_gm, pk_sub, zI_s, zI_k, zI_c, zI_2, zL_s, zL_k, zL_c, zL_1, if_true, if_false, eq_self, Nat.zero_add, Nat.add_zero, o2, a2, a3, m1, m2, z0, fX13_leafBy_58, fX13_leafBy_56]
            exact f2
        · obtain ⟨p', f1, f2, f3⟩ := ih m (k + 1) p (by omega) (by omega) (by omega) hp
          refine ⟨p', ?_, ?_, f3⟩
          · simp (disch := omega) only [zq_l9, pk_mul, nI_add, zq_t9, zq_c9, zq_bz9, zq_bo9, zq_g, zq_cl, zq_leT, zq_leF, zq_ltT, zq_ltF, zq_eqT, zq_eqF, zq_em, zq_me, zq_pm, zq_mm, zq_gm, pk_sub, zI_s, zI_k, zI_c, zI_2, zL_s, zL_k, zL_c, zL_1, if_true, if_false, eq_self, Nat.zero_add, Nat.add_zero, o1, a1, x1]
            exact f1
          · simp (disch := omega) only [zq_l9, pk_mul, nI_add, zq_t9, zq_c9, zq_bz9, zq_bo9, zq_g, zq_cl, zq_leT, zq_leF, zq_ltT, zq_ltF, zq_eqT, zq_eqF, zq_em, zq_me, zq_pm, zq_mm, zq_gm, pk_sub, zI_s, zI_k, zI_c, zI_2, zL_s, zL_k, zL_c, zL_1, if_true, if_false, eq_self, Nat.zero_add, Nat.add_zero, o2, a2, a3, m1, m2, fX13_leafBy_58, fX13_leafBy_56]
            exact f2
/-- fullest -/
theorem zfulp {S M : sh_St} {T : zT} (hv : zVX S 4 T) (hm : zVN M T) (hI : zInv T) (ho : zOrd S (zLL T)) (hl : zLin M (zLL T)) : ∀ (n m k p : Nat), k ≤ zln T → zln T - k < n → zln T - k < m → p < zln T → ∃ p', fX8_fullestPlace_6 n S (nI p) (nI (zent T (zlq T p).1)) (nI k) = some (nI p', S) ∧ fX13_leafBy_8 m M (nI 1) (nI p) (nI k) = some (nI p', M) ∧ p' < zln T := by
  have hln := zln_le hI
  have o1 := zOrd_n ho
  have o2 := zLin_n hl
  intro n
  induction n with
  | zero => intro m k p h1 h2; omega
  | succ n ih =>
    intro m k p h1 h2 h3 hp
    cases m with
    | zero => omega
    | succ m =>
      rw [fX8_fullestPlace_6, fX13_leafBy_8]
      by_cases d : k = zln T
      · refine ⟨p, ?_, ?_, hp⟩
        · simp (disch := omega) only [zq_l9, pk_mul, nI_add, zq_t9, zq_c9, zq_bz9, zq_bo9, zq_g, zq_cl, zq_leT, zq_leF, zq_ltT, zq_ltF, zq_eqT, zq_eqF, zq_em, zq_me, zq_pm, zq_mm, zq_gm, pk_sub, zI_s, zI_k, zI_c, zI_2, zL_s, zL_k, zL_c, zL_1, if_true, if_false, eq_self, Nat.zero_add, Nat.add_zero, o1]
        · simp (disch := omega) only [zq_l9, pk_mul, nI_add, zq_t9, zq_c9, zq_bz9, zq_bo9, zq_g, zq_cl, zq_leT, zq_leF, zq_ltT, zq_ltF, zq_eqT, zq_eqF, zq_em, zq_me, zq_pm, zq_mm, zq_gm, pk_sub, zI_s, zI_k, zI_c, zI_2, zL_s, zL_k, zL_c, zL_1, if_true, if_false, eq_self, Nat.zero_add, Nat.add_zero, o2]
      · have hk : k < zln T := by omega
        have a1 := (zOrd_at ho hk).1
        have a2 := (zLin_at hl hk).1
        have a3 := (zLin_at hl hp).1
        have b1 := (zlq_ok hI hk).1
        have b2 := (zlq_ok hI hp).1
        have x1 := zx_ent hv b1
        have m1 := zm_ent hm hI b1
        have m2 := zm_ent hm hI b2
        have l1 : zent T (zlq T k).1 ≤ 6 := zcnt_le _ _
        have l2 : zent T (zlq T p).1 ≤ 6 := zcnt_le _ _
        by_cases c : zent T (zlq T k).1 ≤ zent T (zlq T p).1
        · obtain ⟨p', f1, f2, f3⟩ := ih m (k + 1) p (by omega) (by omega) (by omega) hp
          refine ⟨p', ?_, ?_, f3⟩
          · simp (disch := omega) only [zq_l9, pk_mul, nI_add, zq_t9, zq_c9, zq_bz9, zq_bo9, zq_g, zq_cl, zq_leT, zq_leF, zq_ltT, zq_ltF, zq_eqT, zq_eqF, zq_em, zq_me, zq_pm, zq_mm, zq_gm, pk_sub, zI_s, zI_k, zI_c, zI_2, zL_s, zL_k, zL_c, zL_1, if_true, if_false, eq_self, Nat.zero_add, Nat.add_zero, o1, a1, x1, fX8_fullestPlace_52]
            exact f1
          · by_cases e : zent T (zlq T k).1 = zent T (zlq T p).1
            · simp (disch := omega) only [zq_l9, pk_mul, nI_add, zq_t9, zq_c9, zq_bz9, zq_bo9, zq_g, zq_cl, zq_leT, zq_leF, zq_ltT, zq_ltF, zq_eqT, zq_eqF, zq_em, zq_me, zq_pm, zq_mm, zq_gm, pk_sub, zI_s, zI_k, zI_c, zI_2, zL_s, zL_k, zL_c, zL_1, if_true, if_false, eq_self, Nat.zero_add, Nat.add_zero, o2, a2, a3, m1, m2, fX13_leafBy_58, fX13_leafBy_56]
              exact f2
            · have z0 := zdn1 (show zent T (zlq T k).1 < zent T (zlq T p).1 by omega) l2
              simp (disch := omega) only [zq_l9, pk_mul, nI_add, zq_t9, zq_c9, zq_bz9, zq_bo9, zq_g, zq_cl, zq_leT, zq_leF, zq_ltT, zq_ltF, zq_eqT, zq_eqF, zq_em, zq_me, zq_pm, zq_mm, zq_gm, pk_sub, zI_s, zI_k, zI_c, zI_2, zL_s, zL_k, zL_c, zL_1, if_true, if_false, eq_self, Nat.zero_add, Nat.add_zero, o2, a2, a3, m1, m2, z0, fX13_leafBy_58, fX13_leafBy_56]
              exact f2
        · obtain ⟨p', f1, f2, f3⟩ := ih m (k + 1) k (by omega) (by omega) (by omega) hk
          refine ⟨p', ?_, ?_, f3⟩
          · simp (disch := omega) only [zq_l9, pk_mul, nI_add, zq_t9, zq_c9, zq_bz9, zq_bo9, zq_g, zq_cl, zq_leT, zq_leF, zq_ltT, zq_ltF, zq_eqT, zq_eqF, zq_em, zq_me, zq_pm, zq_mm, zq_gm, pk_sub, zI_s, zI_k, zI_c, zI_2, zL_s, zL_k, zL_c, zL_1, if_true, if_false, eq_self, Nat.zero_add, Nat.add_zero, o1, a1, x1, fX8_fullestPlace_52]
            exact f1
          · simp (disch := omega) only [zq_l9, pk_mul, nI_add, zq_t9, zq_c9, zq_bz9, zq_bo9, zq_g, zq_cl, zq_leT, zq_leF, zq_ltT, zq_ltF, zq_eqT, zq_eqF, zq_em, zq_me, zq_pm, zq_mm, zq_gm, pk_sub, zI_s, zI_k, zI_c, zI_2, zL_s, zL_k, zL_c, zL_1, if_true, if_false, eq_self, Nat.zero_add, Nat.add_zero, o2, a2, a3, m1, m2, fX13_leafBy_58, fX13_leafBy_56]
            exact f2
/-- what lies behind -/
def zbh (T : zT) (k : Nat) : Bool := znz T k && decide (zfl T (zha T (T.2 k)) ≠ k / 6)
theorem zbh_0 {T : zT} {k : Nat} (h : T.2 k = 0) : zbh T k = false := by unfold zbh; rw [znz_f h]; rfl
theorem zbh_f {T : zT} {k : Nat} (h : zfl T (zha T (T.2 k)) = k / 6) : zbh T k = false := by unfold zbh; rw [decide_eq_false (fun w => w h), Bool.and_false]
theorem zbh_t {T : zT} {k : Nat} (h0 : T.2 k ≠ 0) (h : zfl T (zha T (T.2 k)) ≠ k / 6) : zbh T k = true := by unfold zbh; rw [decide_eq_true h, znz_t h0]; rfl
theorem zfl_lt {T : zT} (hI : zInv T) (h : Nat) : zfl T h < 40 := by
  have a := zfl_mem hI h
  obtain ⟨q, q1, q2⟩ := List.mem_map.mp a
  rw [← q2]
  exact (zLL_mem hI q1).1
theorem zx_beh {T : zT} (hI : zInv T) : ∀ (n s : Nat) (S : sh_St), zVX S 4 T → zOrd S (zLL T) → s ≤ 240 → 240 - s < n → ∃ S', fX8_entriesBehind_4 n S (nI (zcnt (zbh T) s)) (nI s) = some (nI (zcnt (zbh T) 240), S') ∧ zFr 121 123 S S' := by
  intro n
  induction n with
  | zero => intro s S hv ho h1 h2; omega
  | succ n ih =>
    intro s S hv ho h1 h2
    rw [fX8_entriesBehind_4]
    have hcl := zcnt_le (zbh T) s
    by_cases d : s = 240
    · subst d
      refine ⟨S, ?_, zFr_rf _ _ S⟩
      simp (disch := omega) only [zq_l9, pk_mul, nI_add, zq_t9, zq_c9, zq_bz9, zq_bo9, zq_g, zq_cl, zq_leT, zq_leF, zq_ltT, zq_ltF, zq_eqT, zq_eqF, zq_em, zq_me, zq_pm, zq_mm, zq_gm, pk_sub, zI_s, zI_k, zI_c, zI_2, zL_s, zL_k, zL_c, zL_1, if_true, if_false, eq_self, Nat.zero_add, Nat.add_zero]
    · have hs : s < 240 := by omega
      have hn := zX_n hv hs
      by_cases z : T.2 s = 0
      · obtain ⟨S', f1, f2⟩ := ih (s + 1) S hv ho (by omega) (by omega)
        rw [zcnt_f (zbh_0 z)] at f1
        refine ⟨S', ?_, f2⟩
        simp (disch := omega) only [zq_l9, pk_mul, nI_add, zq_t9, zq_c9, zq_bz9, zq_bo9, zq_g, zq_cl, zq_leT, zq_leF, zq_ltT, zq_ltF, zq_eqT, zq_eqF, zq_em, zq_me, zq_pm, zq_mm, zq_gm, pk_sub, zI_s, zI_k, zI_c, zI_2, zL_s, zL_k, zL_c, zL_1, if_true, if_false, eq_self, Nat.zero_add, Nat.add_zero, hn, z, fX8_entriesBehind_75]
        exact f1
      · have hh := zX_h hv hs z
        have hlt := zha_lt hI (T.2 s)
        obtain ⟨S1, w1, w2, w3⟩ := zx_way hv hI ho hlt
        have hfi := zx_first hI w2
        have hfl := zfl_lt hI (zha T (T.2 s))
        have hdv : nI s / nI 6 = nI (s / 6) := pk_div (by omega) (by omega) (by omega)
        obtain ⟨S', f1, f2⟩ := ih (s + 1) S1 (zVX_fr w3 (by omega) hv) (zOrd_fr w3 (by omega) ho) (by omega) (by omega)
        by_cases c : zfl T (zha T (T.2 s)) = s / 6
        · rw [zcnt_f (zbh_f c)] at f1
          rw [c] at hfi
          refine ⟨S', ?_, zFr_tr w3 f2⟩
          simp (disch := omega) only [zq_l9, pk_mul, nI_add, zq_t9, zq_c9, zq_bz9, zq_bo9, zq_g, zq_cl, zq_leT, zq_leF, zq_ltT, zq_ltF, zq_eqT, zq_eqF, zq_em, zq_me, zq_pm, zq_mm, zq_gm, pk_sub, zI_s, zI_k, zI_c, zI_2, zL_s, zL_k, zL_c, zL_1, if_true, if_false, eq_self, Nat.zero_add, Nat.add_zero, hn, z, hh, w1, hfi, hdv, fX8_entriesBehind_75]
          exact f1
        · rw [zcnt_t (zbh_t z c)] at f1
          refine ⟨S', ?_, zFr_tr w3 f2⟩
          simp (disch := omega) only [zq_l9, pk_mul, nI_add, zq_t9, zq_c9, zq_bz9, zq_bo9, zq_g, zq_cl, zq_leT, zq_leF, zq_ltT, zq_ltF, zq_eqT, zq_eqF, zq_em, zq_me, zq_pm, zq_mm, zq_gm, pk_sub, zI_s, zI_k, zI_c, zI_2, zL_s, zL_k, zL_c, zL_1, if_true, if_false, eq_self, Nat.zero_add, Nat.add_zero, hn, z, hh, w1, hfi, hdv, fX8_entriesBehind_75]
          exact f1
theorem zm_str12 {M : sh_St} {T : zT} (hm : zVN M T) (hI : zInv T) {b : Nat} (hb : b < 40) (rk : sh_St → Int32 → Int32 → Option (Int32 × sh_St)) : ∀ (n s : Nat), s ≤ 6 → 6 - s < n → fX13_strays_12 rk n M (nI (zcnt (zbh T) (b * 6 + s))) (nI b) (nI s) = rk M (nI (zcnt (zbh T) (b * 6 + 6))) (nI (b + 1)) := by
  intro n
  induction n with
  | zero => intro s h1 h2; omega
  | succ n ih =>
    intro s h1 h2
    rw [fX13_strays_12]
    have hcl := zcnt_le (zbh T) (b * 6 + s)
    by_cases d : s = 6
    · subst d
      simp (disch := omega) only [zq_l9, pk_mul, nI_add, zq_t9, zq_c9, zq_bz9, zq_bo9, zq_g, zq_cl, zq_leT, zq_leF, zq_ltT, zq_ltF, zq_eqT, zq_eqF, zq_em, zq_me, zq_pm, zq_mm, zq_gm, pk_sub, zI_s, zI_k, zI_c, zI_2, zL_s, zL_k, zL_c, zL_1, if_true, if_false, eq_self, Nat.zero_add, Nat.add_zero]
    · have hs : s < 6 := by omega
      have hk : b * 6 + s < 240 := by omega
      have ih' := ih (s + 1) (by omega) (by omega)
      rw [show b * 6 + (s + 1) = b * 6 + s + 1 from rfl] at ih'
      have e6 : 6 * b + s = b * 6 + s := by omega
      have edv : (b * 6 + s) / 6 = b := by omega
      by_cases z : T.2 (b * 6 + s) = 0
      · have he := zm_isEmpty_t hm hI hb hs z
        rw [zcnt_f (zbh_0 z)] at ih'
        simp (disch := omega) only [zq_l9, pk_mul, nI_add, zq_t9, zq_c9, zq_bz9, zq_bo9, zq_g, zq_cl, zq_leT, zq_leF, zq_ltT, zq_ltF, zq_eqT, zq_eqF, zq_em, zq_me, zq_pm, zq_mm, zq_gm, pk_sub, zI_s, zI_k, zI_c, zI_2, zL_s, zL_k, zL_c, zL_1, if_true, if_false, eq_self, Nat.zero_add, Nat.add_zero, he, fX13_strays_60]
        exact ih'
      · have he := zm_isEmpty_f hm hI hb hs z
        have hn := zM_n hm hk
        have hho := zm_hashOf hm hI (zInv_va hI hk z)
        have hfo := zm_firstOf hm hI (zha_lt hI (T.2 (b * 6 + s)))
        have hfl := zfl_lt hI (zha T (T.2 (b * 6 + s)))
        by_cases c : zfl T (zha T (T.2 (b * 6 + s))) = b
        · rw [zcnt_f (zbh_f (c.trans edv.symm))] at ih'
          rw [c] at hfo
          simp (disch := omega) only [zq_l9, pk_mul, nI_add, zq_t9, zq_c9, zq_bz9, zq_bo9, zq_g, zq_cl, zq_leT, zq_leF, zq_ltT, zq_ltF, zq_eqT, zq_eqF, zq_em, zq_me, zq_pm, zq_mm, zq_gm, pk_sub, zI_s, zI_k, zI_c, zI_2, zL_s, zL_k, zL_c, zL_1, if_true, if_false, eq_self, Nat.zero_add, Nat.add_zero, he, fX13_slotAt, e6, hn, hho, hfo, fX13_strays_58, fX13_strays_60]
          exact ih'
        · rw [zcnt_t (zbh_t z (fun w => c (w.trans edv)))] at ih'
          simp (disch := omega) only [zq_l9, pk_mul, nI_add, zq_t9, zq_c9, zq_bz9, zq_bo9, zq_g, zq_cl, zq_leT, zq_leF, zq_ltT, zq_ltF, zq_eqT, zq_eqF, zq_em, zq_me, zq_pm, zq_mm, zq_gm, pk_sub, zI_s, zI_k, zI_c, zI_2, zL_s, zL_k, zL_c, zL_1, if_true, if_false, eq_self, Nat.zero_add, Nat.add_zero, he, fX13_slotAt, e6, hn, hho, hfo, fX13_strays_58, fX13_strays_60]
          exact ih'
theorem zm_str4 {M : sh_St} {T : zT} (hm : zVN M T) (hI : zInv T) : ∀ (n b : Nat), b ≤ 40 → 40 - b < n → fX13_strays_4 n M (nI (zcnt (zbh T) (b * 6))) (nI b) = some (nI (zcnt (zbh T) 240), M) := by
  intro n
  induction n with
  | zero => intro b h1 h2; omega
  | succ n ih =>
    intro b h1 h2
    rw [fX13_strays_4]
    by_cases d : b = 40
    · subst d
      simp (disch := omega) only [zq_l9, pk_mul, nI_add, zq_t9, zq_c9, zq_bz9, zq_bo9, zq_g, zq_cl, zq_leT, zq_leF, zq_ltT, zq_ltF, zq_eqT, zq_eqF, zq_em, zq_me, zq_pm, zq_mm, zq_gm, pk_sub, zI_s, zI_k, zI_c, zI_2, zL_s, zL_k, zL_c, zL_1, if_true, if_false, eq_self, Nat.zero_add, Nat.add_zero]
    · have e := zm_str12 hm hI (show b < 40 by omega) (fX13_strays_4 n) sh_FU 0 (by omega) (zc_FU _ (by omega))
      have ih' := ih (b + 1) (by omega) (by omega)
      rw [show (b + 1) * 6 = b * 6 + 6 by omega] at ih'
      rw [ih'] at e
      simp (disch := omega) only [zq_l9, pk_mul, nI_add, zq_t9, zq_c9, zq_bz9, zq_bo9, zq_g, zq_cl, zq_leT, zq_leF, zq_ltT, zq_ltF, zq_eqT, zq_eqF, zq_em, zq_me, zq_pm, zq_mm, zq_gm, pk_sub, zI_s, zI_k, zI_c, zI_2, zL_s, zL_k, zL_c, zL_1, if_true, if_false, eq_self, Nat.zero_add, Nat.add_zero]
      exact e
