/-! the same rules with proofs that the kernel need not run -/
theorem zq_l9 (n : Nat) : (@OfNat.ofNat Int32 n Int32.instOfNat) = nI (@OfNat.ofNat Nat n (instOfNatNat n)) := Eq.trans (zq_l2 n) rfl
theorem zq_t9 {α β : Type} (x : α) (f : α → β) : sh_t x f = f x := Eq.trans (zq_t x f) rfl
theorem zq_c9 {α β : Type} (a : α) (S : sh_St) (f : α → sh_St → Option β) : sh_c (some (a, S)) f = f a S := Eq.trans (zq_c a S f) rfl
theorem zq_bz9 {α : Type} (k : Option α) : sh_b (nI 0) k = k := Eq.trans (zq_bz k) rfl
theorem zq_bo9 {α : Type} (k : Option α) : sh_b (nI 1) k = k := Eq.trans (zq_bo k) rfl
/-! the reference parts an index, splits a leaf, puts -/
theorem zm_p99_v0 {T : zT} {b3 bh l m : Nat} (hb3 : b3 < 40) (h03 : b3 ≠ 0) (hk0 : T.1 0 0 = 2) (hn : ∀ k, k < 6 → T.2 k = 0) (h7 : T.1 7 0 ≤ 2) : ∀ (n k : Nat) (S : sh_St), zVN S (zcp 0 b3 0 k T) → k ≤ 3 → 3 - k < n → ∃ S', fX13_parts_v0_99 n S (nI bh) (nI l) (nI m) (nI b3) (nI k) = some ((), S') ∧ zVN S' (zRz (zCp T 0 b3 0) b3 bh l m) ∧ zFk 0 S S' := by
  intro n
  induction n with
  | zero => intro k S _ _ h; omega
  | succ n ih =>
    intro k S hv h1 h2
    rw [fX13_parts_v0_99]
    by_cases h : k = 3
    · subst h
      have v1 : zVN _ (zCp T 0 b3 0) := zMw1 hv (b := b3) (v := 3) (by omega) hb3
      obtain ⟨S1, e1, e2, e3⟩ := zm_laysRow v1 0 0 b3 (b := 0) (r := 0) (by omega) (by omega)
      obtain ⟨S2, f1, f2, f3⟩ := zm_laysRow e2 l m bh (b := 0) (r := 1) (by omega) (by omega)
      have v2 := zMw1 f2 (b := 0) (v := 2) (by omega) (by omega)
      have c7 : (zrw (zrw (zCp T 0 b3 0) (0 * 6 + 0) 0 0 b3) (0 * 6 + 1) l m bh).1 7 0 = T.1 7 0 := by
        unfold zrw
        simp (disch := omega) only [zwT_i]
        rw [zCp_i _ _ _ _ (by omega) (by omega)]
      have v3 := zMw7 v2 (T.1 7 0 + 1)
      have q7 : (zCp T 0 b3 0).1 7 0 = T.1 7 0 := by rw [zCp_i _ _ _ _ (by omega) (by omega)]
      have he := zeq_r1 (T := zCp T 0 b3 0) b3 bh l m (by rw [zCp_i _ _ _ _ (by omega) (by omega)]; exact hk0) (by rw [zCp_2]; exact hn)
      rw [q7] at he
      refine ⟨_, ?_, zVM_eq he v3, zFk_t0 (zFk_t0 (zFk_t0 (zFk_t0 (zFk_I S _ _) e3) f3) (zFk_I _ _ _)) (zFk_I _ _ _)⟩
      have y7 := zM_v f2
      rw [c7] at y7
      simp (disch := omega) only [zq_l9, pk_mul, nI_add, zq_t9, zq_c9, zq_bz9, zq_bo9, zq_g, zq_cl, zq_leT, zq_leF, zq_ltT, zq_ltF, zq_eqT, zq_eqF, zq_em, zq_me, zq_pm, zq_mm, zq_gm, pk_sub, zI_s, zI_k, zI_c, zI_2, zL_s, zL_k, zL_c, zL_1, if_true, if_false, eq_self, Nat.zero_add, Nat.add_zero, e1, f1, y7]
    · obtain ⟨S1, e1, e2, e3⟩ := zm_copyRow hv (a := 0) (r := k) (c := b3) (q := k) (by omega) (by omega) hb3 (by omega)
      obtain ⟨S', f1, f2, f3⟩ := ih (k + 1) S1 (by show zVN S1 (zcR (zcp 0 b3 0 k T) (0 * 6 + (0 + k)) (b3 * 6 + k)); rw [Nat.zero_add]; exact e2) (by omega) (by omega)
      refine ⟨S', ?_, f2, zFk_t0 e3 f3⟩
      simp (disch := omega) only [zq_l9, pk_mul, nI_add, zq_t9, zq_c9, zq_bz9, zq_bo9, zq_g, zq_cl, zq_leT, zq_leF, zq_ltT, zq_ltF, zq_eqT, zq_eqF, zq_em, zq_me, zq_pm, zq_mm, zq_gm, pk_sub, zI_s, zI_k, zI_c, zI_2, zL_s, zL_k, zL_c, zL_1, if_true, if_false, eq_self, Nat.zero_add, Nat.add_zero, e1]
      exact f1
theorem zm_p99_v1 {T : zT} {b3 bh l m : Nat} (hb3 : b3 < 40) (h03 : b3 ≠ 0) (hk0 : T.1 0 0 = 2) (hn : ∀ k, k < 6 → T.2 k = 0) (h7 : T.1 7 0 ≤ 2) : ∀ (n k : Nat) (S : sh_St), zVN S (zcp 0 b3 0 k T) → k ≤ 3 → 3 - k < n → ∃ S', fX13_parts_v1_99 n S (nI bh) (nI l) (nI m) (nI b3) (nI k) = some ((), S') ∧ zVN S' (zRz (zCp T 0 b3 0) b3 bh l m) ∧ zFk 0 S S' := by
  intro n
  induction n with
  | zero => intro k S _ _ h; omega
  | succ n ih =>
    intro k S hv h1 h2
    rw [fX13_parts_v1_99]
    by_cases h : k = 3
    · subst h
      have v1 : zVN _ (zCp T 0 b3 0) := zMw1 hv (b := b3) (v := 3) (by omega) hb3
      obtain ⟨S1, e1, e2, e3⟩ := zm_laysRow v1 0 0 b3 (b := 0) (r := 0) (by omega) (by omega)
      obtain ⟨S2, f1, f2, f3⟩ := zm_laysRow e2 l m bh (b := 0) (r := 1) (by omega) (by omega)
      have v2 := zMw1 f2 (b := 0) (v := 2) (by omega) (by omega)
      have c7 : (zrw (zrw (zCp T 0 b3 0) (0 * 6 + 0) 0 0 b3) (0 * 6 + 1) l m bh).1 7 0 = T.1 7 0 := by
        unfold zrw
        simp (disch := omega) only [zwT_i]
        rw [zCp_i _ _ _ _ (by omega) (by omega)]
      have v3 := zMw7 v2 (T.1 7 0 + 1)
      have q7 : (zCp T 0 b3 0).1 7 0 = T.1 7 0 := by rw [zCp_i _ _ _ _ (by omega) (by omega)]
      have he := zeq_r1 (T := zCp T 0 b3 0) b3 bh l m (by rw [zCp_i _ _ _ _ (by omega) (by omega)]; exact hk0) (by rw [zCp_2]; exact hn)
      rw [q7] at he
      refine ⟨_, ?_, zVM_eq he v3, zFk_t0 (zFk_t0 (zFk_t0 (zFk_t0 (zFk_I S _ _) e3) f3) (zFk_I _ _ _)) (zFk_I _ _ _)⟩
      have y7 := zM_v f2
      rw [c7] at y7
      simp (disch := omega) only [zq_l9, pk_mul, nI_add, zq_t9, zq_c9, zq_bz9, zq_bo9, zq_g, zq_cl, zq_leT, zq_leF, zq_ltT, zq_ltF, zq_eqT, zq_eqF, zq_em, zq_me, zq_pm, zq_mm, zq_gm, pk_sub, zI_s, zI_k, zI_c, zI_2, zL_s, zL_k, zL_c, zL_1, if_true, if_false, eq_self, Nat.zero_add, Nat.add_zero, e1, f1, y7]
    · obtain ⟨S1, e1, e2, e3⟩ := zm_copyRow hv (a := 0) (r := k) (c := b3) (q := k) (by omega) (by omega) hb3 (by omega)
      obtain ⟨S', f1, f2, f3⟩ := ih (k + 1) S1 (by show zVN S1 (zcR (zcp 0 b3 0 k T) (0 * 6 + (0 + k)) (b3 * 6 + k)); rw [Nat.zero_add]; exact e2) (by omega) (by omega)
      refine ⟨S', ?_, f2, zFk_t0 e3 f3⟩
      simp (disch := omega) only [zq_l9, pk_mul, nI_add, zq_t9, zq_c9, zq_bz9, zq_bo9, zq_g, zq_cl, zq_leT, zq_leF, zq_ltT, zq_ltF, zq_eqT, zq_eqF, zq_em, zq_me, zq_pm, zq_mm, zq_gm, pk_sub, zI_s, zI_k, zI_c, zI_2, zL_s, zL_k, zL_c, zL_1, if_true, if_false, eq_self, Nat.zero_add, Nat.add_zero, e1]
      exact f1
/-- a row comes behind another in the root, which has room -/
theorem zm_behind1 {S : sh_St} {T : zT} (hv : zVN S T) {v r0 : Nat} (l m t : Nat) (hr0 : r0 < T.1 1 0) (hc : T.1 1 0 ≤ 4) (h0 : T.1 6 r0 = v) (hne : ∀ r, r < r0 → T.1 6 r ≠ v) (hlt : ∀ r, r ≤ r0 → T.1 6 r < 40) : ∃ S', fX13_comesBehind_v1 S (nI 0) (nI v) (nI l) (nI m) (nI t) = some ((), S') ∧ zVN S' (zIn T 0 (r0 + 1) l m t) ∧ zFk 0 S S' := by
  have hro := zu_rowOf hv (b := 0) (r0 := r0) (v := v) (by omega) (by omega) (by rw [Nat.zero_mul, Nat.zero_add]; exact h0) (fun r hr => by rw [Nat.zero_mul, Nat.zero_add]; exact hne r hr) (fun r hr => by rw [Nat.zero_mul, Nat.zero_add]; exact hlt r hr)
  obtain ⟨S1, e1, e2, e3⟩ := zm_shift1 (b := 0) (p := r0 + 1) (by omega) (nI l) (nI m) (nI t) sh_FU (T.1 1 0) S T hv (by omega) (by have : sh_FU = 100000 := rfl; omega) (by omega)
  obtain ⟨S2, f1, f2, f3⟩ := zm_laysRow e2 l m t (b := 0) (r := r0 + 1) (by omega) (by omega)
  have c1 : (zrw (zsh 0 (r0 + 1) (T.1 1 0) T) (0 * 6 + (r0 + 1)) l m t).1 1 0 = T.1 1 0 := by
    unfold zrw
    simp (disch := omega) only [zwT_i]
    rw [zsh_i _ _ (by omega)]
  have v2 := zMw1 f2 (b := 0) (v := T.1 1 0 + 1) (by omega) (by omega)
  refine ⟨sh_I S2 1 80 (nI (T.1 1 0 + 1)), ?_, v2, zFk_t0 (zFk_t0 e3 f3) (zFk_I _ _ _)⟩
  have y := zM_c0 f2
  rw [c1] at y
  rw [fX13_comesBehind_v1]
  simp (disch := omega) only [zq_l9, pk_mul, nI_add, zq_t9, zq_c9, zq_bz9, zq_bo9, zq_g, zq_cl, zq_leT, zq_leF, zq_ltT, zq_ltF, zq_eqT, zq_eqF, zq_em, zq_me, zq_pm, zq_mm, zq_gm, pk_sub, zI_s, zI_k, zI_c, zI_2, zL_s, zL_k, zL_c, zL_1, if_true, if_false, eq_self, Nat.zero_add, Nat.add_zero, hro, zM_c0 hv]
  rw [e1, fX13_comesBehind_v1_21]
  simp (disch := omega) only [zq_l9, pk_mul, nI_add, zq_t9, zq_c9, zq_bz9, zq_bo9, zq_g, zq_cl, zq_leT, zq_leF, zq_ltT, zq_ltF, zq_eqT, zq_eqF, zq_em, zq_me, zq_pm, zq_mm, zq_gm, pk_sub, zI_s, zI_k, zI_c, zI_2, zL_s, zL_k, zL_c, zL_1, if_true, if_false, eq_self, Nat.zero_add, Nat.add_zero, f1, y]
theorem zm_p8_v1 {T : zT} {ix b2 r0 : Nat} (hA : zAv 1 (zCp T ix b2 3)) (hix : ix < 40) (hb2 : b2 < 40) (h7 : T.1 7 0 ≤ 2) (hk0 : T.1 0 0 = 2) (hn : ∀ k, k < 6 → T.2 k = 0) (h02 : b2 ≠ 0)
    (hro : ix ≠ 0 → r0 < T.1 1 0 ∧ T.1 1 0 ≤ 4 ∧ T.1 6 r0 = ix ∧ (∀ r, r < r0 → T.1 6 r ≠ ix) ∧ (∀ r, r ≤ r0 → T.1 6 r < 40)) (hrows : ix ≠ 0 → ∀ r, r < 6 → (zCp T ix b2 3).1 6 r = T.1 6 r) :
    ∀ (n k t0 : Nat) (S : sh_St), zVN S (zcp ix b2 3 k T) → k ≤ 3 → 3 - k < n → S.1 0 37 = nI t0 → t0 < 50 →
    ∃ S', fX13_parts_v1_8 n S (nI ix) (nI b2) (nI k) = some ((), S') ∧ zVN S' (if ix = 0 then zRz (zCp (zwT (zCp T 0 b2 3) 0 (zfr (zCp T 0 b2 3)) 2) 0 (zfr (zCp T 0 b2 3)) 0) (zfr (zCp T 0 b2 3)) b2 ((zCp T 0 b2 3).1 4 (b2 * 6)) ((zCp T 0 b2 3).1 5 (b2 * 6)) else zIn (zwT (zCp T ix b2 3) 1 ix 3) 0 (r0 + 1) ((zCp T ix b2 3).1 4 (b2 * 6)) ((zCp T ix b2 3).1 5 (b2 * 6)) b2) ∧ zFk (if ix = 0 then 1 else 0) S S' := by
  intro n
  induction n with
  | zero => intro k t0 S _ _ h; omega
  | succ n ih =>
    intro k t0 S hv h1 h2 ht ht5
    rw [fX13_parts_v1_8]
    by_cases h : k = 3
    · subst h
      have v1 : zVN _ (zCp T ix b2 3) := zMw1 hv (b := b2) (v := 3) (by omega) hb2
      have fr1 := zFk_I S (80 + b2) (nI 3)
      obtain ⟨q1, q2, q3⟩ := v1.2.2.1 (b2 * 6) (by omega)
      have ea : 120 + 18 * b2 = 120 + 3 * (b2 * 6) := by omega
      rw [zI_k _ 1 _ _ (by omega)] at q1 q2
      by_cases i0 : ix = 0
      · subst i0
        rw [if_pos rfl, if_pos rfl]
        have hf := zfr_lt hA
        have hz := zfr_0 hf
        obtain ⟨S1, e1, e2, e3⟩ := zm_take v1 hA.1 (fr1.2.1 t0 ht) (by omega) hf 2
        have h30 : zfr (zCp T 0 b2 3) ≠ 0 := fun e => hA.2.1 (by have hz' := hz; rw [e] at hz'; exact hz')
        obtain ⟨S2, f1, f2, f3⟩ := zm_p99_v1 (T := zwT (zCp T 0 b2 3) 0 (zfr (zCp T 0 b2 3)) 2) (b3 := zfr (zCp T 0 b2 3)) (bh := b2) (l := (zCp T 0 b2 3).1 4 (b2 * 6)) (m := (zCp T 0 b2 3).1 5 (b2 * 6)) hf h30 (by rw [zwT_k _ _ _ _ (Ne.symm h30), zCp_i _ _ _ _ (by omega) (by omega)]; exact hk0) (by rw [zwT_2, zCp_2]; exact hn) (by rw [zwT_i _ _ _ _ (by omega), zCp_i _ _ _ _ (by omega) (by omega)]; exact h7) sh_FU 0 S1 e2 (by omega) (by decide)
        refine ⟨S2, ?_, f2, ?_⟩
        · simp (disch := omega) only [zq_l9, pk_mul, nI_add, zq_t9, zq_c9, zq_bz9, zq_bo9, zq_g, zq_cl, zq_leT, zq_leF, zq_ltT, zq_ltF, zq_eqT, zq_eqF, zq_em, zq_me, zq_pm, zq_mm, zq_gm, pk_sub, zI_s, zI_k, zI_c, zI_2, zL_s, zL_k, zL_c, zL_1, if_true, if_false, eq_self, Nat.zero_add, Nat.add_zero, fX13_rowAt, Nat.mul_zero, ea, q1, q2, e1]
          exact f1
        · have := zFk_tr (zFk_tr fr1 e3) f3
          exact this
      · rw [if_neg i0, if_neg i0]
        obtain ⟨p1, p2, p3, p4, p5⟩ := hro i0
        have hr := hrows i0
        have v2 := zMw1 v1 (b := ix) (v := 3) (by omega) hix
        have cc : (zwT (zCp T ix b2 3) 1 ix 3).1 1 0 = T.1 1 0 := by rw [zwT_k _ _ _ _ (show 0 ≠ ix by omega), zCp_d _ _ _ _ (show 0 ≠ b2 by omega)]
        have rr : ∀ r, r < 6 → (zwT (zCp T ix b2 3) 1 ix 3).1 6 r = T.1 6 r := fun r hr6 => by rw [zwT_i _ _ _ _ (by omega)]; exact hr r hr6
        obtain ⟨S2, f1, f2, f3⟩ := zm_behind1 v2 (v := ix) (r0 := r0) ((zCp T ix b2 3).1 4 (b2 * 6)) ((zCp T ix b2 3).1 5 (b2 * 6)) b2 (by rw [cc]; exact p1) (by rw [cc]; exact p2) (by rw [rr r0 (by omega)]; exact p3) (fun r hr' => by rw [rr r (by omega)]; exact p4 r hr') (fun r hr' => by rw [rr r (by omega)]; exact p5 r hr')
        refine ⟨S2, ?_, f2, zFk_t0 (zFk_t0 fr1 (zFk_I _ _ _)) f3⟩
        simp (disch := omega) only [zq_l9, pk_mul, nI_add, zq_t9, zq_c9, zq_bz9, zq_bo9, zq_g, zq_cl, zq_leT, zq_leF, zq_ltT, zq_ltF, zq_eqT, zq_eqF, zq_em, zq_me, zq_pm, zq_mm, zq_gm, pk_sub, zI_s, zI_k, zI_c, zI_2, zL_s, zL_k, zL_c, zL_1, if_true, if_false, eq_self, Nat.zero_add, Nat.add_zero, fX13_rowAt, Nat.mul_zero, ea, q1, q2, f1]
    · obtain ⟨S1, e1, e2, e3⟩ := zm_copyRow hv (a := ix) (r := 3 + k) (c := b2) (q := k) hix (by omega) hb2 (by omega)
      obtain ⟨S', f1, f2, f3⟩ := ih (k + 1) t0 S1 e2 (by omega) (by omega) (e3.2.1 t0 ht) ht5
      refine ⟨S', ?_, f2, ?_⟩
      · simp (disch := omega) only [zq_l9, pk_mul, nI_add, zq_t9, zq_c9, zq_bz9, zq_bo9, zq_g, zq_cl, zq_leT, zq_leF, zq_ltT, zq_ltF, zq_eqT, zq_eqF, zq_em, zq_me, zq_pm, zq_mm, zq_gm, pk_sub, zI_s, zI_k, zI_c, zI_2, zL_s, zL_k, zL_c, zL_1, if_true, if_false, eq_self, Nat.zero_add, Nat.add_zero, e1]
        exact f1
      · have := zFk_tr e3 f3
        rw [Nat.zero_add] at this
        exact this
