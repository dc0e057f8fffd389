/-! rows that are copied; the reference's puts -/
theorem zcp_o (a c f : Nat) {i : Nat} : ∀ (k : Nat) (T : zT) (j : Nat), (∀ q, q < k → j ≠ c * 6 + q) → (zcp a c f k T).1 i j = T.1 i j := by
  intro k
  induction k with
  | zero => intro T j _; rfl
  | succ k ih =>
    intro T j h
    have h1 := ih T j (fun q hq => h q (by omega))
    have hj := h k (by omega)
    unfold zcp zcR zrw
    rw [← h1]
    by_cases i6 : i = 6
    · subst i6; rw [zwT_k _ _ _ _ hj]; simp (disch := omega) only [zwT_i]
    · rw [zwT_i _ _ _ _ i6]
      by_cases i5 : i = 5
      · subst i5; rw [zwT_k _ _ _ _ hj]; simp (disch := omega) only [zwT_i]
      · rw [zwT_i _ _ _ _ i5]
        by_cases i4 : i = 4
        · subst i4; rw [zwT_k _ _ _ _ hj]
        · rw [zwT_i _ _ _ _ i4]
theorem zcp_at {a c f : Nat} (hac : a ≠ c) {i : Nat} (hi : i = 4 ∨ i = 5 ∨ i = 6) : ∀ (k : Nat) (T : zT) (q : Nat), q < k → f + k ≤ 6 → (zcp a c f k T).1 i (c * 6 + q) = T.1 i (a * 6 + (f + q)) := by
  intro k
  induction k with
  | zero => intro T q h; omega
  | succ k ih =>
    intro T q h hf
    have ho : ∀ i', (zcp a c f k T).1 i' (a * 6 + (f + k)) = T.1 i' (a * 6 + (f + k)) := fun i' => zcp_o a c f k T _ (fun q' hq' => by omega)
    unfold zcp zcR zrw
    by_cases e : q = k
    · subst e
      rcases hi with rfl | rfl | rfl
      · rw [zwT_i _ _ _ _ (by omega), zwT_i _ _ _ _ (by omega), zwT_s]; exact ho 4
      · rw [zwT_i _ _ _ _ (by omega), zwT_s]; exact ho 5
      · rw [zwT_s]; exact ho 6
    · have h2 := ih T q (by omega) (by omega)
      rcases hi with rfl | rfl | rfl
      · rw [zwT_i _ _ _ _ (by omega), zwT_i _ _ _ _ (by omega), zwT_k _ _ _ _ (by omega)]; exact h2
      · rw [zwT_i _ _ _ _ (by omega), zwT_k _ _ _ _ (by omega), zwT_i _ _ _ _ (by omega)]; exact h2
      · rw [zwT_k _ _ _ _ (by omega), zwT_i _ _ _ _ (by omega), zwT_i _ _ _ _ (by omega)]; exact h2
theorem zCp_o {T : zT} {a c f i j : Nat} (hi : i ≠ 1) (h : j < c * 6 ∨ c * 6 + 3 ≤ j) : (zCp T a c f).1 i j = T.1 i j := by
  unfold zCp
  rw [zwT_i _ _ _ _ hi, zcp_o a c f 3 T j (fun q hq => by omega)]
theorem zCp_at {T : zT} {a c f i q : Nat} (hac : a ≠ c) (hi : i = 4 ∨ i = 5 ∨ i = 6) (hq : q < 3) (hf : f ≤ 3) : (zCp T a c f).1 i (c * 6 + q) = T.1 i (a * 6 + (f + q)) := by
  unfold zCp
  rw [zwT_i _ _ _ _ (by omega), zcp_at hac hi 3 T q hq (by omega)]
theorem zm_parts {S : sh_St} {T : zT} (hv : zVN S T) (hA : zAv 2 T) {ix r0 t0 : Nat} (hix : ix < 40) (h7 : T.1 7 0 ≤ 2) (hk0 : T.1 0 0 = 2) (hn : ∀ k, k < 6 → T.2 k = 0)
    (hro : ix ≠ 0 → r0 < T.1 1 0 ∧ T.1 1 0 ≤ 4 ∧ T.1 6 r0 = ix ∧ (∀ r, r < r0 → T.1 6 r ≠ ix) ∧ (∀ r, r ≤ r0 → T.1 6 r < 40)) (ht : S.1 0 37 = nI t0) (ht5 : t0 < 40) :
    ∃ S', fX13_parts_v1 S (nI ix) = some ((), S') ∧ zVN S' (if ix = 0 then zK4 T else zK5 T ix (r0 + 1)) ∧ zFk (1 + (if ix = 0 then 1 else 0)) S S' := by
  have hf := zfr_lt hA
  have hz := zfr_0 hf
  have h02 : zfr T ≠ 0 := fun e => hA.2.1 (by have hz' := hz; rw [e] at hz'; exact hz')
  obtain ⟨S1, e1, e2, e3⟩ := zm_take hv hA.1 ht (by omega) hf 2
  have hA1 : zAv 1 (zCp (zwT T 0 (zfr T) 2) ix (zfr T) 3) := zK3_av hA
  obtain ⟨S2, f1, f2, f3⟩ := zm_p8_v1 (T := zwT T 0 (zfr T) 2) (ix := ix) (b2 := zfr T) (r0 := r0) hA1 hix hf (by rw [zwT_i _ _ _ _ (by omega)]; exact h7) (by rw [zwT_k _ _ _ _ (Ne.symm h02)]; exact hk0) hn h02 (fun i0 => by rw [zwT_i _ _ _ _ (by omega), zwT_i _ _ _ _ (by omega)]; exact hro i0) (fun i0 r hr => zCp_o (by omega) (by omega)) sh_FU 0 (t0 + 1) S1 e2 (by omega) (by decide) (e3.2.1 t0 ht) (by omega)
  refine ⟨S2, ?_, ?_, zFk_tr e3 f3⟩
  · rw [fX13_parts_v1]
    simp (disch := omega) only [zq_l9, pk_mul, nI_add, zq_t9, zq_c9, zq_bz9, zq_bo9, zq_g, zq_cl, zq_leT, zq_leF, zq_ltT, zq_ltF, zq_eqT, zq_eqF, zq_em, zq_me, zq_pm, zq_mm, zq_gm, pk_sub, zI_s, zI_k, zI_c, zI_2, zL_s, zL_k, zL_c, zL_1, if_true, if_false, eq_self, Nat.zero_add, Nat.add_zero, e1]
    exact f1
  · by_cases i0 : ix = 0
    · subst i0; rw [if_pos rfl]; rw [if_pos rfl] at f2; exact f2
    · rw [if_neg i0]; rw [if_neg i0] at f2; exact f2
/-- a row comes behind the one that leads to a leaf -/
theorem zm_behind2 {S : sh_St} {T : zT} (hv : zVN S T) (hA : zAv 2 T) {v ix p r0 t0 : Nat} (l m t : Nat) (hix : ix < 40) (hp : p < T.1 1 ix) (hc : T.1 1 ix ≤ 5) (hkx : T.1 0 ix = 2) (hro1 : fX13_rowOf S (nI ix) (nI v) = some (nI p, S)) (h7 : T.1 7 0 ≤ 2) (hk0 : T.1 0 0 = 2) (hn : ∀ k, k < 6 → T.2 k = 0)
    (hro : ix ≠ 0 → T.1 1 ix = 5 → r0 < T.1 1 0 ∧ T.1 1 0 ≤ 4 ∧ T.1 6 r0 = ix ∧ (∀ r, r < r0 → T.1 6 r ≠ ix) ∧ (∀ r, r ≤ r0 → T.1 6 r < 40)) (ht : S.1 0 37 = nI t0) (ht5 : t0 < 40) :
    ∃ S', fX13_comesBehind_v2 S (nI ix) (nI v) (nI l) (nI m) (nI t) = some ((), S') ∧ zVN S' (zK6 (zIn T ix (p + 1) l m t) ix (r0 + 1)) ∧ zFk (if T.1 1 ix ≤ 4 then 0 else 1 + (if ix = 0 then 1 else 0)) S S' := by
  obtain ⟨S1, e1, e2, e3⟩ := zm_shift2 (b := ix) (p := p + 1) hix (nI l) (nI m) (nI t) sh_FU (T.1 1 ix) S T hv (by omega) (by have : sh_FU = 100000 := rfl; omega) (by omega)
  obtain ⟨S2, f1, f2, f3⟩ := zm_laysRow e2 l m t (b := ix) (r := p + 1) hix (by omega)
  have c1 : (zrw (zsh ix (p + 1) (T.1 1 ix) T) (ix * 6 + (p + 1)) l m t).1 1 ix = T.1 1 ix := by
    unfold zrw
    simp (disch := omega) only [zwT_i]
    rw [zsh_i _ _ (by omega)]
  have v2 : zVN _ (zIn T ix (p + 1) l m t) := zMw1 f2 (b := ix) (v := T.1 1 ix + 1) (by omega) hix
  have y := zM_c f2 hix
  rw [c1] at y
  have fr : zFk 0 S (sh_I S2 1 (80 + ix) (nI (T.1 1 ix + 1))) := zFk_t0 (zFk_t0 e3 f3) (zFk_I _ _ _)
  have hs : ∀ X : Option (Unit × sh_St), (fX13_comesBehind_v2_21 1 S1 (nI ix) (nI l) (nI m) (nI t) (nI (p + 1)) (nI (p + 1)) = X) → fX13_comesBehind_v2 S (nI ix) (nI v) (nI l) (nI m) (nI t) = X := by
    intro X hX
    rw [fX13_comesBehind_v2]
    simp (disch := omega) only [zq_l9, pk_mul, nI_add, zq_t9, zq_c9, zq_bz9, zq_bo9, zq_g, zq_cl, zq_leT, zq_leF, zq_ltT, zq_ltF, zq_eqT, zq_eqF, zq_em, zq_me, zq_pm, zq_mm, zq_gm, pk_sub, zI_s, zI_k, zI_c, zI_2, zL_s, zL_k, zL_c, zL_1, if_true, if_false, eq_self, Nat.zero_add, Nat.add_zero, hro1, zM_c hv]
    rw [e1]
    exact hX
  have cI : (zIn T ix (p + 1) l m t).1 1 ix = T.1 1 ix + 1 := zIn_c _ _ _ _ _ _
  unfold zK6
  by_cases c4 : T.1 1 ix ≤ 4
  · rw [if_pos c4, if_pos (by omega)]
    refine ⟨_, hs _ ?_, v2, fr⟩
    rw [fX13_comesBehind_v2_21]
    simp (disch := omega) only [zq_l9, pk_mul, nI_add, zq_t9, zq_c9, zq_bz9, zq_bo9, zq_g, zq_cl, zq_leT, zq_leF, zq_ltT, zq_ltF, zq_eqT, zq_eqF, zq_em, zq_me, zq_pm, zq_mm, zq_gm, pk_sub, zI_s, zI_k, zI_c, zI_2, zL_s, zL_k, zL_c, zL_1, if_true, if_false, eq_self, Nat.zero_add, Nat.add_zero, f1, y]
  · rw [if_neg c4, if_neg (by omega)]
    obtain ⟨S3, g1, g2, g3⟩ := zm_parts v2 (zAv_In _ _ _ _ (by omega) hA) (ix := ix) (r0 := r0) (t0 := t0) hix (by rw [zIn_i _ _ _ _ _ _ (by omega) (by omega)]; exact h7) (by rw [zIn_i _ _ _ _ _ _ (by omega) (by omega)]; exact hk0) (by rw [zIn_2]; exact hn) (by
      intro i0
      obtain ⟨p1, p2, p3, p4, p5⟩ := hro i0 (by omega)
      have hrow : ∀ r, r < 6 → (zIn T ix (p + 1) l m t).1 6 r = T.1 6 r := by
        intro r hr
        unfold zIn zrw
        rw [zwT_i _ _ _ _ (by omega), zwT_k _ _ _ _ (by omega), zwT_i _ _ _ _ (by omega), zwT_i _ _ _ _ (by omega)]
        have : ∀ (k : Nat) (T : zT), (zsh ix (p + 1) k T).1 6 r = T.1 6 r := by
          intro k
          induction k with
          | zero => intro T; rfl
          | succ k ih =>
            intro T
            unfold zsh
            split
            · rw [ih]
              unfold zcR zrw
              rw [zwT_k _ _ _ _ (by omega), zwT_i _ _ _ _ (by omega), zwT_i _ _ _ _ (by omega)]
            · rfl
        exact this _ T
      rw [zIn_d _ _ _ _ _ _ (show 0 ≠ ix by omega)]
      exact ⟨p1, p2, by rw [hrow r0 (by omega)]; exact p3, fun r hr => by rw [hrow r (by omega)]; exact p4 r hr, fun r hr => by rw [hrow r (by omega)]; exact p5 r hr⟩) (fr.2.1 t0 ht) ht5
    refine ⟨S3, hs _ ?_, g2, ?_⟩
    · rw [fX13_comesBehind_v2_21]
      simp (disch := omega) only [zq_l9, pk_mul, nI_add, zq_t9, zq_c9, zq_bz9, zq_bo9, zq_g, zq_cl, zq_leT, zq_leF, zq_ltT, zq_ltF, zq_eqT, zq_eqF, zq_em, zq_me, zq_pm, zq_mm, zq_gm, pk_sub, zI_s, zI_k, zI_c, zI_2, zL_s, zL_k, zL_c, zL_1, if_true, if_false, eq_self, Nat.zero_add, Nat.add_zero, f1, y, g1]
    · have := zFk_tr fr g3
      rw [Nat.zero_add] at this
      exact this
theorem zm_split_c {T : zT} (hI : zInv T) {f : Nat} (hf : f < 40) (hfull : zfull T f) (n : Int64) (d : Nat) : ∀ (m s : Nat) (S : sh_St), zVN S T → s ≤ 6 → 6 - s < m → zPM S (zpc (fun _ => true) (fun s => zen T (T.1 7 1) (T.1 7 2) (T.1 7 3) (f * 6 + s)) s) →
    ∃ S', fX13_splits_8 m S (nI f) n (nI d) (nI s) = fX13_splits_8 1 S' (nI f) n (nI d) (nI 6) ∧ zPM S' (zpc (fun _ => true) (fun s => zen T (T.1 7 1) (T.1 7 2) (T.1 7 3) (f * 6 + s)) 6) ∧ zFs S S' := by
  intro m
  induction m with
  | zero => intro s S _ h1 h2; omega
  | succ m ih =>
    intro s S hv h1 h2 hP
    have hb : T.1 7 1 < 13 := by have := hI.1; omega
    by_cases h : s = 6
    · subst h
      refine ⟨S, ?_, hP, zFs_rf S⟩
      rw [fX13_splits_8, fX13_splits_8]
      simp (disch := omega) only [zq_l9, pk_mul, nI_add, zq_t9, zq_c9, zq_bz9, zq_bo9, zq_g, zq_cl, zq_leT, zq_leF, zq_ltT, zq_ltF, zq_eqT, zq_eqF, zq_em, zq_me, zq_pm, zq_mm, zq_gm, pk_sub, zI_s, zI_k, zI_c, zI_2, zL_s, zL_k, zL_c, zL_1, if_true, if_false, eq_self, Nat.zero_add, Nat.add_zero]
    · have h9 := hfull s (by omega)
      have hk : f * 6 + s < 240 := by omega
      have hl := zpc_len (fun _ => true) (fun s => zen T (T.1 7 1) (T.1 7 2) (T.1 7 3) (f * 6 + s)) s
      have hc := zcnt_le (fun _ => true) s
      have hnd := zInv_nd hI hk h9
      obtain ⟨S1, e1, e2, e3⟩ := zm_sorts hP (by intro x hx; obtain ⟨k, _, _, rfl⟩ := zpc_mem hx; exact zhash_lt12 _ hb _ _) (by omega) (zhash_lt12 (T.2 (f * 6 + s)) hb (T.1 7 2) (T.1 7 3)) (T.2 (f * 6 + s)) (T.1 3 (f * 6 + s))
      rw [show (zhash (T.2 (f * 6 + s)) (T.1 7 1) (T.1 7 2) (T.1 7 3), T.2 (f * 6 + s), T.1 3 (f * 6 + s)) = zen T (T.1 7 1) (T.1 7 2) (T.1 7 3) (f * 6 + s) from rfl, ← zpc_t (c := fun _ => true) (e := fun s => zen T (T.1 7 1) (T.1 7 2) (T.1 7 3) (f * 6 + s)) rfl] at e2
      obtain ⟨S', f1, f2, f3⟩ := ih (s + 1) S1 (zVN_fs e3 hv) (by omega) (by omega) e2
      refine ⟨S', ?_, f2, zFs_tr e3 f3⟩
      have e1' : fX13_sorts S (T.2 (f * 6 + s)) (nI (T.1 3 (f * 6 + s))) (nI (zha T (T.2 (f * 6 + s)))) = some ((), S1) := e1
      rw [fX13_splits_8]
      simp (disch := omega) only [zq_l9, pk_mul, nI_add, zq_t9, zq_c9, zq_bz9, zq_bo9, zq_g, zq_cl, zq_leT, zq_leF, zq_ltT, zq_ltF, zq_eqT, zq_eqF, zq_em, zq_me, zq_pm, zq_mm, zq_gm, pk_sub, zI_s, zI_k, zI_c, zI_2, zL_s, zL_k, zL_c, zL_1, if_true, if_false, eq_self, Nat.zero_add, Nat.add_zero, fX13_slotAt, show 6 * f + s = f * 6 + s from by omega, zM_n hv, zM_d hv hk h9, zm_hashOf hv hI (zInv_va hI hk h9), e1']
      exact f1
theorem zm_s98_0 {S : sh_St} {T : zT} (hv : zVN S T) (hA : zAv 3 T) {P : List zE} (hP : zPM S P) (h7 : P.length = 7) (hPn : ∀ x, x ∈ P → x.2.1 ≠ 0) (h0 : T.1 7 0 = 0) (f : Nat) {t0 : Nat} (ht : S.1 0 37 = nI t0) (ht5 : t0 < 40) : ∃ S', fX13_splits_98 S (nI f) (nI (zmrk P)) = some ((), S') ∧ zVN S' (zK0 T P) ∧ zFk 2 S S' := by
  have a3 : S.1 20 3 = nI (zlim P) := (hP.2 3 _ (zP_at (by omega))).1
  have hf0 := zfr_lt hA
  obtain ⟨S1, e1, e2, e3⟩ := zm_take hv hA.1 ht (by omega) hf0 1
  have hP1 := zPM_fk e3 hP
  obtain ⟨S2, f1, f2, f3⟩ := zm_fills e2 hP1 (by omega) hPn (b := zfr T) (f := 3) (c := 4) hf0 (by omega) (by omega)
  have f2' : zVN S2 (zK1 T P) := f2
  have hP2 := zPM_fk f3 hP1
  have hA2 := zK1_av (P := P) hA
  have hf2 := zfr_lt hA2
  have ht2 := (zFk_tr e3 f3).2.1 t0 ht
  obtain ⟨S3, i1, i2, i3⟩ := zm_take f2' hA2.1 ht2 (by omega) hf2 1
  have hP3 := zPM_fk i3 hP2
  obtain ⟨S4, j1, j2, j3⟩ := zm_fills i2 hP3 (by omega) hPn (b := zfr (zK1 T P)) (f := 0) (c := 3) hf2 (by omega) (by omega)
  rw [show 0 + 3 = 3 from rfl] at j2
  obtain ⟨S5, k1, k2, k3⟩ := zm_empties j2 (b := 0) (by omega)
  have v1 := zMw1 (zMw7 (zMw0 k2 2 (b := 0) (by omega)) 1) (b := 0) (v := 2) (by omega) (by omega)
  obtain ⟨S6, l1, l2, l3⟩ := zm_laysRow v1 0 0 (zfr (zK1 T P)) (b := 0) (r := 0) (by omega) (by omega)
  obtain ⟨S7, m1, m2, m3⟩ := zm_laysRow l2 (zlim P) (zmrk P) (zfr T) (b := 0) (r := 1) (by omega) (by omega)
  have q7 : (zgr (zwT (zK1 T P) 0 (zfr (zK1 T P)) 1) (zfr (zK1 T P)) (zlg P 0 3) 6).1 7 0 = 0 := by
    rw [zgr_i _ _ _ _ (by omega), zwT_i _ _ _ _ (by omega), zK1_i (by omega) (by omega)]; exact h0
  have he := zeq_r0 (T := zgr (zwT (zK1 T P) 0 (zfr (zK1 T P)) 1) (zfr (zK1 T P)) (zlg P 0 3) 6) (zfr (zK1 T P)) (zfr T) (zlim P) (zmrk P) q7
  refine ⟨S7, ?_, zVM_eq he m2, ?_⟩
  · have y7 := zM_v f2'
    rw [zK1_i (by omega) (by omega), h0] at y7
    rw [fX13_splits_98]
    simp (disch := omega) only [zq_l9, pk_mul, nI_add, zq_t9, zq_c9, zq_bz9, zq_bo9, zq_g, zq_cl, zq_leT, zq_leF, zq_ltT, zq_ltF, zq_eqT, zq_eqF, zq_em, zq_me, zq_pm, zq_mm, zq_gm, pk_sub, zI_s, zI_k, zI_c, zI_2, zL_s, zL_k, zL_c, zL_1, if_true, if_false, eq_self, Nat.zero_add, Nat.add_zero, a3, e1, f1, y7, i1, j1, k1, l1, m1]
  · have := zFk_tr (zFk_tr (zFk_tr (zFk_tr (zFk_tr (zFk_tr e3 f3) i3) j3) k3) (zFk_t0 (zFk_t0 (zFk_I S5 0 (nI 2)) (zFk_I _ 1080 (nI 1))) (zFk_I _ 80 (nI 2)))) (zFk_t0 l3 m3)
    exact this
theorem zm_s98_1 {S : sh_St} {T : zT} (hv : zVN S T) (hI : zInv T) (hA : zAv 3 T) {P : List zE} (hP : zPM S P) (h7 : P.length = 7) (hPn : ∀ x, x ∈ P → x.2.1 ≠ 0) (h0 : T.1 7 0 ≠ 0) (h : Nat) (hn9 : zned T h ≠ 9) (hsw : ¬ zsw T h < zwn T h) {t0 : Nat} (ht : S.1 0 37 = nI t0) (ht5 : t0 < 30) :
    ∃ S', fX13_splits_98 S (nI (zfl T h)) (nI (zmrk P)) = some ((), S') ∧ zVN S' (zK6 (zK2 T P (zfl T h) (zbk T h (T.1 7 0 - 1)) (zr T (zbk T h (T.1 7 0 - 1)) h + 1)) (zbk T h (T.1 7 0 - 1)) (zr T 0 h + 1)) ∧ zFk (zned T h) S S' := by
  have h72 := hI.1.1
  have a3 : S.1 20 3 = nI (zlim P) := (hP.2 3 _ (zP_at (by omega))).1
  have hf0 := zfr_lt hA
  have hz := zfr_0 hf0
  obtain ⟨S1, e1, e2, e3⟩ := zm_take hv hA.1 ht (by omega) hf0 1
  have hP1 := zPM_fk e3 hP
  obtain ⟨S2, f1, f2, f3⟩ := zm_fills e2 hP1 (by omega) hPn (b := zfr T) (f := 3) (c := 4) hf0 (by omega) (by omega)
  have f2' : zVN S2 (zK1 T P) := f2
  have hP2 := zPM_fk f3 hP1
  have hflk := zfl_k hI h
  have hfll := zbk_le hI h (Nat.le_refl (T.1 7 0))
  obtain ⟨S4, j1, j2, j3⟩ := zm_fills f2' hP2 (by omega) hPn (b := zfl T h) (f := 0) (c := 3) hfll (by omega) (by omega)
  rw [show 0 + 3 = 3 from rfl] at j2
  obtain ⟨b1, b2, b3⟩ := zbk_lo hI h (show T.1 7 0 - 1 < T.1 7 0 by omega)
  have b5 := zInv_c5 hI b1
  have hne : ∀ b, T.1 0 b ≠ 0 → b ≠ zfr T := fun b hb e => hb (by rw [e]; exact hz)
  have hkin : ∀ b, (zgr (zK1 T P) (zfl T h) (zlg P 0 3) 6).1 0 b = if b = zfr T then 1 else T.1 0 b := fun b => by rw [zgr_i _ _ _ _ (by omega), zK1_0, zwT_v]
  have hcg1 : (zgr (zK1 T P) (zfl T h) (zlg P 0 3) 6).1 1 = T.1 1 := by rw [zgr_i _ _ _ _ (by omega), zK1_i (by omega) (by omega)]
  have hcg6 : (zgr (zK1 T P) (zfl T h) (zlg P 0 3) 6).1 6 = T.1 6 := by rw [zgr_i _ _ _ _ (by omega), zK1_i (by omega) (by omega)]
  have hcg7 : (zgr (zK1 T P) (zfl T h) (zlg P 0 3) 6).1 7 = T.1 7 := by rw [zgr_i _ _ _ _ (by omega), zK1_i (by omega) (by omega)]
  have hu0 := zUq_inv hI b1 b2 b3
  rw [← zfl_up h0] at hu0
  have hu : zUq (zgr (zK1 T P) (zfl T h) (zlg P 0 3) 6) (zfl T h) (zbk T h (T.1 7 0 - 1)) (zr T (zbk T h (T.1 7 0 - 1)) h) := by
    refine zUq_cg hu0 hcg1 hcg6 (fun b hb => ?_)
    rw [hkin b]
    by_cases e : b = zfr T
    · rw [if_pos e, e, hz]; omega
    · rw [if_neg e]; exact ⟨(hI.2.1 b hb).1, Iff.rfl⟩
  have hab := zu_above j2 hu
  have hro1 := zu_rowOf j2 (b := zbk T h (T.1 7 0 - 1)) (r0 := zr T (zbk T h (T.1 7 0 - 1)) h) (v := zfl T h) b1 (by omega) hu.2.2.2.1 (fun r hr e => by
    have := (hu.2.2.2.2.2.2 _ r b1 (by rw [hcg1]; omega) hu.2.1 e).2
    omega) (fun r hr => hu.2.2.2.2.2.1 _ r b1 (by rw [hcg1]; omega))
  have k0 : T.1 0 0 = 2 := by have := zInv_k0 hI; rw [if_neg h0] at this; exact this
  have hroot : ∀ k, k < 6 → (zgr (zK1 T P) (zfl T h) (zlg P 0 3) 6).2 k = 0 := by
    intro k hk
    have hf00 : zfl T h ≠ 0 := fun e => by rw [e] at hflk; omega
    have hfr0 : zfr T ≠ 0 := fun e => by rw [e] at hz; omega
    rw [zgr_2, if_neg (by omega)]
    unfold zK1
    rw [zgr_2, if_neg (by omega), zwT_2]
    refine Decidable.byContradiction (fun q => ?_)
    have := (hI.2.2.1 k (by omega) q).2.2
    rw [show k / 6 = 0 by omega] at this
    omega
  have hned : zned T h = (if T.1 1 (zbk T h (T.1 7 0 - 1)) < 5 then 1 else if T.1 7 0 = 1 then 3 else if T.1 1 0 < 5 then 2 else 9) := by
    unfold zned
    rw [if_neg hsw, if_neg h0]
  have ht4 := (zFk_tr (zFk_tr e3 f3) j3).2.1 t0 ht
  obtain ⟨S5, k1, k2, k3⟩ := zm_behind2 j2 (zAv_gr _ _ _ (zK1_av hA)) (v := zfl T h) (ix := zbk T h (T.1 7 0 - 1)) (p := zr T (zbk T h (T.1 7 0 - 1)) h) (r0 := zr T 0 h) (zlim P) (zmrk P) (zfr T) b1 (by rw [hcg1]; exact b3) (by rw [hcg1]; exact b5) (by rw [hkin, if_neg (hne _ (by omega))]; exact b2) hro1 (by rw [hcg7]; exact h72) (by rw [hkin, if_neg (hne _ (by omega))]; exact k0) hroot (by
    intro i0 c5
    rw [hcg1] at c5
    have l2 : T.1 7 0 = 2 := by
      refine Decidable.byContradiction (fun q => i0 ?_)
      rw [show T.1 7 0 - 1 = 0 by omega]
      rfl
    obtain ⟨r1, r2, r3⟩ := zbk_lo hI h (show 0 < T.1 7 0 by omega)
    have r3' : zr T 0 h < T.1 1 0 := r3
    rw [hned, if_neg (by omega), if_neg (by omega)] at hn9
    have c0 : T.1 1 0 ≤ 4 := by
      refine Decidable.byContradiction (fun q => hn9 ?_)
      rw [if_neg (by omega)]
    have eix : zbk T h (T.1 7 0 - 1) = T.1 6 (zr T 0 h) := by
      rw [show T.1 7 0 - 1 = 0 + 1 by omega]
      show T.1 6 (0 * 6 + zr T 0 h) = _
      rw [Nat.zero_mul, Nat.zero_add]
    rw [hcg1, hcg6]
    refine ⟨r3', c0, eix.symm, fun r hr e => ?_, fun r hr => zInv_c0 hI (by omega)⟩
    rw [eix] at e
    have := (hI.2.2.2.2.1 0 r 0 (zr T 0 h) (by omega) (by omega) (by omega) r3' (by rw [Nat.zero_mul, Nat.zero_add, Nat.zero_add]; exact e)).2
    omega) ht4 (by omega)
  refine ⟨S5, ?_, k2, ?_⟩
  · have y7 := zM_v f2'
    rw [zK1_i (by omega) (by omega)] at y7
    rw [fX13_splits_98]
    simp (disch := omega) only [zq_l9, pk_mul, nI_add, zq_t9, zq_c9, zq_bz9, zq_bo9, zq_g, zq_cl, zq_leT, zq_leF, zq_ltT, zq_ltF, zq_eqT, zq_eqF, zq_em, zq_me, zq_pm, zq_mm, zq_gm, pk_sub, zI_s, zI_k, zI_c, zI_2, zL_s, zL_k, zL_c, zL_1, if_true, if_false, eq_self, Nat.zero_add, Nat.add_zero, a3, e1, f1, y7, j1, hab, k1]
  · have := zFk_tr (zFk_tr (zFk_tr e3 f3) j3) k3
    rw [hcg1] at this
    rw [hned]
    by_cases c1 : T.1 1 (zbk T h (T.1 7 0 - 1)) < 5
    · rw [if_pos c1]; rw [if_pos (by omega)] at this; exact this
    · rw [if_neg c1]; rw [if_neg (by omega)] at this
      rw [hned, if_neg c1] at hn9
      by_cases c2 : T.1 7 0 = 1
      · rw [if_pos c2]
        rw [if_pos (show zbk T h (T.1 7 0 - 1) = 0 by rw [c2]; rfl)] at this
        exact this
      · rw [if_neg c2]; rw [if_neg c2] at hn9
        have c3 : T.1 1 0 < 5 := by
          refine Decidable.byContradiction (fun q => hn9 ?_)
          rw [if_neg q]
        rw [if_pos c3]
        rw [if_neg (zbk_n0 hI h (by omega) (by omega))] at this
        exact this
