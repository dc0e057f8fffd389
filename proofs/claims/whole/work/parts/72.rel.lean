/-! class and reference side by side -/
def zRa (S M : sh_St) (B : Nat → Nat) (L : Nat) : Prop := S.1 1 1 = nI L ∧ M.1 0 17 = nI L ∧ L ≤ 400 ∧ (∀ k, B k < 256) ∧ ∀ k, k < 400 → S.1 2 k = nI (B k) ∧ M.1 14 k = nI (B k)
def zRc1 (S M : sh_St) (r : Nat) : Prop := ∃ o c z : Nat, o ≤ 1 ∧ c ≤ 4096 ∧ z ≤ 60 ∧ S.1 (132 + 2 * r) 1 = nI o ∧ M.1 9 r = nI o ∧ S.1 (132 + 2 * r) 2 = nI c ∧ M.1 10 r = nI c ∧ S.1 (132 + 2 * r) 3 = M.1 11 r ∧ S.1 (132 + 2 * r) 4 = nI z ∧ M.1 12 r = nI z ∧ ∀ k, k < z → S.1 (133 + 2 * r) k = M.1 13 (60 * r + k)
def zRc (S M : sh_St) : Prop := ∀ r, r < 4 → zRc1 S M r
def zRd (S M : sh_St) : Prop := ∃ (t u : Nat) (Th : Nat → zT), t < 8 ∧ u ≤ 8 ∧ S.1 34 2 = nI t ∧ S.1 34 1 = nI u ∧ M.1 0 5 = nI u ∧ ∀ j, j < u → zVX S (36 + 10 * ((t + 8 - u + j) % 8)) (Th j) ∧ zVM (fun k => M.1 3 (1084 * j + k)) (fun k => M.2 4 (240 * j + k)) (Th j) ∧ zG (Th j)
def zRe (S M : sh_St) : Prop := ∃ (i : Nat) (Tk : zT), i ≤ 1 ∧ S.1 0 9 = nI i ∧ M.1 0 10 = nI i ∧ (i = 1 → zVX S 24 Tk ∧ zVM (M.1 7) (M.2 8) Tk ∧ zG Tk)
def zRg (S : sh_St) : Prop := ∃ n : Nat, n ≤ 240 ∧ S.1 128 4 = nI n ∧ (∀ i, i < n → ∃ h, h < 4096 ∧ S.1 130 i = nI h) ∧ ∀ h, h < 4096 → (∀ i, i < n → S.1 130 i ≠ nI h) → S.1 129 h = nI 0
/-- all that two states have in common -/
def zR (S M : sh_St) (T : zT) (B : Nat → Nat) (L : Nat) : Prop := zG T ∧ zVX S 4 T ∧ zVN M T ∧ zRa S M B L ∧ S.1 3 3 = M.1 0 20 ∧ S.1 0 10 = M.1 0 21 ∧ zRc S M ∧ zRd S M ∧ zRe S M ∧ zRg S
theorem zVX_o {S S' : sh_St} {o : Nat} {T : zT} (h : ∀ i, o ≤ i → i ≤ o + 9 → S'.1 i = S.1 i ∧ S'.2 i = S.2 i) (hv : zVX S o T) : zVX S' o T := by
  obtain ⟨h1, h2, h3, h4, h5, h6, h7⟩ := hv
  refine ⟨?_, ?_, ?_, ?_, ?_, ?_, ?_⟩
  · rw [(h (o + 1) (by omega) (by omega)).1, (h (o + 2) (by omega) (by omega)).1, (h (o + 3) (by omega) (by omega)).1]; exact h1
  · rw [(h (o + 4) (by omega) (by omega)).2, (h (o + 5) (by omega) (by omega)).1, (h (o + 6) (by omega) (by omega)).1]; exact h2
  · rw [(h (o + 7) (by omega) (by omega)).1, (h (o + 8) (by omega) (by omega)).1, (h (o + 9) (by omega) (by omega)).1]; exact h3
  · rw [(h o (by omega) (by omega)).1]; exact h4
  · rw [(h o (by omega) (by omega)).1]; exact h5
  · rw [(h o (by omega) (by omega)).1]; exact h6
  · rw [(h o (by omega) (by omega)).1]; exact h7
theorem zRa_cg {S S' M M' : sh_St} {B : Nat → Nat} {L : Nat} (h : zRa S M B L) (L' : Nat) (hL : L' ≤ 400) (h1 : S'.1 1 1 = nI L') (h2 : S'.1 2 = S.1 2) (m1 : M'.1 0 17 = nI L') (m2 : M'.1 14 = M.1 14) : zRa S' M' B L' := ⟨h1, m1, hL, h.2.2.2.1, fun k hk => by rw [h2, m2]; exact h.2.2.2.2 k hk⟩
theorem zRc_cg {S S' M M' : sh_St} (h : zRc S M) (h1 : ∀ i, 132 ≤ i → S'.1 i = S.1 i) (m1 : ∀ i, 9 ≤ i → i ≤ 13 → M'.1 i = M.1 i) : zRc S' M' := fun r hr => by
  unfold zRc1
  rw [h1 (132 + 2 * r) (by omega), h1 (133 + 2 * r) (by omega), m1 9 (by omega) (by omega), m1 10 (by omega) (by omega), m1 11 (by omega) (by omega), m1 12 (by omega) (by omega), m1 13 (by omega) (by omega)]
  exact h r hr
theorem zRd_cg {S S' M M' : sh_St} (h : zRd S M) (h1 : ∀ i, 34 ≤ i → i ≤ 115 → S'.1 i = S.1 i ∧ S'.2 i = S.2 i) (m0 : M'.1 0 5 = M.1 0 5) (m3 : M'.1 3 = M.1 3) (m4 : M'.2 4 = M.2 4) : zRd S' M' := by
  obtain ⟨t, u, Th, a, b, c, d, e, f⟩ := h
  refine ⟨t, u, Th, a, b, by rw [(h1 34 (by omega) (by omega)).1]; exact c, by rw [(h1 34 (by omega) (by omega)).1]; exact d, by rw [m0]; exact e, fun j hj => ?_⟩
  obtain ⟨f1, f2, f3⟩ := f j hj
  refine ⟨zVX_o (fun i h3 h4 => h1 i (by omega) (by omega)) f1, ?_, f3⟩
  rw [m3, m4]
  exact f2
theorem zRe_cg {S S' M M' : sh_St} (h : zRe S M) (h0 : S'.1 0 9 = S.1 0 9) (h1 : ∀ i, 24 ≤ i → i ≤ 33 → S'.1 i = S.1 i ∧ S'.2 i = S.2 i) (m0 : M'.1 0 10 = M.1 0 10) (m7 : M'.1 7 = M.1 7) (m8 : M'.2 8 = M.2 8) : zRe S' M' := by
  obtain ⟨i, Tk, a, b, c, d⟩ := h
  refine ⟨i, Tk, a, by rw [h0]; exact b, by rw [m0]; exact c, fun q => ?_⟩
  obtain ⟨d1, d2, d3⟩ := d q
  refine ⟨zVX_o (fun i h3 h4 => h1 i (by omega) (by omega)) d1, ?_, d3⟩
  rw [m7, m8]
  exact d2
theorem zRg_cg {S S' : sh_St} (h : zRg S) (h1 : ∀ i, 128 ≤ i → i ≤ 130 → S'.1 i = S.1 i) : zRg S' := by
  unfold zRg
  rw [h1 128 (by omega) (by omega), h1 129 (by omega) (by omega), h1 130 (by omega) (by omega)]
  exact h
/-- nothing but scratch, thrown, the text and the tape's length has changed -/
theorem zR_mk {S S' M M' : sh_St} {T : zT} {B : Nat → Nat} {L : Nat} (h : zR S M T B L) (L' : Nat) (hL : L' ≤ 400) (xt : S'.1 1 1 = nI L') (mt : M'.1 0 17 = nI L') (x3 : S'.1 3 3 = M'.1 0 20) (x10 : S'.1 0 10 = M'.1 0 21) (x9 : S'.1 0 9 = S.1 0 9)
    (xc : ∀ i, (i = 2 ∨ (4 ≤ i ∧ i ≤ 13) ∨ (24 ≤ i ∧ i ≤ 115) ∨ 128 ≤ i) → S'.1 i = S.1 i ∧ S'.2 i = S.2 i) (m0 : ∀ k, (k = 5 ∨ k = 10) → M'.1 0 k = M.1 0 k) (mc : ∀ i, ((1 ≤ i ∧ i ≤ 4) ∨ (7 ≤ i ∧ i ≤ 14)) → M'.1 i = M.1 i ∧ M'.2 i = M.2 i) : zR S' M' T B L' := by
  obtain ⟨a, b, c, d, e, f, g, h1, h2, h3⟩ := h
  refine ⟨a, zVX_o (fun i h3 h4 => xc i (by omega)) b, ?_, zRa_cg d L' hL xt (xc 2 (by omega)).1 mt (mc 14 (by omega)).1, x3, x10, zRc_cg g (fun i hi => (xc i (by omega)).1) (fun i h3 h4 => (mc i (by omega)).1), zRd_cg h1 (fun i h3 h4 => xc i (by omega)) (m0 5 (by omega)) (mc 3 (by omega)).1 (mc 4 (by omega)).2, zRe_cg h2 x9 (fun i h3 h4 => xc i (by omega)) (m0 10 (by omega)) (mc 7 (by omega)).1 (mc 8 (by omega)).2, zRg_cg h3 (fun i h3 h4 => (xc i (by omega)).1)⟩
  unfold zVN
  rw [(mc 1 (by omega)).1, (mc 2 (by omega)).2]
  exact c
/-- the reference has thrown set, scratch changed -/
def zMQ (M M' : sh_St) : Prop := (∀ k, k ≠ 0 → k < 27 → M'.1 0 k = M.1 0 k) ∧ ∀ i, i ≠ 0 → (i < 15 ∨ 20 < i) → M'.1 i = M.1 i ∧ M'.2 i = M.2 i
theorem zMQ_rf (M : sh_St) : zMQ M M := ⟨fun _ _ _ => rfl, fun _ _ _ => ⟨rfl, rfl⟩⟩
theorem zMQ_tr {M M1 M2 : sh_St} (h1 : zMQ M M1) (h2 : zMQ M1 M2) : zMQ M M2 := ⟨fun k a b => (h2.1 k a b).trans (h1.1 k a b), fun i a b => ⟨(h2.2 i a b).1.trans (h1.2 i a b).1, (h2.2 i a b).2.trans (h1.2 i a b).2⟩⟩
theorem zMQ_m {M M' : sh_St} (h : zFm M M') : zMQ M M' := ⟨fun k _ b => h.1 k b, fun i a b => h.2.2 i a b⟩
theorem zMQ_0 (M : sh_St) (v : Int32) : zMQ M (sh_I M 0 0 v) := ⟨fun k a _ => zI_k M 0 0 v a, fun i a _ => sh_I_ne M 0 0 v i a⟩
theorem zR_q {S S' M M' : sh_St} {T : zT} {B : Nat → Nat} {L : Nat} (h : zR S M T B L) (hs : zFr 116 127 S S') (hm : zMQ M M') : zR S' M' T B L := by
  have hh := h
  obtain ⟨_, _, _, d, e, f, _⟩ := h
  refine zR_mk hh L d.2.2.1 ?_ ?_ ?_ ?_ ?_ (fun i hi => hs i (by omega)) (fun k hk => hm.1 k (by omega) (by omega)) (fun i hi => hm.2 i (by omega) (by omega))
  · rw [(hs 1 (by omega)).1]; exact d.1
  · rw [hm.1 17 (by omega) (by omega)]; exact d.2.1
  · rw [(hs 3 (by omega)).1, hm.1 20 (by omega) (by omega)]; exact e
  · rw [(hs 0 (by omega)).1, hm.1 21 (by omega) (by omega)]; exact f
  · rw [(hs 0 (by omega)).1]
/-! numbers that a call is given -/
theorem zq_neg {v : Int32} (h : v < 0) : v.toInt < 0 := by
  have := Int32.lt_iff_toInt_lt.mp h
  exact this
theorem zn_lt {v : Int32} (h : v < 0) {a : Nat} (ha : a < 2 ^ 31) : (v < nI a) = True := eq_true (Int32.lt_iff_toInt_lt.mpr (by rw [nI_toInt ha]; have := zq_neg h; omega))
theorem zn_gt {v : Int32} (h : v < 0) {a : Nat} (ha : a < 2 ^ 31) : (nI a < v) = False := eq_false (fun q => by have := Int32.lt_iff_toInt_lt.mp q; rw [nI_toInt ha] at this; have := zq_neg h; omega)
theorem zn_ge {v : Int32} (h : v < 0) {a : Nat} (ha : a < 2 ^ 31) : (nI a ≤ v) = False := eq_false (fun q => by have := Int32.le_iff_toInt_le.mp q; rw [nI_toInt ha] at this; have := zq_neg h; omega)
theorem zn_le {v : Int32} (h : v < 0) {a : Nat} (ha : a < 2 ^ 31) : (v ≤ nI a) = True := eq_true (Int32.le_iff_toInt_le.mpr (by rw [nI_toInt ha]; have := zq_neg h; omega))
theorem zn_eq {v : Int32} (h : v < 0) {a : Nat} (ha : a < 2 ^ 31) : (v = nI a) = False := eq_false (fun q => by have := zq_neg h; rw [q, nI_toInt ha] at this; omega)
theorem zn_cs (v : Int32) : v < 0 ∨ ∃ j : Nat, j < 2 ^ 31 ∧ v = nI j := by
  by_cases c : v < 0
  · exact Or.inl c
  · exact Or.inr (nI_of c)
theorem zn_isIn (S : sh_St) {v : Int32} (h : v < 0) {lo hi : Nat} (hlo : lo < 2 ^ 31) : fX13_isIn S v (nI lo) (nI hi) = some (nI 0, S) := by
  rw [fX13_isIn]
  simp (disch := omega) only [zq_l9, pk_mul, nI_add, zq_t9, zq_c9, zq_bz9, zq_bo9, zq_g, zq_cl, zq_leT, zq_leF, zq_ltT, zq_ltF, zq_eqT, zq_eqF, zq_em, zq_me, zq_pm, zq_mm, zq_gm, pk_sub, zI_s, zI_k, zI_c, zI_2, zL_s, zL_k, zL_c, zL_1, if_true, if_false, eq_self, Nat.zero_add, Nat.add_zero, zn_lt h]
theorem zm_within' (S : sh_St) {v lo hi : Nat} (hv : v < 2 ^ 31) (hlo : lo < 2 ^ 31) (hhi : hi < 2 ^ 31) : fX13_isIn S (nI v) (nI lo) (nI hi) = some (nI (if lo ≤ v ∧ v ≤ hi then 1 else 0), S) := by
  rw [fX13_isIn]
  by_cases c1 : v < lo
  · rw [if_neg (show ¬ (lo ≤ v ∧ v ≤ hi) by omega)]
    simp (disch := omega) only [zq_l9, pk_mul, nI_add, zq_t9, zq_c9, zq_bz9, zq_bo9, zq_g, zq_cl, zq_leT, zq_leF, zq_ltT, zq_ltF, zq_eqT, zq_eqF, zq_em, zq_me, zq_pm, zq_mm, zq_gm, pk_sub, zI_s, zI_k, zI_c, zI_2, zL_s, zL_k, zL_c, zL_1, if_true, if_false, eq_self, Nat.zero_add, Nat.add_zero]
  · by_cases c2 : hi < v
    · rw [if_neg (show ¬ (lo ≤ v ∧ v ≤ hi) by omega)]
      simp (disch := omega) only [zq_l9, pk_mul, nI_add, zq_t9, zq_c9, zq_bz9, zq_bo9, zq_g, zq_cl, zq_leT, zq_leF, zq_ltT, zq_ltF, zq_eqT, zq_eqF, zq_em, zq_me, zq_pm, zq_mm, zq_gm, pk_sub, zI_s, zI_k, zI_c, zI_2, zL_s, zL_k, zL_c, zL_1, if_true, if_false, eq_self, Nat.zero_add, Nat.add_zero]
    · rw [if_pos (show lo ≤ v ∧ v ≤ hi by omega)]
      simp (disch := omega) only [zq_l9, pk_mul, nI_add, zq_t9, zq_c9, zq_bz9, zq_bo9, zq_g, zq_cl, zq_leT, zq_leF, zq_ltT, zq_ltF, zq_eqT, zq_eqF, zq_em, zq_me, zq_pm, zq_mm, zq_gm, pk_sub, zI_s, zI_k, zI_c, zI_2, zL_s, zL_k, zL_c, zL_1, if_true, if_false, eq_self, Nat.zero_add, Nat.add_zero]
