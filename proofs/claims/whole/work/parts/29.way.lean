theorem zx_addRows {T : zT} (hI : zInv T) {P : List (Nat × Nat × Nat)} {b : Nat} (hb : b < 40) (hP : P.length + T.1 1 b ≤ 40) {S : sh_St} (hv : zVX S 4 T) (ho : zOrd S P) : ∃ S', fX5_addRowsOf S (nI b) = some ((), S') ∧ zOrd S' (P ++ zL1 T b) ∧ zFr 117 120 S S' := by
  have h5 := zInv_c5 hI hb
  rw [fX5_addRowsOf]
  exact zx_addRows_l hI P hb hP sh_FU 0 S hv (by omega) (by have : sh_FU = 100000 := rfl; omega) (by rw [show zLp T b 0 = [] from rfl, List.append_nil]; exact ho)
theorem zX_g0 {S : sh_St} {T : zT} (h : zVX S 4 T) {r : Nat} (hr : r < T.1 1 0) : S.1 13 r = nI (T.1 6 r) := by
  have := zX_g h (b := 0) (by omega) hr
  rwa [Nat.zero_mul, Nat.zero_add] at this
theorem zx_gather_l {T : zT} (hI : zInv T) : ∀ (n r : Nat) (S : sh_St), zVX S 4 T → r ≤ T.1 1 0 → T.1 1 0 - r < n → zOrd S (zQ T r) → ∃ S', fX5_gather_60 n S (nI r) = some ((), S') ∧ zOrd S' (zQ T (T.1 1 0)) ∧ zFr 117 120 S S' := by
  intro n
  induction n with
  | zero => intro r S hv h1 h2; omega
  | succ n ih =>
    intro r S hv h1 h2 ho
    have h5 := zInv_c5 hI (b := 0) (by omega)
    rw [fX5_gather_60]
    by_cases h : r = T.1 1 0
    · simp (disch := omega) only [zq_l2, pk_mul, nI_add, zq_t, zq_c, zq_bz, zq_bo, zq_g, zq_cl, zq_leT, zq_leF, zq_ltT, zq_ltF, zq_eqT, zq_eqF, zq_em, zq_me, zq_pm, zq_mm, zq_gm, pk_sub, zI_s, zI_k, zI_c, zI_2, zL_s, zL_k, zL_c, zL_1, if_true, if_false, eq_self, Nat.zero_add, Nat.add_zero, zX_c hv]
      subst h
      exact ⟨S, rfl, ho, zFr_rf 117 120 S⟩
    · have hr : r < T.1 1 0 := by omega
      have hc := zInv_c0 hI hr
      have h6 := zInv_c5 hI hc
      have hq := zQ_len hI r (by omega)
      obtain ⟨S1, e1, e2, e3⟩ := zx_addRows hI hc (by omega) hv ho
      rw [← zQ_s] at e2
      obtain ⟨S', f1, f2, f3⟩ := ih (r + 1) S1 (zVX_f4 e3 (by omega) hv) (by omega) (by omega) e2
      refine ⟨S', ?_, f2, zFr_tr e3 f3⟩
      simp (disch := omega) only [zq_l2, pk_mul, nI_add, zq_t, zq_c, zq_bz, zq_bo, zq_g, zq_cl, zq_leT, zq_leF, zq_ltT, zq_ltF, zq_eqT, zq_eqF, zq_em, zq_me, zq_pm, zq_mm, zq_gm, pk_sub, zI_s, zI_k, zI_c, zI_2, zL_s, zL_k, zL_c, zL_1, if_true, if_false, eq_self, Nat.zero_add, Nat.add_zero, zX_c hv, zX_g0 hv hr, e1]
      exact f1
theorem zx_gather {S : sh_St} {T : zT} (hv : zVX S 4 T) (hI : zInv T) : ∃ S', fX5_gather S = some ((), S') ∧ zOrd S' (zLL T) ∧ zFr 117 120 S S' := by
  have hl := hI.1.1
  have hf : zFr 117 120 S (sh_I S 117 3 (nI 0)) := zFr_I S _ _ (by omega) (by omega)
  have hv1 := zVX_f4 hf (by omega) hv
  have h5 := zInv_c5 hI (b := 0) (by omega)
  have ho : zOrd (sh_I S 117 3 (nI 0)) [] := ⟨zI_s _ _ _ _, fun k q hq => by simp at hq⟩
  rw [fX5_gather]
  unfold zLL
  by_cases h0 : T.1 7 0 = 0
  · rw [if_pos h0]
    have hq := zOrd_app ho (0, 0, 0)
    refine ⟨_, ?_, hq, ?_⟩
    · simp (disch := omega) only [zq_l2, pk_mul, nI_add, zq_t, zq_c, zq_bz, zq_bo, zq_g, zq_cl, zq_leT, zq_leF, zq_ltT, zq_ltF, zq_eqT, zq_eqF, zq_em, zq_me, zq_pm, zq_mm, zq_gm, pk_sub, zI_s, zI_k, zI_c, zI_2, zL_s, zL_k, zL_c, zL_1, if_true, if_false, eq_self, Nat.zero_add, Nat.add_zero, zX_v hv, h0]
      rfl
    · exact zFr_tr hf (zFr_tr (zFr_tr (zFr_tr (zFr_I _ _ _ (by omega) (by omega)) (zFr_I _ _ _ (by omega) (by omega))) (zFr_I _ _ _ (by omega) (by omega))) (zFr_I _ _ _ (by omega) (by omega)))
  · rw [if_neg h0]
    by_cases h1 : T.1 7 0 = 1
    · rw [if_pos h1]
      obtain ⟨S', e1, e2, e3⟩ := zx_addRows hI (b := 0) (by omega) (P := []) (by rw [List.length_nil]; omega) hv1 ho
      rw [List.nil_append] at e2
      refine ⟨S', ?_, e2, zFr_tr hf e3⟩
      simp (disch := omega) only [zq_l2, pk_mul, nI_add, zq_t, zq_c, zq_bz, zq_bo, zq_g, zq_cl, zq_leT, zq_leF, zq_ltT, zq_ltF, zq_eqT, zq_eqF, zq_em, zq_me, zq_pm, zq_mm, zq_gm, pk_sub, zI_s, zI_k, zI_c, zI_2, zL_s, zL_k, zL_c, zL_1, if_true, if_false, eq_self, Nat.zero_add, Nat.add_zero, zX_v hv, h1, e1]
    · rw [if_neg h1]
      obtain ⟨S', e1, e2, e3⟩ := zx_gather_l hI sh_FU 0 _ hv1 (by omega) (by have : sh_FU = 100000 := rfl; omega) ho
      refine ⟨S', ?_, e2, zFr_tr hf e3⟩
      simp (disch := omega) only [zq_l2, pk_mul, nI_add, zq_t, zq_c, zq_bz, zq_bo, zq_g, zq_cl, zq_leT, zq_leF, zq_ltT, zq_ltF, zq_eqT, zq_eqF, zq_em, zq_me, zq_pm, zq_mm, zq_gm, pk_sub, zI_s, zI_k, zI_c, zI_2, zL_s, zL_k, zL_c, zL_1, if_true, if_false, eq_self, Nat.zero_add, Nat.add_zero, zX_v hv]
      exact e1
/-! the same by the reference -/
def zjn (S : sh_St) (n : Nat) (q : Nat × Nat × Nat) : sh_St := sh_I (sh_I (sh_I (sh_I S 15 n (nI q.1)) 16 n (nI q.2.1)) 17 n (nI q.2.2)) 0 27 (nI (n + 1))
theorem zjn_f (S : sh_St) (n : Nat) (q : Nat × Nat × Nat) : zFn S (zjn S n q) := zFn_tr (zFn_tr (zFn_tr (zFn_I S _ _ (by omega) (by omega)) (zFn_I _ _ _ (by omega) (by omega))) (zFn_I _ _ _ (by omega) (by omega))) (zFn_0 _ _ (by omega))
theorem zm_joins {S : sh_St} {T : zT} (hv : zVN S T) (hI : zInv T) {L : List (Nat × Nat × Nat)} (hL : zLin S L) (hl : L.length < 40) {b r : Nat} (hb : b < 40) (hr : r < T.1 1 b) : fX13_joins S (nI b) (nI r) = some ((), zjn S L.length (T.1 6 (b * 6 + r), T.1 4 (b * 6 + r), T.1 5 (b * 6 + r))) := by
  have h5 := zInv_c5 hI hb
  rw [fX13_joins]
  simp (disch := omega) only [zq_l2, pk_mul, nI_add, zq_t, zq_c, zq_bz, zq_bo, zq_g, zq_cl, zq_leT, zq_leF, zq_ltT, zq_ltF, zq_eqT, zq_eqF, zq_em, zq_me, zq_pm, zq_mm, zq_gm, pk_sub, zI_s, zI_k, zI_c, zI_2, zL_s, zL_k, zL_c, zL_1, if_true, if_false, eq_self, Nat.zero_add, Nat.add_zero, fX13_rowAt, hL.1, zM_l hv hb hr, zM_m hv hb hr, zM_g hv hb hr]
  rfl
theorem zM_c0 {S : sh_St} {T : zT} (h : zVN S T) : S.1 1 80 = nI (T.1 1 0) := zM_c h (b := 0) (by omega)
theorem zM_g0 {S : sh_St} {T : zT} (h : zVN S T) {r : Nat} (hr : r < T.1 1 0) : S.1 1 (120 + 3 * r + 2) = nI (T.1 6 r) := by
  have := zM_g h (b := 0) (by omega) hr
  simpa using this
theorem zm_lays_i {T : zT} (hI : zInv T) (P : List (Nat × Nat × Nat)) {b r : Nat} (hb : b < 40) (hr : r < 40) (hP : P.length + T.1 1 b ≤ 40) (rk : sh_St → Int32 → Option (Unit × sh_St)) : ∀ (n s : Nat) (S : sh_St), zVN S T → s ≤ T.1 1 b → T.1 1 b - s < n → zLin S (P ++ zLp T b s) → ∃ S', fX13_laysLine_91 rk n S (nI r) (nI b) (nI s) = rk S' (nI (r + 1)) ∧ zLin S' (P ++ zL1 T b) ∧ zFn S S' := by
  intro n
  induction n with
  | zero => intro s S hv h1 h2; omega
  | succ n ih =>
    intro s S hv h1 h2 ho
    have h5 := zInv_c5 hI hb
    have hlen : (P ++ zLp T b s).length = P.length + s := by rw [List.length_append, zLp_len]
    rw [fX13_laysLine_91]
    by_cases h : s = T.1 1 b
    · refine ⟨S, ?_, by rw [h] at ho; exact ho, zFn_rf S⟩
      simp (disch := omega) only [zq_l2, pk_mul, nI_add, zq_t, zq_c, zq_bz, zq_bo, zq_g, zq_cl, zq_leT, zq_leF, zq_ltT, zq_ltF, zq_eqT, zq_eqF, zq_em, zq_me, zq_pm, zq_mm, zq_gm, pk_sub, zI_s, zI_k, zI_c, zI_2, zL_s, zL_k, zL_c, zL_1, if_true, if_false, eq_self, Nat.zero_add, Nat.add_zero, zM_c hv, fX13_laysLine_116]
    · have hs : s < T.1 1 b := by omega
      have hq := zLin_app ho (T.1 6 (b * 6 + s), T.1 4 (b * 6 + s), T.1 5 (b * 6 + s))
      have e1 := zm_joins hv hI ho (by omega) hb hs
      rw [List.append_assoc, ← zLp_s] at hq
      have hf := zjn_f S (P ++ zLp T b s).length (T.1 6 (b * 6 + s), T.1 4 (b * 6 + s), T.1 5 (b * 6 + s))
      obtain ⟨S', f1, f2, f3⟩ := ih (s + 1) _ (zVN_fn hf hv) (by omega) (by omega) hq
      refine ⟨S', ?_, f2, zFn_tr hf f3⟩
      simp (disch := omega) only [zq_l2, pk_mul, nI_add, zq_t, zq_c, zq_bz, zq_bo, zq_g, zq_cl, zq_leT, zq_leF, zq_ltT, zq_ltF, zq_eqT, zq_eqF, zq_em, zq_me, zq_pm, zq_mm, zq_gm, pk_sub, zI_s, zI_k, zI_c, zI_2, zL_s, zL_k, zL_c, zL_1, if_true, if_false, eq_self, Nat.zero_add, Nat.add_zero, zM_c hv, e1]
      exact f1
theorem zm_lays_l {T : zT} (hI : zInv T) (h0 : T.1 7 0 ≠ 0) : ∀ (n r : Nat) (S : sh_St), zVN S T → r ≤ T.1 1 0 → T.1 1 0 - r < n → zLin S (if T.1 7 0 = 1 then zLp T 0 r else zQ T r) → ∃ S', fX13_laysLine_45 n S (nI r) = some ((), S') ∧ zLin S' (if T.1 7 0 = 1 then zLp T 0 (T.1 1 0) else zQ T (T.1 1 0)) ∧ zFn S S' := by
  intro n
  induction n with
  | zero => intro r S hv h1 h2; omega
  | succ n ih =>
    intro r S hv h1 h2 ho
    have h5 := zInv_c5 hI (b := 0) (by omega)
    have hle := hI.1.1
    rw [fX13_laysLine_45]
    by_cases h : r = T.1 1 0
    · refine ⟨S, ?_, by rw [h] at ho; exact ho, zFn_rf S⟩
      simp (disch := omega) only [zq_l2, pk_mul, nI_add, zq_t, zq_c, zq_bz, zq_bo, zq_g, zq_cl, zq_leT, zq_leF, zq_ltT, zq_ltF, zq_eqT, zq_eqF, zq_em, zq_me, zq_pm, zq_mm, zq_gm, pk_sub, zI_s, zI_k, zI_c, zI_2, zL_s, zL_k, zL_c, zL_1, if_true, if_false, eq_self, Nat.zero_add, Nat.add_zero, zM_c0 hv]
    · have hr : r < T.1 1 0 := by omega
      by_cases h1 : T.1 7 0 = 1
      · simp only [if_pos h1] at ho ih ⊢
        have hlen := zLp_len T 0 r
        have hq := zLin_app ho (T.1 6 (0 * 6 + r), T.1 4 (0 * 6 + r), T.1 5 (0 * 6 + r))
        have e1 := zm_joins hv hI ho (by omega) (b := 0) (by omega) hr
        rw [← zLp_s] at hq
        have hf := zjn_f S (zLp T 0 r).length (T.1 6 (0 * 6 + r), T.1 4 (0 * 6 + r), T.1 5 (0 * 6 + r))
        obtain ⟨S', f1, f2, f3⟩ := ih (r + 1) _ (zVN_fn hf hv) (by omega) (by omega) hq
        refine ⟨S', ?_, f2, zFn_tr hf f3⟩
        simp (disch := omega) only [zq_l2, pk_mul, nI_add, zq_t, zq_c, zq_bz, zq_bo, zq_g, zq_cl, zq_leT, zq_leF, zq_ltT, zq_ltF, zq_eqT, zq_eqF, zq_em, zq_me, zq_pm, zq_mm, zq_gm, pk_sub, zI_s, zI_k, zI_c, zI_2, zL_s, zL_k, zL_c, zL_1, if_true, if_false, eq_self, Nat.zero_add, Nat.add_zero, zM_c0 hv, zM_v hv, h1, e1, fX13_laysLine_116]
        exact f1
      · simp only [if_neg h1] at ho ih ⊢
        have hc := zInv_c0 hI hr
        have h6 := zInv_c5 hI hc
        have hq := zQ_len hI r (by omega)
        obtain ⟨S1, e1, e2, e3⟩ := zm_lays_i hI (zQ T r) hc (r := r) (by omega) (by omega) (fX13_laysLine_45 n) sh_FU 0 S hv (by omega) (by have : sh_FU = 100000 := rfl; omega) (by rw [show zLp T (T.1 6 r) 0 = [] from rfl, List.append_nil]; exact ho)
        rw [← zQ_s] at e2
        obtain ⟨S', f1, f2, f3⟩ := ih (r + 1) S1 (zVN_fn e3 hv) (by omega) (by omega) e2
        refine ⟨S', ?_, f2, zFn_tr e3 f3⟩
        simp (disch := omega) only [zq_l2, pk_mul, nI_add, zq_t, zq_c, zq_bz, zq_bo, zq_g, zq_cl, zq_leT, zq_leF, zq_ltT, zq_ltF, zq_eqT, zq_eqF, zq_em, zq_me, zq_pm, zq_mm, zq_gm, pk_sub, zI_s, zI_k, zI_c, zI_2, zL_s, zL_k, zL_c, zL_1, if_true, if_false, eq_self, Nat.zero_add, Nat.add_zero, zM_c0 hv, zM_v hv, fX13_rowAt, Nat.mul_zero, zM_g0 hv hr]
        exact e1.trans f1
theorem zm_lays {S : sh_St} {T : zT} (hv : zVN S T) (hI : zInv T) : ∃ S', fX13_laysLine S = some ((), S') ∧ zLin S' (zLL T) ∧ zFn S S' := by
  have hl := hI.1.1
  have hf : zFn S (sh_I S 0 27 (nI 0)) := zFn_0 S _ (by omega)
  have hv1 := zVN_fn hf hv
  have h5 := zInv_c5 hI (b := 0) (by omega)
  have ho : zLin (sh_I S 0 27 (nI 0)) [] := ⟨zI_s _ _ _ _, fun k q hq => by simp at hq⟩
  rw [fX13_laysLine]
  unfold zLL
  by_cases h0 : T.1 7 0 = 0
  · rw [if_pos h0]
    have hq := zLin_app ho (0, 0, 0)
    refine ⟨_, ?_, hq, ?_⟩
    · simp (disch := omega) only [zq_l2, pk_mul, nI_add, zq_t, zq_c, zq_bz, zq_bo, zq_g, zq_cl, zq_leT, zq_leF, zq_ltT, zq_ltF, zq_eqT, zq_eqF, zq_em, zq_me, zq_pm, zq_mm, zq_gm, pk_sub, zI_s, zI_k, zI_c, zI_2, zL_s, zL_k, zL_c, zL_1, if_true, if_false, eq_self, Nat.zero_add, Nat.add_zero, zM_v hv, h0]
      rfl
    · exact zFn_tr hf (zjn_f _ 0 (0, 0, 0))
  · rw [if_neg h0]
    obtain ⟨S', e1, e2, e3⟩ := zm_lays_l hI h0 sh_FU 0 _ hv1 (by omega) (by have : sh_FU = 100000 := rfl; omega) (by split <;> exact ho)
    refine ⟨S', ?_, e2, zFn_tr hf e3⟩
    simp (disch := omega) only [zq_l2, pk_mul, nI_add, zq_t, zq_c, zq_bz, zq_bo, zq_g, zq_cl, zq_leT, zq_leF, zq_ltT, zq_ltF, zq_eqT, zq_eqF, zq_em, zq_me, zq_pm, zq_mm, zq_gm, pk_sub, zI_s, zI_k, zI_c, zI_2, zL_s, zL_k, zL_c, zL_1, if_true, if_false, eq_self, Nat.zero_add, Nat.add_zero, zM_v hv]
    exact e1
/-! the row that a hash goes by -/
def zrp (T : zT) (b h r : Nat) : Bool := decide (T.1 4 (b * 6 + r) < h ∨ (T.1 4 (b * 6 + r) = h ∧ T.1 5 (b * 6 + r) = 0))
def zrf (T : zT) (b h : Nat) : Nat → Nat
  | 0 => 0
  | r + 1 => if zrp T b h r = true then r else zrf T b h r
def zr (T : zT) (b h : Nat) : Nat := zrf T b h (T.1 1 b)
theorem zrf_lt (T : zT) (b h : Nat) : ∀ s, 1 ≤ s → zrf T b h s < s := by
  intro s
  induction s with
  | zero => intro h; omega
  | succ s ih =>
    intro _
    unfold zrf
    split
    · omega
    · by_cases h0 : s = 0
      · subst h0; exact Nat.one_pos
      · have := ih (by omega); omega
theorem zrf_le (T : zT) (b h s : Nat) : zrf T b h s ≤ s := by
  cases s with
  | zero => exact Nat.le_refl 0
  | succ s => exact Nat.le_of_lt (zrf_lt T b h (s + 1) (by omega))
theorem zrf_t {T : zT} {b h r : Nat} (e : zrp T b h r = true) : zrf T b h (r + 1) = r := if_pos e
theorem zrf_f {T : zT} {b h r : Nat} (e : ¬ zrp T b h r = true) : zrf T b h (r + 1) = zrf T b h r := if_neg e
theorem zx_rowFor_l {S : sh_St} {T : zT} (hv : zVX S 4 T) (hI : zInv T) {b h : Nat} (hb : b < 40) (hh : h < 4096) : ∀ (n s : Nat), s ≤ T.1 1 b → T.1 1 b - s < n → fX11_rowFor_5 n S (nI b) (nI h) (nI (zrf T b h s)) (nI s) = some (nI (zr T b h), S) := by
  intro n
  induction n with
  | zero => intro s h1 h2; omega
  | succ n ih =>
    intro s h1 h2
    have h5 := zInv_c5 hI hb
    rw [fX11_rowFor_5]
    by_cases h9 : s = T.1 1 b
    · simp (disch := omega) only [zq_l2, pk_mul, nI_add, zq_t, zq_c, zq_bz, zq_bo, zq_g, zq_cl, zq_leT, zq_leF, zq_ltT, zq_ltF, zq_eqT, zq_eqF, zq_em, zq_me, zq_pm, zq_mm, zq_gm, pk_sub, zI_s, zI_k, zI_c, zI_2, zL_s, zL_k, zL_c, zL_1, if_true, if_false, eq_self, Nat.zero_add, Nat.add_zero, zX_c hv]
      rw [h9]; rfl
    · have hs : s < T.1 1 b := by omega
      have e := ih (s + 1) (by omega) (by omega)
      have hl := zInv_li hI hb hs
      have hm := zInv_ma hI hb hs
      by_cases c1 : T.1 4 (b * 6 + s) < h
      · rw [zrf_t (decide_eq_true (Or.inl c1))] at e
        simp (disch := omega) only [zq_l2, pk_mul, nI_add, zq_t, zq_c, zq_bz, zq_bo, zq_g, zq_cl, zq_leT, zq_leF, zq_ltT, zq_ltF, zq_eqT, zq_eqF, zq_em, zq_me, zq_pm, zq_mm, zq_gm, pk_sub, zI_s, zI_k, zI_c, zI_2, zL_s, zL_k, zL_c, zL_1, if_true, if_false, eq_self, Nat.zero_add, Nat.add_zero, zX_c hv, zX_l hv hb hs, fX11_rowFor_56, fX11_rowFor_59]
        exact e
      · by_cases c2 : T.1 4 (b * 6 + s) = h
        · by_cases c3 : T.1 5 (b * 6 + s) = 0
          · rw [zrf_t (decide_eq_true (Or.inr ⟨c2, c3⟩))] at e
            simp (disch := omega) only [zq_l2, pk_mul, nI_add, zq_t, zq_c, zq_bz, zq_bo, zq_g, zq_cl, zq_leT, zq_leF, zq_ltT, zq_ltF, zq_eqT, zq_eqF, zq_em, zq_me, zq_pm, zq_mm, zq_gm, pk_sub, zI_s, zI_k, zI_c, zI_2, zL_s, zL_k, zL_c, zL_1, if_true, if_false, eq_self, Nat.zero_add, Nat.add_zero, zX_c hv, zX_l hv hb hs, zX_m hv hb hs, fX11_rowFor_56, fX11_rowFor_59]
            exact e
          · rw [zrf_f (fun q => by have := of_decide_eq_true q; omega)] at e
            simp (disch := omega) only [zq_l2, pk_mul, nI_add, zq_t, zq_c, zq_bz, zq_bo, zq_g, zq_cl, zq_leT, zq_leF, zq_ltT, zq_ltF, zq_eqT, zq_eqF, zq_em, zq_me, zq_pm, zq_mm, zq_gm, pk_sub, zI_s, zI_k, zI_c, zI_2, zL_s, zL_k, zL_c, zL_1, if_true, if_false, eq_self, Nat.zero_add, Nat.add_zero, zX_c hv, zX_l hv hb hs, zX_m hv hb hs, fX11_rowFor_56, fX11_rowFor_59]
            exact e
        · rw [zrf_f (fun q => by have := of_decide_eq_true q; omega)] at e
          simp (disch := omega) only [zq_l2, pk_mul, nI_add, zq_t, zq_c, zq_bz, zq_bo, zq_g, zq_cl, zq_leT, zq_leF, zq_ltT, zq_ltF, zq_eqT, zq_eqF, zq_em, zq_me, zq_pm, zq_mm, zq_gm, pk_sub, zI_s, zI_k, zI_c, zI_2, zL_s, zL_k, zL_c, zL_1, if_true, if_false, eq_self, Nat.zero_add, Nat.add_zero, zX_c hv, zX_l hv hb hs, fX11_rowFor_56, fX11_rowFor_59]
          exact e
theorem zx_rowFor {S : sh_St} {T : zT} (hv : zVX S 4 T) (hI : zInv T) {b h : Nat} (hb : b < 40) (hh : h < 4096) : fX11_rowFor S (nI b) (nI h) = some (nI (zr T b h), S) := by
  have h5 := zInv_c5 hI hb
  rw [fX11_rowFor]
  exact zx_rowFor_l hv hI hb hh sh_FU 0 (by omega) (by have : sh_FU = 100000 := rfl; omega)
theorem zm_rowFor_l {S : sh_St} {T : zT} (hv : zVN S T) (hI : zInv T) {b h : Nat} (hb : b < 40) (hh : h < 4096) : ∀ (n s : Nat), s ≤ T.1 1 b → T.1 1 b - s < n → fX13_rowFor_5 n S (nI b) (nI h) (nI (zrf T b h s)) (nI s) = some (nI (zr T b h), S) := by
  intro n
  induction n with
  | zero => intro s h1 h2; omega
  | succ n ih =>
    intro s h1 h2
    have h5 := zInv_c5 hI hb
    rw [fX13_rowFor_5]
    by_cases h9 : s = T.1 1 b
    · simp (disch := omega) only [zq_l2, pk_mul, nI_add, zq_t, zq_c, zq_bz, zq_bo, zq_g, zq_cl, zq_leT, zq_leF, zq_ltT, zq_ltF, zq_eqT, zq_eqF, zq_em, zq_me, zq_pm, zq_mm, zq_gm, pk_sub, zI_s, zI_k, zI_c, zI_2, zL_s, zL_k, zL_c, zL_1, if_true, if_false, eq_self, Nat.zero_add, Nat.add_zero, zM_c hv]
      rw [h9]; rfl
    · have hs : s < T.1 1 b := by omega
      have e := ih (s + 1) (by omega) (by omega)
      have hl := zInv_li hI hb hs
      have hm := zInv_ma hI hb hs
      by_cases c1 : T.1 4 (b * 6 + s) < h
      · rw [zrf_t (decide_eq_true (Or.inl c1))] at e
        simp (disch := omega) only [zq_l2, pk_mul, nI_add, zq_t, zq_c, zq_bz, zq_bo, zq_g, zq_cl, zq_leT, zq_leF, zq_ltT, zq_ltF, zq_eqT, zq_eqF, zq_em, zq_me, zq_pm, zq_mm, zq_gm, pk_sub, zI_s, zI_k, zI_c, zI_2, zL_s, zL_k, zL_c, zL_1, if_true, if_false, eq_self, Nat.zero_add, Nat.add_zero, zM_c hv, zM_l hv hb hs, fX13_rowFor_60, fX13_rowFor_63, fX13_rowAt]
        exact e
      · by_cases c2 : T.1 4 (b * 6 + s) = h
        · by_cases c3 : T.1 5 (b * 6 + s) = 0
          · rw [zrf_t (decide_eq_true (Or.inr ⟨c2, c3⟩))] at e
            simp (disch := omega) only [zq_l2, pk_mul, nI_add, zq_t, zq_c, zq_bz, zq_bo, zq_g, zq_cl, zq_leT, zq_leF, zq_ltT, zq_ltF, zq_eqT, zq_eqF, zq_em, zq_me, zq_pm, zq_mm, zq_gm, pk_sub, zI_s, zI_k, zI_c, zI_2, zL_s, zL_k, zL_c, zL_1, if_true, if_false, eq_self, Nat.zero_add, Nat.add_zero, zM_c hv, zM_l hv hb hs, zM_m hv hb hs, fX13_rowFor_60, fX13_rowFor_63, fX13_rowAt]
            exact e
          · rw [zrf_f (fun q => by have := of_decide_eq_true q; omega)] at e
            simp (disch := omega) only [zq_l2, pk_mul, nI_add, zq_t, zq_c, zq_bz, zq_bo, zq_g, zq_cl, zq_leT, zq_leF, zq_ltT, zq_ltF, zq_eqT, zq_eqF, zq_em, zq_me, zq_pm, zq_mm, zq_gm, pk_sub, zI_s, zI_k, zI_c, zI_2, zL_s, zL_k, zL_c, zL_1, if_true, if_false, eq_self, Nat.zero_add, Nat.add_zero, zM_c hv, zM_l hv hb hs, zM_m hv hb hs, fX13_rowFor_60, fX13_rowFor_63, fX13_rowAt]
            exact e
        · rw [zrf_f (fun q => by have := of_decide_eq_true q; omega)] at e
          simp (disch := omega) only [zq_l2, pk_mul, nI_add, zq_t, zq_c, zq_bz, zq_bo, zq_g, zq_cl, zq_leT, zq_leF, zq_ltT, zq_ltF, zq_eqT, zq_eqF, zq_em, zq_me, zq_pm, zq_mm, zq_gm, pk_sub, zI_s, zI_k, zI_c, zI_2, zL_s, zL_k, zL_c, zL_1, if_true, if_false, eq_self, Nat.zero_add, Nat.add_zero, zM_c hv, zM_l hv hb hs, fX13_rowFor_60, fX13_rowFor_63, fX13_rowAt]
          exact e
theorem zm_rowFor {S : sh_St} {T : zT} (hv : zVN S T) (hI : zInv T) {b h : Nat} (hb : b < 40) (hh : h < 4096) : fX13_rowFor S (nI b) (nI h) = some (nI (zr T b h), S) := by
  have h5 := zInv_c5 hI hb
  rw [fX13_rowFor]
  exact zm_rowFor_l hv hI hb hh sh_FU 0 (by omega) (by have : sh_FU = 100000 := rfl; omega)
