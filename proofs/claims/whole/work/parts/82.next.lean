/-! next: one hash of all that is sorted -/
theorem zgt_le {x e : zE} (h : zle2 x e) : ¬ zgt x e = true := by
  unfold zgt
  rw [Bool.or_eq_true, Bool.and_eq_true, Bool.not_eq_true', decide_eq_true_iff, decide_eq_true_iff, decide_eq_false_iff_not]
  intro q
  have h1 := h.1
  rcases q with q | ⟨q1, q2⟩
  · omega
  · exact q2 (h.2 q1.symm)
theorem zinr_fil (e : zE) (q : zE → Bool) : ∀ (A B : List zE), (A.reverse ++ B).Pairwise zle2 → (zinr e A B).filter q = if q e = true then zinr e (A.filter q) (B.filter q) else (A.filter q).reverse ++ B.filter q := by
  intro A
  induction A with
  | nil =>
    intro B _
    show (e :: B).filter q = if q e = true then e :: B.filter q else [] ++ B.filter q
    by_cases c : q e = true
    · rw [if_pos c, List.filter_cons_of_pos c]
    · rw [if_neg c, List.filter_cons_of_neg c]; rfl
  | cons x A ih =>
    intro B h
    have h' : (A.reverse ++ (x :: B)).Pairwise zle2 := by
      rw [List.reverse_cons, List.append_assoc] at h
      exact h
    by_cases g : zgt x e = true
    · have e1 : zinr e (x :: A) B = zinr e A (x :: B) := if_pos g
      rw [e1, ih (x :: B) h']
      by_cases cx : q x = true
      · rw [List.filter_cons_of_pos cx, List.filter_cons_of_pos cx]
        by_cases c : q e = true
        · rw [if_pos c, if_pos c]
          exact (if_pos g).symm
        · rw [if_neg c, if_neg c, List.reverse_cons, List.append_assoc]
          rfl
      · rw [List.filter_cons_of_neg cx, List.filter_cons_of_neg cx]
    · have e1 : zinr e (x :: A) B = (x :: A).reverse ++ e :: B := if_neg g
      rw [e1, List.filter_append, List.filter_reverse]
      by_cases c : q e = true
      · rw [if_pos c, List.filter_cons_of_pos c]
        by_cases cx : q x = true
        · rw [List.filter_cons_of_pos cx]
          exact (if_neg g).symm
        · rw [List.filter_cons_of_neg cx]
          cases hf : A.filter q with
          | nil => rfl
          | cons y F =>
            have hy : y ∈ A := (List.mem_filter.mp (by rw [hf]; exact List.mem_cons_self)).1
            have hyx : zle2 y x := by
              rw [List.pairwise_append] at h'
              exact h'.2.2 y (List.mem_reverse.mpr hy) x List.mem_cons_self
            exact (if_neg (zgt_le (zle2_tr hyx (zgt_n g)))).symm
      · rw [if_neg c, List.filter_cons_of_neg c]
theorem zins_fil {P : List zE} (h : P.Pairwise zle2) (e : zE) (q : zE → Bool) : (zins P e).filter q = if q e = true then zins (P.filter q) e else P.filter q := by
  unfold zins
  rw [zinr_fil e q P.reverse [] (by rw [List.reverse_reverse, List.append_nil]; exact h), List.filter_reverse, List.reverse_reverse, List.filter_nil, List.append_nil]
theorem zpc_fil (c : Nat → Bool) (e : Nat → zE) (q : zE → Bool) : ∀ n, (zpc c e n).filter q = zpc (fun k => c k && q (e k)) e n := by
  intro n
  induction n with
  | zero => rfl
  | succ n ih =>
    by_cases h : c n = true
    · rw [zpc_t h, zins_fil (zpc_srt c e n), ih]
      by_cases h2 : q (e n) = true
      · rw [if_pos h2, zpc_t (c := fun k => c k && q (e k)) (by rw [h, h2]; rfl)]
      · rw [if_neg h2, zpc_f (c := fun k => c k && q (e k)) (by rw [h]; simp [h2])]
    · rw [zpc_f h, ih, zpc_f (c := fun k => c k && q (e k)) (by simp [h])]
/-- a stretch of a list -/
theorem zstr {P : List zE} {q : zE → Bool} {k0 n : Nat} (hn : k0 + n ≤ P.length) (h : ∀ i, i < P.length → (q (P.getD i (0, 0, 0)) = true ↔ k0 ≤ i ∧ i < k0 + n)) : (P.filter q).length = n ∧ ∀ i, i < n → (P.filter q).getD i (0, 0, 0) = P.getD (k0 + i) (0, 0, 0) := by
  have e : P = P.take k0 ++ ((P.drop k0).take n ++ (P.drop k0).drop n) := by rw [List.take_append_drop, List.take_append_drop]
  have hat : ∀ i x, P[i]? = some x → i < P.length ∧ x = P.getD i (0, 0, 0) := fun i x hx => by
    refine ⟨(List.getElem?_eq_some_iff.mp hx).1, ?_⟩
    rw [List.getD_eq_getElem?_getD, hx]
    rfl
  have f1 : (P.take k0).filter q = [] := by
    rw [List.filter_eq_nil_iff]
    intro x hx
    obtain ⟨i, hi⟩ := List.mem_iff_getElem?.mp hx
    have hik : i < k0 := by
      have := (List.getElem?_eq_some_iff.mp hi).1
      rw [List.length_take] at this
      omega
    rw [List.getElem?_take_of_lt hik] at hi
    obtain ⟨a, b⟩ := hat i x hi
    rw [b]
    intro w
    have := (h i a).1 w
    omega
  have f2 : ((P.drop k0).take n).filter q = (P.drop k0).take n := by
    rw [List.filter_eq_self]
    intro x hx
    obtain ⟨i, hi⟩ := List.mem_iff_getElem?.mp hx
    have hik : i < n := by
      have := (List.getElem?_eq_some_iff.mp hi).1
      rw [List.length_take] at this
      omega
    rw [List.getElem?_take_of_lt hik, List.getElem?_drop] at hi
    obtain ⟨a, b⟩ := hat _ x hi
    rw [b]
    exact (h _ a).2 (by omega)
  have f3 : ((P.drop k0).drop n).filter q = [] := by
    rw [List.filter_eq_nil_iff]
    intro x hx
    obtain ⟨i, hi⟩ := List.mem_iff_getElem?.mp hx
    rw [List.getElem?_drop, List.getElem?_drop] at hi
    obtain ⟨a, b⟩ := hat _ x hi
    rw [b]
    intro w
    have := (h _ a).1 w
    omega
  have ef : P.filter q = (P.drop k0).take n := by
    conv => lhs; rw [e]
    rw [List.filter_append, List.filter_append, f1, f2, f3, List.append_nil, List.nil_append]
  rw [ef]
  refine ⟨?_, fun i hi => ?_⟩
  · rw [List.length_take, List.length_drop]; omega
  · rw [List.getD_eq_getElem?_getD, List.getD_eq_getElem?_getD, List.getElem?_take_of_lt hi, List.getElem?_drop]
/-- the least hash from a number on (4096: none) -/
def zlm (T : zT) (c : Nat) : Nat → Nat
  | 0 => 4096
  | s + 1 => if T.2 s ≠ 0 ∧ c ≤ zha T (T.2 s) ∧ zha T (T.2 s) < zlm T c s then zha T (T.2 s) else zlm T c s
theorem zlm_le (T : zT) (c : Nat) : ∀ s, zlm T c s ≤ 4096 := by
  intro s
  induction s with
  | zero => exact Nat.le_refl _
  | succ s ih =>
    unfold zlm
    split <;> omega
theorem zlm_lo (T : zT) (c : Nat) : ∀ s k, k < s → T.2 k ≠ 0 → c ≤ zha T (T.2 k) → zlm T c s ≤ zha T (T.2 k) := by
  intro s
  induction s with
  | zero => intro k h; omega
  | succ s ih =>
    intro k h1 h2 h3
    unfold zlm
    by_cases e : k = s
    · subst e
      by_cases w : zha T (T.2 k) < zlm T c k
      · rw [if_pos ⟨h2, h3, w⟩]; exact Nat.le_refl _
      · rw [if_neg (fun z => w z.2.2)]; omega
    · have := ih k (by omega) h2 h3
      by_cases w : T.2 s ≠ 0 ∧ c ≤ zha T (T.2 s) ∧ zha T (T.2 s) < zlm T c s
      · rw [if_pos w]; omega
      · rw [if_neg w]; omega
theorem zlm_in (T : zT) (c : Nat) : ∀ s, zlm T c s < 4096 → ∃ k, k < s ∧ T.2 k ≠ 0 ∧ zha T (T.2 k) = zlm T c s ∧ c ≤ zlm T c s := by
  intro s
  induction s with
  | zero => intro h; exact absurd h (Nat.lt_irrefl 4096)
  | succ s ih =>
    intro h
    unfold zlm at h ⊢
    by_cases q : T.2 s ≠ 0 ∧ c ≤ zha T (T.2 s) ∧ zha T (T.2 s) < zlm T c s
    · rw [if_pos q]
      exact ⟨s, by omega, q.1, rfl, q.2.1⟩
    · rw [if_neg q] at h ⊢
      obtain ⟨k, k1, k2, k3, k4⟩ := ih h
      exact ⟨k, by omega, k2, k3, k4⟩
theorem zx_least_l {S : sh_St} {T : zT} (hv : zVX S 4 T) (hI : zInv T) {c : Nat} (hc : c ≤ 4096) : ∀ (m s : Nat), s ≤ 240 → 240 - s < m → fX7_leastHashFrom_4 m S (nI c) (zsp 4096 (zlm T c s)) (nI s) = some (zsp 4096 (zlm T c 240), S) := by
  intro m
  induction m with
  | zero => intro s h1 h2; omega
  | succ m ih =>
    intro s h1 h2
    rw [fX7_leastHashFrom_4]
    by_cases h : s = 240
    · subst h
      simp (disch := omega) only [zq_l9, pk_mul, nI_add, zq_t9, zq_c9, zq_bz9, zq_bo9, zq_g, zq_cl, zq_leT, zq_leF, zq_ltT, zq_ltF, zq_eqT, zq_eqF, zq_em, zq_me, zq_pm, zq_mm, zq_gm, pk_sub, zI_s, zI_k, zI_c, zI_2, zL_s, zL_k, zL_c, zL_1, if_true, if_false, eq_self, Nat.zero_add, Nat.add_zero]
    · have hih := ih (s + 1) (by omega) (by omega)
      have hlt := zha_lt hI (T.2 s)
      have hn := zX_n hv (show s < 240 by omega)
      have hz4 := zlm_le T c s
      have hstay : ¬ (T.2 s ≠ 0 ∧ c ≤ zha T (T.2 s) ∧ zha T (T.2 s) < zlm T c s) → zlm T c (s + 1) = zlm T c s := fun q => if_neg q
      by_cases h9 : T.2 s = 0
      · rw [hstay (fun w => w.1 h9)] at hih
        simp (disch := omega) only [zq_l9, pk_mul, nI_add, zq_t9, zq_c9, zq_bz9, zq_bo9, zq_g, zq_cl, zq_leT, zq_leF, zq_ltT, zq_ltF, zq_eqT, zq_eqF, zq_em, zq_me, zq_pm, zq_mm, zq_gm, pk_sub, zI_s, zI_k, zI_c, zI_2, zL_s, zL_k, zL_c, zL_1, if_true, if_false, eq_self, Nat.zero_add, Nat.add_zero, hn, h9, fX7_leastHashFrom_36, fX7_leastHashFrom_37, fX7_leastHashFrom_66]
        exact hih
      · have hh := zX_h hv (show s < 240 by omega) h9
        by_cases hc1 : zha T (T.2 s) < c
        · rw [hstay (fun w => by omega)] at hih
          simp (disch := omega) only [zq_l9, pk_mul, nI_add, zq_t9, zq_c9, zq_bz9, zq_bo9, zq_g, zq_cl, zq_leT, zq_leF, zq_ltT, zq_ltF, zq_eqT, zq_eqF, zq_em, zq_me, zq_pm, zq_mm, zq_gm, pk_sub, zI_s, zI_k, zI_c, zI_2, zL_s, zL_k, zL_c, zL_1, if_true, if_false, eq_self, Nat.zero_add, Nat.add_zero, hn, h9, hh, fX7_leastHashFrom_36, fX7_leastHashFrom_37, fX7_leastHashFrom_66]
          exact hih
        · by_cases hc2 : zha T (T.2 s) < zlm T c s
          · have e : zlm T c (s + 1) = zha T (T.2 s) := if_pos ⟨h9, by omega, hc2⟩
            rw [e, zsp_t hlt] at hih
            by_cases hc3 : zlm T c s < 4096
            · rw [zsp_t hc3]
              simp (disch := omega) only [zq_l9, pk_mul, nI_add, zq_t9, zq_c9, zq_bz9, zq_bo9, zq_g, zq_cl, zq_leT, zq_leF, zq_ltT, zq_ltF, zq_eqT, zq_eqF, zq_em, zq_me, zq_pm, zq_mm, zq_gm, pk_sub, zI_s, zI_k, zI_c, zI_2, zL_s, zL_k, zL_c, zL_1, if_true, if_false, eq_self, Nat.zero_add, Nat.add_zero, hn, h9, hh, fX7_leastHashFrom_37, fX7_leastHashFrom_59, fX7_leastHashFrom_66]
              exact hih
            · rw [zsp_f hc3]
              simp (disch := omega) only [zq_l9, pk_mul, nI_add, zq_t9, zq_c9, zq_bz9, zq_bo9, zq_g, zq_cl, zq_leT, zq_leF, zq_ltT, zq_ltF, zq_eqT, zq_eqF, zq_em, zq_me, zq_pm, zq_mm, zq_gm, pk_sub, zI_s, zI_k, zI_c, zI_2, zL_s, zL_k, zL_c, zL_1, if_true, if_false, eq_self, Nat.zero_add, Nat.add_zero, hn, h9, hh, fX7_leastHashFrom_37, fX7_leastHashFrom_59, fX7_leastHashFrom_66]
              exact hih
          · rw [hstay (fun w => hc2 w.2.2)] at hih
            rw [zsp_t (show zlm T c s < 4096 by omega)] at hih ⊢
            simp (disch := omega) only [zq_l9, pk_mul, nI_add, zq_t9, zq_c9, zq_bz9, zq_bo9, zq_g, zq_cl, zq_leT, zq_leF, zq_ltT, zq_ltF, zq_eqT, zq_eqF, zq_em, zq_me, zq_pm, zq_mm, zq_gm, pk_sub, zI_s, zI_k, zI_c, zI_2, zL_s, zL_k, zL_c, zL_1, if_true, if_false, eq_self, Nat.zero_add, Nat.add_zero, hn, h9, hh, fX7_leastHashFrom_37, fX7_leastHashFrom_66]
            exact hih
theorem zx_least {S : sh_St} {T : zT} (hv : zVX S 4 T) (hI : zInv T) {c : Nat} (hc : c ≤ 4096) : fX7_leastHashFrom S (nI c) = some (zsp 4096 (zlm T c 240), S) := by
  rw [fX7_leastHashFrom]
  exact zx_least_l hv hI hc sh_FU 0 (by omega) (by decide)
theorem zx_pool0_l {S : sh_St} {T : zT} (hv : zVX S 4 T) (hI : zInv T) : ∀ (m s : Nat), s ≤ 240 → 240 - s < m → fX4_poolOfHash_10 m S (-nI 1) (nI s) = some ((), S) := by
  intro m
  induction m with
  | zero => intro s h1 h2; omega
  | succ m ih =>
    intro s h1 h2
    rw [fX4_poolOfHash_10]
    by_cases h : s = 240
    · subst h
      simp (disch := omega) only [zq_l9, pk_mul, nI_add, zq_t9, zq_c9, zq_bz9, zq_bo9, zq_g, zq_cl, zq_leT, zq_leF, zq_ltT, zq_ltF, zq_eqT, zq_eqF, zq_em, zq_me, zq_pm, zq_mm, zq_gm, pk_sub, zI_s, zI_k, zI_c, zI_2, zL_s, zL_k, zL_c, zL_1, if_true, if_false, eq_self, Nat.zero_add, Nat.add_zero]
    · have hih := ih (s + 1) (by omega) (by omega)
      have hlt := zha_lt hI (T.2 s)
      have hn := zX_n hv (show s < 240 by omega)
      by_cases h9 : T.2 s = 0
      · simp (disch := omega) only [zq_l9, pk_mul, nI_add, zq_t9, zq_c9, zq_bz9, zq_bo9, zq_g, zq_cl, zq_leT, zq_leF, zq_ltT, zq_ltF, zq_eqT, zq_eqF, zq_em, zq_me, zq_pm, zq_mm, zq_gm, pk_sub, zI_s, zI_k, zI_c, zI_2, zL_s, zL_k, zL_c, zL_1, if_true, if_false, eq_self, Nat.zero_add, Nat.add_zero, hn, h9, fX4_poolOfHash_70]
        exact hih
      · have hh := zX_h hv (show s < 240 by omega) h9
        simp (disch := omega) only [zq_l9, pk_mul, nI_add, zq_t9, zq_c9, zq_bz9, zq_bo9, zq_g, zq_cl, zq_leT, zq_leF, zq_ltT, zq_ltF, zq_eqT, zq_eqF, zq_em, zq_me, zq_pm, zq_mm, zq_gm, pk_sub, zI_s, zI_k, zI_c, zI_2, zL_s, zL_k, zL_c, zL_1, if_true, if_false, eq_self, Nat.zero_add, Nat.add_zero, hn, h9, hh, fX4_poolOfHash_70]
        exact hih
theorem zPA_all {T : zT} {k : Nat} (hk : k < 240) (hz : T.2 k ≠ 0) : zen T (T.1 7 1) (T.1 7 2) (T.1 7 3) k ∈ zPA T := by
  have := zpc_pm (znz T) (zen T (T.1 7 1) (T.1 7 2) (T.1 7 3)) 240
  exact this.mem_iff.mpr (List.mem_map.mpr ⟨k, List.mem_filter.mpr ⟨List.mem_range.mpr hk, znz_t hz⟩, rfl⟩)
/-- the class takes what is in the pool -/
theorem zx_take_l2 {r : Nat} (hr : r < 4) {Q : List zE} (hQ : Q.length ≤ 240) (g : Int32) : ∀ (m k : Nat) (S : sh_St), zPX S Q → S.1 (132 + 2 * r) 4 = nI (min Q.length 60) → k ≤ min Q.length 60 → min Q.length 60 - k < m → (∀ i, i < k → S.1 (133 + 2 * r) i = nI (Q.getD i (0, 0, 0)).2.2) → ∃ S', fX2_take_15 r m S g (nI k) = some ((), S') ∧ (∀ i, i < min Q.length 60 → S'.1 (133 + 2 * r) i = nI (Q.getD i (0, 0, 0)).2.2) ∧ S'.1 (132 + 2 * r) 4 = nI (min Q.length 60) ∧ S'.1 (132 + 2 * r) 1 = S.1 (132 + 2 * r) 1 ∧ S'.1 (132 + 2 * r) 3 = (if Q.length = 0 then S.1 (132 + 2 * r) 3 else S.1 (132 + 2 * r) 3 + nI Q.length) ∧ S'.1 (132 + 2 * r) 2 = (if Q.length = 0 then S.1 (132 + 2 * r) 2 else g + nI 1) ∧ S'.2 = S.2 ∧ ∀ i, i ≠ 132 + 2 * r → i ≠ 133 + 2 * r → S'.1 i = S.1 i := by
  intro m
  induction m with
  | zero => intro k S _ _ h1 h2; omega
  | succ m ih =>
    intro k S hP h4 hk hm hd
    rw [fX2_take_15]
    have hn := hP.1
    by_cases c : k = min Q.length 60
    · by_cases z : Q.length = 0
      · refine ⟨S, ?_, fun i hi => hd i (by omega), h4, rfl, by rw [if_pos z], by rw [if_pos z], rfl, fun _ _ _ => rfl⟩
        rw [z] at hn
        simp (disch := omega) only [zq_l9, pk_mul, nI_add, zq_t9, zq_c9, zq_bz9, zq_bo9, zq_g, zq_cl, zq_leT, zq_leF, zq_ltT, zq_ltF, zq_eqT, zq_eqF, zq_em, zq_me, zq_pm, zq_mm, zq_gm, pk_sub, zI_s, zI_k, zI_c, zI_2, zL_s, zL_k, zL_c, zL_1, if_true, if_false, eq_self, Nat.zero_add, Nat.add_zero, h4, hn]
      · refine ⟨sh_I (sh_I S (132 + 2 * r) 3 (S.1 (132 + 2 * r) 3 + nI Q.length)) (132 + 2 * r) 2 (g + nI 1), ?_, fun i hi => ?_, ?_, ?_, ?_, ?_, rfl, fun i a b => ?_⟩
        · simp (disch := omega) only [zq_l9, pk_mul, nI_add, zq_t9, zq_c9, zq_bz9, zq_bo9, zq_g, zq_cl, zq_leT, zq_leF, zq_ltT, zq_ltF, zq_eqT, zq_eqF, zq_em, zq_me, zq_pm, zq_mm, zq_gm, pk_sub, zI_s, zI_k, zI_c, zI_2, zL_s, zL_k, zL_c, zL_1, if_true, if_false, eq_self, Nat.zero_add, Nat.add_zero, h4, hn]
        · rw [zI_c _ _ 2 _ (by omega), zI_c S _ 3 _ (by omega)]; exact hd i (by omega)
        · rw [zI_k _ _ 2 _ (by omega), zI_k S _ 3 _ (by omega)]; exact h4
        · rw [zI_k _ _ 2 _ (by omega), zI_k S _ 3 _ (by omega)]
        · rw [if_neg z, zI_k _ _ 2 _ (by omega), zI_s]
        · rw [if_neg z, zI_s]
        · rw [zI_c _ _ 2 _ a, zI_c S _ 3 _ a]
    · have hq := (hP.2 k _ (zP_at (show k < Q.length by omega))).2.2
      obtain ⟨S', f1, f2, f3, f4, f5, f6, f7, f8⟩ := ih (k + 1) (sh_I S (133 + 2 * r) k (nI (Q.getD k (0, 0, 0)).2.2)) (by
        refine ⟨by rw [zI_c S _ k _ (by omega)]; exact hP.1, fun i e he => ?_⟩
        unfold zatX
        rw [zI_c S _ k _ (by omega), zI_c S _ k _ (by omega), zI_2]
        exact hP.2 i e he) (by rw [zI_c S _ k _ (by omega)]; exact h4) (by omega) (by omega) (fun i hi => by
        by_cases e : i = k
        · subst e; exact zI_s _ _ _ _
        · rw [zI_k S _ k _ e]; exact hd i (by omega))
      refine ⟨S', ?_, f2, f3, ?_, ?_, ?_, f7, fun i a b => ?_⟩
      · simp (disch := omega) only [zq_l9, pk_mul, nI_add, zq_t9, zq_c9, zq_bz9, zq_bo9, zq_g, zq_cl, zq_leT, zq_leF, zq_ltT, zq_ltF, zq_eqT, zq_eqF, zq_em, zq_me, zq_pm, zq_mm, zq_gm, pk_sub, zI_s, zI_k, zI_c, zI_2, zL_s, zL_k, zL_c, zL_1, if_true, if_false, eq_self, Nat.zero_add, Nat.add_zero, h4, hq]
        exact f1
      · rw [f4, zI_c S _ k _ (by omega)]
      · rw [f5, zI_c S _ k _ (by omega)]
      · rw [f6, zI_c S _ k _ (by omega)]
      · rw [f8 i a b, zI_c S _ k _ b]
/-- the reference's search and run -/
theorem zm_n68 {M : sh_St} {P : List zE} (hP : zPM M P) (hl : P.length ≤ 240) (h4 : ∀ x, x ∈ P → x.1 < 4096) {r c : Nat} (hr : r < 4) (hc : c ≤ 4096) (h10 : M.1 10 r = nI c) : ∀ (m k : Nat), k ≤ P.length → P.length - k < m → fX13_next_68 m M (nI r) (nI k) = fX13_next_97 M (nI r) (nI (zfi (fun i => decide (c ≤ (P.getD i (0, 0, 0)).1)) (P.length - k) k)) := by
  intro m
  induction m with
  | zero => intro k h1 h2; omega
  | succ m ih =>
    intro k h1 h2
    rw [fX13_next_68]
    have hn := hP.1
    by_cases h : k = P.length
    · subst h
      rw [Nat.sub_self]
      simp (disch := omega) only [zq_l9, pk_mul, nI_add, zq_t9, zq_c9, zq_bz9, zq_bo9, zq_g, zq_cl, zq_leT, zq_leF, zq_ltT, zq_ltF, zq_eqT, zq_eqF, zq_em, zq_me, zq_pm, zq_mm, zq_gm, pk_sub, zI_s, zI_k, zI_c, zI_2, zL_s, zL_k, zL_c, zL_1, if_true, if_false, eq_self, Nat.zero_add, Nat.add_zero, hn]
      rfl
    · obtain ⟨j, hj⟩ : ∃ j, P.length - k = j + 1 := ⟨P.length - k - 1, by omega⟩
      have hq := (hP.2 k _ (zP_at (show k < P.length by omega))).1
      have hlt := h4 _ (zmemD (show k < P.length by omega))
      by_cases d : c ≤ (P.getD k (0, 0, 0)).1
      · rw [hj, zfi_t (decide_eq_true d)]
        simp (disch := omega) only [zq_l9, pk_mul, nI_add, zq_t9, zq_c9, zq_bz9, zq_bo9, zq_g, zq_cl, zq_leT, zq_leF, zq_ltT, zq_ltF, zq_eqT, zq_eqF, zq_em, zq_me, zq_pm, zq_mm, zq_gm, pk_sub, zI_s, zI_k, zI_c, zI_2, zL_s, zL_k, zL_c, zL_1, if_true, if_false, eq_self, Nat.zero_add, Nat.add_zero, hn, hq, h10]
      · rw [hj, zfi_f (p := fun i => decide (c ≤ (P.getD i (0, 0, 0)).1)) (by rw [decide_eq_true_iff]; exact d), show j = P.length - (k + 1) by omega, ← ih (k + 1) (by omega) (by omega)]
        simp (disch := omega) only [zq_l9, pk_mul, nI_add, zq_t9, zq_c9, zq_bz9, zq_bo9, zq_g, zq_cl, zq_leT, zq_leF, zq_ltT, zq_ltF, zq_eqT, zq_eqF, zq_em, zq_me, zq_pm, zq_mm, zq_gm, pk_sub, zI_s, zI_k, zI_c, zI_2, zL_s, zL_k, zL_c, zL_1, if_true, if_false, eq_self, Nat.zero_add, Nat.add_zero, hn, hq, h10]
theorem zm_n124 {P : List zE} (hl : P.length ≤ 240) (h4 : ∀ x, x ∈ P → x.1 < 4096) {r g k0 : Nat} (hr : r < 4) (hg : g < 4096) (hk0 : k0 ≤ P.length) : ∀ (m j : Nat) (M : sh_St), zPM M P → k0 + j ≤ zfi (fun i => !decide ((P.getD i (0, 0, 0)).1 = g)) (P.length - k0) k0 → P.length - (k0 + j) < m → (∀ i, i < min j 60 → M.1 13 (60 * r + i) = nI (P.getD (k0 + i) (0, 0, 0)).2.2) → ∃ M', fX13_next_124 m M (nI r) (nI (k0 + j)) (nI g) (nI j) = fX13_next_176 M' (nI r) (nI g) (nI (zfi (fun i => !decide ((P.getD i (0, 0, 0)).1 = g)) (P.length - k0) k0 - k0)) ∧ (∀ i, i < min (zfi (fun i => !decide ((P.getD i (0, 0, 0)).1 = g)) (P.length - k0) k0 - k0) 60 → M'.1 13 (60 * r + i) = nI (P.getD (k0 + i) (0, 0, 0)).2.2) ∧ (∀ i, (i < 60 * r ∨ 60 * r + 60 ≤ i) → M'.1 13 i = M.1 13 i) ∧ M'.2 = M.2 ∧ ∀ i, i ≠ 13 → M'.1 i = M.1 i := by
  intro m
  induction m with
  | zero => intro j M _ h1 h2; omega
  | succ m ih =>
    intro j M hP hj hm hd
    have hfl := zfi_le (fun i => !decide ((P.getD i (0, 0, 0)).1 = g)) (P.length - k0) k0
    have hn := hP.1
    rw [fX13_next_124]
    by_cases c : k0 + j = zfi (fun i => !decide ((P.getD i (0, 0, 0)).1 = g)) (P.length - k0) k0
    · refine ⟨M, ?_, fun i hi => hd i (by omega), fun _ _ => rfl, rfl, fun _ _ => rfl⟩
      rw [← c, show k0 + j - k0 = j by omega]
      by_cases e : k0 + j = P.length
      · simp (disch := omega) only [zq_l9, pk_mul, nI_add, zq_t9, zq_c9, zq_bz9, zq_bo9, zq_g, zq_cl, zq_leT, zq_leF, zq_ltT, zq_ltF, zq_eqT, zq_eqF, zq_em, zq_me, zq_pm, zq_mm, zq_gm, pk_sub, zI_s, zI_k, zI_c, zI_2, zL_s, zL_k, zL_c, zL_1, if_true, if_false, eq_self, Nat.zero_add, Nat.add_zero, hn, e]
      · have hne : ¬ (P.getD (k0 + j) (0, 0, 0)).1 = g := fun w => by
          have := zfi_p (fun i => !decide ((P.getD i (0, 0, 0)).1 = g)) (P.length - k0) k0 (by omega)
          rw [← c] at this
          have this' : (!decide ((P.getD (k0 + j) (0, 0, 0)).1 = g)) = true := this
          rw [decide_eq_true w] at this'
          cases this'
        have hq := (hP.2 (k0 + j) _ (zP_at (show k0 + j < P.length by omega))).1
        have hlt := h4 _ (zmemD (show k0 + j < P.length by omega))
        simp (disch := omega) only [zq_l9, pk_mul, nI_add, zq_t9, zq_c9, zq_bz9, zq_bo9, zq_g, zq_cl, zq_leT, zq_leF, zq_ltT, zq_ltF, zq_eqT, zq_eqF, zq_em, zq_me, zq_pm, zq_mm, zq_gm, pk_sub, zI_s, zI_k, zI_c, zI_2, zL_s, zL_k, zL_c, zL_1, if_true, if_false, eq_self, Nat.zero_add, Nat.add_zero, hn, hq]
    · have hlt : k0 + j < P.length := by omega
      have heq : (P.getD (k0 + j) (0, 0, 0)).1 = g := by
        have := zfi_b (fun i => !decide ((P.getD i (0, 0, 0)).1 = g)) (P.length - k0) k0 (k0 + j) (by omega) (by omega)
        refine Classical.byContradiction fun w => this ?_
        show (!decide ((P.getD (k0 + j) (0, 0, 0)).1 = g)) = true
        rw [decide_eq_false w]
        rfl
      have hq := hP.2 (k0 + j) _ (zP_at hlt)
      by_cases c6 : j < 60
      · have hPn : zPM (sh_I M 13 (60 * r + j) (nI (P.getD (k0 + j) (0, 0, 0)).2.2)) P := by
          refine ⟨by rw [zI_c M 13 _ _ (by omega)]; exact hP.1, fun i e he => ?_⟩
          unfold zatM
          rw [zI_c M 13 _ _ (by omega), zI_c M 13 _ _ (by omega), zI_2]
          exact hP.2 i e he
        obtain ⟨M', f1, f2, f3, f4, f5⟩ := ih (j + 1) (sh_I M 13 (60 * r + j) (nI (P.getD (k0 + j) (0, 0, 0)).2.2)) hPn (by omega) (by omega) (fun i hi => by
          by_cases e : i = j
          · subst e; exact zI_s _ _ _ _
          · rw [zI_k M 13 _ _ (by omega)]; exact hd i (by omega))
        refine ⟨M', ?_, f2, fun i hi => ?_, f4, fun i hi => ?_⟩
        · have e9 : k0 + j + 1 = k0 + (j + 1) := by omega
          simp (disch := omega) only [zq_l9, pk_mul, nI_add, zq_t9, zq_c9, zq_bz9, zq_bo9, zq_g, zq_cl, zq_leT, zq_leF, zq_ltT, zq_ltF, zq_eqT, zq_eqF, zq_em, zq_me, zq_pm, zq_mm, zq_gm, pk_sub, zI_s, zI_k, zI_c, zI_2, zL_s, zL_k, zL_c, zL_1, if_true, if_false, eq_self, Nat.zero_add, Nat.add_zero, hn, hq.1, heq, hq.2.2, fX13_next_167, e9]
          exact f1
        · rw [f3 i hi, zI_k M 13 _ _ (by omega)]
        · rw [f5 i hi, zI_c M 13 _ _ hi]
      · obtain ⟨M', f1, f2, f3, f4, f5⟩ := ih (j + 1) M hP (by omega) (by omega) (fun i hi => hd i (by omega))
        refine ⟨M', ?_, f2, f3, f4, f5⟩
        have e9 : k0 + j + 1 = k0 + (j + 1) := by omega
        simp (disch := omega) only [zq_l9, pk_mul, nI_add, zq_t9, zq_c9, zq_bz9, zq_bo9, zq_g, zq_cl, zq_leT, zq_leF, zq_ltT, zq_ltF, zq_eqT, zq_eqF, zq_em, zq_me, zq_pm, zq_mm, zq_gm, pk_sub, zI_s, zI_k, zI_c, zI_2, zL_s, zL_k, zL_c, zL_1, if_true, if_false, eq_self, Nat.zero_add, Nat.add_zero, hn, hq.1, heq, fX13_next_167, e9]
        exact f1
theorem zc_next {S M : sh_St} (h : zRR S M) (v : Int32) : zCA ["java/lang/IndexOutOfBoundsException", "java/lang/IllegalStateException"] (fX12_next S v) (fX13_next M v) := by
  obtain ⟨T, B, L, h⟩ := h
  have hI := h.1.1
  have h0 : ∀ t, zR S (sh_I M 0 0 t) T B L := fun t => zR_q h (zFr_rf _ _ S) (zMQ_0 M _)
  rw [fX12_next, fX13_next]
  rcases zblk v 4 (by omega) with ⟨r, rfl, hr⟩ | q
  · have x1 := (zx_isReader S (nI r)).1 r rfl hr
    have m1 := (zm_isReader M (nI r)).1 r rfl hr
    obtain ⟨o, c, z, h1, h2, h3, h4, h5, h6, h7, h8, h9, h10, h11⟩ := h.2.2.2.2.2.2.1 r hr
    by_cases o0 : o = 0
    · subst o0
      refine ⟨.inr "java/lang/IllegalStateException", S, nI 0, sh_I M 0 0 (nI 2), ?_, ?_, Or.inr ⟨1, _, rfl, rfl, zI_s _ _ _ _⟩, T, B, L, h0 _⟩
      · simp (disch := omega) only [zq_l9, pk_mul, nI_add, zq_t9, zq_c9, zq_bz9, zq_bo9, zq_g, zq_cl, zq_leT, zq_leF, zq_ltT, zq_ltF, zq_eqT, zq_eqF, zq_em, zq_me, zq_pm, zq_mm, zq_gm, pk_sub, zI_s, zI_k, zI_c, zI_2, zL_s, zL_k, zL_c, zL_1, if_true, if_false, eq_self, Nat.zero_add, Nat.add_zero, x1, h4]
      · simp (disch := omega) only [zq_l9, pk_mul, nI_add, zq_t9, zq_c9, zq_bz9, zq_bo9, zq_g, zq_cl, zq_leT, zq_leF, zq_ltT, zq_ltF, zq_eqT, zq_eqF, zq_em, zq_me, zq_pm, zq_mm, zq_gm, pk_sub, zI_s, zI_k, zI_c, zI_2, zL_s, zL_k, zL_c, zL_1, if_true, if_false, eq_self, Nat.zero_add, Nat.add_zero, m1, h5, fX13_next_26]
    · have o1 : o = 1 := by omega
      subst o1
      have hv := h.2.1
      have hm0 := (h0 (nI 0)).2.2.1
      have hb13 : T.1 7 1 < 13 := by have := hI.1; omega
      have hls := zx_least hv hI h2
      obtain ⟨M1, k1, k2, k3⟩ := zm_sortsAll hm0 hI (b := T.1 7 1) (y := T.1 7 2) (f := T.1 7 3) hb13 hI.1.2.2.2.1 hI.1.2.2.2.2
      have mb := zM_b h.2.2.1
      have my := zM_y h.2.2.1
      have mf := zM_f h.2.2.1
      have eP : zpc (znz T) (zen T (T.1 7 1) (T.1 7 2) (T.1 7 3)) 240 = zPA T := rfl
      rw [eP] at k2
      have hlen : (zPA T).length ≤ 240 := by rw [zPA_len]; exact zcnt_le _ _
      have hP4 := zPA_l hI
      have hsrt : (zPA T).Pairwise zle2 := zpc_srt _ _ _
      have hM1 : ∀ i, i ≠ 0 → (i < 18 ∨ 20 < i) → M1.1 i = M.1 i := fun i a b => by rw [(k3.2.2 i a b).1, zI_c M 0 0 _ a]
      have h101 : M1.1 10 r = nI c := by rw [hM1 10 (by omega) (by omega)]; exact h7
      have h68 := zm_n68 k2 hlen hP4 hr h2 h101 sh_FU 0 (by omega) (zc_FU _ (by omega))
      rw [Nat.sub_zero] at h68
      have hfl := zfi_le (fun i => decide (c ≤ ((zPA T).getD i (0, 0, 0)).1)) (zPA T).length 0
      have hgo : fX13_next M (nI r) = fX13_next_97 M1 (nI r) (nI (zfi (fun i => decide (c ≤ ((zPA T).getD i (0, 0, 0)).1)) (zPA T).length 0)) := by
        rw [fX13_next]
        simp (disch := omega) only [zq_l9, pk_mul, nI_add, zq_t9, zq_c9, zq_bz9, zq_bo9, zq_g, zq_cl, zq_leT, zq_leF, zq_ltT, zq_ltF, zq_eqT, zq_eqF, zq_em, zq_me, zq_pm, zq_mm, zq_gm, pk_sub, zI_s, zI_k, zI_c, zI_2, zL_s, zL_k, zL_c, zL_1, if_true, if_false, eq_self, Nat.zero_add, Nat.add_zero, m1, h5, fX13_next_26, mb, my, mf, k1]
        exact h68
      rw [fX13_next] at hgo
      rw [hgo]
      generalize hk0 : zfi (fun i => decide (c ≤ ((zPA T).getD i (0, 0, 0)).1)) (zPA T).length 0 = k0 at *
      have hn36 := k2.1
      have hM12 : ∀ j t, zPM (sh_I M1 12 j t) (zPA T) := fun j t => ⟨by rw [zI_c M1 12 _ _ (by omega)]; exact k2.1, fun i e he => by
        unfold zatM
        rw [zI_c M1 12 _ _ (by omega), zI_c M1 12 _ _ (by omega), zI_2]
        exact k2.2 i e he⟩
      have m0k : ∀ k, k ≠ 0 → k < 27 → M1.1 0 k = M.1 0 k := fun k a b => by rw [k3.1 k (by omega), zI_k M 0 0 _ a]
      have m00 : M1.1 0 0 = nI 0 := by rw [k3.1 0 (by omega), zI_s]
      rw [fX13_next_97]
      have hS : ∀ S1 S2 : sh_St, zFr 124 127 S S1 → (∀ i, i ≠ 132 + 2 * r → i ≠ 133 + 2 * r → S2.1 i = S1.1 i) → S2.2 = S1.2 → (∀ i, (i < 116 ∨ (127 < i ∧ i < 132)) → S2.1 i = S.1 i ∧ S2.2 i = S.2 i) ∧ (∀ r', r' < 4 → r' ≠ r → S2.1 (132 + 2 * r') = S.1 (132 + 2 * r') ∧ S2.1 (133 + 2 * r') = S.1 (133 + 2 * r')) := fun S1 S2 a b d => ⟨fun i hi => ⟨(b i (by omega) (by omega)).trans (a i (by omega)).1, by rw [d]; exact (a i (by omega)).2⟩, fun r' a1 a2 => ⟨(b _ (by omega) (by omega)).trans (a _ (by omega)).1, (b _ (by omega) (by omega)).trans (a _ (by omega)).1⟩⟩
      by_cases ce : k0 = (zPA T).length
      · -- none
        have hnone : zlm T c 240 = 4096 := by
          refine Nat.le_antisymm (zlm_le T c 240) (Nat.le_of_not_lt fun w => ?_)
          obtain ⟨k, a1, a2, a3, a4⟩ := zlm_in T c 240 w
          obtain ⟨i, hi⟩ := List.mem_iff_getElem?.mp (zPA_all a1 a2)
          have hil := (List.getElem?_eq_some_iff.mp hi).1
          have hb := zfi_b (fun i => decide (c ≤ ((zPA T).getD i (0, 0, 0)).1)) (zPA T).length 0 i (by omega) (by omega)
          refine hb (decide_eq_true ?_)
          rw [List.getD_eq_getElem?_getD, hi]
          show c ≤ zha T (T.2 k)
          omega
        rw [hnone, zsp_f (by omega)] at hls
        have hp1 : zFr 124 127 S (sh_I S 124 3 (nI 0)) := zFr_I S _ _ (by omega) (by omega)
        have hpl := zx_pool0_l (zVX_f4 hp1 (by omega) hv) hI sh_FU 0 (by omega) (by decide)
        obtain ⟨S2, t1, t2, t3, t4, t5, t6, t7, t8⟩ := zx_take_l2 hr (Q := []) (by show 0 ≤ 240; omega) (-nI 1) sh_FU 0 (sh_I (sh_I S 124 3 (nI 0)) (132 + 2 * r) 4 (nI 0)) ⟨by rw [zI_c _ _ 4 _ (by omega)]; exact zI_s _ _ _ _, fun k e he => by simp at he⟩ (zI_s _ _ _ _) (by omega) (by decide) (fun i hi => by omega)
        have t5' : S2.1 (132 + 2 * r) 3 = S.1 (132 + 2 * r) 3 := by
          have := t5
          rw [if_pos (show ([] : List zE).length = 0 from rfl), zI_k _ _ 4 _ (by omega), zI_c S 124 3 _ (by omega)] at this
          exact this
        have t6' : S2.1 (132 + 2 * r) 2 = nI c := by
          have := t6
          rw [if_pos (show ([] : List zE).length = 0 from rfl), zI_k _ _ 4 _ (by omega), zI_c S 124 3 _ (by omega), h6] at this
          exact this
        have t4' : S2.1 (132 + 2 * r) 1 = nI 1 := by rw [t4, zI_k _ _ 4 _ (by omega), zI_c S 124 3 _ (by omega)]; exact h4
        have t3' : S2.1 (132 + 2 * r) 4 = nI 0 := t3
        have s1243 : S2.1 124 3 = nI 0 := by rw [t8 124 (by omega) (by omega), zI_c _ _ 4 _ (by omega), zI_s]
        obtain ⟨u1, u2⟩ := hS (sh_I S 124 3 (nI 0)) S2 hp1 (fun i a b => by rw [t8 i a b, zI_c _ _ 4 _ a]) (by rw [t7]; rfl)
        refine ⟨.inl (nI 0), S2, nI 0, sh_I M1 12 r (nI 0), ?_, ?_, Or.inl ⟨rfl, by rw [zI_c M1 12 _ _ (by omega)]; exact m00⟩, T, B, L, zR_c h u1 (fun k a b => by rw [zI_c M1 12 _ _ (by omega)]; exact m0k k a b) (fun i a b => ⟨by rw [zI_c M1 12 _ _ (by omega)]; exact hM1 i a (by omega), by rw [zI_2]; exact (k3.2.2 i a (by omega)).2⟩) ?_⟩
        · have hpool : fX4_poolOfHash S (-nI 1) = some ((), sh_I S 124 3 (nI 0)) := by
            rw [fX4_poolOfHash]
            simp (disch := omega) only [zq_l9, pk_mul, nI_add, zq_t9, zq_c9, zq_bz9, zq_bo9, zq_g, zq_cl, zq_leT, zq_leF, zq_ltT, zq_ltF, zq_eqT, zq_eqF, zq_em, zq_me, zq_pm, zq_mm, zq_gm, pk_sub, zI_s, zI_k, zI_c, zI_2, zL_s, zL_k, zL_c, zL_1, if_true, if_false, eq_self, Nat.zero_add, Nat.add_zero]
            exact hpl
          have htake : fX2_take r (sh_I S 124 3 (nI 0)) (-nI 1) = some ((), S2) := by
            rw [fX2_take]
            simp (disch := omega) only [zq_l9, pk_mul, nI_add, zq_t9, zq_c9, zq_bz9, zq_bo9, zq_g, zq_cl, zq_leT, zq_leF, zq_ltT, zq_ltF, zq_eqT, zq_eqF, zq_em, zq_me, zq_pm, zq_mm, zq_gm, pk_sub, zI_s, zI_k, zI_c, zI_2, zL_s, zL_k, zL_c, zL_1, if_true, if_false, eq_self, Nat.zero_add, Nat.add_zero]
            exact t1
          simp (disch := omega) only [zq_l9, pk_mul, nI_add, zq_t9, zq_c9, zq_bz9, zq_bo9, zq_g, zq_cl, zq_leT, zq_leF, zq_ltT, zq_ltF, zq_eqT, zq_eqF, zq_em, zq_me, zq_pm, zq_mm, zq_gm, pk_sub, zI_s, zI_k, zI_c, zI_2, zL_s, zL_k, zL_c, zL_1, if_true, if_false, eq_self, Nat.zero_add, Nat.add_zero, x1, h4, h6, hls, hpool, htake, s1243]
        · simp (disch := omega) only [zq_l9, pk_mul, nI_add, zq_t9, zq_c9, zq_bz9, zq_bo9, zq_g, zq_cl, zq_leT, zq_leF, zq_ltT, zq_ltF, zq_eqT, zq_eqF, zq_em, zq_me, zq_pm, zq_mm, zq_gm, pk_sub, zI_s, zI_k, zI_c, zI_2, zL_s, zL_k, zL_c, zL_1, if_true, if_false, eq_self, Nat.zero_add, Nat.add_zero, hn36, ce]
        · refine zRc_set h.2.2.2.2.2.2.1 (r0 := r) ⟨1, c, 0, by omega, h2, by omega, t4', ?_, t6', ?_, ?_, t3', zI_s _ _ _ _, fun k hk => by omega⟩ u2 (fun r' b => ⟨by rw [zI_c M1 12 _ _ (by omega), hM1 9 (by omega) (by omega)], by rw [zI_c M1 12 _ _ (by omega), hM1 10 (by omega) (by omega)], by rw [zI_c M1 12 _ _ (by omega), hM1 11 (by omega) (by omega)], by rw [zI_k M1 12 _ _ b, hM1 12 (by omega) (by omega)]⟩) (fun r' k a b d => by rw [zI_c M1 12 _ _ (by omega), hM1 13 (by omega) (by omega)])
          · rw [zI_c M1 12 _ _ (by omega), hM1 9 (by omega) (by omega)]; exact h5
          · rw [zI_c M1 12 _ _ (by omega)]; exact h101
          · rw [t5', zI_c M1 12 _ _ (by omega), hM1 11 (by omega) (by omega)]; exact h8
      · have hk : k0 < (zPA T).length := by omega
        have hge : c ≤ ((zPA T).getD k0 (0, 0, 0)).1 := by
          have := zfi_p (fun i => decide (c ≤ ((zPA T).getD i (0, 0, 0)).1)) (zPA T).length 0 (by omega)
          rw [hk0] at this
          exact of_decide_eq_true this
        have hlo : ∀ i, i < k0 → ((zPA T).getD i (0, 0, 0)).1 < c := fun i hi => by
          have := zfi_b (fun i => decide (c ≤ ((zPA T).getD i (0, 0, 0)).1)) (zPA T).length 0 i (by omega) (by omega)
          rw [decide_eq_true_iff] at this
          omega
        have hg4 := hP4 _ (zmemD hk)
        have hsr : ∀ i j, i ≤ j → j < (zPA T).length → ((zPA T).getD i (0, 0, 0)).1 ≤ ((zPA T).getD j (0, 0, 0)).1 := fun i j hij hj => by
          by_cases e : i = j
          · rw [e]; exact Nat.le_refl _
          · exact (zsrt_at hsrt (by omega) hj).1
        have hleast : zlm T c 240 = ((zPA T).getD k0 (0, 0, 0)).1 := by
          obtain ⟨k, a1, a2, a3⟩ := zpc_mem (zmemD hk)
          have hz : T.2 k ≠ 0 := of_decide_eq_true a2
          have e1 : ((zPA T).getD k0 (0, 0, 0)).1 = zha T (T.2 k) := congrArg (fun x => x.1) a3
          have le1 := zlm_lo T c 240 k a1 hz (by omega)
          obtain ⟨k', b1, b2, b3, b4⟩ := zlm_in T c 240 (by omega)
          obtain ⟨i, hi⟩ := List.mem_iff_getElem?.mp (zPA_all b1 b2)
          have hil := (List.getElem?_eq_some_iff.mp hi).1
          have ei : ((zPA T).getD i (0, 0, 0)).1 = zlm T c 240 := by
            rw [List.getD_eq_getElem?_getD, hi]
            exact b3
          have : k0 ≤ i := Nat.le_of_not_lt (fun w => by have := hlo i w; omega)
          have := hsr k0 i this hil
          omega
        rw [hleast, zsp_t hg4] at hls
        have hq20 := (k2.2 k0 _ (zP_at hk)).1
        generalize hg : ((zPA T).getD k0 (0, 0, 0)).1 = g at *
        obtain ⟨S1, p1, p2, p3⟩ := zx_hashP hv hI hg4
        have hrun := zfi_le (fun i => !decide (((zPA T).getD i (0, 0, 0)).1 = g)) ((zPA T).length - k0) k0
        obtain ⟨M2, q1, q2, q3, q4, q5⟩ := zm_n124 hlen hP4 hr hg4 (k0 := k0) (by omega) sh_FU 0 (sh_I M1 12 r (nI 0)) (hM12 r (nI 0)) (by omega) (zc_FU _ (by omega)) (fun i hi => by omega)
        have hst := zstr (P := zPA T) (q := fun x => decide (x.1 = g)) (k0 := k0) (n := zfi (fun i => !decide (((zPA T).getD i (0, 0, 0)).1 = g)) ((zPA T).length - k0) k0 - k0) (by omega) (fun i hi => by
          rw [decide_eq_true_iff]
          refine ⟨fun w => ?_, fun w => ?_⟩
          · have l1 : k0 ≤ i := Nat.le_of_not_lt (fun z => by have := hlo i z; omega)
            refine ⟨l1, Nat.lt_of_not_le fun z => ?_⟩
            have z' : zfi (fun i => !decide (((zPA T).getD i (0, 0, 0)).1 = g)) ((zPA T).length - k0) k0 ≤ i := by omega
            have hp := zfi_p (fun i => !decide (((zPA T).getD i (0, 0, 0)).1 = g)) ((zPA T).length - k0) k0 (by omega)
            have hp' : (!decide (((zPA T).getD (zfi (fun i => !decide (((zPA T).getD i (0, 0, 0)).1 = g)) ((zPA T).length - k0) k0) (0, 0, 0)).1 = g)) = true := hp
            have s1 := hsr _ i z' hi
            have s2 := hsr k0 (zfi (fun i => !decide (((zPA T).getD i (0, 0, 0)).1 = g)) ((zPA T).length - k0) k0) (by omega) (by omega)
            have s3 : ((zPA T).getD (zfi (fun i => !decide (((zPA T).getD i (0, 0, 0)).1 = g)) ((zPA T).length - k0) k0) (0, 0, 0)).1 = g := by omega
            rw [decide_eq_true s3] at hp'
            cases hp'
          · have hb := zfi_b (fun i => !decide (((zPA T).getD i (0, 0, 0)).1 = g)) ((zPA T).length - k0) k0 i w.1 (by omega)
            refine Classical.byContradiction fun z => hb ?_
            show (!decide (((zPA T).getD i (0, 0, 0)).1 = g)) = true
            rw [decide_eq_false z]
            rfl)
        have eQ : (zPA T).filter (fun x => decide (x.1 = g)) = zpc (zhp T g) (zen T (T.1 7 1) (T.1 7 2) (T.1 7 3)) 240 := by
          unfold zPA
          rw [zpc_fil]
          rfl
        rw [eQ] at hst
        generalize zpc (zhp T g) (zen T (T.1 7 1) (T.1 7 2) (T.1 7 3)) 240 = Q at *
        generalize hn : zfi (fun i => !decide (((zPA T).getD i (0, 0, 0)).1 = g)) ((zPA T).length - k0) k0 - k0 = n at *
        obtain ⟨hQn, hQe⟩ := hst
        have hn1 : 1 ≤ n := by
          have : k0 + 1 ≤ zfi (fun i => !decide (((zPA T).getD i (0, 0, 0)).1 = g)) ((zPA T).length - k0) k0 := by
            obtain ⟨j, hj⟩ : ∃ j, (zPA T).length - k0 = j + 1 := ⟨(zPA T).length - k0 - 1, by omega⟩
            rw [hj, zfi_f (p := fun i => !decide (((zPA T).getD i (0, 0, 0)).1 = g)) (by rw [decide_eq_true hg]; decide)]
            exact (zfi_le _ j (k0 + 1)).1
          omega
        have s12 : S1.1 124 3 = nI n := by rw [← hQn]; exact p2.1
        have hemin : (if nI 60 < nI n then nI 60 else nI n) = nI (min n 60) := by
          by_cases w : 60 < n
          · rw [show min n 60 = 60 by omega]
            simp (disch := omega) only [zq_l9, pk_mul, nI_add, zq_t9, zq_c9, zq_bz9, zq_bo9, zq_g, zq_cl, zq_leT, zq_leF, zq_ltT, zq_ltF, zq_eqT, zq_eqF, zq_em, zq_me, zq_pm, zq_mm, zq_gm, pk_sub, zI_s, zI_k, zI_c, zI_2, zL_s, zL_k, zL_c, zL_1, if_true, if_false, eq_self, Nat.zero_add, Nat.add_zero]
          · rw [show min n 60 = n by omega]
            simp (disch := omega) only [zq_l9, pk_mul, nI_add, zq_t9, zq_c9, zq_bz9, zq_bo9, zq_g, zq_cl, zq_leT, zq_leF, zq_ltT, zq_ltF, zq_eqT, zq_eqF, zq_em, zq_me, zq_pm, zq_mm, zq_gm, pk_sub, zI_s, zI_k, zI_c, zI_2, zL_s, zL_k, zL_c, zL_1, if_true, if_false, eq_self, Nat.zero_add, Nat.add_zero]
        have hPX2 : zPX (sh_I S1 (132 + 2 * r) 4 (nI (min n 60))) Q := ⟨by rw [zI_c S1 _ 4 _ (by omega)]; exact p2.1, fun i e he => by
          unfold zatX
          rw [zI_c S1 _ 4 _ (by omega), zI_c S1 _ 4 _ (by omega), zI_2]
          exact p2.2 i e he⟩
        obtain ⟨S2, t1, t2, t3, t4, t5, t6, t7, t8⟩ := zx_take_l2 hr (Q := Q) (by omega) (nI g) sh_FU 0 (sh_I S1 (132 + 2 * r) 4 (nI (min n 60))) hPX2 (by rw [zI_s, hQn]) (by omega) (zc_FU _ (by omega)) (fun i hi => by omega)
        rw [hQn] at t2 t3 t5 t6
        rw [if_neg (by omega), zI_k S1 _ 4 _ (by omega), (p3 _ (by omega)).1] at t5
        rw [if_neg (by omega), nI_add] at t6
        rw [zI_k S1 _ 4 _ (by omega), (p3 _ (by omega)).1, h4] at t4
        have s1243 : S2.1 124 3 = nI n := by rw [t8 124 (by omega) (by omega), zI_c S1 _ 4 _ (by omega)]; exact s12
        obtain ⟨u1, u2⟩ := hS S1 S2 p3 (fun i a b => by rw [t8 i a b, zI_c S1 _ 4 _ a]) (by rw [t7]; rfl)
        have hf5 : ∀ i, i ≠ 13 → i ≠ 12 → M2.1 i = M1.1 i := fun i a b => by rw [q5 i a, zI_c M1 12 _ _ b]
        have hf12 : ∀ j, j ≠ r → M2.1 12 j = M1.1 12 j := fun j a => by rw [q5 12 (by omega), zI_k M1 12 _ _ a]
        have h211 : M2.1 11 r = M.1 11 r := by rw [hf5 11 (by omega) (by omega), hM1 11 (by omega) (by omega)]
        have hfin : fX13_next_176 M2 (nI r) (nI g) (nI n) = some (nI n, sh_I (sh_I (sh_I M2 12 r (nI (min n 60))) 11 r (M2.1 11 r + nI n)) 10 r (nI (g + 1))) := by
          rw [fX13_next_176]
          by_cases w : 60 ≤ n
          · rw [show min n 60 = 60 by omega]
            simp (disch := omega) only [zq_l9, pk_mul, nI_add, zq_t9, zq_c9, zq_bz9, zq_bo9, zq_g, zq_cl, zq_leT, zq_leF, zq_ltT, zq_ltF, zq_eqT, zq_eqF, zq_em, zq_me, zq_pm, zq_mm, zq_gm, pk_sub, zI_s, zI_k, zI_c, zI_2, zL_s, zL_k, zL_c, zL_1, if_true, if_false, eq_self, Nat.zero_add, Nat.add_zero, fX13_next_195]
          · rw [show min n 60 = n by omega]
            simp (disch := omega) only [zq_l9, pk_mul, nI_add, zq_t9, zq_c9, zq_bz9, zq_bo9, zq_g, zq_cl, zq_leT, zq_leF, zq_ltT, zq_ltF, zq_eqT, zq_eqF, zq_em, zq_me, zq_pm, zq_mm, zq_gm, pk_sub, zI_s, zI_k, zI_c, zI_2, zL_s, zL_k, zL_c, zL_1, if_true, if_false, eq_self, Nat.zero_add, Nat.add_zero, fX13_next_195]
        have hfm : ∀ i, i ≠ 10 → i ≠ 11 → i ≠ 12 → (sh_I (sh_I (sh_I M2 12 r (nI (min n 60))) 11 r (M2.1 11 r + nI n)) 10 r (nI (g + 1))).1 i = M2.1 i := fun i a b d => by rw [zI_c _ 10 r _ a, zI_c _ 11 r _ b, zI_c _ 12 r _ d]
        refine ⟨.inl (nI n), S2, nI n, sh_I (sh_I (sh_I M2 12 r (nI (min n 60))) 11 r (M2.1 11 r + nI n)) 10 r (nI (g + 1)), ?_, ?_, Or.inl ⟨rfl, by rw [hfm 0 (by omega) (by omega) (by omega), hf5 0 (by omega) (by omega)]; exact m00⟩, T, B, L, zR_c h u1 (fun k a b => by rw [hfm 0 (by omega) (by omega) (by omega), hf5 0 (by omega) (by omega)]; exact m0k k a b) (fun i a b => ⟨by rw [hfm i (by omega) (by omega) (by omega), hf5 i (by omega) (by omega)]; exact hM1 i a (by omega), by rw [zI_2, zI_2, zI_2, q4, zI_2]; exact (k3.2.2 i a (by omega)).2⟩) ?_⟩
        · have htake : fX2_take r S1 (nI g) = some ((), S2) := by
            rw [fX2_take, s12]
            show sh_t (sh_I S1 (132 + 2 * r) 4 (if nI 60 < nI n then nI 60 else nI n)) _ = _
            rw [hemin]
            simp (disch := omega) only [zq_l9, pk_mul, nI_add, zq_t9, zq_c9, zq_bz9, zq_bo9, zq_g, zq_cl, zq_leT, zq_leF, zq_ltT, zq_ltF, zq_eqT, zq_eqF, zq_em, zq_me, zq_pm, zq_mm, zq_gm, pk_sub, zI_s, zI_k, zI_c, zI_2, zL_s, zL_k, zL_c, zL_1, if_true, if_false, eq_self, Nat.zero_add, Nat.add_zero]
            exact t1
          simp (disch := omega) only [zq_l9, pk_mul, nI_add, zq_t9, zq_c9, zq_bz9, zq_bo9, zq_g, zq_cl, zq_leT, zq_leF, zq_ltT, zq_ltF, zq_eqT, zq_eqF, zq_em, zq_me, zq_pm, zq_mm, zq_gm, pk_sub, zI_s, zI_k, zI_c, zI_2, zL_s, zL_k, zL_c, zL_1, if_true, if_false, eq_self, Nat.zero_add, Nat.add_zero, x1, h4, h6, hls, p1, htake, s1243]
        · have q1' : fX13_next_124 sh_FU (sh_I M1 12 r (nI 0)) (nI r) (nI k0) (nI g) (nI 0) = fX13_next_176 M2 (nI r) (nI g) (nI n) := q1
          simp (disch := omega) only [zq_l9, pk_mul, nI_add, zq_t9, zq_c9, zq_bz9, zq_bo9, zq_g, zq_cl, zq_leT, zq_leF, zq_ltT, zq_ltF, zq_eqT, zq_eqF, zq_em, zq_me, zq_pm, zq_mm, zq_gm, pk_sub, zI_s, zI_k, zI_c, zI_2, zL_s, zL_k, zL_c, zL_1, if_true, if_false, eq_self, Nat.zero_add, Nat.add_zero, hn36, hq20]
          exact q1'.trans hfin
        · refine zRc_set h.2.2.2.2.2.2.1 (r0 := r) ⟨1, g + 1, min n 60, by omega, by omega, by omega, t4, ?_, t6, ?_, ?_, t3, ?_, fun k hk => ?_⟩ u2 (fun r' b => ⟨?_, ?_, ?_, ?_⟩) (fun r' k a b d => ?_)
          · rw [hfm 9 (by omega) (by omega) (by omega), hf5 9 (by omega) (by omega), hM1 9 (by omega) (by omega)]; exact h5
          · exact zI_s _ _ _ _
          · rw [t5, zI_c _ 10 r _ (by omega), zI_s, h211, h8]
          · rw [zI_c _ 10 r _ (by omega), zI_c _ 11 r _ (by omega), zI_s]
          · rw [t2 k hk, hQe k (by omega), hfm 13 (by omega) (by omega) (by omega), q2 k (by omega)]
          · rw [hfm 9 (by omega) (by omega) (by omega), hf5 9 (by omega) (by omega), hM1 9 (by omega) (by omega)]
          · rw [zI_k _ 10 r _ b, zI_c _ 11 r _ (by omega), zI_c _ 12 r _ (by omega), hf5 10 (by omega) (by omega), hM1 10 (by omega) (by omega)]
          · rw [zI_c _ 10 r _ (by omega), zI_k _ 11 r _ b, zI_c _ 12 r _ (by omega), hf5 11 (by omega) (by omega), hM1 11 (by omega) (by omega)]
          · rw [zI_c _ 10 r _ (by omega), zI_c _ 11 r _ (by omega), zI_k _ 12 r _ b, hf12 r' b, hM1 12 (by omega) (by omega)]
          · rw [hfm 13 (by omega) (by omega) (by omega), q3 _ (by omega), zI_c M1 12 _ _ (by omega), hM1 13 (by omega) (by omega)]
  · have x1 := (zx_isReader S v).2 q
    have m1 := (zm_isReader M v).2 q
    refine ⟨.inr "java/lang/IndexOutOfBoundsException", S, nI 0, sh_I M 0 0 (nI 1), ?_, ?_, Or.inr ⟨0, _, rfl, rfl, zI_s _ _ _ _⟩, T, B, L, h0 _⟩
    · simp (disch := omega) only [zq_l9, pk_mul, nI_add, zq_t9, zq_c9, zq_bz9, zq_bo9, zq_g, zq_cl, zq_leT, zq_leF, zq_ltT, zq_ltF, zq_eqT, zq_eqF, zq_em, zq_me, zq_pm, zq_mm, zq_gm, pk_sub, zI_s, zI_k, zI_c, zI_2, zL_s, zL_k, zL_c, zL_1, if_true, if_false, eq_self, Nat.zero_add, Nat.add_zero, x1]
    · simp (disch := omega) only [zq_l9, pk_mul, nI_add, zq_t9, zq_c9, zq_bz9, zq_bo9, zq_g, zq_cl, zq_leT, zq_leF, zq_ltT, zq_ltF, zq_eqT, zq_eqF, zq_em, zq_me, zq_pm, zq_mm, zq_gm, pk_sub, zI_s, zI_k, zI_c, zI_2, zL_s, zL_k, zL_c, zL_1, if_true, if_false, eq_self, Nat.zero_add, Nat.add_zero, m1, fX13_next_26]
