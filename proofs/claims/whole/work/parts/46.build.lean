/-! all is built anew -/
def zFre (T : zT) : zT := (fun i => if i < 3 then (fun _ => 0) else T.1 i, fun _ => 0)
def zli (P : List zE) (k : Nat) : Nat := if k = 0 then 0 else (P.getD (4 * k) (0, 0, 0)).1
def zmk (P : List zE) (k : Nat) : Nat := if 0 < k ∧ (P.getD (4 * k) (0, 0, 0)).1 = (P.getD (4 * k - 1) (0, 0, 0)).1 then 1 else 0
def zlv (U : zT) (P : List zE) : Nat → zT
  | 0 => U
  | k + 1 => zgr (zwT (zlv U P k) 0 (1 + k) 1) (1 + k) (zlg P (4 * k) (min (4 * k + 4) P.length)) 6
def zrs (b f : Nat) (P : List zE) : Nat → zT → zT
  | 0, U => U
  | k + 1, U => zrw (zrs b f P k U) (b * 6 + k) (zli P (f + k)) (zmk P (f + k)) (1 + (f + k))
/-- the indexes' rows for the first k leaves of L -/
def zix (U : zT) (P : List zE) (L k : Nat) : zT := (fun i j =>
  if i = 0 then (if L < j ∧ j < 1 + L + (k + 3) / 4 then 2 else U.1 0 j)
  else if i = 1 then (if j = 0 then (k + 3) / 4 else if L < j ∧ j < 1 + L + (k + 3) / 4 then min 4 (k - 4 * (j - 1 - L)) else U.1 1 j)
  else if i = 4 then (if j < (k + 3) / 4 then zli P (4 * j) else if L < j / 6 ∧ j % 6 < 4 ∧ 4 * (j / 6 - 1 - L) + j % 6 < k then zli P (4 * (j / 6 - 1 - L) + j % 6) else U.1 4 j)
  else if i = 5 then (if j < (k + 3) / 4 then zmk P (4 * j) else if L < j / 6 ∧ j % 6 < 4 ∧ 4 * (j / 6 - 1 - L) + j % 6 < k then zmk P (4 * (j / 6 - 1 - L) + j % 6) else U.1 5 j)
  else if i = 6 then (if j < (k + 3) / 4 then 1 + L + j else if L < j / 6 ∧ j % 6 < 4 ∧ 4 * (j / 6 - 1 - L) + j % 6 < k then 1 + (4 * (j / 6 - 1 - L) + j % 6) else U.1 6 j)
  else U.1 i j, U.2)
def zgs (n : Nat) : Nat := (n + 3) / 4
def zbu (T : zT) (P : List zE) : zT :=
  if zgs P.length ≤ 1 then zgr (zwT (zwT (zFre T) 7 0 0) 0 0 1) 0 (zlg P 0 P.length) 6
  else if zgs P.length ≤ 5 then zwT (zrs 0 0 P (zgs P.length) (zwT (zwT (zlv (zFre T) P (zgs P.length)) 0 0 2) 7 0 1)) 1 0 (zgs P.length)
  else zix (zwT (zwT (zlv (zFre T) P (zgs P.length)) 0 0 2) 7 0 2) P (zgs P.length) (zgs P.length)
theorem zx_fre2 : ∀ (n s : Nat) (S : sh_St), s ≤ 240 → 240 - s < n → (∀ k, k < s → S.2 8 k = 0) → ∃ S', fX7_freeAll_37 n S (nI s) = some ((), S') ∧ (∀ k, k < 240 → S'.2 8 k = 0) ∧ zFr 8 8 S S' ∧ S'.1 = S.1 := by
  intro n
  induction n with
  | zero => intro s S _ h; omega
  | succ n ih =>
    intro s S h1 h2 h3
    rw [fX7_freeAll_37]
    by_cases h : s = 240
    · subst h
      refine ⟨S, ?_, h3, zFr_rf _ _ S, rfl⟩
      simp (disch := omega) only [zq_l9, pk_mul, nI_add, zq_t9, zq_c9, zq_bz9, zq_bo9, zq_g, zq_cl, zq_leT, zq_leF, zq_ltT, zq_ltF, zq_eqT, zq_eqF, zq_em, zq_me, zq_pm, zq_mm, zq_gm, pk_sub, zI_s, zI_k, zI_c, zI_2, zL_s, zL_k, zL_c, zL_1, if_true, if_false, eq_self, Nat.zero_add, Nat.add_zero]
    · obtain ⟨S', f1, f2, f3, f4⟩ := ih (s + 1) (sh_L S 8 s 0) (by omega) (by omega) (fun k hk => by
        by_cases e : k = s
        · subst e; exact zL_s _ _ _ _
        · rw [zL_k S 8 s 0 e]; exact h3 k (by omega))
      refine ⟨S', ?_, f2, zFr_tr (zFr_L S _ _ (by omega) (by omega)) f3, f4⟩
      simp (disch := omega) only [zq_l9, pk_mul, nI_add, zq_t9, zq_c9, zq_bz9, zq_bo9, zq_g, zq_cl, zq_leT, zq_leF, zq_ltT, zq_ltF, zq_eqT, zq_eqF, zq_em, zq_me, zq_pm, zq_mm, zq_gm, pk_sub, zI_s, zI_k, zI_c, zI_2, zL_s, zL_k, zL_c, zL_1, if_true, if_false, eq_self, Nat.zero_add, Nat.add_zero]
      exact f1
theorem zx_fre1 : ∀ (n s : Nat) (S : sh_St), s ≤ 40 → 40 - s < n → (∀ b, b < s → S.1 5 b = nI 0 ∧ S.1 6 b = nI 0 ∧ S.1 7 b = nI 0) → ∃ S', fX7_freeAll_2 n S (nI s) = some ((), S') ∧ (∀ b, b < 40 → S'.1 5 b = nI 0 ∧ S'.1 6 b = nI 0 ∧ S'.1 7 b = nI 0) ∧ (∀ k, k < 240 → S'.2 8 k = 0) ∧ zFr 5 8 S S' := by
  intro n
  induction n with
  | zero => intro s S _ h; omega
  | succ n ih =>
    intro s S h1 h2 h3
    rw [fX7_freeAll_2]
    by_cases h : s = 40
    · subst h
      obtain ⟨S', f1, f2, f3, f4⟩ := zx_fre2 sh_FU 0 S (by omega) (by decide) (fun k hk => by omega)
      refine ⟨S', ?_, by rw [f4]; exact h3, f2, zFr_wd f3 (by omega) (by omega)⟩
      simp (disch := omega) only [zq_l9, pk_mul, nI_add, zq_t9, zq_c9, zq_bz9, zq_bo9, zq_g, zq_cl, zq_leT, zq_leF, zq_ltT, zq_ltF, zq_eqT, zq_eqF, zq_em, zq_me, zq_pm, zq_mm, zq_gm, pk_sub, zI_s, zI_k, zI_c, zI_2, zL_s, zL_k, zL_c, zL_1, if_true, if_false, eq_self, Nat.zero_add, Nat.add_zero]
      exact f1
    · obtain ⟨S', f1, f2, f3, f4⟩ := ih (s + 1) (sh_I (sh_I (sh_I S 5 s (nI 0)) 6 s (nI 0)) 7 s (nI 0)) (by omega) (by omega) (fun b hb => by
        by_cases e : b = s
        · subst e
          simp (disch := omega) only [zq_l9, pk_mul, nI_add, zq_t9, zq_c9, zq_bz9, zq_bo9, zq_g, zq_cl, zq_leT, zq_leF, zq_ltT, zq_ltF, zq_eqT, zq_eqF, zq_em, zq_me, zq_pm, zq_mm, zq_gm, pk_sub, zI_s, zI_k, zI_c, zI_2, zL_s, zL_k, zL_c, zL_1, if_true, if_false, eq_self, Nat.zero_add, Nat.add_zero]
          exact ⟨trivial, trivial, trivial⟩
        · obtain ⟨a1, a2, a3⟩ := h3 b (by omega)
          simp (disch := omega) only [zq_l9, pk_mul, nI_add, zq_t9, zq_c9, zq_bz9, zq_bo9, zq_g, zq_cl, zq_leT, zq_leF, zq_ltT, zq_ltF, zq_eqT, zq_eqF, zq_em, zq_me, zq_pm, zq_mm, zq_gm, pk_sub, zI_s, zI_k, zI_c, zI_2, zL_s, zL_k, zL_c, zL_1, if_true, if_false, eq_self, Nat.zero_add, Nat.add_zero, a1, a2, a3]
          exact ⟨trivial, trivial, trivial⟩)
      refine ⟨S', ?_, f2, f3, zFr_tr (zFr_tr (zFr_tr (zFr_I S _ _ (by omega) (by omega)) (zFr_I _ _ _ (by omega) (by omega))) (zFr_I _ _ _ (by omega) (by omega))) f4⟩
      simp (disch := omega) only [zq_l9, pk_mul, nI_add, zq_t9, zq_c9, zq_bz9, zq_bo9, zq_g, zq_cl, zq_leT, zq_leF, zq_ltT, zq_ltF, zq_eqT, zq_eqF, zq_em, zq_me, zq_pm, zq_mm, zq_gm, pk_sub, zI_s, zI_k, zI_c, zI_2, zL_s, zL_k, zL_c, zL_1, if_true, if_false, eq_self, Nat.zero_add, Nat.add_zero]
      exact f1
/-- names, nodes, numbers and rows, whatever the hashes and the blocks are -/
def zXv (S : sh_St) (T : zT) : Prop := zXw S T ∧ (∀ j, j < 240 → S.1 11 j = nI (T.1 4 j) ∧ S.1 12 j = nI (T.1 5 j) ∧ S.1 13 j = nI (T.1 6 j)) ∧ S.1 4 3 = nI (T.1 7 0)
theorem zXv_fr {lo hi : Nat} {S S' : sh_St} {T : zT} (h : zFr lo hi S S') (hl : 14 ≤ lo) (hv : zXv S T) : zXv S' T := by
  refine ⟨zXw_fr h hl hv.1, ?_, ?_⟩
  · rw [(h 11 (by omega)).1, (h 12 (by omega)).1, (h 13 (by omega)).1]; exact hv.2.1
  · rw [(h 4 (by omega)).1]; exact hv.2.2
theorem zx_fre {S : sh_St} {T : zT} (hv : zXv S T) : ∃ S', fX7_freeAll S = some ((), S') ∧ zVX S' 4 (zFre T) ∧ zFr 5 8 S S' := by
  obtain ⟨S', f1, f2, f3, f4⟩ := zx_fre1 sh_FU 0 S (by omega) (by decide) (fun b hb => by omega)
  refine ⟨S', f1, ⟨fun b hb => ?_, fun k hk => ⟨f3 k hk, fun q => absurd rfl q⟩, ?_, ?_, ?_, ?_, ?_⟩, f4⟩
  · obtain ⟨a1, a2, a3⟩ := f2 b hb
    exact ⟨a1, a2, a3, Nat.zero_le _⟩
  · show ∀ j, j < 240 → S'.1 11 j = nI (T.1 4 j) ∧ S'.1 12 j = nI (T.1 5 j) ∧ S'.1 13 j = nI (T.1 6 j)
    rw [(f4 11 (by omega)).1, (f4 12 (by omega)).1, (f4 13 (by omega)).1]; exact hv.2.1
  · show S'.1 4 0 = _
    rw [(f4 4 (by omega)).1]; exact hv.1.2.1
  · show S'.1 4 1 = _
    rw [(f4 4 (by omega)).1]; exact hv.1.2.2.1
  · show S'.1 4 2 = _
    rw [(f4 4 (by omega)).1]; exact hv.1.2.2.2
  · show S'.1 4 3 = _
    rw [(f4 4 (by omega)).1]; exact hv.2.2
theorem zli_x {S : sh_St} {P : List zE} (hP : zPX S P) {k : Nat} (hk : 4 * k < P.length ∨ k = 0) (h4 : P.length ≤ 240) : fX4_limitOfLaid S (nI k) = some (nI (zli P k), S) := by
  rw [fX4_limitOfLaid]
  unfold zli
  by_cases h : k = 0
  · rw [if_pos h]
    simp (disch := omega) only [zq_l9, pk_mul, nI_add, zq_t9, zq_c9, zq_bz9, zq_bo9, zq_g, zq_cl, zq_leT, zq_leF, zq_ltT, zq_ltF, zq_eqT, zq_eqF, zq_em, zq_me, zq_pm, zq_mm, zq_gm, pk_sub, zI_s, zI_k, zI_c, zI_2, zL_s, zL_k, zL_c, zL_1, if_true, if_false, eq_self, Nat.zero_add, Nat.add_zero, h]
  · rw [show (if k = 0 then 0 else (P.getD (4 * k) (0, 0, 0)).1) = (P.getD (4 * k) (0, 0, 0)).1 from if_neg h]
    have hlt : 4 * k < P.length := by omega
    have a := (hP.2 (4 * k) _ (zP_at hlt)).1
    simp (disch := omega) only [zq_l9, pk_mul, nI_add, zq_t9, zq_c9, zq_bz9, zq_bo9, zq_g, zq_cl, zq_leT, zq_leF, zq_ltT, zq_ltF, zq_eqT, zq_eqF, zq_em, zq_me, zq_pm, zq_mm, zq_gm, pk_sub, zI_s, zI_k, zI_c, zI_2, zL_s, zL_k, zL_c, zL_1, if_true, if_false, eq_self, Nat.zero_add, Nat.add_zero, show k * 4 = 4 * k from by omega, a]
theorem zmk_x {S : sh_St} {P : List zE} (hP : zPX S P) (hl : ∀ x, x ∈ P → x.1 < 4096) {k : Nat} (hk : 4 * k < P.length ∨ k = 0) (h4 : P.length ≤ 240) : fX6_markAt S (nI (k * 4)) = some (nI (zmk P k), S) := by
  rw [fX6_markAt]
  unfold zmk
  by_cases h : k = 0
  · rw [if_neg (show ¬ (0 < k ∧ (P.getD (4 * k) (0, 0, 0)).1 = (P.getD (4 * k - 1) (0, 0, 0)).1) by omega)]
    simp (disch := omega) only [zq_l9, pk_mul, nI_add, zq_t9, zq_c9, zq_bz9, zq_bo9, zq_g, zq_cl, zq_leT, zq_leF, zq_ltT, zq_ltF, zq_eqT, zq_eqF, zq_em, zq_me, zq_pm, zq_mm, zq_gm, pk_sub, zI_s, zI_k, zI_c, zI_2, zL_s, zL_k, zL_c, zL_1, if_true, if_false, eq_self, Nat.zero_add, Nat.add_zero]
  · have hlt : 4 * k < P.length := by omega
    have a := (hP.2 (4 * k) _ (zP_at hlt)).1
    have a' := (hP.2 (4 * k - 1) _ (zP_at (by omega))).1
    have l1 := hl _ (List.mem_of_getElem? (zP_at hlt))
    have l2 := hl _ (List.mem_of_getElem? (zP_at (show 4 * k - 1 < P.length by omega)))
    by_cases c : (P.getD (4 * k) (0, 0, 0)).1 = (P.getD (4 * k - 1) (0, 0, 0)).1
    · rw [if_pos (show (0 < k ∧ (P.getD (4 * k) (0, 0, 0)).1 = (P.getD (4 * k - 1) (0, 0, 0)).1) from ⟨by omega, c⟩)]
      simp (disch := omega) only [zq_l9, pk_mul, nI_add, zq_t9, zq_c9, zq_bz9, zq_bo9, zq_g, zq_cl, zq_leT, zq_leF, zq_ltT, zq_ltF, zq_eqT, zq_eqF, zq_em, zq_me, zq_pm, zq_mm, zq_gm, pk_sub, zI_s, zI_k, zI_c, zI_2, zL_s, zL_k, zL_c, zL_1, if_true, if_false, eq_self, Nat.zero_add, Nat.add_zero, show k * 4 = 4 * k from by omega, a, a']
    · rw [if_neg (show ¬ (0 < k ∧ (P.getD (4 * k) (0, 0, 0)).1 = (P.getD (4 * k - 1) (0, 0, 0)).1) from fun q => c q.2)]
      simp (disch := omega) only [zq_l9, pk_mul, nI_add, zq_t9, zq_c9, zq_bz9, zq_bo9, zq_g, zq_cl, zq_leT, zq_leF, zq_ltT, zq_ltF, zq_eqT, zq_eqF, zq_em, zq_me, zq_pm, zq_mm, zq_gm, pk_sub, zI_s, zI_k, zI_c, zI_2, zL_s, zL_k, zL_c, zL_1, if_true, if_false, eq_self, Nat.zero_add, Nat.add_zero, show k * 4 = 4 * k from by omega, a, a']
theorem zrs_i (b f : Nat) (P : List zE) (k : Nat) (U : zT) {i : Nat} (h : i < 4 ∨ 6 < i) : (zrs b f P k U).1 i = U.1 i := by
  induction k with
  | zero => rfl
  | succ k ih =>
    unfold zrs zrw
    rw [zwT_i _ _ _ _ (by omega), zwT_i _ _ _ _ (by omega), zwT_i _ _ _ _ (by omega), ih]
theorem zrs_2 (b f : Nat) (P : List zE) (k : Nat) (U : zT) : (zrs b f P k U).2 = U.2 := by
  induction k with
  | zero => rfl
  | succ k ih => exact ih
theorem zIn_c9 {T : zT} {b p : Nat} (l m t : Nat) (h : T.1 1 b = p) : zIn T b p l m t = zwT (zrw T (b * 6 + p) l m t) 1 b (p + 1) := by
  unfold zIn
  rw [h, zsh_p b p (Nat.le_refl p)]
theorem zeq_w1 {T : zT} (b v w : Nat) (j l m t : Nat) : zwT (zrw (zwT T 1 b v) j l m t) 1 b w = zwT (zrw T j l m t) 1 b w := by
  unfold zrw zwT
  refine Prod.ext (funext fun i => funext fun k => ?_) rfl
  simp only
  repeat' split
  all_goals first | rfl | omega | (simp_all; done)
theorem zx_layRows_l {P : List zE} (hl : ∀ x, x ∈ P → x.1 < 4096) (h4 : P.length ≤ 240) {b f t : Nat} (hb : b < 40) (ht : t ≤ f + 5) (htP : 4 * t ≤ P.length + 3) {U : zT} (hU : U.1 1 b = 0) : ∀ (n k : Nat) (S : sh_St), zVX S 4 (zwT (zrs b f P k U) 1 b k) → zPX S P → f + k ≤ t → t - (f + k) < n → ∃ S', fX4_layRows_3 n S (nI b) (nI f) (nI t) (nI (f + k)) = some ((), S') ∧ zVX S' 4 (zwT (zrs b f P (t - f) U) 1 b (t - f)) ∧ zFr 6 13 S S' := by
  intro n
  induction n with
  | zero => intro k S _ _ _ h; omega
  | succ n ih =>
    intro k S hv hP h1 h2
    rw [fX4_layRows_3]
    by_cases h : f + k = t
    · refine ⟨S, ?_, by rw [show t - f = k by omega]; exact hv, zFr_rf _ _ S⟩
      simp (disch := omega) only [zq_l9, pk_mul, nI_add, zq_t9, zq_c9, zq_bz9, zq_bo9, zq_g, zq_cl, zq_leT, zq_leF, zq_ltT, zq_ltF, zq_eqT, zq_eqF, zq_em, zq_me, zq_pm, zq_mm, zq_gm, pk_sub, zI_s, zI_k, zI_c, zI_2, zL_s, zL_k, zL_c, zL_1, if_true, if_false, eq_self, Nat.zero_add, Nat.add_zero]
    · have e1 := zli_x hP (k := f + k) (by omega) h4
      have e2 := zmk_x hP hl (k := f + k) (by omega) h4
      obtain ⟨S1, g1, g2, g3⟩ := zx_insert hv (b := b) (p := k) hb (zli P (f + k)) (zmk P (f + k)) (1 + (f + k)) (by omega) (by rw [zwT_s]; omega)
      rw [zIn_c9 _ _ _ (zwT_s _ _ _ _), zeq_w1] at g2
      obtain ⟨S', f1, f2, f3⟩ := ih (k + 1) S1 g2 (zPX_fr g3 (by omega) hP) (by omega) (by omega)
      refine ⟨S', ?_, f2, zFr_tr g3 f3⟩
      simp (disch := omega) only [zq_l9, pk_mul, nI_add, zq_t9, zq_c9, zq_bz9, zq_bo9, zq_g, zq_cl, zq_leT, zq_leF, zq_ltT, zq_ltF, zq_eqT, zq_eqF, zq_em, zq_me, zq_pm, zq_mm, zq_gm, pk_sub, zI_s, zI_k, zI_c, zI_2, zL_s, zL_k, zL_c, zL_1, if_true, if_false, eq_self, Nat.zero_add, Nat.add_zero, e1, e2, show f + k - f = k from by omega, g1]
      exact f1
theorem zwT_id' {T : zT} {i k v : Nat} (h : T.1 i k = v) : zwT T i k v = T := by rw [← h]; exact zwT_id
theorem zx_layRows {S : sh_St} {U : zT} (hv : zVX S 4 U) {P : List zE} (hP : zPX S P) (hl : ∀ x, x ∈ P → x.1 < 4096) (h4 : P.length ≤ 240) {b f t : Nat} (hb : b < 40) (hft : f ≤ t) (ht : t ≤ f + 5) (htP : 4 * t ≤ P.length + 3) (hU : U.1 1 b = 0) : ∃ S', fX4_layRows S (nI b) (nI f) (nI t) = some ((), S') ∧ zVX S' 4 (zwT (zrs b f P (t - f) U) 1 b (t - f)) ∧ zFr 6 13 S S' := by
  have hv0 : zVX S 4 (zwT (zrs b f P 0 U) 1 b 0) := by rw [show zrs b f P 0 U = U from rfl, zwT_id' hU]; exact hv
  obtain ⟨S', f1, f2, f3⟩ := zx_layRows_l hl h4 hb ht htP hU sh_FU 0 S hv0 hP (by omega) (by have : sh_FU = 100000 := rfl; omega)
  exact ⟨S', f1, f2, f3⟩
