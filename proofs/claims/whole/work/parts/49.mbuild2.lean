/-! the reference builds: leaves, and all -/
theorem zwT_cm (T : zT) {i k v i' k' v' : Nat} (h : i ≠ i' ∨ k ≠ k') : zwT (zwT T i k v) i' k' v' = zwT (zwT T i' k' v') i k v := by
  refine zT_ext (fun a j => ?_) rfl
  unfold zwT
  simp only
  by_cases c1 : a = i'
  · by_cases c2 : a = i
    · subst c1; subst c2
      simp only [if_true]
      by_cases d1 : j = k'
      · rw [if_pos d1, if_neg (by omega), if_pos d1]
      · rw [if_neg d1]
        by_cases d2 : j = k
        · rw [if_pos d2, if_pos d2]
        · rw [if_neg d2, if_neg d2, if_neg d1]
    · simp only [if_pos c1, if_neg c2]
  · by_cases c2 : a = i
    · simp only [if_neg c1, if_pos c2]
    · simp only [if_neg c1, if_neg c2]
theorem zeT_w (T : zT) {i : Nat} (k v c : Nat) (n : Int64) (d : Nat) (h : i ≠ 3) : zeT (zwT T i k v) c n d = zwT (zeT T c n d) i k v := by
  refine zT_ext (fun a j => ?_) rfl
  unfold zeT zwT
  simp only
  by_cases c1 : a = 3
  · subst c1
    simp only [if_true, if_neg (show ¬ 3 = i from fun q => h q.symm)]
  · by_cases c2 : a = i
    · simp only [if_neg c1, if_pos c2]
    · simp only [if_neg c1, if_neg c2]
theorem zgr_w (T : zT) {i : Nat} (k v b : Nat) (g : Nat → Int64 × Nat) (h : i ≠ 3) : ∀ s, zgr (zwT T i k v) b g s = zwT (zgr T b g s) i k v := by
  intro s
  induction s with
  | zero => rfl
  | succ s ih =>
    unfold zgr
    rw [ih, zeT_w _ _ _ _ _ _ h]
theorem zrs_w (b f : Nat) (P : List zE) (U : zT) (k v : Nat) : ∀ m, zrs b f P m (zwT U 1 k v) = zwT (zrs b f P m U) 1 k v := by
  intro m
  induction m with
  | zero => rfl
  | succ m ih =>
    unfold zrs zrw
    rw [ih, zwT_cm _ (i := 1) (i' := 4) (by omega), zwT_cm _ (i := 1) (i' := 5) (by omega), zwT_cm _ (i := 1) (i' := 6) (by omega)]
theorem zm_b175 {T : zT} {P : List zE} (hl : ∀ x, x ∈ P → x.1 < 4096) (h4 : P.length ≤ 80) (h2 : 2 ≤ zgs P.length) (hPn : ∀ x, x ∈ P → x.2.1 ≠ 0) : ∀ (n k : Nat) (S : sh_St), zVN S (zwT (zlv (zFre T) P k) 0 0 2) → zPM S P → k ≤ zgs P.length → zgs P.length - k < n → ∃ S', fX13_build0_175 n S (nI (zgs P.length)) (nI k) = some (nI 0, S') ∧ zVN S' (zbu T P) ∧ zFk 0 S S' := by
  intro n
  induction n with
  | zero => intro k S _ _ _ h; omega
  | succ n ih =>
    intro k S hv hP h1 h3
    have hg : zgs P.length = (P.length + 3) / 4 := rfl
    rw [fX13_build0_175]
    by_cases h : k = zgs P.length
    · subst h
      by_cases c : zgs P.length ≤ 5
      · have hv1 := zMw1 (zMw7 hv 1) (b := 0) (v := zgs P.length) (by omega) (by omega)
        have hP1 : zPM (sh_I (sh_I S 1 1080 (nI 1)) 1 (80 + 0) (nI (zgs P.length))) P := zPM_fk (zFk_t0 (zFk_I S _ _) (zFk_I _ _ _)) hP
        obtain ⟨S', f1, f2, f3⟩ := zm_b260 hl h4 c (U := zwT (zwT (zwT (zlv (zFre T) P (zgs P.length)) 0 0 2) 7 0 1) 1 0 (zgs P.length)) sh_FU 0 _ hv1 hP1 (by omega) (by have : sh_FU = 100000 := rfl; omega)
        refine ⟨S', ?_, ?_, zFk_t0 (zFk_t0 (zFk_I S _ _) (zFk_I _ _ _)) f3⟩
        · simp (disch := omega) only [zq_l9, pk_mul, nI_add, zq_t9, zq_c9, zq_bz9, zq_bo9, zq_g, zq_cl, zq_leT, zq_leF, zq_ltT, zq_ltF, zq_eqT, zq_eqF, zq_em, zq_me, zq_pm, zq_mm, zq_gm, pk_sub, zI_s, zI_k, zI_c, zI_2, zL_s, zL_k, zL_c, zL_1, if_true, if_false, eq_self, Nat.zero_add, Nat.add_zero]
          exact f1
        · unfold zbu
          rw [if_neg (by omega), if_pos c]
          rw [zrs_w] at f2
          exact f2
      · have hv1 := zMw7 hv 2
        have hP1 : zPM (sh_I S 1 1080 (nI 2)) P := zPM_fk (zFk_I S _ _) hP
        have hU2 : ∀ b, (zwT (zwT (zlv (zFre T) P (zgs P.length)) 0 0 2) 7 0 2).1 1 b = 0 := fun b => by rw [zwT_i _ _ _ _ (by omega), zwT_i _ _ _ _ (by omega), zlv_i _ _ _ (by omega) (by omega)]; rfl
        rw [← zix_z (P := P) (L := zgs P.length) (hU2 0)] at hv1
        obtain ⟨S', f1, f2, f3⟩ := zm_b310 hl h4 rfl (by omega) hU2 sh_FU 0 _ hv1 hP1 (by omega) (by have : sh_FU = 100000 := rfl; omega)
        refine ⟨S', ?_, ?_, zFk_t0 (zFk_I S _ _) f3⟩
        · simp (disch := omega) only [zq_l9, pk_mul, nI_add, zq_t9, zq_c9, zq_bz9, zq_bo9, zq_g, zq_cl, zq_leT, zq_leF, zq_ltT, zq_ltF, zq_eqT, zq_eqF, zq_em, zq_me, zq_pm, zq_mm, zq_gm, pk_sub, zI_s, zI_k, zI_c, zI_2, zL_s, zL_k, zL_c, zL_1, if_true, if_false, eq_self, Nat.zero_add, Nat.add_zero]
          exact f1
        · unfold zbu
          rw [if_neg (by omega), if_neg c]
          exact f2
    · have hv1 := zMw0 hv (b := 1 + k) 1 (by omega)
      have hP1 : zPM (sh_I S 1 (1 + k) (nI 1)) P := zPM_fk (zFk_I S _ _) hP
      obtain ⟨S1, g1, g2, g3⟩ := zm_fills hv1 hP1 (by omega) hPn (b := 1 + k) (f := 4 * k) (c := min 4 (P.length - 4 * k)) (by omega) (by omega) (by omega)
      have g2' : zVN S1 (zwT (zlv (zFre T) P (k + 1)) 0 0 2) := by
        rw [zwT_cm _ (by omega), zgr_w _ _ _ _ _ (by omega), show 4 * k + min 4 (P.length - 4 * k) = min (4 * k + 4) P.length by omega] at g2
        exact g2
      obtain ⟨S', f1, f2, f3⟩ := ih (k + 1) S1 g2' (zPM_fk g3 hP1) (by omega) (by omega)
      refine ⟨S', ?_, f2, zFk_t0 (zFk_t0 (zFk_I S _ _) g3) f3⟩
      have h36 : S.1 0 36 = nI P.length := hP.1
      by_cases c : k = zgs P.length - 1
      · rw [show min 4 (P.length - 4 * k) = P.length - 4 * k by omega] at g1
        simp (disch := omega) only [zq_l9, pk_mul, nI_add, zq_t9, zq_c9, zq_bz9, zq_bo9, zq_g, zq_cl, zq_leT, zq_leF, zq_ltT, zq_ltF, zq_eqT, zq_eqF, zq_em, zq_me, zq_pm, zq_mm, zq_gm, pk_sub, zI_s, zI_k, zI_c, zI_2, zL_s, zL_k, zL_c, zL_1, if_true, if_false, eq_self, Nat.zero_add, Nat.add_zero]
        rw [fX13_build0_223, h36]
        simp (disch := omega) only [zq_l9, pk_mul, nI_add, zq_t9, zq_c9, zq_bz9, zq_bo9, zq_g, zq_cl, zq_leT, zq_leF, zq_ltT, zq_ltF, zq_eqT, zq_eqF, zq_em, zq_me, zq_pm, zq_mm, zq_gm, pk_sub, zI_s, zI_k, zI_c, zI_2, zL_s, zL_k, zL_c, zL_1, if_true, if_false, eq_self, Nat.zero_add, Nat.add_zero, g1]
        exact f1
      · rw [show min 4 (P.length - 4 * k) = 4 by omega] at g1
        simp (disch := omega) only [zq_l9, pk_mul, nI_add, zq_t9, zq_c9, zq_bz9, zq_bo9, zq_g, zq_cl, zq_leT, zq_leF, zq_ltT, zq_ltF, zq_eqT, zq_eqF, zq_em, zq_me, zq_pm, zq_mm, zq_gm, pk_sub, zI_s, zI_k, zI_c, zI_2, zL_s, zL_k, zL_c, zL_1, if_true, if_false, eq_self, Nat.zero_add, Nat.add_zero]
        rw [fX13_build0_223]
        simp (disch := omega) only [zq_l9, pk_mul, nI_add, zq_t9, zq_c9, zq_bz9, zq_bo9, zq_g, zq_cl, zq_leT, zq_leF, zq_ltT, zq_ltF, zq_eqT, zq_eqF, zq_em, zq_me, zq_pm, zq_mm, zq_gm, pk_sub, zI_s, zI_k, zI_c, zI_2, zL_s, zL_k, zL_c, zL_1, if_true, if_false, eq_self, Nat.zero_add, Nat.add_zero, g1]
        exact f1
/-- the first s blocks are free -/
def zfs (T : zT) (s : Nat) : zT := (fun i j => if i < 3 ∧ j < s then 0 else T.1 i j, fun k => if k < s * 6 then 0 else T.2 k)
theorem zfs_z (T : zT) : zfs T 0 = T := by
  refine Prod.ext (funext fun i => funext fun j => ?_) (funext fun k => ?_)
  · show (if i < 3 ∧ j < 0 then 0 else T.1 i j) = _
    rw [if_neg (by omega)]
  · show (if k < 0 * 6 then 0 else T.2 k) = _
    rw [if_neg (by omega)]
theorem zfs_eq (T : zT) (s : Nat) : zeq (zgr (zwT (zwT (zwT (zfs T s) 0 s 0) 2 s 0) 1 s 0) s (fun _ => (0, 0)) 6) (zfs T (s + 1)) := by
  refine ⟨fun i j hi => ?_, fun k => ?_, fun k hk => ?_⟩
  · rw [zgr_i _ _ _ _ hi]
    show (if i < 3 ∧ j < s + 1 then 0 else T.1 i j) = _
    have hb : (zfs T s).1 i j = if i < 3 ∧ j < s then 0 else T.1 i j := rfl
    by_cases i0 : i = 0
    · subst i0
      rw [zwT_i _ _ _ _ (by omega), zwT_i _ _ _ _ (by omega), zwT_v, hb]
      by_cases c : j = s
      · rw [if_pos c, if_pos (by omega)]
      · rw [if_neg c]
        by_cases c2 : j < s
        · rw [if_pos (by omega), if_pos (by omega)]
        · rw [if_neg (by omega), if_neg (by omega)]
    by_cases i1 : i = 1
    · subst i1
      rw [zwT_v, zwT_i _ _ _ _ (by omega), zwT_i _ _ _ _ (by omega), hb]
      by_cases c : j = s
      · rw [if_pos c, if_pos (by omega)]
      · rw [if_neg c]
        by_cases c2 : j < s
        · rw [if_pos (by omega), if_pos (by omega)]
        · rw [if_neg (by omega), if_neg (by omega)]
    by_cases i2 : i = 2
    · subst i2
      rw [zwT_i _ _ _ _ (by omega), zwT_v, zwT_i _ _ _ _ (by omega), hb]
      by_cases c : j = s
      · rw [if_pos c, if_pos (by omega)]
      · rw [if_neg c]
        by_cases c2 : j < s
        · rw [if_pos (by omega), if_pos (by omega)]
        · rw [if_neg (by omega), if_neg (by omega)]
    rw [zwT_i _ _ _ _ i1, zwT_i _ _ _ _ i2, zwT_i _ _ _ _ i0, hb, if_neg (by omega), if_neg (by omega)]
  · rw [zgr_2]
    show (if k < (s + 1) * 6 then 0 else T.2 k) = _
    by_cases c : s * 6 ≤ k ∧ k < s * 6 + 6
    · rw [if_pos c, if_pos (by omega)]
    · rw [if_neg c]
      show _ = (if k < s * 6 then 0 else T.2 k)
      by_cases c2 : k < s * 6
      · rw [if_pos c2, if_pos (by omega)]
      · rw [if_neg c2, if_neg (by omega)]
  · rw [zgr_2] at hk
    rw [zgr_3]
    by_cases c : s * 6 ≤ k ∧ k < s * 6 + 6
    · rw [if_pos c] at hk
      exact absurd rfl hk
    · rw [if_neg c]
      show (if (3 : Nat) < 3 ∧ k < s + 1 then 0 else T.1 3 k) = (if (3 : Nat) < 3 ∧ k < s then 0 else T.1 3 k)
      rw [if_neg (by omega), if_neg (by omega)]
theorem zfs_fre {S : sh_St} {T : zT} (h : zVN S (zfs T 40)) : zVN S (zFre T) := by
  obtain ⟨h1, h2, h3, h4, h5, h6, h7⟩ := h
  refine ⟨fun b hb => ?_, fun k hk => ?_, h3, h4, h5, h6, h7⟩
  · have a := h1 b hb
    have e : ∀ i, i < 3 → (zfs T 40).1 i b = 0 := fun i hi => if_pos ⟨hi, hb⟩
    rw [e 0 (by omega), e 1 (by omega), e 2 (by omega)] at a
    exact a
  · have a := h2 k hk
    have e : (zfs T 40).2 k = 0 := if_pos (by omega)
    rw [e, if_pos rfl] at a
    refine ⟨a.1, ?_⟩
    rw [a.2]
    exact (if_pos rfl).symm
/-- how many leaves there would be -/
def zlf (n : Nat) : Nat := if n < 5 then 1 else zgs n
theorem zm_leavesFor (S : sh_St) {n : Nat} (h : n < 1000) : fX13_leavesFor S (nI n) = some (nI (zlf n), S) := by
  rw [fX13_leavesFor]
  unfold zlf
  by_cases c : n < 5
  · rw [if_pos c]
    simp (disch := omega) only [zq_l9, pk_mul, nI_add, zq_t9, zq_c9, zq_bz9, zq_bo9, zq_g, zq_cl, zq_leT, zq_leF, zq_ltT, zq_ltF, zq_eqT, zq_eqF, zq_em, zq_me, zq_pm, zq_mm, zq_gm, pk_sub, zI_s, zI_k, zI_c, zI_2, zL_s, zL_k, zL_c, zL_1, if_true, if_false, eq_self, Nat.zero_add, Nat.add_zero]
  · rw [if_neg c]
    simp (disch := omega) only [zq_l9, pk_mul, nI_add, zq_t9, zq_c9, zq_bz9, zq_bo9, zq_g, zq_cl, zq_leT, zq_leF, zq_ltT, zq_ltF, zq_eqT, zq_eqF, zq_em, zq_me, zq_pm, zq_mm, zq_gm, pk_sub, zI_s, zI_k, zI_c, zI_2, zL_s, zL_k, zL_c, zL_1, if_true, if_false, eq_self, Nat.zero_add, Nat.add_zero]
    rw [zq_div4 (by omega)]
    rfl
theorem zm_b80 {T : zT} {P : List zE} (hl : ∀ x, x ∈ P → x.1 < 4096) (h4 : P.length ≤ 80) (hPn : ∀ x, x ∈ P → x.2.1 ≠ 0) : ∀ (n k : Nat) (S : sh_St), zVN S (zfs T k) → zPM S P → k ≤ 40 → 40 - k < n → ∃ S', fX13_build0_80 n S (nI (zlf P.length)) (nI k) = some (nI 0, S') ∧ zVN S' (zbu T P) ∧ zFk 0 S S' := by
  intro n
  induction n with
  | zero => intro k S _ _ _ h; omega
  | succ n ih =>
    intro k S hv hP h1 h3
    have hg : zgs P.length = (P.length + 3) / 4 := rfl
    rw [fX13_build0_80]
    by_cases h : k = 40
    · subst h
      have hv0 := zfs_fre hv
      by_cases c : P.length < 5
      · have hv1 := zMw7 (zMw0 hv0 (b := 0) 1 (by omega)) 0
        have hP1 : zPM (sh_I (sh_I S 1 0 (nI 1)) 1 1080 (nI 0)) P := zPM_fk (zFk_t0 (zFk_I S _ _) (zFk_I _ _ _)) hP
        obtain ⟨S', f1, f2, f3⟩ := zm_fills hv1 hP1 (by omega) hPn (b := 0) (f := 0) (c := P.length) (by omega) (by omega) (by omega)
        refine ⟨S', ?_, ?_, zFk_t0 (zFk_t0 (zFk_I S _ _) (zFk_I _ _ _)) f3⟩
        · rw [show zlf P.length = 1 from if_pos c]
          have h36 : S.1 0 36 = nI P.length := hP.1
          simp (disch := omega) only [zq_l9, pk_mul, nI_add, zq_t9, zq_c9, zq_bz9, zq_bo9, zq_g, zq_cl, zq_leT, zq_leF, zq_ltT, zq_ltF, zq_eqT, zq_eqF, zq_em, zq_me, zq_pm, zq_mm, zq_gm, pk_sub, zI_s, zI_k, zI_c, zI_2, zL_s, zL_k, zL_c, zL_1, if_true, if_false, eq_self, Nat.zero_add, Nat.add_zero, h36, f1]
        · unfold zbu
          rw [if_pos (by omega)]
          rw [Nat.zero_add, zwT_cm _ (by omega)] at f2
          exact f2
      · have hv1 := zMw0 hv0 (b := 0) 2 (by omega)
        have hP1 : zPM (sh_I S 1 0 (nI 2)) P := zPM_fk (zFk_I S _ _) hP
        obtain ⟨S', f1, f2, f3⟩ := zm_b175 (T := T) hl h4 (by omega) hPn sh_FU 0 _ hv1 hP1 (by omega) (by have : sh_FU = 100000 := rfl; omega)
        refine ⟨S', ?_, f2, zFk_t0 (zFk_I S _ _) f3⟩
        rw [show zlf P.length = zgs P.length from if_neg c]
        simp (disch := omega) only [zq_l9, pk_mul, nI_add, zq_t9, zq_c9, zq_bz9, zq_bo9, zq_g, zq_cl, zq_leT, zq_leF, zq_ltT, zq_ltF, zq_eqT, zq_eqF, zq_em, zq_me, zq_pm, zq_mm, zq_gm, pk_sub, zI_s, zI_k, zI_c, zI_2, zL_s, zL_k, zL_c, zL_1, if_true, if_false, eq_self, Nat.zero_add, Nat.add_zero]
        exact f1
    · have hv1 := zMw1 (zMw2 (zMw0 hv (b := k) 0 (by omega)) (b := k) 0 (by omega)) (b := k) (v := 0) (by omega) (by omega)
      obtain ⟨S1, g1, g2, g3⟩ := zm_empties hv1 (b := k) (by omega)
      have hf : zFk 0 S S1 := zFk_t0 (zFk_t0 (zFk_t0 (zFk_I S _ _) (zFk_I _ _ _)) (zFk_I _ _ _)) g3
      obtain ⟨S', f1, f2, f3⟩ := ih (k + 1) S1 (zVM_eq (zfs_eq T k) g2) (zPM_fk hf hP) (by omega) (by omega)
      refine ⟨S', ?_, f2, zFk_t0 hf f3⟩
      simp (disch := omega) only [zq_l9, pk_mul, nI_add, zq_t9, zq_c9, zq_bz9, zq_bo9, zq_g, zq_cl, zq_leT, zq_leF, zq_ltT, zq_ltF, zq_eqT, zq_eqF, zq_em, zq_me, zq_pm, zq_mm, zq_gm, pk_sub, zI_s, zI_k, zI_c, zI_2, zL_s, zL_k, zL_c, zL_1, if_true, if_false, eq_self, Nat.zero_add, Nat.add_zero, g1]
      exact f1
/-- other numbers are told -/
def zsn (T : zT) (b y f : Nat) : zT := (fun i j => if i = 7 then (if j = 1 then b else if j = 2 then y else if j = 3 then f else T.1 7 j) else T.1 i j, T.2)
theorem zsn_i (T : zT) (b y f : Nat) {i : Nat} (h : i ≠ 7) : (zsn T b y f).1 i = T.1 i := by
  funext j
  show (if i = 7 then _ else T.1 i j) = _
  rw [if_neg h]
theorem zsn_id {T : zT} {b y f : Nat} (h1 : T.1 7 1 = b) (h2 : T.1 7 2 = y) (h3 : T.1 7 3 = f) : zsn T b y f = T := by
  refine zT_ext (fun i j => ?_) rfl
  show (if i = 7 then (if j = 1 then b else if j = 2 then y else if j = 3 then f else T.1 7 j) else T.1 i j) = _
  by_cases c : i = 7
  · subst c
    rw [if_pos rfl]
    by_cases c1 : j = 1
    · rw [if_pos c1, c1, h1]
    · rw [if_neg c1]
      by_cases c2 : j = 2
      · rw [if_pos c2, c2, h2]
      · rw [if_neg c2]
        by_cases c3 : j = 3
        · rw [if_pos c3, c3, h3]
        · rw [if_neg c3]
  · rw [if_neg c]
theorem zMsn {S : sh_St} {T : zT} (h : zVN S T) (b y f : Nat) : zVN (sh_I (sh_I (sh_I S 1 1081 (nI b)) 1 1082 (nI y)) 1 1083 (nI f)) (zsn T b y f) := by
  obtain ⟨h1, h2, h3, h4, h5, h6, h7⟩ := h
  have hk : ∀ q, q ≠ 1081 → q ≠ 1082 → q ≠ 1083 → (sh_I (sh_I (sh_I S 1 1081 (nI b)) 1 1082 (nI y)) 1 1083 (nI f)).1 1 q = S.1 1 q := fun q a b c => by rw [zI_k _ 1 _ _ c, zI_k _ 1 _ _ b, zI_k _ 1 _ _ a]
  refine ⟨fun b' hb' => ?_, fun k hk' => ⟨(h2 k hk').1, (hk _ (by omega) (by omega) (by omega)).trans (h2 k hk').2⟩, fun j hj => ⟨(hk _ (by omega) (by omega) (by omega)).trans (h3 j hj).1, (hk _ (by omega) (by omega) (by omega)).trans (h3 j hj).2.1, (hk _ (by omega) (by omega) (by omega)).trans (h3 j hj).2.2⟩, (hk _ (by omega) (by omega) (by omega)).trans h4, ?_, ?_, ?_⟩
  · obtain ⟨a1, a2, a3, a4⟩ := h1 b' hb'
    exact ⟨(hk _ (by omega) (by omega) (by omega)).trans a1, (hk _ (by omega) (by omega) (by omega)).trans a2, (hk _ (by omega) (by omega) (by omega)).trans a3, a4⟩
  · show _ = nI b
    rw [zI_k _ 1 _ _ (by omega), zI_k _ 1 _ _ (by omega)]; exact zI_s _ _ _ _
  · show _ = nI y
    rw [zI_k _ 1 _ _ (by omega)]; exact zI_s _ _ _ _
  · exact zI_s _ _ _ _
theorem zm_b50 {S : sh_St} {T : zT} (hv : zVN S T) {P : List zE} (hP : zPM S P) (hl : ∀ x, x ∈ P → x.1 < 4096) (h4 : P.length ≤ 80) (hPn : ∀ x, x ∈ P → x.2.1 ≠ 0) (b y f : Nat) : ∃ S', fX13_build0_50 S (nI b) (nI y) (nI f) (nI (zlf P.length)) = some (nI 0, S') ∧ zVN S' (zbu (zsn T b y f) P) ∧ zFk 0 S S' := by
  have hv1 := zMsn hv b y f
  have hf : zFk 0 S (sh_I (sh_I (sh_I S 1 1081 (nI b)) 1 1082 (nI y)) 1 1083 (nI f)) := zFk_t0 (zFk_t0 (zFk_I S _ _) (zFk_I _ _ _)) (zFk_I _ _ _)
  rw [← zfs_z (zsn T b y f)] at hv1
  obtain ⟨S', f1, f2, f3⟩ := zm_b80 hl h4 hPn sh_FU 0 _ hv1 (zPM_fk hf hP) (by omega) (by decide)
  refine ⟨S', ?_, f2, zFk_t0 hf f3⟩
  rw [fX13_build0_50]
  simp (disch := omega) only [zq_l9, pk_mul, nI_add, zq_t9, zq_c9, zq_bz9, zq_bo9, zq_g, zq_cl, zq_leT, zq_leF, zq_ltT, zq_ltF, zq_eqT, zq_eqF, zq_em, zq_me, zq_pm, zq_mm, zq_gm, pk_sub, zI_s, zI_k, zI_c, zI_2, zL_s, zL_k, zL_c, zL_1, if_true, if_false, eq_self, Nat.zero_add, Nat.add_zero]
  exact f1
