/-! a text: where blanks, letters, digits end; the class -/
def zbl (B : Nat → Nat) (E k : Nat) : Nat := zfi (fun j => !decide (B j = 32)) (E - k) k
def zltb (c : Nat) : Bool := (decide (65 ≤ c) && decide (c ≤ 90)) || (decide (97 ≤ c) && decide (c ≤ 122))
theorem zltb_iff (c : Nat) : zltb c = true ↔ zlet c := by
  unfold zltb zlet
  rw [Bool.or_eq_true, Bool.and_eq_true, Bool.and_eq_true, decide_eq_true_iff, decide_eq_true_iff, decide_eq_true_iff, decide_eq_true_iff]
def zdib (c : Nat) : Bool := decide (48 ≤ c) && decide (c ≤ 57)
theorem zdib_iff (c : Nat) : zdib c = true ↔ 48 ≤ c ∧ c ≤ 57 := by
  unfold zdib
  rw [Bool.and_eq_true, decide_eq_true_iff, decide_eq_true_iff]
def zwd (B : Nat → Nat) (E k : Nat) : Nat := zfi (fun j => !zltb (B j)) (E - k) k
def zdg (B : Nat → Nat) (E k : Nat) : Nat := zfi (fun j => !zdib (B j)) (E - k) k
theorem zfi_b2 (p : Nat → Bool) {E k : Nat} (h : k ≤ E) : k ≤ zfi p (E - k) k ∧ zfi p (E - k) k ≤ E := by
  have := zfi_le p (E - k) k
  omega
theorem zbl_le (B : Nat → Nat) {E k : Nat} (h : k ≤ E) : k ≤ zbl B E k ∧ zbl B E k ≤ E := zfi_b2 _ h
theorem zwd_le (B : Nat → Nat) {E k : Nat} (h : k ≤ E) : k ≤ zwd B E k ∧ zwd B E k ≤ E := zfi_b2 _ h
theorem zdg_le (B : Nat → Nat) {E k : Nat} (h : k ≤ E) : k ≤ zdg B E k ∧ zdg B E k ≤ E := zfi_b2 _ h
theorem zfi_e (p : Nat → Bool) {E k : Nat} (h : k ≤ E) (hk : zfi p (E - k) k < E) : p (zfi p (E - k) k) = true := zfi_p p (E - k) k (by omega)
theorem zbl_i (B : Nat → Nat) {E k : Nat} (h : k ≤ E) : zbl B E (zbl B E k) = zbl B E k := by
  have h1 := zbl_le B h
  by_cases c : zbl B E k = E
  · unfold zbl at c ⊢
    rw [c, Nat.sub_self]
    rfl
  · have h2 : (!decide (B (zbl B E k) = 32)) = true := zfi_e (fun j => !decide (B j = 32)) h (by unfold zbl at c h1; omega)
    generalize zbl B E k = b at *
    unfold zbl
    obtain ⟨j, hj⟩ : ∃ j, E - b = j + 1 := ⟨E - b - 1, by omega⟩
    rw [hj, zfi_t h2]
/-- the text as the class has it; what changes -/
def zTX (S : sh_St) (B : Nat → Nat) (E : Nat) : Prop := S.1 3 1 = nI E ∧ ∀ k, k < 400 → S.1 2 k = nI (B k)
def zF2 (S S' : sh_St) : Prop := (∀ k, k ≠ 2 → S'.1 3 k = S.1 3 k) ∧ S'.2 = S.2 ∧ ∀ i, i ≠ 3 → S'.1 i = S.1 i
def zF3 (S S' : sh_St) : Prop := (∀ k, k ≠ 2 → k ≠ 3 → S'.1 3 k = S.1 3 k) ∧ S'.2 = S.2 ∧ ∀ i, i ≠ 3 → S'.1 i = S.1 i
theorem zF2_rf (S : sh_St) : zF2 S S := ⟨fun _ _ => rfl, rfl, fun _ _ => rfl⟩
theorem zF2_tr {S S1 S2 : sh_St} (h1 : zF2 S S1) (h2 : zF2 S1 S2) : zF2 S S2 := ⟨fun k hk => (h2.1 k hk).trans (h1.1 k hk), h2.2.1.trans h1.2.1, fun i hi => (h2.2.2 i hi).trans (h1.2.2 i hi)⟩
theorem zF3_tr {S S1 S2 : sh_St} (h1 : zF3 S S1) (h2 : zF3 S1 S2) : zF3 S S2 := ⟨fun k hk hk3 => (h2.1 k hk hk3).trans (h1.1 k hk hk3), h2.2.1.trans h1.2.1, fun i hi => (h2.2.2 i hi).trans (h1.2.2 i hi)⟩
theorem zF3_2 {S S' : sh_St} (h : zF2 S S') : zF3 S S' := ⟨fun k hk _ => h.1 k hk, h.2.1, h.2.2⟩
theorem zF2_I (S : sh_St) (v : Int32) : zF2 S (sh_I S 3 2 v) := ⟨fun k hk => zI_k S 3 2 v hk, rfl, fun i hi => zI_c S 3 2 v hi⟩
theorem zF3_I (S : sh_St) (v : Int32) : zF3 S (sh_I S 3 3 v) := ⟨fun k _ hk => zI_k S 3 3 v hk, rfl, fun i hi => zI_c S 3 3 v hi⟩
theorem zTX_3 {S S' : sh_St} {B : Nat → Nat} {E : Nat} (hf : zF3 S S') (h : zTX S B E) : zTX S' B E := by
  unfold zTX
  rw [hf.1 1 (by omega) (by omega), hf.2.2 2 (by omega)]
  exact h
theorem zTX_2 {S S' : sh_St} {B : Nat → Nat} {E : Nat} (hf : zF2 S S') (h : zTX S B E) : zTX S' B E := zTX_3 (zF3_2 hf) h
theorem zx_byteAt {S : sh_St} {B : Nat → Nat} {E : Nat} (h : zTX S B E) {k : Nat} (hk : k < 400) : fX10_byteAt S (nI k) = some (nI (B k), S) := by
  rw [fX10_byteAt]
  have hb := h.2 k hk
  simp (disch := omega) only [zq_l9, pk_mul, nI_add, zq_t9, zq_c9, zq_bz9, zq_bo9, zq_g, zq_cl, zq_leT, zq_leF, zq_ltT, zq_ltF, zq_eqT, zq_eqF, zq_em, zq_me, zq_pm, zq_mm, zq_gm, pk_sub, zI_s, zI_k, zI_c, zI_2, zL_s, zL_k, zL_c, zL_1, if_true, if_false, eq_self, Nat.zero_add, Nat.add_zero, hb]
theorem zx_skip_l {B : Nat → Nat} {E : Nat} (hE : E ≤ 400) (hB : ∀ k, B k < 256) : ∀ (n k : Nat) (S : sh_St), zTX S B E → S.1 3 2 = nI k → k ≤ E → E - k < n → ∃ S', fX10_skipBlanks_7 n S (nI k) = some ((), S') ∧ S'.1 3 2 = nI (zbl B E k) ∧ zF2 S S' := by
  intro n
  induction n with
  | zero => intro k S _ _ _ h; omega
  | succ n ih =>
    intro k S hT h2 hk hn
    have h1 := hT.1
    rw [fX10_skipBlanks_7]
    unfold zbl
    by_cases c : k = E
    · subst c
      refine ⟨S, ?_, ?_, zF2_rf S⟩
      · simp (disch := omega) only [zq_l9, pk_mul, nI_add, zq_t9, zq_c9, zq_bz9, zq_bo9, zq_g, zq_cl, zq_leT, zq_leF, zq_ltT, zq_ltF, zq_eqT, zq_eqF, zq_em, zq_me, zq_pm, zq_mm, zq_gm, pk_sub, zI_s, zI_k, zI_c, zI_2, zL_s, zL_k, zL_c, zL_1, if_true, if_false, eq_self, Nat.zero_add, Nat.add_zero, h1]
      · rw [Nat.sub_self]; exact h2
    · obtain ⟨j, hj⟩ : ∃ j, E - k = j + 1 := ⟨E - k - 1, by omega⟩
      have hb := zx_byteAt hT (k := k) (by omega)
      have hB' := hB k
      by_cases q : B k = 32
      · have hf := zF2_I S (nI (k + 1))
        obtain ⟨S', f1, f2, f3⟩ := ih (k + 1) (sh_I S 3 2 (nI (k + 1))) (zTX_2 hf hT) (zI_s _ _ _ _) (by omega) (by omega)
        refine ⟨S', ?_, ?_, zF2_tr hf f3⟩
        · simp (disch := omega) only [zq_l9, pk_mul, nI_add, zq_t9, zq_c9, zq_bz9, zq_bo9, zq_g, zq_cl, zq_leT, zq_leF, zq_ltT, zq_ltF, zq_eqT, zq_eqF, zq_em, zq_me, zq_pm, zq_mm, zq_gm, pk_sub, zI_s, zI_k, zI_c, zI_2, zL_s, zL_k, zL_c, zL_1, if_true, if_false, eq_self, Nat.zero_add, Nat.add_zero, h1, hb, q]
          exact f1
        · rw [hj, zfi_f (by rw [q]; decide), show j = E - (k + 1) by omega]
          exact f2
      · refine ⟨S, ?_, ?_, zF2_rf S⟩
        · simp (disch := omega) only [zq_l9, pk_mul, nI_add, zq_t9, zq_c9, zq_bz9, zq_bo9, zq_g, zq_cl, zq_leT, zq_leF, zq_ltT, zq_ltF, zq_eqT, zq_eqF, zq_em, zq_me, zq_pm, zq_mm, zq_gm, pk_sub, zI_s, zI_k, zI_c, zI_2, zL_s, zL_k, zL_c, zL_1, if_true, if_false, eq_self, Nat.zero_add, Nat.add_zero, h1, hb]
        · rw [hj, zfi_t (by simp [q])]
          exact h2
theorem zx_skip {S : sh_St} {B : Nat → Nat} {E k : Nat} (hT : zTX S B E) (hE : E ≤ 400) (hB : ∀ k, B k < 256) (h2 : S.1 3 2 = nI k) (hk : k ≤ E) : ∃ S', fX10_skipBlanks S = some ((), S') ∧ S'.1 3 2 = nI (zbl B E k) ∧ zF2 S S' := by
  obtain ⟨S', f1, f2, f3⟩ := zx_skip_l hE hB sh_FU k S hT h2 hk (by have : sh_FU = 100000 := rfl; omega)
  refine ⟨S', ?_, f2, f3⟩
  rw [fX10_skipBlanks]
  simp (disch := omega) only [zq_l9, pk_mul, nI_add, zq_t9, zq_c9, zq_bz9, zq_bo9, zq_g, zq_cl, zq_leT, zq_leF, zq_ltT, zq_ltF, zq_eqT, zq_eqF, zq_em, zq_me, zq_pm, zq_mm, zq_gm, pk_sub, zI_s, zI_k, zI_c, zI_2, zL_s, zL_k, zL_c, zL_1, if_true, if_false, eq_self, Nat.zero_add, Nat.add_zero, h2]
  exact f1
theorem zx_isLetter (S : sh_St) {c : Nat} (hc : c < 256) : fX10_isLetter S (nI c) = some (nI (if zltb c = true then 1 else 0), S) := by
  rw [fX10_isLetter]
  by_cases q : zltb c = true
  · rw [if_pos q]
    have := (zltb_iff c).1 q
    unfold zlet at this
    by_cases d : 97 ≤ c
    · simp (disch := omega) only [zq_l9, pk_mul, nI_add, zq_t9, zq_c9, zq_bz9, zq_bo9, zq_g, zq_cl, zq_leT, zq_leF, zq_ltT, zq_ltF, zq_eqT, zq_eqF, zq_em, zq_me, zq_pm, zq_mm, zq_gm, pk_sub, zI_s, zI_k, zI_c, zI_2, zL_s, zL_k, zL_c, zL_1, if_true, if_false, eq_self, Nat.zero_add, Nat.add_zero, fX10_isLetter_12, fX10_isLetter_24]
    · simp (disch := omega) only [zq_l9, pk_mul, nI_add, zq_t9, zq_c9, zq_bz9, zq_bo9, zq_g, zq_cl, zq_leT, zq_leF, zq_ltT, zq_ltF, zq_eqT, zq_eqF, zq_em, zq_me, zq_pm, zq_mm, zq_gm, pk_sub, zI_s, zI_k, zI_c, zI_2, zL_s, zL_k, zL_c, zL_1, if_true, if_false, eq_self, Nat.zero_add, Nat.add_zero, fX10_isLetter_12, fX10_isLetter_24]
  · rw [if_neg q]
    have : ¬ zlet c := fun w => q ((zltb_iff c).2 w)
    unfold zlet at this
    by_cases d : c < 65
    · simp (disch := omega) only [zq_l9, pk_mul, nI_add, zq_t9, zq_c9, zq_bz9, zq_bo9, zq_g, zq_cl, zq_leT, zq_leF, zq_ltT, zq_ltF, zq_eqT, zq_eqF, zq_em, zq_me, zq_pm, zq_mm, zq_gm, pk_sub, zI_s, zI_k, zI_c, zI_2, zL_s, zL_k, zL_c, zL_1, if_true, if_false, eq_self, Nat.zero_add, Nat.add_zero, fX10_isLetter_12, fX10_isLetter_24]
    · by_cases d2 : c < 97
      · simp (disch := omega) only [zq_l9, pk_mul, nI_add, zq_t9, zq_c9, zq_bz9, zq_bo9, zq_g, zq_cl, zq_leT, zq_leF, zq_ltT, zq_ltF, zq_eqT, zq_eqF, zq_em, zq_me, zq_pm, zq_mm, zq_gm, pk_sub, zI_s, zI_k, zI_c, zI_2, zL_s, zL_k, zL_c, zL_1, if_true, if_false, eq_self, Nat.zero_add, Nat.add_zero, fX10_isLetter_12, fX10_isLetter_24]
      · simp (disch := omega) only [zq_l9, pk_mul, nI_add, zq_t9, zq_c9, zq_bz9, zq_bo9, zq_g, zq_cl, zq_leT, zq_leF, zq_ltT, zq_ltF, zq_eqT, zq_eqF, zq_em, zq_me, zq_pm, zq_mm, zq_gm, pk_sub, zI_s, zI_k, zI_c, zI_2, zL_s, zL_k, zL_c, zL_1, if_true, if_false, eq_self, Nat.zero_add, Nat.add_zero, fX10_isLetter_12, fX10_isLetter_24]
theorem zx_isDigit (S : sh_St) {c : Nat} (hc : c < 256) : fX10_isDigit S (nI c) = some (nI (if zdib c = true then 1 else 0), S) := by
  rw [fX10_isDigit]
  by_cases q : zdib c = true
  · rw [if_pos q]
    have := (zdib_iff c).1 q
    simp (disch := omega) only [zq_l9, pk_mul, nI_add, zq_t9, zq_c9, zq_bz9, zq_bo9, zq_g, zq_cl, zq_leT, zq_leF, zq_ltT, zq_ltF, zq_eqT, zq_eqF, zq_em, zq_me, zq_pm, zq_mm, zq_gm, pk_sub, zI_s, zI_k, zI_c, zI_2, zL_s, zL_k, zL_c, zL_1, if_true, if_false, eq_self, Nat.zero_add, Nat.add_zero]
  · rw [if_neg q]
    have : ¬ (48 ≤ c ∧ c ≤ 57) := fun w => q ((zdib_iff c).2 w)
    by_cases d : c < 48
    · simp (disch := omega) only [zq_l9, pk_mul, nI_add, zq_t9, zq_c9, zq_bz9, zq_bo9, zq_g, zq_cl, zq_leT, zq_leF, zq_ltT, zq_ltF, zq_eqT, zq_eqF, zq_em, zq_me, zq_pm, zq_mm, zq_gm, pk_sub, zI_s, zI_k, zI_c, zI_2, zL_s, zL_k, zL_c, zL_1, if_true, if_false, eq_self, Nat.zero_add, Nat.add_zero]
    · simp (disch := omega) only [zq_l9, pk_mul, nI_add, zq_t9, zq_c9, zq_bz9, zq_bo9, zq_g, zq_cl, zq_leT, zq_leF, zq_ltT, zq_ltF, zq_eqT, zq_eqF, zq_em, zq_me, zq_pm, zq_mm, zq_gm, pk_sub, zI_s, zI_k, zI_c, zI_2, zL_s, zL_k, zL_c, zL_1, if_true, if_false, eq_self, Nat.zero_add, Nat.add_zero]
theorem zx_letters_l {B : Nat → Nat} {E : Nat} (hE : E ≤ 400) (hB : ∀ k, B k < 256) {b : Nat} : ∀ (n k : Nat) (S : sh_St), zTX S B E → S.1 3 2 = nI k → b ≤ k → k ≤ E → E - k < n → ∃ S', fX10_passLetters_7 n S (nI b) (nI k) = some (nI (zwd B E k - b), S') ∧ S'.1 3 2 = nI (zwd B E k) ∧ zF2 S S' := by
  intro n
  induction n with
  | zero => intro k S _ _ _ _ h; omega
  | succ n ih =>
    intro k S hT h2 hbk hk hn
    have h1 := hT.1
    rw [fX10_passLetters_7]
    unfold zwd
    by_cases c : k = E
    · subst c
      rw [Nat.sub_self]
      refine ⟨S, ?_, h2, zF2_rf S⟩
      simp (disch := omega) only [zq_l9, pk_mul, nI_add, zq_t9, zq_c9, zq_bz9, zq_bo9, zq_g, zq_cl, zq_leT, zq_leF, zq_ltT, zq_ltF, zq_eqT, zq_eqF, zq_em, zq_me, zq_pm, zq_mm, zq_gm, pk_sub, zI_s, zI_k, zI_c, zI_2, zL_s, zL_k, zL_c, zL_1, if_true, if_false, eq_self, Nat.zero_add, Nat.add_zero, h1, h2]
      rfl
    · obtain ⟨j, hj⟩ : ∃ j, E - k = j + 1 := ⟨E - k - 1, by omega⟩
      have hb := zx_byteAt hT (k := k) (by omega)
      have hB' := hB k
      have hl := zx_isLetter S hB'
      by_cases q : zltb (B k) = true
      · have hf := zF2_I S (nI (k + 1))
        obtain ⟨S', f1, f2, f3⟩ := ih (k + 1) (sh_I S 3 2 (nI (k + 1))) (zTX_2 hf hT) (zI_s _ _ _ _) (by omega) (by omega) (by omega)
        have e : zfi (fun j => !zltb (B j)) (E - k) k = zfi (fun j => !zltb (B j)) (E - (k + 1)) (k + 1) := by rw [hj, zfi_f (by rw [q]; decide), show j = E - (k + 1) by omega]
        rw [e]
        rw [if_pos q] at hl
        refine ⟨S', ?_, f2, zF2_tr hf f3⟩
        simp (disch := omega) only [zq_l9, pk_mul, nI_add, zq_t9, zq_c9, zq_bz9, zq_bo9, zq_g, zq_cl, zq_leT, zq_leF, zq_ltT, zq_ltF, zq_eqT, zq_eqF, zq_em, zq_me, zq_pm, zq_mm, zq_gm, pk_sub, zI_s, zI_k, zI_c, zI_2, zL_s, zL_k, zL_c, zL_1, if_true, if_false, eq_self, Nat.zero_add, Nat.add_zero, h1, hb, hl]
        exact f1
      · have e : zfi (fun j => !zltb (B j)) (E - k) k = k := by rw [hj, zfi_t (by simp [q])]
        rw [e]
        rw [if_neg q] at hl
        refine ⟨S, ?_, h2, zF2_rf S⟩
        simp (disch := omega) only [zq_l9, pk_mul, nI_add, zq_t9, zq_c9, zq_bz9, zq_bo9, zq_g, zq_cl, zq_leT, zq_leF, zq_ltT, zq_ltF, zq_eqT, zq_eqF, zq_em, zq_me, zq_pm, zq_mm, zq_gm, pk_sub, zI_s, zI_k, zI_c, zI_2, zL_s, zL_k, zL_c, zL_1, if_true, if_false, eq_self, Nat.zero_add, Nat.add_zero, h1, hb, hl, h2]
theorem zx_letters {S : sh_St} {B : Nat → Nat} {E k : Nat} (hT : zTX S B E) (hE : E ≤ 400) (hB : ∀ k, B k < 256) (h2 : S.1 3 2 = nI k) (hk : k ≤ E) : ∃ S', fX10_passLetters S = some (nI (zwd B E k - k), S') ∧ S'.1 3 2 = nI (zwd B E k) ∧ zF2 S S' := by
  obtain ⟨S', f1, f2, f3⟩ := zx_letters_l hE hB (b := k) sh_FU k S hT h2 (by omega) hk (by have : sh_FU = 100000 := rfl; omega)
  refine ⟨S', ?_, f2, f3⟩
  rw [fX10_passLetters]
  simp (disch := omega) only [zq_l9, pk_mul, nI_add, zq_t9, zq_c9, zq_bz9, zq_bo9, zq_g, zq_cl, zq_leT, zq_leF, zq_ltT, zq_ltF, zq_eqT, zq_eqF, zq_em, zq_me, zq_pm, zq_mm, zq_gm, pk_sub, zI_s, zI_k, zI_c, zI_2, zL_s, zL_k, zL_c, zL_1, if_true, if_false, eq_self, Nat.zero_add, Nat.add_zero, h2]
  exact f1
theorem zx_digits_l {B : Nat → Nat} {E : Nat} (hE : E ≤ 400) (hB : ∀ k, B k < 256) {b : Nat} : ∀ (n k : Nat) (S : sh_St), zTX S B E → S.1 3 2 = nI k → b ≤ k → k ≤ E → E - k < n → ∃ S', fX10_passDigits_7 n S (nI b) (nI k) = some (nI (zdg B E k - b), S') ∧ S'.1 3 2 = nI (zdg B E k) ∧ zF2 S S' := by
  intro n
  induction n with
  | zero => intro k S _ _ _ _ h; omega
  | succ n ih =>
    intro k S hT h2 hbk hk hn
    have h1 := hT.1
    rw [fX10_passDigits_7]
    unfold zdg
    by_cases c : k = E
    · subst c
      rw [Nat.sub_self]
      refine ⟨S, ?_, h2, zF2_rf S⟩
      simp (disch := omega) only [zq_l9, pk_mul, nI_add, zq_t9, zq_c9, zq_bz9, zq_bo9, zq_g, zq_cl, zq_leT, zq_leF, zq_ltT, zq_ltF, zq_eqT, zq_eqF, zq_em, zq_me, zq_pm, zq_mm, zq_gm, pk_sub, zI_s, zI_k, zI_c, zI_2, zL_s, zL_k, zL_c, zL_1, if_true, if_false, eq_self, Nat.zero_add, Nat.add_zero, h1, h2]
      rfl
    · obtain ⟨j, hj⟩ : ∃ j, E - k = j + 1 := ⟨E - k - 1, by omega⟩
      have hb := zx_byteAt hT (k := k) (by omega)
      have hB' := hB k
      have hl := zx_isDigit S hB'
      by_cases q : zdib (B k) = true
      · have hf := zF2_I S (nI (k + 1))
        obtain ⟨S', f1, f2, f3⟩ := ih (k + 1) (sh_I S 3 2 (nI (k + 1))) (zTX_2 hf hT) (zI_s _ _ _ _) (by omega) (by omega) (by omega)
        have e : zfi (fun j => !zdib (B j)) (E - k) k = zfi (fun j => !zdib (B j)) (E - (k + 1)) (k + 1) := by rw [hj, zfi_f (by rw [q]; decide), show j = E - (k + 1) by omega]
        rw [e]
        rw [if_pos q] at hl
        refine ⟨S', ?_, f2, zF2_tr hf f3⟩
        simp (disch := omega) only [zq_l9, pk_mul, nI_add, zq_t9, zq_c9, zq_bz9, zq_bo9, zq_g, zq_cl, zq_leT, zq_leF, zq_ltT, zq_ltF, zq_eqT, zq_eqF, zq_em, zq_me, zq_pm, zq_mm, zq_gm, pk_sub, zI_s, zI_k, zI_c, zI_2, zL_s, zL_k, zL_c, zL_1, if_true, if_false, eq_self, Nat.zero_add, Nat.add_zero, h1, hb, hl]
        exact f1
      · have e : zfi (fun j => !zdib (B j)) (E - k) k = k := by rw [hj, zfi_t (by simp [q])]
        rw [e]
        rw [if_neg q] at hl
        refine ⟨S, ?_, h2, zF2_rf S⟩
        simp (disch := omega) only [zq_l9, pk_mul, nI_add, zq_t9, zq_c9, zq_bz9, zq_bo9, zq_g, zq_cl, zq_leT, zq_leF, zq_ltT, zq_ltF, zq_eqT, zq_eqF, zq_em, zq_me, zq_pm, zq_mm, zq_gm, pk_sub, zI_s, zI_k, zI_c, zI_2, zL_s, zL_k, zL_c, zL_1, if_true, if_false, eq_self, Nat.zero_add, Nat.add_zero, h1, hb, hl, h2]
theorem zx_digits {S : sh_St} {B : Nat → Nat} {E k : Nat} (hT : zTX S B E) (hE : E ≤ 400) (hB : ∀ k, B k < 256) (h2 : S.1 3 2 = nI k) (hk : k ≤ E) : ∃ S', fX10_passDigits S = some (nI (zdg B E k - k), S') ∧ S'.1 3 2 = nI (zdg B E k) ∧ zF2 S S' := by
  obtain ⟨S', f1, f2, f3⟩ := zx_digits_l hE hB (b := k) sh_FU k S hT h2 (by omega) hk (by have : sh_FU = 100000 := rfl; omega)
  refine ⟨S', ?_, f2, f3⟩
  rw [fX10_passDigits]
  simp (disch := omega) only [zq_l9, pk_mul, nI_add, zq_t9, zq_c9, zq_bz9, zq_bo9, zq_g, zq_cl, zq_leT, zq_leF, zq_ltT, zq_ltF, zq_eqT, zq_eqF, zq_em, zq_me, zq_pm, zq_mm, zq_gm, pk_sub, zI_s, zI_k, zI_c, zI_2, zL_s, zL_k, zL_c, zL_1, if_true, if_false, eq_self, Nat.zero_add, Nat.add_zero, h2]
  exact f1
/-- a wrong byte: the first one stays -/
def zfw (w : Int32) (p : Nat) : Int32 := if w = -nI 1 then nI p else w
theorem zx_wrong (S : sh_St) (p : Nat) : ∃ S', fX10_markWrong S (nI p) = some ((), S') ∧ S'.1 3 3 = zfw (S.1 3 3) p ∧ S'.1 3 2 = S.1 3 2 ∧ zF3 S S' := by
  rw [fX10_markWrong]
  unfold zfw
  by_cases c : S.1 3 3 = -nI 1
  · refine ⟨sh_I S 3 3 (nI p), ?_, ?_, zI_k S 3 3 _ (by omega), zF3_I S _⟩
    · simp (disch := omega) only [zq_l9, pk_mul, nI_add, zq_t9, zq_c9, zq_bz9, zq_bo9, zq_g, zq_cl, zq_leT, zq_leF, zq_ltT, zq_ltF, zq_eqT, zq_eqF, zq_em, zq_me, zq_pm, zq_mm, zq_gm, pk_sub, zI_s, zI_k, zI_c, zI_2, zL_s, zL_k, zL_c, zL_1, if_true, if_false, eq_self, Nat.zero_add, Nat.add_zero, c]
    · rw [zI_s, if_pos c]
  · refine ⟨S, ?_, ?_, rfl, zF3_2 (zF2_rf S)⟩
    · rw [show (-1 : Int32) = -nI 1 from rfl, if_neg c]
    · rw [if_neg c]
