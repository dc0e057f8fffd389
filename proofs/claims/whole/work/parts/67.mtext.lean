/-! a text: the reference -/
def zTM (S : sh_St) (B : Nat → Nat) (E : Nat) : Prop := S.1 0 18 = nI E ∧ ∀ k, k < 400 → S.1 14 k = nI (B k)
def zM9 (S S' : sh_St) : Prop := (∀ k, k ≠ 19 → S'.1 0 k = S.1 0 k) ∧ S'.2 = S.2 ∧ ∀ i, i ≠ 0 → S'.1 i = S.1 i
def zM0 (S S' : sh_St) : Prop := (∀ k, k ≠ 19 → k ≠ 20 → S'.1 0 k = S.1 0 k) ∧ S'.2 = S.2 ∧ ∀ i, i ≠ 0 → S'.1 i = S.1 i
theorem zM9_rf (S : sh_St) : zM9 S S := ⟨fun _ _ => rfl, rfl, fun _ _ => rfl⟩
theorem zM9_tr {S S1 S2 : sh_St} (h1 : zM9 S S1) (h2 : zM9 S1 S2) : zM9 S S2 := ⟨fun k hk => (h2.1 k hk).trans (h1.1 k hk), h2.2.1.trans h1.2.1, fun i hi => (h2.2.2 i hi).trans (h1.2.2 i hi)⟩
theorem zM0_tr {S S1 S2 : sh_St} (h1 : zM0 S S1) (h2 : zM0 S1 S2) : zM0 S S2 := ⟨fun k hk hk3 => (h2.1 k hk hk3).trans (h1.1 k hk hk3), h2.2.1.trans h1.2.1, fun i hi => (h2.2.2 i hi).trans (h1.2.2 i hi)⟩
theorem zM0_9 {S S' : sh_St} (h : zM9 S S') : zM0 S S' := ⟨fun k hk _ => h.1 k hk, h.2.1, h.2.2⟩
theorem zM9_I (S : sh_St) (v : Int32) : zM9 S (sh_I S 0 19 v) := ⟨fun k hk => zI_k S 0 19 v hk, rfl, fun i hi => zI_c S 0 19 v hi⟩
theorem zM0_I (S : sh_St) (v : Int32) : zM0 S (sh_I S 0 20 v) := ⟨fun k _ hk => zI_k S 0 20 v hk, rfl, fun i hi => zI_c S 0 20 v hi⟩
theorem zM9_id {S S' : sh_St} (h : zM9 S S') (e : S'.1 0 19 = S.1 0 19) : S' = S := by
  refine Prod.ext (funext fun i => ?_) h.2.1
  by_cases c : i = 0
  · subst c
    funext k
    by_cases d : k = 19
    · subst d; exact e
    · exact h.1 k d
  · exact h.2.2 i c
theorem zTM_0 {S S' : sh_St} {B : Nat → Nat} {E : Nat} (hf : zM0 S S') (h : zTM S B E) : zTM S' B E := by
  unfold zTM
  rw [hf.1 18 (by omega) (by omega), hf.2.2 14 (by omega)]
  exact h
theorem zTM_9 {S S' : sh_St} {B : Nat → Nat} {E : Nat} (hf : zM9 S S') (h : zTM S B E) : zTM S' B E := zTM_0 (zM0_9 hf) h
theorem zm_here_l {B : Nat → Nat} {E : Nat} (hE : E ≤ 400) (hB : ∀ k, B k < 256) : ∀ (n k : Nat) (S : sh_St), zTM S B E → S.1 0 19 = nI k → k ≤ E → E - k < n → ∃ S', fX13_here_0 n S = some (nI (zbl B E k), S') ∧ S'.1 0 19 = nI (zbl B E k) ∧ zM9 S S' := by
  intro n
  induction n with
  | zero => intro k S _ _ _ h; omega
  | succ n ih =>
    intro k S hT h2 hk hn
    have h1 := hT.1
    rw [fX13_here_0]
    unfold zbl
    by_cases c : k = E
    · subst c
      rw [Nat.sub_self]
      refine ⟨S, ?_, h2, zM9_rf S⟩
      simp (disch := omega) only [zq_l9, pk_mul, nI_add, zq_t9, zq_c9, zq_bz9, zq_bo9, zq_g, zq_cl, zq_leT, zq_leF, zq_ltT, zq_ltF, zq_eqT, zq_eqF, zq_em, zq_me, zq_pm, zq_mm, zq_gm, pk_sub, zI_s, zI_k, zI_c, zI_2, zL_s, zL_k, zL_c, zL_1, if_true, if_false, eq_self, Nat.zero_add, Nat.add_zero, h1, h2]
      rfl
    · obtain ⟨j, hj⟩ : ∃ j, E - k = j + 1 := ⟨E - k - 1, by omega⟩
      have hb := hT.2 k (by omega)
      have hB' := hB k
      by_cases q : B k = 32
      · have hf := zM9_I S (nI (k + 1))
        obtain ⟨S', f1, f2, f3⟩ := ih (k + 1) (sh_I S 0 19 (nI (k + 1))) (zTM_9 hf hT) (zI_s _ _ _ _) (by omega) (by omega)
        have e : zfi (fun j => !decide (B j = 32)) (E - k) k = zfi (fun j => !decide (B j = 32)) (E - (k + 1)) (k + 1) := by rw [hj, zfi_f (by rw [q]; decide), show j = E - (k + 1) by omega]
        rw [e]
        refine ⟨S', ?_, f2, zM9_tr hf f3⟩
        simp (disch := omega) only [zq_l9, pk_mul, nI_add, zq_t9, zq_c9, zq_bz9, zq_bo9, zq_g, zq_cl, zq_leT, zq_leF, zq_ltT, zq_ltF, zq_eqT, zq_eqF, zq_em, zq_me, zq_pm, zq_mm, zq_gm, pk_sub, zI_s, zI_k, zI_c, zI_2, zL_s, zL_k, zL_c, zL_1, if_true, if_false, eq_self, Nat.zero_add, Nat.add_zero, h1, h2, hb, q]
        exact f1
      · have e : zfi (fun j => !decide (B j = 32)) (E - k) k = k := by rw [hj, zfi_t (by simp [q])]
        rw [e]
        refine ⟨S, ?_, h2, zM9_rf S⟩
        simp (disch := omega) only [zq_l9, pk_mul, nI_add, zq_t9, zq_c9, zq_bz9, zq_bo9, zq_g, zq_cl, zq_leT, zq_leF, zq_ltT, zq_ltF, zq_eqT, zq_eqF, zq_em, zq_me, zq_pm, zq_mm, zq_gm, pk_sub, zI_s, zI_k, zI_c, zI_2, zL_s, zL_k, zL_c, zL_1, if_true, if_false, eq_self, Nat.zero_add, Nat.add_zero, h1, h2, hb]
theorem zm_here {S : sh_St} {B : Nat → Nat} {E k : Nat} (hT : zTM S B E) (hE : E ≤ 400) (hB : ∀ k, B k < 256) (h2 : S.1 0 19 = nI k) (hk : k ≤ E) : ∃ S', fX13_here S = some (nI (zbl B E k), S') ∧ S'.1 0 19 = nI (zbl B E k) ∧ zM9 S S' := zm_here_l hE hB sh_FU k S hT h2 hk (by have : sh_FU = 100000 := rfl; omega)
theorem zm_wrong (S : sh_St) (p : Nat) : ∃ S', fX13_wrong S (nI p) = some ((), S') ∧ S'.1 0 20 = zfw (S.1 0 20) p ∧ S'.1 0 19 = S.1 0 19 ∧ zM0 S S' := by
  rw [fX13_wrong]
  unfold zfw
  by_cases c : S.1 0 20 = -nI 1
  · refine ⟨sh_I S 0 20 (nI p), ?_, ?_, zI_k S 0 20 _ (by omega), zM0_I S _⟩
    · simp (disch := omega) only [zq_l9, pk_mul, nI_add, zq_t9, zq_c9, zq_bz9, zq_bo9, zq_g, zq_cl, zq_leT, zq_leF, zq_ltT, zq_ltF, zq_eqT, zq_eqF, zq_em, zq_me, zq_pm, zq_mm, zq_gm, pk_sub, zI_s, zI_k, zI_c, zI_2, zL_s, zL_k, zL_c, zL_1, if_true, if_false, eq_self, Nat.zero_add, Nat.add_zero, c]
    · rw [zI_s, if_pos c]
  · refine ⟨S, ?_, ?_, rfl, zM0_9 (zM9_rf S)⟩
    · rw [show (-1 : Int32) = -nI 1 from rfl, if_neg c]
    · rw [if_neg c]
theorem zm_within (S : sh_St) {v lo hi : Nat} (hv : v < 2 ^ 30) (hlo : lo < 2 ^ 30) (hhi : hi < 2 ^ 30) : fX13_isIn S (nI v) (nI lo) (nI hi) = some (nI (if lo ≤ v ∧ v ≤ hi then 1 else 0), S) := by
  rw [fX13_isIn]
  by_cases c1 : v < lo
  · rw [if_neg (show ¬ (lo ≤ v ∧ v ≤ hi) by omega)]
    simp (disch := omega) only [zq_l9, pk_mul, nI_add, zq_t9, zq_c9, zq_bz9, zq_bo9, zq_g, zq_cl, zq_leT, zq_leF, zq_ltT, zq_ltF, zq_eqT, zq_eqF, zq_em, zq_me, zq_pm, zq_mm, zq_gm, pk_sub, zI_s, zI_k, zI_c, zI_2, zL_s, zL_k, zL_c, zL_1, if_true, if_false, eq_self, Nat.zero_add, Nat.add_zero]
  · by_cases c2 : hi < v
    · rw [if_neg (show ¬ (lo ≤ v ∧ v ≤ hi) by omega)]
      simp (disch := omega) only [zq_l9, pk_mul, nI_add, zq_t9, zq_c9, zq_bz9, zq_bo9, zq_g, zq_cl, zq_leT, zq_leF, zq_ltT, zq_ltF, zq_eqT, zq_eqF, zq_em, zq_me, zq_pm, zq_mm, zq_gm, pk_sub, zI_s, zI_k, zI_c, zI_2, zL_s, zL_k, zL_c, zL_1, if_true, if_false, eq_self, Nat.zero_add, Nat.add_zero]
    · rw [if_pos (show lo ≤ v ∧ v ≤ hi by omega)]
      simp (disch := omega) only [zq_l9, pk_mul, nI_add, zq_t9, zq_c9, zq_bz9, zq_bo9, zq_g, zq_cl, zq_leT, zq_leF, zq_ltT, zq_ltF, zq_eqT, zq_eqF, zq_em, zq_me, zq_pm, zq_mm, zq_gm, pk_sub, zI_s, zI_k, zI_c, zI_2, zL_s, zL_k, zL_c, zL_1, if_true, if_false, eq_self, Nat.zero_add, Nat.add_zero]
theorem zm_isLetter (S : sh_St) {c : Nat} (hc : c < 256) : fX13_isLetter S (nI c) = some (nI (if zltb c = true then 1 else 0), S) := by
  rw [fX13_isLetter]
  have h1 := zm_within S (v := c) (lo := 97) (hi := 122) (by omega) (by omega) (by omega)
  have h2 := zm_within S (v := c) (lo := 65) (hi := 90) (by omega) (by omega) (by omega)
  by_cases q : zltb c = true
  · rw [if_pos q]
    have := (zltb_iff c).1 q
    unfold zlet at this
    by_cases d : 97 ≤ c
    · rw [if_pos (by omega)] at h1
      simp (disch := omega) only [zq_l9, pk_mul, nI_add, zq_t9, zq_c9, zq_bz9, zq_bo9, zq_g, zq_cl, zq_leT, zq_leF, zq_ltT, zq_ltF, zq_eqT, zq_eqF, zq_em, zq_me, zq_pm, zq_mm, zq_gm, pk_sub, zI_s, zI_k, zI_c, zI_2, zL_s, zL_k, zL_c, zL_1, if_true, if_false, eq_self, Nat.zero_add, Nat.add_zero, h1, fX13_isLetter_22]
    · rw [if_neg (by omega)] at h1
      rw [if_pos (by omega)] at h2
      simp (disch := omega) only [zq_l9, pk_mul, nI_add, zq_t9, zq_c9, zq_bz9, zq_bo9, zq_g, zq_cl, zq_leT, zq_leF, zq_ltT, zq_ltF, zq_eqT, zq_eqF, zq_em, zq_me, zq_pm, zq_mm, zq_gm, pk_sub, zI_s, zI_k, zI_c, zI_2, zL_s, zL_k, zL_c, zL_1, if_true, if_false, eq_self, Nat.zero_add, Nat.add_zero, h1, h2, fX13_isLetter_22]
  · rw [if_neg q]
    have : ¬ zlet c := fun w => q ((zltb_iff c).2 w)
    unfold zlet at this
    rw [if_neg (by omega)] at h1
    rw [if_neg (by omega)] at h2
    simp (disch := omega) only [zq_l9, pk_mul, nI_add, zq_t9, zq_c9, zq_bz9, zq_bo9, zq_g, zq_cl, zq_leT, zq_leF, zq_ltT, zq_ltF, zq_eqT, zq_eqF, zq_em, zq_me, zq_pm, zq_mm, zq_gm, pk_sub, zI_s, zI_k, zI_c, zI_2, zL_s, zL_k, zL_c, zL_1, if_true, if_false, eq_self, Nat.zero_add, Nat.add_zero, h1, h2]
theorem zm_word_l {B : Nat → Nat} {E : Nat} (hE : E ≤ 400) (hB : ∀ k, B k < 256) {S : sh_St} (hT : zTM S B E) : ∀ (n k : Nat), k ≤ E → E - k < n → fX13_wordEnd_5 n S (nI k) = some (nI (zwd B E k), S) := by
  intro n
  induction n with
  | zero => intro k _ h; omega
  | succ n ih =>
    intro k hk hn
    have h1 := hT.1
    rw [fX13_wordEnd_5]
    unfold zwd
    by_cases c : k = E
    · subst c
      rw [Nat.sub_self]
      simp (disch := omega) only [zq_l9, pk_mul, nI_add, zq_t9, zq_c9, zq_bz9, zq_bo9, zq_g, zq_cl, zq_leT, zq_leF, zq_ltT, zq_ltF, zq_eqT, zq_eqF, zq_em, zq_me, zq_pm, zq_mm, zq_gm, pk_sub, zI_s, zI_k, zI_c, zI_2, zL_s, zL_k, zL_c, zL_1, if_true, if_false, eq_self, Nat.zero_add, Nat.add_zero, h1]
      rfl
    · obtain ⟨j, hj⟩ : ∃ j, E - k = j + 1 := ⟨E - k - 1, by omega⟩
      have hb := hT.2 k (by omega)
      have hB' := hB k
      have hl := zm_isLetter S hB'
      by_cases q : zltb (B k) = true
      · have hih := ih (k + 1) (by omega) (by omega)
        have e : zfi (fun j => !zltb (B j)) (E - k) k = zwd B E (k + 1) := by rw [hj, zfi_f (by rw [q]; decide), show j = E - (k + 1) by omega]; rfl
        rw [e]
        rw [if_pos q] at hl
        simp (disch := omega) only [zq_l9, pk_mul, nI_add, zq_t9, zq_c9, zq_bz9, zq_bo9, zq_g, zq_cl, zq_leT, zq_leF, zq_ltT, zq_ltF, zq_eqT, zq_eqF, zq_em, zq_me, zq_pm, zq_mm, zq_gm, pk_sub, zI_s, zI_k, zI_c, zI_2, zL_s, zL_k, zL_c, zL_1, if_true, if_false, eq_self, Nat.zero_add, Nat.add_zero, h1, hb, hl]
        exact hih
      · have e : zfi (fun j => !zltb (B j)) (E - k) k = k := by rw [hj, zfi_t (by simp [q])]
        rw [e]
        rw [if_neg q] at hl
        simp (disch := omega) only [zq_l9, pk_mul, nI_add, zq_t9, zq_c9, zq_bz9, zq_bo9, zq_g, zq_cl, zq_leT, zq_leF, zq_ltT, zq_ltF, zq_eqT, zq_eqF, zq_em, zq_me, zq_pm, zq_mm, zq_gm, pk_sub, zI_s, zI_k, zI_c, zI_2, zL_s, zL_k, zL_c, zL_1, if_true, if_false, eq_self, Nat.zero_add, Nat.add_zero, h1, hb, hl]
theorem zm_wordEnd {S : sh_St} {B : Nat → Nat} {E p : Nat} (hT : zTM S B E) (hE : E ≤ 400) (hB : ∀ k, B k < 256) (h2 : S.1 0 19 = nI p) (hp : p ≤ E) : ∃ S', fX13_wordEnd S = some (nI (zne B E p), S') ∧ S'.1 0 19 = nI (zbl B E p) ∧ zM9 S S' := by
  rw [fX13_wordEnd]
  obtain ⟨S1, g1, g2, g3⟩ := zm_here hT hE hB h2 hp
  have hbl := zbl_le B hp
  have hw := zm_word_l hE hB (zTM_9 g3 hT) sh_FU (zbl B E p) hbl.2 (by have : sh_FU = 100000 := rfl; omega)
  refine ⟨S1, ?_, g2, g3⟩
  simp (disch := omega) only [zq_l9, pk_mul, nI_add, zq_t9, zq_c9, zq_bz9, zq_bo9, zq_g, zq_cl, zq_leT, zq_leF, zq_ltT, zq_ltF, zq_eqT, zq_eqF, zq_em, zq_me, zq_pm, zq_mm, zq_gm, pk_sub, zI_s, zI_k, zI_c, zI_2, zL_s, zL_k, zL_c, zL_1, if_true, if_false, eq_self, Nat.zero_add, Nat.add_zero, g1]
  exact hw
/-- a word stands there, or not -/
theorem zm_has30 {B : Nat → Nat} {E : Nat} {S : sh_St} (hT : zTM S B E) {a b l : Nat} (ha : a < 9) (hbl : b + l ≤ 400) (hl : l = sh_len.getD a 0) (h2 : S.1 0 19 = nI b) (stop : Nat) : ∀ (n i : Nat), i ≤ l → l - i < n → ((∀ j, i ≤ j → j < l → sh_wc a j = nI (B (b + j))) → fX13_has_30 n S (nI a) (nI stop) (nI i) = some (nI 1, sh_I S 0 19 (nI stop))) ∧ (¬ (∀ j, i ≤ j → j < l → sh_wc a j = nI (B (b + j))) → fX13_has_30 n S (nI a) (nI stop) (nI i) = some (nI 0, S)) := by
  have h6 := (sh_len_ok a ha).1
  intro n
  induction n with
  | zero => intro i _ h; omega
  | succ n ih =>
    intro i hi hn
    rw [fX13_has_30]
    by_cases c : i = l
    · refine ⟨fun _ => ?_, fun q => absurd (fun j h1 h2 => by omega) q⟩
      simp (disch := omega) only [zq_l9, pk_mul, nI_add, zq_t9, zq_c9, zq_bz9, zq_bo9, zq_g, zq_cl, zq_leT, zq_leF, zq_ltT, zq_ltF, zq_eqT, zq_eqF, zq_em, zq_me, zq_pm, zq_mm, zq_gm, pk_sub, zI_s, zI_k, zI_c, zI_2, zL_s, zL_k, zL_c, zL_1, if_true, if_false, eq_self, Nat.zero_add, Nat.add_zero, sh_wl]
    · obtain ⟨y, z⟩ := ih (i + 1) (by omega) (by omega)
      have hb := hT.2 (b + i) (by omega)
      by_cases q : sh_wc a i = nI (B (b + i))
      · refine ⟨fun w => ?_, fun w => ?_⟩
        · simp (disch := omega) only [zq_l9, pk_mul, nI_add, zq_t9, zq_c9, zq_bz9, zq_bo9, zq_g, zq_cl, zq_leT, zq_leF, zq_ltT, zq_ltF, zq_eqT, zq_eqF, zq_em, zq_me, zq_pm, zq_mm, zq_gm, pk_sub, zI_s, zI_k, zI_c, zI_2, zL_s, zL_k, zL_c, zL_1, if_true, if_false, eq_self, Nat.zero_add, Nat.add_zero, sh_wl, h2, hb, q]
          exact y (fun j h1 h2 => w j (by omega) h2)
        · simp (disch := omega) only [zq_l9, pk_mul, nI_add, zq_t9, zq_c9, zq_bz9, zq_bo9, zq_g, zq_cl, zq_leT, zq_leF, zq_ltT, zq_ltF, zq_eqT, zq_eqF, zq_em, zq_me, zq_pm, zq_mm, zq_gm, pk_sub, zI_s, zI_k, zI_c, zI_2, zL_s, zL_k, zL_c, zL_1, if_true, if_false, eq_self, Nat.zero_add, Nat.add_zero, sh_wl, h2, hb, q]
          refine z (fun w2 => w (fun j h1 h2 => ?_))
          by_cases e : j = i
          · rw [e]; exact q
          · exact w2 j (by omega) h2
      · refine ⟨fun w => absurd (w i (by omega) (by omega)) q, fun _ => ?_⟩
        have q' : ¬ nI (B (b + i)) = sh_wc a i := fun w => q w.symm
        simp (disch := omega) only [zq_l9, pk_mul, nI_add, zq_t9, zq_c9, zq_bz9, zq_bo9, zq_g, zq_cl, zq_leT, zq_leF, zq_ltT, zq_ltF, zq_eqT, zq_eqF, zq_em, zq_me, zq_pm, zq_mm, zq_gm, pk_sub, zI_s, zI_k, zI_c, zI_2, zL_s, zL_k, zL_c, zL_1, if_true, if_false, eq_self, Nat.zero_add, Nat.add_zero, sh_wl, h2, hb, q']
theorem zm_has {S : sh_St} {B : Nat → Nat} {E p : Nat} (hT : zTM S B E) (hE : E ≤ 400) (hB : ∀ k, B k < 256) (h2 : S.1 0 19 = nI p) (hp : p ≤ E) (h20 : S.1 0 20 = -nI 1) (hpb : zbl B E p = p) {a : Nat} (ha : a < 9) : (zwb B p (zwd B E p - p) a = true → fX13_has S (nI a) = some (nI 1, sh_I S 0 19 (nI (zwd B E p)))) ∧ (¬ zwb B p (zwd B E p - p) a = true → fX13_has S (nI a) = some (nI 0, S)) := by
  have h6 := (sh_len_ok a ha).1
  obtain ⟨S1, g1, g2, g3⟩ := zm_wordEnd hT hE hB h2 hp
  rw [hpb] at g2
  have es := zM9_id g3 (g2.trans h2.symm)
  subst es
  have ene : zne B E p = zwd B E p := by unfold zne; rw [hpb]
  rw [ene] at g1
  have hw := zwd_le B hp
  rw [fX13_has]
  by_cases c : zwd B E p - p = sh_len.getD a 0
  · obtain ⟨y, z⟩ := zm_has30 hT ha (b := p) (by omega) c h2 (zwd B E p) sh_FU 0 (by omega) (by have : sh_FU = 100000 := rfl; omega)
    refine ⟨fun q => ?_, fun q => ?_⟩
    · have e := y (fun j _ h2 => (zwb_i q).2 j h2)
      simp (disch := omega) only [zq_l9, pk_mul, nI_add, zq_t9, zq_c9, zq_bz9, zq_bo9, zq_g, zq_cl, zq_leT, zq_leF, zq_ltT, zq_ltF, zq_eqT, zq_eqF, zq_em, zq_me, zq_pm, zq_mm, zq_gm, pk_sub, zI_s, zI_k, zI_c, zI_2, zL_s, zL_k, zL_c, zL_1, if_true, if_false, eq_self, Nat.zero_add, Nat.add_zero, g1, h20, h2, sh_wl]
      exact e
    · have e := z (fun w => q (zwb_t ⟨c, fun i hi => w i (by omega) hi⟩))
      simp (disch := omega) only [zq_l9, pk_mul, nI_add, zq_t9, zq_c9, zq_bz9, zq_bo9, zq_g, zq_cl, zq_leT, zq_leF, zq_ltT, zq_ltF, zq_eqT, zq_eqF, zq_em, zq_me, zq_pm, zq_mm, zq_gm, pk_sub, zI_s, zI_k, zI_c, zI_2, zL_s, zL_k, zL_c, zL_1, if_true, if_false, eq_self, Nat.zero_add, Nat.add_zero, g1, h20, h2, sh_wl]
      exact e
  · refine ⟨fun q => absurd (zwb_i q).1 c, fun q => ?_⟩
    simp (disch := omega) only [zq_l9, pk_mul, nI_add, zq_t9, zq_c9, zq_bz9, zq_bo9, zq_g, zq_cl, zq_leT, zq_leF, zq_ltT, zq_ltF, zq_eqT, zq_eqF, zq_em, zq_me, zq_pm, zq_mm, zq_gm, pk_sub, zI_s, zI_k, zI_c, zI_2, zL_s, zL_k, zL_c, zL_1, if_true, if_false, eq_self, Nat.zero_add, Nat.add_zero, g1, h20, h2, sh_wl]
theorem zm_name49 {B : Nat → Nat} {E : Nat} (hB : ∀ k, B k < 256) {S : sh_St} (hT : zTM S B E) {b l : Nat} (hbl : b + l ≤ 400) (hl8 : l ≤ 8) (h2 : S.1 0 19 = nI b) : ∀ (n k : Nat), k ≤ 8 → 8 - k < n → fX13_name_49 n S (nI (b + l)) (lN (zpk B b l k)) (nI k) = some (lN (zpk B b l 8), sh_I S 0 19 (nI (b + l))) := by
  intro n
  induction n with
  | zero => intro k _ h; omega
  | succ n ih =>
    intro k hk hn
    rw [fX13_name_49]
    by_cases c : k = 8
    · subst c
      simp (disch := omega) only [zq_l9, pk_mul, nI_add, zq_t9, zq_c9, zq_bz9, zq_bo9, zq_g, zq_cl, zq_leT, zq_leF, zq_ltT, zq_ltF, zq_eqT, zq_eqF, zq_em, zq_me, zq_pm, zq_mm, zq_gm, pk_sub, zI_s, zI_k, zI_c, zI_2, zL_s, zL_k, zL_c, zL_1, if_true, if_false, eq_self, Nat.zero_add, Nat.add_zero]
    · have hih := ih (k + 1) (by omega) (by omega)
      have h56 := zpk_56 hB b l (show k < 8 by omega)
      by_cases d : k < l
      · have hb := hT.2 (b + k) (by omega)
        have e : zpk B b l (k + 1) = zpk B b l k * 256 + B (b + k) := by
          show zpk B b l k * 256 + (if k < l then B (b + k) else 0) = _
          rw [if_pos d]
        have hp := zq_pack h56 (hB (b + k))
        rw [← e] at hp
        simp (disch := omega) only [zq_l9, pk_mul, nI_add, zq_t9, zq_c9, zq_bz9, zq_bo9, zq_g, zq_cl, zq_leT, zq_leF, zq_ltT, zq_ltF, zq_eqT, zq_eqF, zq_em, zq_me, zq_pm, zq_mm, zq_gm, pk_sub, zI_s, zI_k, zI_c, zI_2, zL_s, zL_k, zL_c, zL_1, if_true, if_false, eq_self, Nat.zero_add, Nat.add_zero, h2, hb, fX13_name_87]
        rw [show (Int32.toInt64 (nI 8)) = Int32.toInt64 8 from rfl, hp]
        exact hih
      · have e : zpk B b l (k + 1) = zpk B b l k * 256 + 0 := by
          show zpk B b l k * 256 + (if k < l then B (b + k) else 0) = _
          rw [if_neg d]
        have hp := zq_pack h56 (show 0 < 256 by omega)
        rw [← e] at hp
        simp (disch := omega) only [zq_l9, pk_mul, nI_add, zq_t9, zq_c9, zq_bz9, zq_bo9, zq_g, zq_cl, zq_leT, zq_leF, zq_ltT, zq_ltF, zq_eqT, zq_eqF, zq_em, zq_me, zq_pm, zq_mm, zq_gm, pk_sub, zI_s, zI_k, zI_c, zI_2, zL_s, zL_k, zL_c, zL_1, if_true, if_false, eq_self, Nat.zero_add, Nat.add_zero, h2, fX13_name_87]
        rw [show (Int32.toInt64 (nI 8)) = Int32.toInt64 8 from rfl, hp]
        exact hih
theorem zm_name {S : sh_St} {B : Nat → Nat} {E p : Nat} (hT : zTM S B E) (hE : E ≤ 400) (hB : ∀ k, B k < 256) (h2 : S.1 0 19 = nI p) (hp : p ≤ E) (h20 : S.1 0 20 = -nI 1) : ∃ r S', fX13_name S = some (r, S') ∧ zM0 S S' ∧ (zno B E p → r = znm B E p ∧ S'.1 0 20 = -nI 1 ∧ S'.1 0 19 = nI (zne B E p)) ∧ (¬ zno B E p → S'.1 0 20 = nI (zbl B E p)) := by
  rw [fX13_name]
  obtain ⟨S1, g1, g2, g3⟩ := zm_wordEnd hT hE hB h2 hp
  have hbl := zbl_le B hp
  have hne := zne_le B hp
  have hT1 := zTM_9 g3 hT
  have h201 : S1.1 0 20 = -nI 1 := (g3.1 20 (by omega)).trans h20
  by_cases c : zno B E p
  · have h49 := zm_name49 hB hT1 (b := zbl B E p) (l := zne B E p - zbl B E p) (by omega) c.2 g2 sh_FU 0 (by omega) (by decide)
    rw [show zbl B E p + (zne B E p - zbl B E p) = zne B E p by omega] at h49
    refine ⟨znm B E p, sh_I S1 0 19 (nI (zne B E p)), ?_, zM0_tr (zM0_9 g3) (zM0_9 (zM9_I S1 _)), fun _ => ⟨rfl, by rw [zI_k S1 0 19 _ (by omega)]; exact h201, zI_s _ _ _ _⟩, fun q => absurd c q⟩
    obtain ⟨c1, c2⟩ := c
    simp (disch := omega) only [zq_l9, pk_mul, nI_add, zq_t9, zq_c9, zq_bz9, zq_bo9, zq_g, zq_cl, zq_leT, zq_leF, zq_ltT, zq_ltF, zq_eqT, zq_eqF, zq_em, zq_me, zq_pm, zq_mm, zq_gm, pk_sub, zI_s, zI_k, zI_c, zI_2, zL_s, zL_k, zL_c, zL_1, if_true, if_false, eq_self, Nat.zero_add, Nat.add_zero, h20, g1, g2]
    exact h49
  · obtain ⟨S2, k1, k2, k3, k4⟩ := zm_wrong S1 (zbl B E p)
    refine ⟨0, S2, ?_, zM0_tr (zM0_9 g3) k4, fun q => absurd q c, fun _ => by rw [k2, h201, zfw_m]⟩
    unfold zno at c
    by_cases d : zne B E p = zbl B E p
    · simp (disch := omega) only [zq_l9, pk_mul, nI_add, zq_t9, zq_c9, zq_bz9, zq_bo9, zq_g, zq_cl, zq_leT, zq_leF, zq_ltT, zq_ltF, zq_eqT, zq_eqF, zq_em, zq_me, zq_pm, zq_mm, zq_gm, pk_sub, zI_s, zI_k, zI_c, zI_2, zL_s, zL_k, zL_c, zL_1, if_true, if_false, eq_self, Nat.zero_add, Nat.add_zero, h20, g1, g2, d, fX13_name_34, k1]
    · simp (disch := omega) only [zq_l9, pk_mul, nI_add, zq_t9, zq_c9, zq_bz9, zq_bo9, zq_g, zq_cl, zq_leT, zq_leF, zq_ltT, zq_ltF, zq_eqT, zq_eqF, zq_em, zq_me, zq_pm, zq_mm, zq_gm, pk_sub, zI_s, zI_k, zI_c, zI_2, zL_s, zL_k, zL_c, zL_1, if_true, if_false, eq_self, Nat.zero_add, Nat.add_zero, h20, g1, g2, fX13_name_34, k1]
theorem zm_nameF {S : sh_St} (h20 : ¬ S.1 0 20 = -nI 1) : fX13_name S = some (0, S) := by
  rw [fX13_name, show (-1 : Int32) = -nI 1 from rfl, if_neg h20]
theorem zm_num91 (S : sh_St) {lo hi b k v : Nat} (h2 : S.1 0 19 = nI k) (hbk : b ≤ k) (hk : k ≤ 400) (hv : v < 10000000) (hlo : lo < 100000) (hhi : hi < 100000) : (1 ≤ k - b ∧ k - b ≤ 5 ∧ lo ≤ v ∧ v ≤ hi → fX13_number_91 S (nI lo) (nI hi) (nI b) (nI v) = some (nI v, S)) ∧ (¬ (1 ≤ k - b ∧ k - b ≤ 5 ∧ lo ≤ v ∧ v ≤ hi) → fX13_number_91 S (nI lo) (nI hi) (nI b) (nI v) = fX13_number_121 S (nI b) (nI v)) := by
  rw [fX13_number_91]
  refine ⟨fun q => ?_, fun q => ?_⟩
  · simp (disch := omega) only [zq_l9, pk_mul, nI_add, zq_t9, zq_c9, zq_bz9, zq_bo9, zq_g, zq_cl, zq_leT, zq_leF, zq_ltT, zq_ltF, zq_eqT, zq_eqF, zq_em, zq_me, zq_pm, zq_mm, zq_gm, pk_sub, zI_s, zI_k, zI_c, zI_2, zL_s, zL_k, zL_c, zL_1, if_true, if_false, eq_self, Nat.zero_add, Nat.add_zero, h2]
  · by_cases c1 : k = b
    · simp (disch := omega) only [zq_l9, pk_mul, nI_add, zq_t9, zq_c9, zq_bz9, zq_bo9, zq_g, zq_cl, zq_leT, zq_leF, zq_ltT, zq_ltF, zq_eqT, zq_eqF, zq_em, zq_me, zq_pm, zq_mm, zq_gm, pk_sub, zI_s, zI_k, zI_c, zI_2, zL_s, zL_k, zL_c, zL_1, if_true, if_false, eq_self, Nat.zero_add, Nat.add_zero, h2]
    · by_cases c2 : 5 < k - b
      · simp (disch := omega) only [zq_l9, pk_mul, nI_add, zq_t9, zq_c9, zq_bz9, zq_bo9, zq_g, zq_cl, zq_leT, zq_leF, zq_ltT, zq_ltF, zq_eqT, zq_eqF, zq_em, zq_me, zq_pm, zq_mm, zq_gm, pk_sub, zI_s, zI_k, zI_c, zI_2, zL_s, zL_k, zL_c, zL_1, if_true, if_false, eq_self, Nat.zero_add, Nat.add_zero, h2]
      · by_cases c3 : v < lo
        · simp (disch := omega) only [zq_l9, pk_mul, nI_add, zq_t9, zq_c9, zq_bz9, zq_bo9, zq_g, zq_cl, zq_leT, zq_leF, zq_ltT, zq_ltF, zq_eqT, zq_eqF, zq_em, zq_me, zq_pm, zq_mm, zq_gm, pk_sub, zI_s, zI_k, zI_c, zI_2, zL_s, zL_k, zL_c, zL_1, if_true, if_false, eq_self, Nat.zero_add, Nat.add_zero, h2]
        · simp (disch := omega) only [zq_l9, pk_mul, nI_add, zq_t9, zq_c9, zq_bz9, zq_bo9, zq_g, zq_cl, zq_leT, zq_leF, zq_ltT, zq_ltF, zq_eqT, zq_eqF, zq_em, zq_me, zq_pm, zq_mm, zq_gm, pk_sub, zI_s, zI_k, zI_c, zI_2, zL_s, zL_k, zL_c, zL_1, if_true, if_false, eq_self, Nat.zero_add, Nat.add_zero, h2]
theorem znu_6 {B : Nat → Nat} {b d k : Nat} (h : ∀ k, k < d → 48 ≤ B (b + k) ∧ B (b + k) ≤ 57) (hk : k ≤ d) (h6 : k ≤ 6) : znu B b k < 1000000 := znu_5 h hk h6
theorem zm_num18 {B : Nat → Nat} {E : Nat} (hE : E ≤ 400) (hB : ∀ k, B k < 256) {b lo hi : Nat} : ∀ (n j : Nat) (S : sh_St), zTM S B E → S.1 0 19 = nI (b + j) → b + j ≤ zdg B E b → b ≤ E → j ≤ 6 → 7 - j < n → ∃ S', fX13_number_18 n S (nI lo) (nI hi) (nI b) (nI (znu B b j)) = fX13_number_91 S' (nI lo) (nI hi) (nI b) (nI (znu B b (min (zdg B E b - b) 6))) ∧ S'.1 0 19 = nI (b + min (zdg B E b - b) 6) ∧ zM9 S S' := by
  intro n
  induction n with
  | zero => intro j S _ _ _ _ _ h; omega
  | succ n ih =>
    intro j S hT h2 hj hbE hj6 hn
    have hd := zdg_le B hbE
    have h1 := hT.1
    have hdig : ∀ k, k < zdg B E b - b → 48 ≤ B (b + k) ∧ B (b + k) ≤ 57 := fun k hk => by
      have := zfi_b (fun j => !zdib (B j)) (E - b) b (b + k) (by omega) (by unfold zdg at hk; omega)
      rw [← zdib_iff]
      cases q : zdib (B (b + k)) with
      | true => rfl
      | false => exact absurd (show (!zdib (B (b + k))) = true by rw [q]; rfl) this
    rw [fX13_number_18]
    by_cases c : b + j = E
    · rw [show min (zdg B E b - b) 6 = j by omega]
      refine ⟨S, ?_, h2, zM9_rf S⟩
      simp (disch := omega) only [zq_l9, pk_mul, nI_add, zq_t9, zq_c9, zq_bz9, zq_bo9, zq_g, zq_cl, zq_leT, zq_leF, zq_ltT, zq_ltF, zq_eqT, zq_eqF, zq_em, zq_me, zq_pm, zq_mm, zq_gm, pk_sub, zI_s, zI_k, zI_c, zI_2, zL_s, zL_k, zL_c, zL_1, if_true, if_false, eq_self, Nat.zero_add, Nat.add_zero, h1, h2]
    · have hb := hT.2 (b + j) (by omega)
      have hB' := hB (b + j)
      have hin := zm_within S (v := B (b + j)) (lo := 48) (hi := 57) (by omega) (by omega) (by omega)
      by_cases q : b + j < zdg B E b
      · have hq := hdig j (by omega)
        rw [if_pos hq] at hin
        by_cases c6 : j = 6
        · subst c6
          rw [show min (zdg B E b - b) 6 = 6 by omega]
          refine ⟨S, ?_, h2, zM9_rf S⟩
          simp (disch := omega) only [zq_l9, pk_mul, nI_add, zq_t9, zq_c9, zq_bz9, zq_bo9, zq_g, zq_cl, zq_leT, zq_leF, zq_ltT, zq_ltF, zq_eqT, zq_eqF, zq_em, zq_me, zq_pm, zq_mm, zq_gm, pk_sub, zI_s, zI_k, zI_c, zI_2, zL_s, zL_k, zL_c, zL_1, if_true, if_false, eq_self, Nat.zero_add, Nat.add_zero, h1, h2, hb, hin]
        · have hf := zM9_I S (nI (b + (j + 1)))
          obtain ⟨S', f1, f2, f3⟩ := ih (j + 1) (sh_I S 0 19 (nI (b + (j + 1)))) (zTM_9 hf hT) (zI_s _ _ _ _) (by omega) hbE (by omega) (by omega)
          refine ⟨S', ?_, f2, zM9_tr hf f3⟩
          have hv := znu_6 (k := j) hdig (by omega) (by omega)
          have e : znu B b (j + 1) = 10 * znu B b j + B (b + j) - 48 := by
            show znu B b j * 10 + (B (b + j) - 48) = _
            omega
          rw [e] at f1
          rw [← f1]
          simp (disch := omega) only [zq_l9, pk_mul, nI_add, zq_t9, zq_c9, zq_bz9, zq_bo9, zq_g, zq_cl, zq_leT, zq_leF, zq_ltT, zq_ltF, zq_eqT, zq_eqF, zq_em, zq_me, zq_pm, zq_mm, zq_gm, pk_sub, zI_s, zI_k, zI_c, zI_2, zL_s, zL_k, zL_c, zL_1, if_true, if_false, eq_self, Nat.zero_add, Nat.add_zero, h1, h2, hb, hin]
          rw [Nat.add_assoc]
      · have ej : b + j = zdg B E b := by omega
        have hnd : ¬ (48 ≤ B (b + j) ∧ B (b + j) ≤ 57) := fun w => by
          have hp : (fun j => !zdib (B j)) (zfi (fun j => !zdib (B j)) (E - b) b) = true := zfi_e (fun j => !zdib (B j)) hbE (by
            have : zfi (fun j => !zdib (B j)) (E - b) b = zdg B E b := rfl
            omega)
          have e9 : zfi (fun j => !zdib (B j)) (E - b) b = b + j := ej.symm
          rw [e9] at hp
          have h9 := (zdib_iff (B (b + j))).2 w
          simp [h9] at hp
        rw [if_neg hnd] at hin
        rw [show min (zdg B E b - b) 6 = j by omega]
        refine ⟨S, ?_, h2, zM9_rf S⟩
        simp (disch := omega) only [zq_l9, pk_mul, nI_add, zq_t9, zq_c9, zq_bz9, zq_bo9, zq_g, zq_cl, zq_leT, zq_leF, zq_ltT, zq_ltF, zq_eqT, zq_eqF, zq_em, zq_me, zq_pm, zq_mm, zq_gm, pk_sub, zI_s, zI_k, zI_c, zI_2, zL_s, zL_k, zL_c, zL_1, if_true, if_false, eq_self, Nat.zero_add, Nat.add_zero, h1, h2, hb, hin]
theorem zm_number {S : sh_St} {B : Nat → Nat} {E p lo hi : Nat} (hT : zTM S B E) (hE : E ≤ 400) (hB : ∀ k, B k < 256) (h2 : S.1 0 19 = nI p) (hp : p ≤ E) (h20 : S.1 0 20 = -nI 1) (hlo : lo < 100000) (hhi : hi < 100000) : ∃ r S', fX13_number S (nI lo) (nI hi) = some (r, S') ∧ zM0 S S' ∧ (zdo B E lo hi p → r = nI (zdv B E p) ∧ S'.1 0 20 = -nI 1 ∧ S'.1 0 19 = nI (zde B E p)) ∧ (¬ zdo B E lo hi p → S'.1 0 20 = nI (zbl B E p)) := by
  rw [fX13_number]
  obtain ⟨S1, g1, g2, g3⟩ := zm_here hT hE hB h2 hp
  have hbl := zbl_le B hp
  have hT1 := zTM_9 g3 hT
  have hde := zde_le B hp
  have ed : zdg B E (zbl B E p) = zde B E p := rfl
  obtain ⟨S2, k1, k2, k3⟩ := zm_num18 (lo := lo) (hi := hi) hE hB (b := zbl B E p) sh_FU 0 S1 hT1 g2 (by rw [ed]; exact hde.1) hbl.2 (by omega) (by decide)
  rw [ed] at k1 k2
  have h202 : S2.1 0 20 = -nI 1 := (k3.1 20 (by omega)).trans ((g3.1 20 (by omega)).trans h20)
  have hdd : ∀ k, k < zde B E p - zbl B E p → 48 ≤ B (zbl B E p + k) ∧ B (zbl B E p + k) ≤ 57 := fun k hk => zde_d hk
  have hv6 := znu_6 (k := min (zde B E p - zbl B E p) 6) hdd (by omega) (by omega)
  obtain ⟨y1, y2⟩ := zm_num91 S2 (lo := lo) (hi := hi) (b := zbl B E p) (v := znu B (zbl B E p) (min (zde B E p - zbl B E p) 6)) k2 (by omega) (by omega) (by omega) hlo hhi
  have ez : fX13_number_18 sh_FU S1 (nI lo) (nI hi) (nI (zbl B E p)) (nI 0) = fX13_number_91 S2 (nI lo) (nI hi) (nI (zbl B E p)) (nI (znu B (zbl B E p) (min (zde B E p - zbl B E p) 6))) := k1
  have hf : zM0 S S2 := zM0_9 (zM9_tr g3 k3)
  by_cases c : zdo B E lo hi p
  · have hm : min (zde B E p - zbl B E p) 6 = zde B E p - zbl B E p := by have := c.2.1; omega
    rw [hm] at ez y1 k2
    refine ⟨nI (zdv B E p), S2, ?_, hf, fun _ => ⟨rfl, h202, ?_⟩, fun q => absurd c q⟩
    · simp (disch := omega) only [zq_l9, pk_mul, nI_add, zq_t9, zq_c9, zq_bz9, zq_bo9, zq_g, zq_cl, zq_leT, zq_leF, zq_ltT, zq_ltF, zq_eqT, zq_eqF, zq_em, zq_me, zq_pm, zq_mm, zq_gm, pk_sub, zI_s, zI_k, zI_c, zI_2, zL_s, zL_k, zL_c, zL_1, if_true, if_false, eq_self, Nat.zero_add, Nat.add_zero, h20, g1]
      rw [ez]
      refine y1 ?_
      rw [show zbl B E p + (zde B E p - zbl B E p) - zbl B E p = zde B E p - zbl B E p by omega]
      exact c
    · rw [k2, show zbl B E p + (zde B E p - zbl B E p) = zde B E p by omega]
  · obtain ⟨S3, j1, j2, j3, j4⟩ := zm_wrong S2 (zbl B E p)
    refine ⟨nI (znu B (zbl B E p) (min (zde B E p - zbl B E p) 6)), S3, ?_, zM0_tr hf j4, fun q => absurd q c, fun _ => by rw [j2, h202, zfw_m]⟩
    have hc : ¬ (1 ≤ zbl B E p + min (zde B E p - zbl B E p) 6 - zbl B E p ∧ zbl B E p + min (zde B E p - zbl B E p) 6 - zbl B E p ≤ 5 ∧ lo ≤ znu B (zbl B E p) (min (zde B E p - zbl B E p) 6) ∧ znu B (zbl B E p) (min (zde B E p - zbl B E p) 6) ≤ hi) := fun q => c (by
      have hm : min (zde B E p - zbl B E p) 6 = zde B E p - zbl B E p := by omega
      rw [hm, show zbl B E p + (zde B E p - zbl B E p) - zbl B E p = zde B E p - zbl B E p by omega] at q
      exact q)
    simp (disch := omega) only [zq_l9, pk_mul, nI_add, zq_t9, zq_c9, zq_bz9, zq_bo9, zq_g, zq_cl, zq_leT, zq_leF, zq_ltT, zq_ltF, zq_eqT, zq_eqF, zq_em, zq_me, zq_pm, zq_mm, zq_gm, pk_sub, zI_s, zI_k, zI_c, zI_2, zL_s, zL_k, zL_c, zL_1, if_true, if_false, eq_self, Nat.zero_add, Nat.add_zero, h20, g1]
    rw [ez, y2 hc, fX13_number_121]
    simp (disch := omega) only [zq_l9, pk_mul, nI_add, zq_t9, zq_c9, zq_bz9, zq_bo9, zq_g, zq_cl, zq_leT, zq_leF, zq_ltT, zq_ltF, zq_eqT, zq_eqF, zq_em, zq_me, zq_pm, zq_mm, zq_gm, pk_sub, zI_s, zI_k, zI_c, zI_2, zL_s, zL_k, zL_c, zL_1, if_true, if_false, eq_self, Nat.zero_add, Nat.add_zero, j1]
theorem zm_numberF {S : sh_St} (h20 : ¬ S.1 0 20 = -nI 1) (lo hi : Int32) : fX13_number S lo hi = some (nI 0, S) := by
  rw [fX13_number, show (-1 : Int32) = -nI 1 from rfl, if_neg h20]
  rfl
