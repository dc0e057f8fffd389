/-! words and acts of a text: the class -/
def zwm (B : Nat → Nat) (b l a : Nat) : Prop := l = sh_len.getD a 0 ∧ ∀ i, i < l → sh_wc a i = nI (B (b + i))
noncomputable def zwb (B : Nat → Nat) (b l a : Nat) : Bool := @decide (zwm B b l a) (Classical.propDecidable _)
theorem zwb_t {B : Nat → Nat} {b l a : Nat} (h : zwm B b l a) : zwb B b l a = true := by unfold zwb; exact @decide_eq_true _ (Classical.propDecidable _) h
theorem zwb_f {B : Nat → Nat} {b l a : Nat} (h : ¬ zwm B b l a) : zwb B b l a = false := by unfold zwb; exact @decide_eq_false _ (Classical.propDecidable _) h
theorem zwb_i {B : Nat → Nat} {b l a : Nat} (h : zwb B b l a = true) : zwm B b l a := by unfold zwb at h; exact @of_decide_eq_true _ (Classical.propDecidable _) h
noncomputable def zai (B : Nat → Nat) (b l : Nat) : Nat := zfi (zwb B b l) 9 0
theorem zx_isWord13 {B : Nat → Nat} {E : Nat} {S : sh_St} (hT : zTX S B E) {a b l : Nat} (ha : a < 9) (hbl : b + l ≤ 400) (hl : l = sh_len.getD a 0) : ∀ (n i : Nat), i ≤ l → l - i < n → ((∀ j, i ≤ j → j < l → sh_wc a j = nI (B (b + j))) → fX10_isWord_13 n S (nI a) (nI b) (nI l) (nI i) = some (nI 1, S)) ∧ (¬ (∀ j, i ≤ j → j < l → sh_wc a j = nI (B (b + j))) → fX10_isWord_13 n S (nI a) (nI b) (nI l) (nI i) = some (nI 0, S)) := by
  have h6 := (sh_len_ok a ha).1
  intro n
  induction n with
  | zero => intro i _ h; omega
  | succ n ih =>
    intro i hi hn
    rw [fX10_isWord_13]
    by_cases c : i = l
    · refine ⟨fun _ => ?_, fun q => absurd (fun j h1 h2 => by omega) q⟩
      simp (disch := omega) only [zq_l9, pk_mul, nI_add, zq_t9, zq_c9, zq_bz9, zq_bo9, zq_g, zq_cl, zq_leT, zq_leF, zq_ltT, zq_ltF, zq_eqT, zq_eqF, zq_em, zq_me, zq_pm, zq_mm, zq_gm, pk_sub, zI_s, zI_k, zI_c, zI_2, zL_s, zL_k, zL_c, zL_1, if_true, if_false, eq_self, Nat.zero_add, Nat.add_zero]
    · obtain ⟨y, z⟩ := ih (i + 1) (by omega) (by omega)
      have hb := zx_byteAt hT (k := b + i) (by omega)
      by_cases q : sh_wc a i = nI (B (b + i))
      · refine ⟨fun w => ?_, fun w => ?_⟩
        · simp (disch := omega) only [zq_l9, pk_mul, nI_add, zq_t9, zq_c9, zq_bz9, zq_bo9, zq_g, zq_cl, zq_leT, zq_leF, zq_ltT, zq_ltF, zq_eqT, zq_eqF, zq_em, zq_me, zq_pm, zq_mm, zq_gm, pk_sub, zI_s, zI_k, zI_c, zI_2, zL_s, zL_k, zL_c, zL_1, if_true, if_false, eq_self, Nat.zero_add, Nat.add_zero, hb, q]
          exact y (fun j h1 h2 => w j (by omega) h2)
        · simp (disch := omega) only [zq_l9, pk_mul, nI_add, zq_t9, zq_c9, zq_bz9, zq_bo9, zq_g, zq_cl, zq_leT, zq_leF, zq_ltT, zq_ltF, zq_eqT, zq_eqF, zq_em, zq_me, zq_pm, zq_mm, zq_gm, pk_sub, zI_s, zI_k, zI_c, zI_2, zL_s, zL_k, zL_c, zL_1, if_true, if_false, eq_self, Nat.zero_add, Nat.add_zero, hb, q]
          refine z (fun w2 => w (fun j h1 h2 => ?_))
          by_cases e : j = i
          · rw [e]; exact q
          · exact w2 j (by omega) h2
      · refine ⟨fun w => absurd (w i (by omega) (by omega)) q, fun _ => ?_⟩
        simp (disch := omega) only [zq_l9, pk_mul, nI_add, zq_t9, zq_c9, zq_bz9, zq_bo9, zq_g, zq_cl, zq_leT, zq_leF, zq_ltT, zq_ltF, zq_eqT, zq_eqF, zq_em, zq_me, zq_pm, zq_mm, zq_gm, pk_sub, zI_s, zI_k, zI_c, zI_2, zL_s, zL_k, zL_c, zL_1, if_true, if_false, eq_self, Nat.zero_add, Nat.add_zero, hb, q]
theorem zx_isWord {B : Nat → Nat} {E : Nat} {S : sh_St} (hT : zTX S B E) {a b l : Nat} (ha : a < 9) (hbl : b + l ≤ 400) : fX10_isWord S (nI a) (nI b) (nI l) = some (nI (if zwb B b l a = true then 1 else 0), S) := by
  have h6 := (sh_len_ok a ha).1
  rw [fX10_isWord]
  by_cases c : l = sh_len.getD a 0
  · obtain ⟨y, z⟩ := zx_isWord13 hT ha hbl c sh_FU 0 (by omega) (by have : sh_FU = 100000 := rfl; omega)
    by_cases q : zwm B b l a
    · rw [if_pos (zwb_t q)]
      have e := y (fun j _ h2 => q.2 j h2)
      simp (disch := omega) only [zq_l9, pk_mul, nI_add, zq_t9, zq_c9, zq_bz9, zq_bo9, zq_g, zq_cl, zq_leT, zq_leF, zq_ltT, zq_ltF, zq_eqT, zq_eqF, zq_em, zq_me, zq_pm, zq_mm, zq_gm, pk_sub, zI_s, zI_k, zI_c, zI_2, zL_s, zL_k, zL_c, zL_1, if_true, if_false, eq_self, Nat.zero_add, Nat.add_zero, sh_wl]
      exact e
    · rw [zwb_f q]
      have e := z (fun w => q ⟨c, fun i hi => w i (by omega) hi⟩)
      simp (disch := omega) only [zq_l9, pk_mul, nI_add, zq_t9, zq_c9, zq_bz9, zq_bo9, zq_g, zq_cl, zq_leT, zq_leF, zq_ltT, zq_ltF, zq_eqT, zq_eqF, zq_em, zq_me, zq_pm, zq_mm, zq_gm, pk_sub, zI_s, zI_k, zI_c, zI_2, zL_s, zL_k, zL_c, zL_1, if_true, if_false, eq_self, Nat.zero_add, Nat.add_zero, sh_wl]
      exact e
  · rw [zwb_f (fun q => c q.1)]
    simp (disch := omega) only [zq_l9, pk_mul, nI_add, zq_t9, zq_c9, zq_bz9, zq_bo9, zq_g, zq_cl, zq_leT, zq_leF, zq_ltT, zq_ltF, zq_eqT, zq_eqF, zq_em, zq_me, zq_pm, zq_mm, zq_gm, pk_sub, zI_s, zI_k, zI_c, zI_2, zL_s, zL_k, zL_c, zL_1, if_true, if_false, eq_self, Nat.zero_add, Nat.add_zero, sh_wl]
    rfl
theorem zx_actNo_l {B : Nat → Nat} {E : Nat} {S : sh_St} (hT : zTX S B E) {b l : Nat} (hbl : b + l ≤ 400) : ∀ (n a : Nat), a ≤ 9 → 9 - a < n → fX10_actNumber_2 n S (nI b) (nI l) (nI a) = some (zsp 9 (zfi (zwb B b l) (9 - a) a), S) := by
  intro n
  induction n with
  | zero => intro a _ h; omega
  | succ n ih =>
    intro a ha hn
    rw [fX10_actNumber_2]
    by_cases c : a = 9
    · subst c
      rw [show zfi (zwb B b l) (9 - 9) 9 = 9 from rfl, zsp_f (by omega)]
      simp (disch := omega) only [zq_l9, pk_mul, nI_add, zq_t9, zq_c9, zq_bz9, zq_bo9, zq_g, zq_cl, zq_leT, zq_leF, zq_ltT, zq_ltF, zq_eqT, zq_eqF, zq_em, zq_me, zq_pm, zq_mm, zq_gm, pk_sub, zI_s, zI_k, zI_c, zI_2, zL_s, zL_k, zL_c, zL_1, if_true, if_false, eq_self, Nat.zero_add, Nat.add_zero]
    · obtain ⟨j, hj⟩ : ∃ j, 9 - a = j + 1 := ⟨9 - a - 1, by omega⟩
      have hw := zx_isWord hT (a := a) (by omega) hbl
      by_cases q : zwb B b l a = true
      · rw [if_pos q] at hw
        rw [hj, zfi_t q, zsp_t (by omega)]
        simp (disch := omega) only [zq_l9, pk_mul, nI_add, zq_t9, zq_c9, zq_bz9, zq_bo9, zq_g, zq_cl, zq_leT, zq_leF, zq_ltT, zq_ltF, zq_eqT, zq_eqF, zq_em, zq_me, zq_pm, zq_mm, zq_gm, pk_sub, zI_s, zI_k, zI_c, zI_2, zL_s, zL_k, zL_c, zL_1, if_true, if_false, eq_self, Nat.zero_add, Nat.add_zero, hw]
      · rw [if_neg q] at hw
        have hih := ih (a + 1) (by omega) (by omega)
        rw [hj, zfi_f q, show j = 9 - (a + 1) by omega, ← hih]
        simp (disch := omega) only [zq_l9, pk_mul, nI_add, zq_t9, zq_c9, zq_bz9, zq_bo9, zq_g, zq_cl, zq_leT, zq_leF, zq_ltT, zq_ltF, zq_eqT, zq_eqF, zq_em, zq_me, zq_pm, zq_mm, zq_gm, pk_sub, zI_s, zI_k, zI_c, zI_2, zL_s, zL_k, zL_c, zL_1, if_true, if_false, eq_self, Nat.zero_add, Nat.add_zero, hw]
theorem zx_actNo {B : Nat → Nat} {E : Nat} {S : sh_St} (hT : zTX S B E) {b l : Nat} (hbl : b + l ≤ 400) : fX10_actNumber S (nI b) (nI l) = some (zsp 9 (zai B b l), S) := by
  rw [fX10_actNumber]
  exact zx_actNo_l hT hbl sh_FU 0 (by omega) (by decide)
/-! what comes behind an act's word -/
def znc (a : Nat) : Nat := if a ≤ 1 then 1 else if a = 2 then 2 else 0
def zlo (a : Nat) : Nat := if a = 3 then 1 else 0
def zhi (a : Nat) : Nat := if a = 0 then 999 else if a = 3 then 12 else if a = 4 then 65535 else 39
def zhn (a : Nat) : Bool := decide (a = 0) || decide (a = 3) || decide (a = 4) || decide (a = 7)
theorem zt_nc : ∀ a, a < 9 → ([1, 1, 2, 0, 0, 0, 0, 0, 0] : List Int32).getD a 0 = nI (znc a) := by decide +kernel
theorem zt_lo : ∀ a, a < 9 → ([0, 0, 0, 1, 0, 0, 0, 0, 0] : List Int32).getD a 0 = nI (zlo a) := by decide +kernel
theorem zt_hi : ∀ a, a < 9 → ([999, -1, -1, 12, 65535, -1, -1, 39, -1] : List Int32).getD a 0 = if zhn a = true then nI (zhi a) else -nI 1 := by decide +kernel
theorem zt_tu : ∀ a, a < 9 → ([0, 0, 0, 1, 1, 1, 1, 0, 0] : List Int32).getD a 0 = nI (if 3 ≤ a ∧ a ≤ 6 then 1 else 0) := by decide +kernel
theorem zt_nc' : ∀ a, a < 9 → [nI 1, nI 1, nI 2, nI 0, nI 0, nI 0, nI 0, nI 0, nI 0].getD a (nI 0) = nI (znc a) := by decide +kernel
theorem zt_lo' : ∀ a, a < 9 → [nI 0, nI 0, nI 0, nI 1, nI 0, nI 0, nI 0, nI 0, nI 0].getD a (nI 0) = nI (zlo a) := by decide +kernel
theorem zt_hi' : ∀ a, a < 9 → [nI 999, -nI 1, -nI 1, nI 12, nI 65535, -nI 1, -nI 1, nI 39, -nI 1].getD a (nI 0) = if zhn a = true then nI (zhi a) else -nI 1 := by decide +kernel
theorem zt_tu' : ∀ a, a < 9 → [nI 0, nI 0, nI 0, nI 1, nI 1, nI 1, nI 1, nI 0, nI 0].getD a (nI 0) = nI (if 3 ≤ a ∧ a ≤ 6 then 1 else 0) := by decide +kernel
theorem zhi_lt (a : Nat) : zhi a < 100000 := by unfold zhi; (repeat' split) <;> omega
theorem zlo_lt (a : Nat) : zlo a < 100000 := by unfold zlo; split <;> omega
theorem zx_takesN (S : sh_St) {a : Nat} (ha : a < 9) : fX1_takesNumber S (nI a) = some (nI (if zhn a = true then 1 else 0), S) := by
  rw [fX1_takesNumber]
  have h := zt_hi a ha
  have h2 := zhi_lt a
  rw [zq_g ha (by decide), zq_cl (by omega), h]
  by_cases c : zhn a = true
  · rw [if_pos c, if_pos c]
    simp (disch := omega) only [zq_l9, pk_mul, nI_add, zq_t9, zq_c9, zq_bz9, zq_bo9, zq_g, zq_cl, zq_leT, zq_leF, zq_ltT, zq_ltF, zq_eqT, zq_eqF, zq_em, zq_me, zq_pm, zq_mm, zq_gm, pk_sub, zI_s, zI_k, zI_c, zI_2, zL_s, zL_k, zL_c, zL_1, if_true, if_false, eq_self, Nat.zero_add, Nat.add_zero]
  · rw [if_neg c, if_neg c]
    simp (disch := omega) only [zq_l9, pk_mul, nI_add, zq_t9, zq_c9, zq_bz9, zq_bo9, zq_g, zq_cl, zq_leT, zq_leF, zq_ltT, zq_ltF, zq_eqT, zq_eqF, zq_em, zq_me, zq_pm, zq_mm, zq_gm, pk_sub, zI_s, zI_k, zI_c, zI_2, zL_s, zL_k, zL_c, zL_1, if_true, if_false, eq_self, Nat.zero_add, Nat.add_zero]
theorem zx_a127 (S : sh_St) (t : Int32) : fX10_readAct_127 S t = some (nI (if S.1 3 3 = -nI 1 then 1 else 0), sh_I S 3 8 t) := by
  rw [fX10_readAct_127]
  by_cases c : S.1 3 3 = -nI 1
  · rw [if_pos c]
    simp (disch := omega) only [zq_l9, pk_mul, nI_add, zq_t9, zq_c9, zq_bz9, zq_bo9, zq_g, zq_cl, zq_leT, zq_leF, zq_ltT, zq_ltF, zq_eqT, zq_eqF, zq_em, zq_me, zq_pm, zq_mm, zq_gm, pk_sub, zI_s, zI_k, zI_c, zI_2, zL_s, zL_k, zL_c, zL_1, if_true, if_false, eq_self, Nat.zero_add, Nat.add_zero, c]
  · rw [if_neg c]
    simp (disch := omega) only [zq_l9, pk_mul, nI_add, zq_t9, zq_c9, zq_bz9, zq_bo9, zq_g, zq_cl, zq_leT, zq_leF, zq_ltT, zq_ltF, zq_eqT, zq_eqF, zq_em, zq_me, zq_pm, zq_mm, zq_gm, pk_sub, zI_s, zI_k, zI_c, zI_2, zL_s, zL_k, zL_c, zL_1, if_true, if_false, eq_self, Nat.zero_add, Nat.add_zero, c]
theorem zx_a91 {S : sh_St} {B : Nat → Nat} {E : Nat} (hT : zTX S B E) (hE : E ≤ 400) (hB : ∀ k, B k < 256) {a p : Nat} (ha : a < 9) (h5 : S.1 3 5 = nI a) (t : Int64) (h2 : S.1 3 2 = nI p) (hp : p ≤ E) :
    ∃ S', fX10_readAct_91 S t = some (nI (if S'.1 3 3 = -nI 1 then 1 else 0), S') ∧ S'.2 3 7 = t ∧ S'.2 3 6 = S.2 3 6 ∧ S'.1 3 4 = S.1 3 4 ∧ S'.1 3 5 = nI a ∧ S'.1 3 1 = S.1 3 1 ∧ zFr 3 3 S S' ∧ (zhn a = false → S'.1 3 8 = nI 0 ∧ S'.1 3 3 = S.1 3 3 ∧ S'.1 3 2 = nI p) ∧ (zhn a = true → S'.1 3 2 = nI (zde B E p) ∧ (zdo B E (zlo a) (zhi a) p → S'.1 3 8 = nI (zdv B E p) ∧ S'.1 3 3 = S.1 3 3) ∧ (¬ zdo B E (zlo a) (zhi a) p → S'.1 3 3 = zfw (S.1 3 3) (zbl B E p))) := by
  rw [fX10_readAct_91]
  have htn := zx_takesN (sh_L S 3 7 t) ha
  have hlo := zt_lo' a ha
  have hhi := zt_hi' a ha
  have fL : zFr 3 3 S (sh_L S 3 7 t) := zFr_L S _ _ (by omega) (by omega)
  by_cases c : zhn a = true
  · rw [if_pos c] at htn hhi
    have hT1 : zTX (sh_L S 3 7 t) B E := hT
    obtain ⟨r, S1, g1, g2, g3, g4, g5⟩ := zx_readNum (lo := zlo a) (hi := zhi a) hT1 hE hB h2 hp (zlo_lt a) (zhi_lt a)
    have e : (sh_I S1 3 8 r).1 3 3 = S1.1 3 3 := zI_k S1 3 8 r (by omega)
    refine ⟨sh_I S1 3 8 r, ?_, ?_, ?_, ?_, ?_, ?_, ?_, fun q => (by rw [c] at q; cases q), fun _ => ⟨?_, fun q => ⟨?_, ?_⟩, fun q => ?_⟩⟩
    · rw [e, ← zx_a127]
      simp (disch := omega) only [zq_l9, pk_mul, nI_add, zq_t9, zq_c9, zq_bz9, zq_bo9, zq_g, zq_cl, zq_leT, zq_leF, zq_ltT, zq_ltF, zq_eqT, zq_eqF, zq_em, zq_me, zq_pm, zq_mm, zq_gm, pk_sub, zI_s, zI_k, zI_c, zI_2, zL_s, zL_k, zL_c, zL_1, if_true, if_false, eq_self, Nat.zero_add, Nat.add_zero, h5, htn, hlo, hhi, g1]
    · rw [zI_2, g3.2.1]; exact zL_s _ _ _ _
    · rw [zI_2, g3.2.1]; exact zL_k S 3 7 t (by omega)
    · rw [zI_k S1 3 8 r (by omega), g3.1 4 (by omega) (by omega)]; rfl
    · rw [zI_k S1 3 8 r (by omega), g3.1 5 (by omega) (by omega)]; exact h5
    · rw [zI_k S1 3 8 r (by omega), g3.1 1 (by omega) (by omega)]; rfl
    · refine zFr_tr (zFr_tr fL (fun i hi => ?_)) (zFr_I S1 _ _ (by omega) (by omega))
      exact ⟨g3.2.2 i (by omega), by rw [g3.2.1]⟩
    · rw [zI_k S1 3 8 r (by omega)]; exact g2
    · rw [zI_s]; exact (g4 q).1
    · rw [e, (g4 q).2]; rfl
    · rw [e, g5 q]; rfl
  · rw [if_neg c] at htn
    have e : (sh_I (sh_L S 3 7 t) 3 8 (nI 0)).1 3 3 = S.1 3 3 := zI_k (sh_L S 3 7 t) 3 8 _ (by omega)
    refine ⟨sh_I (sh_L S 3 7 t) 3 8 (nI 0), ?_, ?_, ?_, ?_, ?_, ?_, ?_, fun _ => ⟨zI_s _ _ _ _, e, ?_⟩, fun q => absurd q c⟩
    · have e2 := zx_a127 (sh_L S 3 7 t) (nI 0)
      rw [e]
      have e3 : (sh_L S 3 7 t).1 3 3 = S.1 3 3 := rfl
      rw [e3] at e2
      rw [← e2]
      simp (disch := omega) only [zq_l9, pk_mul, nI_add, zq_t9, zq_c9, zq_bz9, zq_bo9, zq_g, zq_cl, zq_leT, zq_leF, zq_ltT, zq_ltF, zq_eqT, zq_eqF, zq_em, zq_me, zq_pm, zq_mm, zq_gm, pk_sub, zI_s, zI_k, zI_c, zI_2, zL_s, zL_k, zL_c, zL_1, if_true, if_false, eq_self, Nat.zero_add, Nat.add_zero, h5, htn]
    · rw [zI_2]; exact zL_s _ _ _ _
    · rw [zI_2]; exact zL_k S 3 7 t (by omega)
    · exact zI_k (sh_L S 3 7 t) 3 8 _ (by omega)
    · rw [zI_k (sh_L S 3 7 t) 3 8 _ (by omega)]; exact h5
    · exact zI_k (sh_L S 3 7 t) 3 8 _ (by omega)
    · exact zFr_tr fL (zFr_I _ _ _ (by omega) (by omega))
    · rw [zI_k (sh_L S 3 7 t) 3 8 _ (by omega)]; exact h2
