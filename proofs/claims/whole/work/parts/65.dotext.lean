/-! a text's acts: the class -/
theorem zx_over {S : sh_St} {B : Nat → Nat} {E p : Nat} (hT : zTX S B E) (hE : E ≤ 400) (hB : ∀ k, B k < 256) (h2 : S.1 3 2 = nI p) (hp : p ≤ E) : ∃ S', fX10_isOver S = some (nI (if zbl B E p = E then 1 else 0), S') ∧ S'.1 3 2 = nI (zbl B E p) ∧ zF2 S S' := by
  rw [fX10_isOver]
  obtain ⟨S1, g1, g2, g3⟩ := zx_skip hT hE hB h2 hp
  have h1 := (zTX_2 g3 hT).1
  have hbl := zbl_le B hp
  refine ⟨S1, ?_, g2, g3⟩
  by_cases c : zbl B E p = E
  · rw [if_pos c]
    simp (disch := omega) only [zq_l9, pk_mul, nI_add, zq_t9, zq_c9, zq_bz9, zq_bo9, zq_g, zq_cl, zq_leT, zq_leF, zq_ltT, zq_ltF, zq_eqT, zq_eqF, zq_em, zq_me, zq_pm, zq_mm, zq_gm, pk_sub, zI_s, zI_k, zI_c, zI_2, zL_s, zL_k, zL_c, zL_1, if_true, if_false, eq_self, Nat.zero_add, Nat.add_zero, g1, g2, h1]
  · rw [if_neg c]
    simp (disch := omega) only [zq_l9, pk_mul, nI_add, zq_t9, zq_c9, zq_bz9, zq_bo9, zq_g, zq_cl, zq_leT, zq_leF, zq_ltT, zq_ltF, zq_eqT, zq_eqF, zq_em, zq_me, zq_pm, zq_mm, zq_gm, pk_sub, zI_s, zI_k, zI_c, zI_2, zL_s, zL_k, zL_c, zL_1, if_true, if_false, eq_self, Nat.zero_add, Nat.add_zero, g1, g2, h1]
theorem zx_right15 (S : sh_St) : fX10_isRightlyOver_15 S = some (nI (if S.1 3 3 = -nI 1 then 1 else 0), S) := by
  rw [fX10_isRightlyOver_15]
  by_cases c : S.1 3 3 = -nI 1
  · rw [if_pos c]
    simp (disch := omega) only [zq_l9, pk_mul, nI_add, zq_t9, zq_c9, zq_bz9, zq_bo9, zq_g, zq_cl, zq_leT, zq_leF, zq_ltT, zq_ltF, zq_eqT, zq_eqF, zq_em, zq_me, zq_pm, zq_mm, zq_gm, pk_sub, zI_s, zI_k, zI_c, zI_2, zL_s, zL_k, zL_c, zL_1, if_true, if_false, eq_self, Nat.zero_add, Nat.add_zero, c]
  · rw [if_neg c]
    simp (disch := omega) only [zq_l9, pk_mul, nI_add, zq_t9, zq_c9, zq_bz9, zq_bo9, zq_g, zq_cl, zq_leT, zq_leF, zq_ltT, zq_ltF, zq_eqT, zq_eqF, zq_em, zq_me, zq_pm, zq_mm, zq_gm, pk_sub, zI_s, zI_k, zI_c, zI_2, zL_s, zL_k, zL_c, zL_1, if_true, if_false, eq_self, Nat.zero_add, Nat.add_zero, c]
theorem zx_right {S : sh_St} {B : Nat → Nat} {E p : Nat} (hT : zTX S B E) (hE : E ≤ 400) (hB : ∀ k, B k < 256) (h2 : S.1 3 2 = nI p) (hp : p ≤ E) : ∃ S', fX10_isRightlyOver S = some (nI (if S'.1 3 3 = -nI 1 then 1 else 0), S') ∧ zF3 S S' ∧ S'.1 3 3 = (if zbl B E p = E then S.1 3 3 else zfw (S.1 3 3) (zbl B E p)) := by
  rw [fX10_isRightlyOver]
  obtain ⟨S1, g1, g2, g3⟩ := zx_over hT hE hB h2 hp
  have h33 := g3.1 3 (by omega)
  by_cases c : zbl B E p = E
  · rw [if_pos c] at g1 ⊢
    refine ⟨S1, ?_, zF3_2 g3, h33⟩
    rw [← zx_right15]
    simp (disch := omega) only [zq_l9, pk_mul, nI_add, zq_t9, zq_c9, zq_bz9, zq_bo9, zq_g, zq_cl, zq_leT, zq_leF, zq_ltT, zq_ltF, zq_eqT, zq_eqF, zq_em, zq_me, zq_pm, zq_mm, zq_gm, pk_sub, zI_s, zI_k, zI_c, zI_2, zL_s, zL_k, zL_c, zL_1, if_true, if_false, eq_self, Nat.zero_add, Nat.add_zero, g1]
  · rw [if_neg c] at g1 ⊢
    obtain ⟨S2, k1, k2, k3, k4⟩ := zx_wrong S1 (zbl B E p)
    refine ⟨S2, ?_, zF3_tr (zF3_2 g3) k4, by rw [k2, h33]⟩
    rw [← zx_right15]
    simp (disch := omega) only [zq_l9, pk_mul, nI_add, zq_t9, zq_c9, zq_bz9, zq_bo9, zq_g, zq_cl, zq_leT, zq_leF, zq_ltT, zq_ltF, zq_eqT, zq_eqF, zq_em, zq_me, zq_pm, zq_mm, zq_gm, pk_sub, zI_s, zI_k, zI_c, zI_2, zL_s, zL_k, zL_c, zL_1, if_true, if_false, eq_self, Nat.zero_add, Nat.add_zero, g1, g2, k1]
theorem zx_semi {S : sh_St} {B : Nat → Nat} {E p : Nat} (hT : zTX S B E) (hE : E ≤ 400) (hB : ∀ k, B k < 256) (h2 : S.1 3 2 = nI p) (hp : p ≤ E) : ∃ S', fX10_passSemicolon S = some (nI (if zbl B E p < E ∧ B (zbl B E p) = 59 then 1 else 0), S') ∧ S'.1 3 2 = nI (if zbl B E p < E ∧ B (zbl B E p) = 59 then zbl B E p + 1 else zbl B E p) ∧ zF2 S S' := by
  rw [fX10_passSemicolon]
  obtain ⟨S1, g1, g2, g3⟩ := zx_over hT hE hB h2 hp
  have hT1 := zTX_2 g3 hT
  have hbl := zbl_le B hp
  by_cases c : zbl B E p = E
  · rw [if_pos c] at g1
    rw [if_neg (by omega), if_neg (by omega)]
    refine ⟨S1, ?_, g2, g3⟩
    simp (disch := omega) only [zq_l9, pk_mul, nI_add, zq_t9, zq_c9, zq_bz9, zq_bo9, zq_g, zq_cl, zq_leT, zq_leF, zq_ltT, zq_ltF, zq_eqT, zq_eqF, zq_em, zq_me, zq_pm, zq_mm, zq_gm, pk_sub, zI_s, zI_k, zI_c, zI_2, zL_s, zL_k, zL_c, zL_1, if_true, if_false, eq_self, Nat.zero_add, Nat.add_zero, g1]
  · rw [if_neg c] at g1
    have hb := zx_byteAt hT1 (k := zbl B E p) (by omega)
    have hB' := hB (zbl B E p)
    by_cases d : B (zbl B E p) = 59
    · rw [if_pos ⟨by omega, d⟩, if_pos ⟨by omega, d⟩]
      refine ⟨sh_I S1 3 2 (nI (zbl B E p + 1)), ?_, zI_s _ _ _ _, zF2_tr g3 (zF2_I S1 _)⟩
      simp (disch := omega) only [zq_l9, pk_mul, nI_add, zq_t9, zq_c9, zq_bz9, zq_bo9, zq_g, zq_cl, zq_leT, zq_leF, zq_ltT, zq_ltF, zq_eqT, zq_eqF, zq_em, zq_me, zq_pm, zq_mm, zq_gm, pk_sub, zI_s, zI_k, zI_c, zI_2, zL_s, zL_k, zL_c, zL_1, if_true, if_false, eq_self, Nat.zero_add, Nat.add_zero, g1, g2, hb, d]
    · rw [if_neg (fun w => d w.2), if_neg (fun w => d w.2)]
      refine ⟨S1, ?_, g2, g3⟩
      simp (disch := omega) only [zq_l9, pk_mul, nI_add, zq_t9, zq_c9, zq_bz9, zq_bo9, zq_g, zq_cl, zq_leT, zq_leF, zq_ltT, zq_ltF, zq_eqT, zq_eqF, zq_em, zq_me, zq_pm, zq_mm, zq_gm, pk_sub, zI_s, zI_k, zI_c, zI_2, zL_s, zL_k, zL_c, zL_1, if_true, if_false, eq_self, Nat.zero_add, Nat.add_zero, g1, g2, hb]
/-- the readers, closed or as they were -/
def zRD (c : Nat) (S S' : sh_St) : Prop := ∀ r, r < 4 → (∀ k, k ≠ 1 → S'.1 (132 + 2 * r) k = S.1 (132 + 2 * r) k) ∧ S'.1 (132 + 2 * r) 1 = (if c = 1 then nI 0 else S.1 (132 + 2 * r) 1) ∧ S'.1 (133 + 2 * r) = S.1 (133 + 2 * r)
theorem zRD_rf (S : sh_St) : zRD 0 S S := fun r _ => ⟨fun _ _ => rfl, (if_neg (by omega)).symm, rfl⟩
theorem zRD_eq {c : Nat} {S S1 S2 S3 : sh_St} (h : zRD c S1 S2) (h1 : ∀ i, 132 ≤ i → S1.1 i = S.1 i) (h2 : ∀ i, 132 ≤ i → S3.1 i = S2.1 i) : zRD c S S3 := fun r hr => by
  rw [h2 _ (by omega), h2 _ (by omega), ← h1 _ (by omega), ← h1 _ (by omega)]
  exact h r hr
theorem zx_close_l : ∀ (n r : Nat) (S : sh_St), r ≤ 4 → 4 - r < n → ∃ S', fX12_closeReaders_2 n S (nI r) = some ((), S') ∧ S'.2 = S.2 ∧ (∀ i, i < 132 → S'.1 i = S.1 i) ∧ (∀ j, j < 4 → (∀ k, k ≠ 1 → S'.1 (132 + 2 * j) k = S.1 (132 + 2 * j) k) ∧ S'.1 (132 + 2 * j) 1 = (if r ≤ j then nI 0 else S.1 (132 + 2 * j) 1) ∧ S'.1 (133 + 2 * j) = S.1 (133 + 2 * j)) := by
  intro n
  induction n with
  | zero => intro r S _ h; omega
  | succ n ih =>
    intro r S hr hn
    rw [fX12_closeReaders_2]
    by_cases c : r = 4
    · subst c
      refine ⟨S, ?_, rfl, fun _ _ => rfl, fun j hj => ⟨fun _ _ => rfl, (if_neg (by omega)).symm, rfl⟩⟩
      simp (disch := omega) only [zq_l9, pk_mul, nI_add, zq_t9, zq_c9, zq_bz9, zq_bo9, zq_g, zq_cl, zq_leT, zq_leF, zq_ltT, zq_ltF, zq_eqT, zq_eqF, zq_em, zq_me, zq_pm, zq_mm, zq_gm, pk_sub, zI_s, zI_k, zI_c, zI_2, zL_s, zL_k, zL_c, zL_1, if_true, if_false, eq_self, Nat.zero_add, Nat.add_zero]
    · obtain ⟨S', f1, f2, f3, f4⟩ := ih (r + 1) (sh_I S (132 + 2 * r) 1 (nI 0)) (by omega) (by omega)
      refine ⟨S', ?_, f2, fun i hi => ?_, fun j hj => ?_⟩
      · simp (disch := omega) only [zq_l9, pk_mul, nI_add, zq_t9, zq_c9, zq_bz9, zq_bo9, zq_g, zq_cl, zq_leT, zq_leF, zq_ltT, zq_ltF, zq_eqT, zq_eqF, zq_em, zq_me, zq_pm, zq_mm, zq_gm, pk_sub, zI_s, zI_k, zI_c, zI_2, zL_s, zL_k, zL_c, zL_1, if_true, if_false, eq_self, Nat.zero_add, Nat.add_zero, f1]
      · rw [f3 i hi, zI_c S _ 1 _ (by omega)]
      · obtain ⟨a1, a2, a3⟩ := f4 j hj
        by_cases e : j = r
        · subst e
          refine ⟨fun k hk => ?_, ?_, ?_⟩
          · rw [a1 k hk, zI_k S _ 1 _ hk]
          · rw [a2, if_neg (by omega), if_pos (by omega), zI_s]
          · rw [a3, zI_c S _ 1 _ (by omega)]
        · refine ⟨fun k hk => ?_, ?_, ?_⟩
          · rw [a1 k hk, zI_c S _ 1 _ (by omega)]
          · rw [a2, zI_c S _ 1 _ (by omega)]
            by_cases g : r ≤ j
            · rw [if_pos g, if_pos (by omega)]
            · rw [if_neg g, if_neg (by omega)]
          · rw [a3, zI_c S _ 1 _ (by omega)]
theorem zx_close (S : sh_St) : ∃ S', fX12_closeReaders S = some ((), S') ∧ S'.2 = S.2 ∧ (∀ i, i < 132 → S'.1 i = S.1 i) ∧ zRD 1 S S' := by
  obtain ⟨S', f1, f2, f3, f4⟩ := zx_close_l sh_FU 0 S (by omega) (by decide)
  refine ⟨S', f1, f2, f3, fun r hr => ?_⟩
  obtain ⟨a1, a2, a3⟩ := f4 r hr
  rw [if_pos (by omega)] at a2
  exact ⟨a1, by rw [if_pos rfl]; exact a2, a3⟩
/-- the acts of a text: 0 and how many, or 1 and the wrong byte; the number by which one is refused; the tree; whether it is tuned -/
noncomputable def zA (B : Nat → Nat) (E p : Nat) : Nat := zai B (zbl B E p) (zne B E p - zbl B E p)
theorem zA_le (B : Nat → Nat) (E p : Nat) : zA B E p ≤ 9 := by
  have := (zfi_le (zwb B (zbl B E p) (zne B E p - zbl B E p)) 9 0).2
  unfold zA zai
  omega
noncomputable def zan (B : Nat → Nat) (E p : Nat) : Int64 := zn1 B E (zA B E p) (zne B E p)
noncomputable def zam (B : Nat → Nat) (E p : Nat) : Int64 := zn2 B E (zA B E p) (zne B E p)
noncomputable def zav (B : Nat → Nat) (E p : Nat) : Nat := zvv B E (zA B E p) (zne B E p)
noncomputable def zaq (B : Nat → Nat) (E p : Nat) : Nat := zbl B E (zp3 B E (zA B E p) (zne B E p))
def ztu (a t : Nat) : Nat := if 3 ≤ a ∧ a ≤ 6 then 1 else t
noncomputable def ztx (B : Nat → Nat) (E : Nat) : Nat → zT → Nat → Nat → Nat → Nat × Nat × Nat × zT × Nat
  | 0, T, _, _, t => (1, 0, 0, T, t)
  | m + 1, T, p, d, t =>
    if zA B E p = 9 then (1, zbl B E p, 0, T, t)
    else @ite _ (zpo B E (zA B E p) (zne B E p)) (Classical.propDecidable _)
      (if zref T (zA B E p) (zan B E p) (zam B E p) (zav B E p) = 0 then
        (if zaq B E p = E then (0, d + 1, 0, zact T (zA B E p) (zan B E p) (zam B E p) (zav B E p), ztu (zA B E p) t)
         else if B (zaq B E p) = 59 then
           (if m = 0 then (1, zbl B E (zaq B E p + 1), 0, T, t) else ztx B E m (zact T (zA B E p) (zan B E p) (zam B E p) (zav B E p)) (zaq B E p + 1) (d + 1) (ztu (zA B E p) t))
         else (1, zaq B E p, 0, T, t))
       else (1, zbl B E p, zref T (zA B E p) (zan B E p) (zam B E p) (zav B E p), T, t))
      (1, zpf B E (zA B E p) (zne B E p), 0, T, t)
/-- an act that is read rightly is one -/
theorem zpo_rg {B : Nat → Nat} (hB : ∀ k, B k < 256) {E a q : Nat} (ha : a < 9) (h : zpo B E a q) : zrg a (zvv B E a q) ∧ (a < 3 → zval (zn1 B E a q)) ∧ (a = 2 → zval (zn2 B E a q)) := by
  obtain ⟨h1, h2, h3⟩ := h
  have hnc : a < 3 → 1 ≤ znc a := fun q => by unfold znc; (repeat' split) <;> omega
  have hnum : ∀ c, zhn c = true → c = a → zlo a ≤ zvv B E a q ∧ zvv B E a q ≤ zhi a := fun c hc e => by
    subst e
    have := h3 hc
    unfold zvv
    rw [if_pos hc]
    exact ⟨this.2.2.1, this.2.2.2⟩
  refine ⟨⟨ha, fun e => ?_, fun e => ?_, fun e => ?_, fun e => ?_⟩, fun e => ?_, fun e => ?_⟩
  · have := hnum 0 rfl e.symm; subst e; exact this.2
  · have := hnum 3 rfl e.symm; subst e; exact this
  · have := hnum 4 rfl e.symm; subst e; have h9 : zhi 4 = 65535 := rfl; omega
  · have := hnum 7 rfl e.symm; subst e; have h9 : zhi 7 = 39 := rfl; omega
  · have := hnc e
    unfold zn1
    rw [if_neg (by omega)]
    exact znm_val hB (h1 this)
  · have : znc a = 2 := by rw [e]; rfl
    unfold zn2
    rw [if_neg (by omega)]
    exact znm_val hB (h2 (by omega))
/-- what a text may change of the class beside the store, the text, the readers -/
def zFd (S S' : sh_St) : Prop := (∀ k, k ≠ 10 → S'.1 0 k = S.1 0 k) ∧ S'.2 0 = S.2 0 ∧ ∀ i, (i = 1 ∨ i = 2 ∨ (14 ≤ i ∧ i ≤ 115) ∨ (128 ≤ i ∧ i < 132)) → S'.1 i = S.1 i ∧ S'.2 i = S.2 i
theorem zFd_rf (S : sh_St) : zFd S S := ⟨fun _ _ => rfl, rfl, fun _ _ => ⟨rfl, rfl⟩⟩
theorem zFd_tr {S S1 S2 : sh_St} (h1 : zFd S S1) (h2 : zFd S1 S2) : zFd S S2 := ⟨fun k hk => (h2.1 k hk).trans (h1.1 k hk), h2.2.1.trans h1.2.1, fun i hi => ⟨(h2.2.2 i hi).1.trans (h1.2.2 i hi).1, (h2.2.2 i hi).2.trans (h1.2.2 i hi).2⟩⟩
theorem zFd_c {S S' : sh_St} (h : zFc S S') : zFd S S' := ⟨fun k _ => by rw [(h 0 (by omega)).1], (h 0 (by omega)).2, fun i hi => h i (by omega)⟩
theorem zFd_3 {S S' : sh_St} (h : zFr 3 3 S S') : zFd S S' := ⟨fun k _ => by rw [(h 0 (by omega)).1], (h 0 (by omega)).2, fun i hi => h i (by omega)⟩
theorem zFr_F3 {S S' : sh_St} (h : zF3 S S') : zFr 3 3 S S' := fun i hi => ⟨h.2.2 i (by omega), by rw [h.2.1]⟩
theorem zVX_33 {S S' : sh_St} {T : zT} (h : zFr 3 3 S S') (hv : zVX S 4 T) : zVX S' 4 T := zVX_fr h (Or.inr (by omega)) hv
theorem zTX_c {S S' : sh_St} {B : Nat → Nat} {E : Nat} (hf : zFc S S') (h : zTX S B E) : zTX S' B E := by
  unfold zTX
  rw [(hf 3 (by omega)).1, (hf 2 (by omega)).1]
  exact h
