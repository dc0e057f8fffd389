/-! a text's acts: the class, all -/
theorem zx_endText {S : sh_St} {B : Nat → Nat} {E p : Nat} (hT : zTX S B E) (hE : E ≤ 400) (hB : ∀ k, B k < 256) (h2 : S.1 3 2 = nI p) (hp : p ≤ E) (h3 : S.1 3 3 = -nI 1) {t : Nat} (ht : t ≤ 1) (c : Nat) :
    (zbl B E p = E → ∃ S', fX12_endText S (nI t) (nI c) = some (nI c, S') ∧ S'.1 3 3 = -nI 1 ∧ zFd S S' ∧ S'.1 0 = S.1 0 ∧ (∀ i, 4 ≤ i → i < 132 → S'.1 i = S.1 i ∧ S'.2 i = S.2 i) ∧ zRD t S S') ∧
    (zbl B E p ≠ E → ∃ S', fX12_endText S (nI t) (nI c) = some (-nI 1, S') ∧ S'.1 3 3 = nI (zbl B E p) ∧ zFr 3 3 S S') := by
  have hbl := zbl_le B hp
  obtain ⟨S1, g1, g2, g3⟩ := zx_right hT hE hB h2 hp
  have f3 := zFr_F3 g2
  rw [fX12_endText]
  refine ⟨fun q => ?_, fun q => ?_⟩
  · rw [if_pos q, h3] at g3
    rw [if_pos g3] at g1
    by_cases t0 : t = 0
    · subst t0
      refine ⟨S1, ?_, g3, zFd_3 f3, (f3 0 (by omega)).1, fun i h1 h2 => f3 i (by omega), zRD_eq (zRD_rf S) (fun _ _ => rfl) (fun i hi => (f3 i (by omega)).1)⟩
      simp (disch := omega) only [zq_l9, pk_mul, nI_add, zq_t9, zq_c9, zq_bz9, zq_bo9, zq_g, zq_cl, zq_leT, zq_leF, zq_ltT, zq_ltF, zq_eqT, zq_eqF, zq_em, zq_me, zq_pm, zq_mm, zq_gm, pk_sub, zI_s, zI_k, zI_c, zI_2, zL_s, zL_k, zL_c, zL_1, if_true, if_false, eq_self, Nat.zero_add, Nat.add_zero, g1]
    · have t1 : t = 1 := by omega
      subst t1
      obtain ⟨S2, k1, k2, k3, k4⟩ := zx_close S1
      have kf : ∀ i, i < 132 → S2.1 i = S1.1 i ∧ S2.2 i = S1.2 i := fun i hi => ⟨k3 i hi, by rw [k2]⟩
      refine ⟨S2, ?_, ?_, zFd_tr (zFd_3 f3) ⟨fun k _ => by rw [(kf 0 (by omega)).1], (kf 0 (by omega)).2, fun i hi => kf i (by omega)⟩, (kf 0 (by omega)).1.trans (f3 0 (by omega)).1, fun i h1 h2 => ⟨(kf i h2).1.trans (f3 i (by omega)).1, (kf i h2).2.trans (f3 i (by omega)).2⟩, zRD_eq k4 (fun i hi => (f3 i (by omega)).1) (fun _ _ => rfl)⟩
      · simp (disch := omega) only [zq_l9, pk_mul, nI_add, zq_t9, zq_c9, zq_bz9, zq_bo9, zq_g, zq_cl, zq_leT, zq_leF, zq_ltT, zq_ltF, zq_eqT, zq_eqF, zq_em, zq_me, zq_pm, zq_mm, zq_gm, pk_sub, zI_s, zI_k, zI_c, zI_2, zL_s, zL_k, zL_c, zL_1, if_true, if_false, eq_self, Nat.zero_add, Nat.add_zero, g1, k1]
      · rw [(kf 3 (by omega)).1]; exact g3
  · rw [if_neg q, h3, zfw_m] at g3
    rw [if_neg (by rw [g3]; exact zq_n1 (by omega))] at g1
    refine ⟨S1, ?_, g3, f3⟩
    simp (disch := omega) only [zq_l9, pk_mul, nI_add, zq_t9, zq_c9, zq_bz9, zq_bo9, zq_g, zq_cl, zq_leT, zq_leF, zq_ltT, zq_ltF, zq_eqT, zq_eqF, zq_em, zq_me, zq_pm, zq_mm, zq_gm, pk_sub, zI_s, zI_k, zI_c, zI_2, zL_s, zL_k, zL_c, zL_1, if_true, if_false, eq_self, Nat.zero_add, Nat.add_zero, g1]
theorem zx_153 {S : sh_St} {B : Nat → Nat} {E p : Nat} (hT : zTX S B E) (hE : E ≤ 400) (hB : ∀ k, B k < 256) (h2 : S.1 3 2 = nI p) (hp : p ≤ E) (h3 : S.1 3 3 = -nI 1) {t : Nat} (ht : t ≤ 1) (c : Nat) (rk : sh_St → Int32 → Int32 → Option (Int32 × sh_St)) :
    (zbl B E p = E → ∃ S', fX12_doText_153 rk S (nI c) (nI t) = some (nI c, S') ∧ S'.1 3 3 = -nI 1 ∧ zFd S S' ∧ S'.1 0 = S.1 0 ∧ (∀ i, 4 ≤ i → i < 132 → S'.1 i = S.1 i ∧ S'.2 i = S.2 i) ∧ zRD t S S') ∧
    (zbl B E p ≠ E → B (zbl B E p) = 59 → ∃ S', fX12_doText_153 rk S (nI c) (nI t) = rk S' (nI t) (nI (c + 1)) ∧ S'.1 3 2 = nI (zbl B E p + 1) ∧ zF2 S S') ∧
    (zbl B E p ≠ E → B (zbl B E p) ≠ 59 → ∃ S', fX12_doText_153 rk S (nI c) (nI t) = some (-nI 1, S') ∧ S'.1 3 3 = nI (zbl B E p) ∧ zFr 3 3 S S') := by
  have hbl := zbl_le B hp
  obtain ⟨S1, g1, g2, g3⟩ := zx_semi hT hE hB h2 hp
  have f3 := zFr_F3 (zF3_2 g3)
  have hT1 := zTX_2 g3 hT
  have h31 : S1.1 3 3 = -nI 1 := (g3.1 3 (by omega)).trans h3
  rw [fX12_doText_153]
  refine ⟨fun q => ?_, fun q w => ?_, fun q w => ?_⟩
  · have hz : ¬ (zbl B E p < E ∧ B (zbl B E p) = 59) := by omega
    rw [if_neg hz] at g1 g2
    obtain ⟨S2, k1, k2, k3, k4, k5, k6⟩ := (zx_endText hT1 hE hB g2 hbl.2 h31 ht c).1 (by rw [zbl_i B hp]; exact q)
    refine ⟨S2, ?_, k2, zFd_tr (zFd_3 f3) k3, k4.trans (f3 0 (by omega)).1, fun i h1 h2 => ⟨(k5 i h1 h2).1.trans (f3 i (by omega)).1, (k5 i h1 h2).2.trans (f3 i (by omega)).2⟩, zRD_eq k6 (fun i hi => (f3 i (by omega)).1) (fun _ _ => rfl)⟩
    simp (disch := omega) only [zq_l9, pk_mul, nI_add, zq_t9, zq_c9, zq_bz9, zq_bo9, zq_g, zq_cl, zq_leT, zq_leF, zq_ltT, zq_ltF, zq_eqT, zq_eqF, zq_em, zq_me, zq_pm, zq_mm, zq_gm, pk_sub, zI_s, zI_k, zI_c, zI_2, zL_s, zL_k, zL_c, zL_1, if_true, if_false, eq_self, Nat.zero_add, Nat.add_zero, g1, k1]
  · have hz : zbl B E p < E ∧ B (zbl B E p) = 59 := ⟨by omega, w⟩
    rw [if_pos hz] at g1 g2
    refine ⟨S1, ?_, g2, g3⟩
    simp (disch := omega) only [zq_l9, pk_mul, nI_add, zq_t9, zq_c9, zq_bz9, zq_bo9, zq_g, zq_cl, zq_leT, zq_leF, zq_ltT, zq_ltF, zq_eqT, zq_eqF, zq_em, zq_me, zq_pm, zq_mm, zq_gm, pk_sub, zI_s, zI_k, zI_c, zI_2, zL_s, zL_k, zL_c, zL_1, if_true, if_false, eq_self, Nat.zero_add, Nat.add_zero, g1]
  · have hz : ¬ (zbl B E p < E ∧ B (zbl B E p) = 59) := fun x => w x.2
    rw [if_neg hz] at g1 g2
    obtain ⟨S2, k1, k2, k3⟩ := (zx_endText hT1 hE hB g2 hbl.2 h31 ht c).2 (by rw [zbl_i B hp]; exact q)
    rw [zbl_i B hp] at k2
    refine ⟨S2, ?_, k2, zFr_tr f3 k3⟩
    simp (disch := omega) only [zq_l9, pk_mul, nI_add, zq_t9, zq_c9, zq_bz9, zq_bo9, zq_g, zq_cl, zq_leT, zq_leF, zq_ltT, zq_ltF, zq_eqT, zq_eqF, zq_em, zq_me, zq_pm, zq_mm, zq_gm, pk_sub, zI_s, zI_k, zI_c, zI_2, zL_s, zL_k, zL_c, zL_1, if_true, if_false, eq_self, Nat.zero_add, Nat.add_zero, g1, k1]
theorem zVX_rg {S S' : sh_St} {T : zT} (h : ∀ i, 4 ≤ i → i ≤ 13 → S'.1 i = S.1 i ∧ S'.2 i = S.2 i) (hv : zVX S 4 T) : zVX S' 4 T := by
  unfold zVX
  show (∀ b, b < 40 → S'.1 5 b = _ ∧ S'.1 6 b = _ ∧ S'.1 7 b = _ ∧ _) ∧ (∀ k, k < 240 → S'.2 8 k = _ ∧ (_ → S'.1 9 k = _ ∧ S'.1 10 k = _)) ∧ (∀ j, j < 240 → S'.1 11 j = _ ∧ S'.1 12 j = _ ∧ S'.1 13 j = _) ∧ S'.1 4 0 = _ ∧ S'.1 4 1 = _ ∧ S'.1 4 2 = _ ∧ S'.1 4 3 = _
  rw [(h 4 (by omega) (by omega)).1, (h 5 (by omega) (by omega)).1, (h 6 (by omega) (by omega)).1, (h 7 (by omega) (by omega)).1, (h 8 (by omega) (by omega)).2, (h 9 (by omega) (by omega)).1, (h 10 (by omega) (by omega)).1, (h 11 (by omega) (by omega)).1, (h 12 (by omega) (by omega)).1, (h 13 (by omega) (by omega)).1]
  exact hv
theorem zRD_0 {S S' : sh_St} (h : ∀ i, 132 ≤ i → S'.1 i = S.1 i) : zRD 0 S S' := zRD_eq (zRD_rf S) (fun _ _ => rfl) h
/-- the acts of a text, by the class -/
def zDX (S S' : sh_St) (r : Int32) (R : Nat × Nat × Nat × zT × Nat) : Prop := zFd S S' ∧ (R.1 = 0 → r = nI R.2.1 ∧ S'.1 3 3 = -nI 1 ∧ zVX S' 4 R.2.2.2.1 ∧ zG R.2.2.2.1 ∧ zRD R.2.2.2.2 S S' ∧ S'.1 0 10 = S.1 0 10) ∧ (R.1 ≠ 0 → r = -nI 1 ∧ S'.1 3 3 = nI R.2.1 ∧ S'.1 0 10 = (if R.2.2.1 = 0 then S.1 0 10 else nI R.2.2.1) ∧ zRD 0 S S')
theorem zDX_pre {S S1 S' : sh_St} {r : Int32} {R : Nat × Nat × Nat × zT × Nat} (h1 : zFd S S1) (h2 : S1.1 0 10 = S.1 0 10) (h3 : ∀ i, 132 ≤ i → S1.1 i = S.1 i) (h : zDX S1 S' r R) : zDX S S' r R := by
  obtain ⟨a, b, c⟩ := h
  refine ⟨zFd_tr h1 a, fun q => ?_, fun q => ?_⟩
  · obtain ⟨b1, b2, b3, b4, b5, b6⟩ := b q
    exact ⟨b1, b2, b3, b4, zRD_eq b5 h3 (fun _ _ => rfl), b6.trans h2⟩
  · obtain ⟨c1, c2, c3, c4⟩ := c q
    exact ⟨c1, c2, by rw [c3, h2], zRD_eq c4 h3 (fun _ _ => rfl)⟩
theorem zDX_bad {S S' : sh_St} {f c : Nat} {T : zT} {t : Nat} (h1 : zFd S S') (h2 : S'.1 3 3 = nI f) (h3 : S'.1 0 10 = (if c = 0 then S.1 0 10 else nI c)) (h4 : ∀ i, 132 ≤ i → S'.1 i = S.1 i) : zDX S S' (-nI 1) (1, f, c, T, t) := ⟨h1, fun q => absurd q (Nat.succ_ne_zero 0), fun _ => ⟨rfl, h2, h3, zRD_0 h4⟩⟩
theorem zref_le {T : zT} {a : Nat} {n m : Int64} {v : Nat} : zref T a n m v ≤ 5 := by
  unfold zref zrP zrC zrT zpco
  (repeat' split) <;> omega
theorem zx_doText_l {B : Nat → Nat} {E : Nat} (hE : E ≤ 400) (hB : ∀ k, B k < 256) : ∀ (m n d p t : Nat) (T : zT) (S : sh_St), d + m = 14 → 1 ≤ m → m < n → t ≤ 1 → zG T → zVX S 4 T → zTX S B E → S.1 3 2 = nI p → p ≤ E → S.1 3 3 = -nI 1 →
    ∃ r S', fX12_doText_16 n S (nI t) (nI (d + 1)) = some (r, S') ∧ zDX S S' r (ztx B E m T p d t) := by
  intro m
  induction m with
  | zero => intro n d p t T S _ h; omega
  | succ m ih =>
    intro n d p t T S hdm _ hn ht hG hv hT h2 hp h3
    obtain ⟨n, rfl⟩ : ∃ n', n = n' + 1 := ⟨n - 1, by omega⟩
    have hI := hG.1
    have hbl := zbl_le B hp
    have hne := zne_le B hp
    obtain ⟨S1, hT1, f1, y9, yok, ybad⟩ := zx_readAct hT hE hB h2 hp h3
    have eA : zai B (zbl B E p) (zne B E p - zbl B E p) = zA B E p := rfl
    rw [eA] at y9 yok ybad
    have hA9 := zA_le B E p
    have hF1 := zFd_3 f1
    have h0 : S1.1 0 = S.1 0 := (f1 0 (by omega)).1
    have hrd : ∀ i, 132 ≤ i → S1.1 i = S.1 i := fun i hi => (f1 i (by omega)).1
    rw [fX12_doText_16]
    by_cases c9 : zA B E p = 9
    · obtain ⟨y1, y2⟩ := y9 c9
      have eR : ztx B E (m + 1) T p d t = (1, zbl B E p, 0, T, t) := by rw [ztx, if_pos c9]
      rw [eR]
      refine ⟨-nI 1, S1, ?_, zDX_bad hF1 y2 (by rw [if_pos rfl, h0]) hrd⟩
      simp (disch := omega) only [zq_l9, pk_mul, nI_add, zq_t9, zq_c9, zq_bz9, zq_bo9, zq_g, zq_cl, zq_leT, zq_leF, zq_ltT, zq_ltF, zq_eqT, zq_eqF, zq_em, zq_me, zq_pm, zq_mm, zq_gm, pk_sub, zI_s, zI_k, zI_c, zI_2, zL_s, zL_k, zL_c, zL_1, if_true, if_false, eq_self, Nat.zero_add, Nat.add_zero, y1]
    · have ha : zA B E p < 9 := by omega
      by_cases cok : zpo B E (zA B E p) (zne B E p)
      · obtain ⟨y1, y3, y4, y5, y6, y7, y8, y2⟩ := yok ha cok
        obtain ⟨rg, hvn, hvm⟩ := zpo_rg hB ha cok
        have e6 : zn1 B E (zA B E p) (zne B E p) = zan B E p := rfl
        have e7 : zn2 B E (zA B E p) (zne B E p) = zam B E p := rfl
        have e8 : zvv B E (zA B E p) (zne B E p) = zav B E p := rfl
        rw [e6] at y6 hvn
        rw [e7] at y7 hvm
        rw [e8] at y8 rg
        have hp3 := zp3_le B (a := zA B E p) hne.2
        have hv1 := zVX_33 f1 hv
        obtain ⟨S2, k1, k2⟩ := zx_refusal hv1 hI (v := zav B E p) ha (zan B E p) (zam B E p) rg.2.2.2.2
        have hv2 := zVX_f4 k2 (by omega) hv1
        have k23 : S2.1 3 = S1.1 3 ∧ S2.2 3 = S1.2 3 := k2 3 (by omega)
        have z5 : S2.1 3 5 = nI (zA B E p) := by rw [k23.1]; exact y5
        have z6 : S2.2 3 6 = zan B E p := by rw [k23.2]; exact y6
        have z7 : S2.2 3 7 = zam B E p := by rw [k23.2]; exact y7
        have z8 : S2.1 3 8 = nI (zav B E p) := by rw [k23.1]; exact y8
        have z4 : S2.1 3 4 = nI (zbl B E p) := by rw [k23.1]; exact y4
        have hF2 : zFd S S2 := zFd_tr hF1 (zFd_c (zFc_fr k2 (by omega)))
        have hrd2 : ∀ i, 132 ≤ i → S2.1 i = S.1 i := fun i hi => (k2 i (by omega)).1.trans (hrd i hi)
        have h02 : S2.1 0 = S.1 0 := (k2 0 (by omega)).1.trans h0
        by_cases cr : zref T (zA B E p) (zan B E p) (zam B E p) (zav B E p) = 0
        · rw [cr] at k1
          have hG' := zG_act hG rg hvn hvm cr
          obtain ⟨S3, j1, j2, j3⟩ := zx_carry hv2 hI rg (zan B E p) (zam B E p) cr hG'.1
          have hT2 : zTX S2 B E := zTX_c (zFc_fr k2 (by omega)) hT1
          have hT3 := zTX_c j3 hT2
          have j33 : S3.1 3 = S2.1 3 := (j3 3 (by omega)).1
          have w5 : S3.1 3 5 = nI (zA B E p) := by rw [j33]; exact z5
          have w2 : S3.1 3 2 = nI (zp3 B E (zA B E p) (zne B E p)) := by rw [j33, k23.1]; exact y2
          have w3 : S3.1 3 3 = -nI 1 := by rw [j33, k23.1]; exact y3
          have hF3 : zFd S S3 := zFd_tr hF2 (zFd_c j3)
          have hrd3 : ∀ i, 132 ≤ i → S3.1 i = S.1 i := fun i hi => (j3 i (by omega)).1.trans (hrd2 i hi)
          have h03 : S3.1 0 = S.1 0 := (j3 0 (by omega)).1.trans h02
          have htu := zt_tu' (zA B E p) ha
          have hgo : (if nI 14 < nI (d + 1) then (sh_c (fX10_skipBlanks S) fun _ S3 => sh_c (fX10_markWrong S3 (S3.1 3 2)) fun _ S5 => some (-1, S5)) else sh_c (fX10_readAct S) fun r8 S7 => if r8 = 0 then some (-1, S7) else sh_c (fX4_refusalOf S7 (S7.1 3 5) (S7.2 3 6) (S7.2 3 7) (S7.1 3 8)) fun r10 S9 => if r10 = 0 then sh_c (fX4_carryOut S9 (S9.1 3 5) (S9.2 3 6) (S9.2 3 7) (S9.1 3 8)) fun r12 S11 => if nI t = 0 then sh_g (S11.1 3 5) 9 (if (([0, 0, 0, 1, 1, 1, 1, 0, 0] : List Int32).getD (S11.1 3 5).toNatClampNeg 0) = 0 then fX12_doText_153 (fX12_doText_16 n) S11 (nI (d + 1)) 0 else fX12_doText_148 (fX12_doText_16 n) S11 (nI (d + 1))) else fX12_doText_148 (fX12_doText_16 n) S11 (nI (d + 1)) else sh_t (sh_I S9 0 10 r10) fun S18 => sh_c (fX10_markWrong S18 (S18.1 3 4)) fun _ S19 => some (-1, S19)) = fX12_doText_153 (fX12_doText_16 n) S3 (nI (d + 1)) (nI (ztu (zA B E p) t)) := by
            unfold ztu
            by_cases tu : 3 ≤ zA B E p ∧ zA B E p ≤ 6
            · rw [if_pos tu] at htu ⊢
              by_cases t0 : t = 0
              · simp (disch := omega) only [zq_l9, pk_mul, nI_add, zq_t9, zq_c9, zq_bz9, zq_bo9, zq_g, zq_cl, zq_leT, zq_leF, zq_ltT, zq_ltF, zq_eqT, zq_eqF, zq_em, zq_me, zq_pm, zq_mm, zq_gm, pk_sub, zI_s, zI_k, zI_c, zI_2, zL_s, zL_k, zL_c, zL_1, if_true, if_false, eq_self, Nat.zero_add, Nat.add_zero, y1, y5, y6, y7, y8, k1, z5, z6, z7, z8, j1, w5, htu, t0, fX12_doText_148]
              · simp (disch := omega) only [zq_l9, pk_mul, nI_add, zq_t9, zq_c9, zq_bz9, zq_bo9, zq_g, zq_cl, zq_leT, zq_leF, zq_ltT, zq_ltF, zq_eqT, zq_eqF, zq_em, zq_me, zq_pm, zq_mm, zq_gm, pk_sub, zI_s, zI_k, zI_c, zI_2, zL_s, zL_k, zL_c, zL_1, if_true, if_false, eq_self, Nat.zero_add, Nat.add_zero, y1, y5, y6, y7, y8, k1, z5, z6, z7, z8, j1, w5, htu, fX12_doText_148]
            · rw [if_neg tu] at htu ⊢
              by_cases t0 : t = 0
              · simp (disch := omega) only [zq_l9, pk_mul, nI_add, zq_t9, zq_c9, zq_bz9, zq_bo9, zq_g, zq_cl, zq_leT, zq_leF, zq_ltT, zq_ltF, zq_eqT, zq_eqF, zq_em, zq_me, zq_pm, zq_mm, zq_gm, pk_sub, zI_s, zI_k, zI_c, zI_2, zL_s, zL_k, zL_c, zL_1, if_true, if_false, eq_self, Nat.zero_add, Nat.add_zero, y1, y5, y6, y7, y8, k1, z5, z6, z7, z8, j1, w5, htu, t0, fX12_doText_148]
              · have t1 : t = 1 := by omega
                simp (disch := omega) only [zq_l9, pk_mul, nI_add, zq_t9, zq_c9, zq_bz9, zq_bo9, zq_g, zq_cl, zq_leT, zq_leF, zq_ltT, zq_ltF, zq_eqT, zq_eqF, zq_em, zq_me, zq_pm, zq_mm, zq_gm, pk_sub, zI_s, zI_k, zI_c, zI_2, zL_s, zL_k, zL_c, zL_1, if_true, if_false, eq_self, Nat.zero_add, Nat.add_zero, y1, y5, y6, y7, y8, k1, z5, z6, z7, z8, j1, w5, htu, t1, fX12_doText_148]
          have htu1 : ztu (zA B E p) t ≤ 1 := by unfold ztu; split <;> omega
          obtain ⟨x1, x2, x3⟩ := zx_153 hT3 hE hB w2 hp3 w3 htu1 (d + 1) (fX12_doText_16 n)
          have eq : zbl B E (zp3 B E (zA B E p) (zne B E p)) = zaq B E p := rfl
          rw [eq] at x1 x2 x3
          have hq := zbl_le B hp3
          rw [eq] at hq
          by_cases ce : zaq B E p = E
          · obtain ⟨S4, u1, u2, u3, u4, u5, u6⟩ := x1 ce
            have eR : ztx B E (m + 1) T p d t = (0, d + 1, 0, zact T (zA B E p) (zan B E p) (zam B E p) (zav B E p), ztu (zA B E p) t) := by rw [ztx, if_neg c9, if_pos cok, if_pos cr, if_pos ce]
            rw [eR]
            refine ⟨nI (d + 1), S4, hgo.trans u1, zFd_tr hF3 u3, fun _ => ⟨rfl, u2, ?_, hG', zRD_eq u6 hrd3 (fun _ _ => rfl), by rw [u4, h03]⟩, fun q => absurd rfl q⟩
            exact zVX_rg (fun i h1 h2 => u5 i h1 (by omega)) j2
          · by_cases cs : B (zaq B E p) = 59
            · obtain ⟨S4, u1, u2, u3⟩ := x2 ce cs
              have hT4 := zTX_2 u3 hT3
              have f4 := zFr_F3 (zF3_2 u3)
              have hF4 : zFd S S4 := zFd_tr hF3 (zFd_3 f4)
              have hrd4 : ∀ i, 132 ≤ i → S4.1 i = S.1 i := fun i hi => (f4 i (by omega)).1.trans (hrd3 i hi)
              have h04 : S4.1 0 = S.1 0 := (f4 0 (by omega)).1.trans h03
              have h43 : S4.1 3 3 = -nI 1 := (u3.1 3 (by omega)).trans w3
              by_cases cm : m = 0
              · have eR : ztx B E (m + 1) T p d t = (1, zbl B E (zaq B E p + 1), 0, T, t) := by rw [ztx, if_neg c9, if_pos cok, if_pos cr, if_neg ce, if_pos cs, if_pos cm]
                rw [eR]
                obtain ⟨n, rfl⟩ : ∃ n', n = n' + 1 := ⟨n - 1, by omega⟩
                obtain ⟨S5, v1, v2, v3⟩ := zx_skip hT4 hE hB u2 (by omega)
                obtain ⟨S6, o1, o2, o3, o4⟩ := zx_wrong S5 (zbl B E (zaq B E p + 1))
                have f5 := zFr_F3 (zF3_2 v3)
                have f6 := zFr_F3 o4
                refine ⟨-nI 1, S6, ?_, zDX_bad (zFd_tr hF4 (zFd_tr (zFd_3 f5) (zFd_3 f6))) ?_ ?_ (fun i hi => (f6 i (by omega)).1.trans ((f5 i (by omega)).1.trans (hrd4 i hi)))⟩
                · refine hgo.trans (u1.trans ?_)
                  rw [fX12_doText_16]
                  simp (disch := omega) only [zq_l9, pk_mul, nI_add, zq_t9, zq_c9, zq_bz9, zq_bo9, zq_g, zq_cl, zq_leT, zq_leF, zq_ltT, zq_ltF, zq_eqT, zq_eqF, zq_em, zq_me, zq_pm, zq_mm, zq_gm, pk_sub, zI_s, zI_k, zI_c, zI_2, zL_s, zL_k, zL_c, zL_1, if_true, if_false, eq_self, Nat.zero_add, Nat.add_zero, v1, v2, o1]
                · rw [o2, v3.1 3 (by omega), h43, zfw_m]
                · rw [if_pos rfl, (f6 0 (by omega)).1, (f5 0 (by omega)).1, h04]
              · have eR : ztx B E (m + 1) T p d t = ztx B E m (zact T (zA B E p) (zan B E p) (zam B E p) (zav B E p)) (zaq B E p + 1) (d + 1) (ztu (zA B E p) t) := by rw [ztx, if_neg c9, if_pos cok, if_pos cr, if_neg ce, if_pos cs, if_neg cm]
                rw [eR]
                obtain ⟨r, S', i1, i2⟩ := ih n (d + 1) (zaq B E p + 1) (ztu (zA B E p) t) _ S4 (by omega) (by omega) (by omega) htu1 hG' (zVX_33 f4 j2) hT4 u2 (by omega) h43
                exact ⟨r, S', hgo.trans (u1.trans i1), zDX_pre hF4 (by rw [h04]) hrd4 i2⟩
            · obtain ⟨S4, u1, u2, u3⟩ := x3 ce cs
              have eR : ztx B E (m + 1) T p d t = (1, zaq B E p, 0, T, t) := by rw [ztx, if_neg c9, if_pos cok, if_pos cr, if_neg ce, if_neg cs]
              rw [eR]
              exact ⟨-nI 1, S4, hgo.trans u1, zDX_bad (zFd_tr hF3 (zFd_3 u3)) u2 (by rw [if_pos rfl, (u3 0 (by omega)).1, h03]) (fun i hi => (u3 i (by omega)).1.trans (hrd3 i hi))⟩
        · have eR : ztx B E (m + 1) T p d t = (1, zbl B E p, zref T (zA B E p) (zan B E p) (zam B E p) (zav B E p), T, t) := by rw [ztx, if_neg c9, if_pos cok, if_neg cr]
          rw [eR]
          have hr5 := zref_le (T := T) (a := zA B E p) (n := zan B E p) (m := zam B E p) (v := zav B E p)
          generalize zref T (zA B E p) (zan B E p) (zam B E p) (zav B E p) = r at *
          obtain ⟨S3, o1, o2, o3, o4⟩ := zx_wrong (sh_I S2 0 10 (nI r)) (zbl B E p)
          have f3' := zFr_F3 o4
          refine ⟨-nI 1, S3, ?_, zDX_bad (zFd_tr hF2 (zFd_tr ⟨fun k hk => zI_k S2 0 10 _ hk, rfl, fun i hi => sh_I_ne S2 0 10 _ i (by omega)⟩ (zFd_3 f3'))) ?_ ?_ (fun i hi => (f3' i (by omega)).1.trans ((sh_I_ne S2 0 10 _ i (by omega)).1.trans (hrd2 i hi)))⟩
          · simp (disch := omega) only [zq_l9, pk_mul, nI_add, zq_t9, zq_c9, zq_bz9, zq_bo9, zq_g, zq_cl, zq_leT, zq_leF, zq_ltT, zq_ltF, zq_eqT, zq_eqF, zq_em, zq_me, zq_pm, zq_mm, zq_gm, pk_sub, zI_s, zI_k, zI_c, zI_2, zL_s, zL_k, zL_c, zL_1, if_true, if_false, eq_self, Nat.zero_add, Nat.add_zero, y1, y5, y6, y7, y8, k1, z4, o1]
          · rw [o2, zI_c S2 0 10 _ (by omega), k23.1, y3, zfw_m]
          · rw [if_neg cr, (f3' 0 (by omega)).1, zI_s]
      · obtain ⟨y1, y2⟩ := ybad ha cok
        have eR : ztx B E (m + 1) T p d t = (1, zpf B E (zA B E p) (zne B E p), 0, T, t) := by rw [ztx, if_neg c9, if_neg cok]
        rw [eR]
        refine ⟨-nI 1, S1, ?_, zDX_bad hF1 y2 (by rw [if_pos rfl, h0]) hrd⟩
        simp (disch := omega) only [zq_l9, pk_mul, nI_add, zq_t9, zq_c9, zq_bz9, zq_bo9, zq_g, zq_cl, zq_leT, zq_leF, zq_ltT, zq_ltF, zq_eqT, zq_eqF, zq_em, zq_me, zq_pm, zq_mm, zq_gm, pk_sub, zI_s, zI_k, zI_c, zI_2, zL_s, zL_k, zL_c, zL_1, if_true, if_false, eq_self, Nat.zero_add, Nat.add_zero, y1]
