/-! an act of a text is read: the class -/
theorem zfw_m (p : Nat) : zfw (-nI 1) p = nI p := if_pos rfl
theorem zfw_n {f : Nat} (hf : f < 2 ^ 31) (p : Nat) : zfw (nI f) p = nI f := if_neg (zq_n1 hf)
theorem zfw_f (w : Int32) {x : Nat} (hx : x < 2 ^ 31) (y : Nat) : zfw (zfw w x) y = zfw w x := by
  by_cases c : w = -nI 1
  · rw [c, zfw_m, zfw_n hx]
  · have e : zfw w x = w := if_neg c
    rw [e]
    exact if_neg c
def zp1 (B : Nat → Nat) (E a q : Nat) : Nat := if znc a = 0 then q else zne B E q
def zp2 (B : Nat → Nat) (E a q : Nat) : Nat := if znc a ≤ 1 then zp1 B E a q else zne B E (zp1 B E a q)
def zp3 (B : Nat → Nat) (E a q : Nat) : Nat := if zhn a = true then zde B E (zp2 B E a q) else zp2 B E a q
def zpo (B : Nat → Nat) (E a q : Nat) : Prop := (1 ≤ znc a → zno B E q) ∧ (2 ≤ znc a → zno B E (zp1 B E a q)) ∧ (zhn a = true → zdo B E (zlo a) (zhi a) (zp2 B E a q))
noncomputable def zpf (B : Nat → Nat) (E a q : Nat) : Nat := @ite _ (1 ≤ znc a ∧ ¬ zno B E q) (Classical.propDecidable _) (zbl B E q) (@ite _ (2 ≤ znc a ∧ ¬ zno B E (zp1 B E a q)) (Classical.propDecidable _) (zbl B E (zp1 B E a q)) (zbl B E (zp2 B E a q)))
def zn1 (B : Nat → Nat) (E a q : Nat) : Int64 := if znc a = 0 then 0 else znm B E q
def zn2 (B : Nat → Nat) (E a q : Nat) : Int64 := if znc a ≤ 1 then 0 else znm B E (zp1 B E a q)
def zvv (B : Nat → Nat) (E a q : Nat) : Nat := if zhn a = true then zdv B E (zp2 B E a q) else 0
theorem zp1_le (B : Nat → Nat) {E a q : Nat} (h : q ≤ E) : zp1 B E a q ≤ E := by
  unfold zp1
  split
  · exact h
  · exact (zne_le B h).2
theorem zp2_le (B : Nat → Nat) {E a q : Nat} (h : q ≤ E) : zp2 B E a q ≤ E := by
  unfold zp2
  split
  · exact zp1_le B h
  · exact (zne_le B (zp1_le B h)).2
theorem zp3_le (B : Nat → Nat) {E a q : Nat} (h : q ≤ E) : zp3 B E a q ≤ E := by
  unfold zp3
  split
  · exact (zde_le B (zp2_le B h)).2
  · exact zp2_le B h
theorem znc_le (a : Nat) : znc a ≤ 2 := by unfold znc; (repeat' split) <;> omega
theorem zx_a68 {S : sh_St} {B : Nat → Nat} {E : Nat} (hT : zTX S B E) (hE : E ≤ 400) (hB : ∀ k, B k < 256) {a q : Nat} (ha : a < 9) (h5 : S.1 3 5 = nI a) (t : Int64) (h2 : S.1 3 2 = nI q) (hq : q ≤ E) :
    ∃ S', fX10_readAct_68 S t = some (nI (if S'.1 3 3 = -nI 1 then 1 else 0), S') ∧ S'.2 3 6 = t ∧ S'.1 3 4 = S.1 3 4 ∧ S'.1 3 5 = nI a ∧ S'.1 3 1 = S.1 3 1 ∧ zFr 3 3 S S' ∧
    ((2 ≤ znc a → zno B E q) → (zhn a = true → zdo B E (zlo a) (zhi a) (if znc a ≤ 1 then q else zne B E q)) → S'.1 3 3 = S.1 3 3 ∧ S'.2 3 7 = (if znc a ≤ 1 then 0 else znm B E q) ∧ S'.1 3 8 = nI (if zhn a = true then zdv B E (if znc a ≤ 1 then q else zne B E q) else 0) ∧ S'.1 3 2 = nI (if zhn a = true then zde B E (if znc a ≤ 1 then q else zne B E q) else (if znc a ≤ 1 then q else zne B E q))) ∧
    (¬ (2 ≤ znc a → zno B E q) → S'.1 3 3 = zfw (S.1 3 3) (zbl B E q)) ∧
    ((2 ≤ znc a → zno B E q) → ¬ (zhn a = true → zdo B E (zlo a) (zhi a) (if znc a ≤ 1 then q else zne B E q)) → S'.1 3 3 = zfw (S.1 3 3) (zbl B E (if znc a ≤ 1 then q else zne B E q))) := by
  rw [fX10_readAct_68]
  have hnc := zt_nc' a ha
  have hn2 := znc_le a
  have fL : zFr 3 3 S (sh_L S 3 6 t) := zFr_L S _ _ (by omega) (by omega)
  have hT1 : zTX (sh_L S 3 6 t) B E := hT
  have h51 : (sh_L S 3 6 t).1 3 5 = nI a := h5
  have hbl := zbl_le B hq
  by_cases c : znc a ≤ 1
  · have hx : ∀ (x y : Nat), (if znc a ≤ 1 then x else y) = x := fun x y => if_pos c
    have hx2 : ∀ (x y : Int64), (if znc a ≤ 1 then x else y) = x := fun x y => if_pos c
    rw [hx, hx2]
    obtain ⟨S', f1, f2, f3, f4, f5, f6, f7, f8, f9⟩ := zx_a91 hT1 hE hB ha h51 0 h2 hq
    refine ⟨S', ?_, ?_, ?_, f5, ?_, zFr_tr fL f7, fun _ k3 => ?_, fun k2 => absurd (fun w => by omega) k2, fun _ k3 => ?_⟩
    · rw [← f1]
      simp (disch := omega) only [zq_l9, pk_mul, nI_add, zq_t9, zq_c9, zq_bz9, zq_bo9, zq_g, zq_cl, zq_leT, zq_leF, zq_ltT, zq_ltF, zq_eqT, zq_eqF, zq_em, zq_me, zq_pm, zq_mm, zq_gm, pk_sub, zI_s, zI_k, zI_c, zI_2, zL_s, zL_k, zL_c, zL_1, if_true, if_false, eq_self, Nat.zero_add, Nat.add_zero, h51, h5, hnc]
    · rw [f3]; exact zL_s _ _ _ _
    · rw [f4]; rfl
    · rw [f6]; rfl
    · cases hh : zhn a with
      | false =>
        obtain ⟨y1, y2, y3⟩ := f8 hh
        exact ⟨y2, f2, y1, y3⟩
      | true =>
        obtain ⟨y1, y2, y3⟩ := f9 hh
        obtain ⟨z1, z2⟩ := y2 (k3 hh)
        exact ⟨z2, f2, z1, y1⟩
    · have hh : zhn a = true := Classical.byContradiction fun w => k3 (fun w2 => absurd w2 w)
      obtain ⟨y1, y2, y3⟩ := f9 hh
      exact y3 (fun w => k3 (fun _ => w))
  · have hx : ∀ (x y : Nat), (if znc a ≤ 1 then x else y) = y := fun x y => if_neg c
    have hx2 : ∀ (x y : Int64), (if znc a ≤ 1 then x else y) = y := fun x y => if_neg c
    rw [hx, hx2]
    obtain ⟨r, S1, g1, g2, g3, g4, g5⟩ := zx_readName hT1 hE hB h2 hq
    have hT2 := zTX_3 g3 hT1
    have h52 : S1.1 3 5 = nI a := (g3.1 5 (by omega) (by omega)).trans h5
    have hne := zne_le B hq
    obtain ⟨S', f1, f2, f3, f4, f5, f6, f7, f8, f9⟩ := zx_a91 hT2 hE hB ha h52 r g2 hne.2
    have hbl2 := zbl_le B hne.2
    refine ⟨S', ?_, ?_, ?_, f5, ?_, zFr_tr (zFr_tr fL (fun i hi => ⟨g3.2.2 i (by omega), by rw [g3.2.1]⟩)) f7, fun k2 k3 => ?_, fun k2 => ?_, fun k2 k3 => ?_⟩
    · rw [← f1]
      simp (disch := omega) only [zq_l9, pk_mul, nI_add, zq_t9, zq_c9, zq_bz9, zq_bo9, zq_g, zq_cl, zq_leT, zq_leF, zq_ltT, zq_ltF, zq_eqT, zq_eqF, zq_em, zq_me, zq_pm, zq_mm, zq_gm, pk_sub, zI_s, zI_k, zI_c, zI_2, zL_s, zL_k, zL_c, zL_1, if_true, if_false, eq_self, Nat.zero_add, Nat.add_zero, h51, h5, hnc, g1]
    · rw [f3, g3.2.1]; exact zL_s _ _ _ _
    · rw [f4, g3.1 4 (by omega) (by omega)]; rfl
    · rw [f6, g3.1 1 (by omega) (by omega)]; rfl
    · obtain ⟨x1, x2⟩ := g4 (k2 (by omega))
      rw [x1] at f2
      cases hh : zhn a with
      | false =>
        obtain ⟨y1, y2, y3⟩ := f8 hh
        exact ⟨by rw [y2, x2]; rfl, f2, y1, y3⟩
      | true =>
        obtain ⟨y1, y2, y3⟩ := f9 hh
        obtain ⟨z1, z2⟩ := y2 (k3 hh)
        exact ⟨by rw [z2, x2]; rfl, f2, z1, y1⟩
    · have x := g5 (fun w => k2 (fun _ => w))
      have x' : S1.1 3 3 = zfw (S.1 3 3) (zbl B E q) := x
      cases hh : zhn a with
      | false => rw [(f8 hh).2.1]; exact x'
      | true =>
        obtain ⟨y1, y2, y3⟩ := f9 hh
        by_cases z : zdo B E (zlo a) (zhi a) (zne B E q)
        · rw [(y2 z).2]; exact x'
        · rw [y3 z, x', zfw_f _ (by omega)]
    · obtain ⟨x1, x2⟩ := g4 (k2 (by omega))
      have hh : zhn a = true := Classical.byContradiction fun w => k3 (fun w2 => absurd w2 w)
      obtain ⟨y1, y2, y3⟩ := f9 hh
      rw [y3 (fun w => k3 (fun _ => w)), x2]
      rfl
theorem zx_readAct {S : sh_St} {B : Nat → Nat} {E p : Nat} (hT : zTX S B E) (hE : E ≤ 400) (hB : ∀ k, B k < 256) (h2 : S.1 3 2 = nI p) (hp : p ≤ E) (h3 : S.1 3 3 = -nI 1) :
    ∃ S', zTX S' B E ∧ zFr 3 3 S S' ∧
    (zai B (zbl B E p) (zne B E p - zbl B E p) = 9 → fX10_readAct S = some (nI 0, S') ∧ S'.1 3 3 = nI (zbl B E p)) ∧
    (zai B (zbl B E p) (zne B E p - zbl B E p) < 9 → zpo B E (zai B (zbl B E p) (zne B E p - zbl B E p)) (zne B E p) → fX10_readAct S = some (nI 1, S') ∧ S'.1 3 3 = -nI 1 ∧ S'.1 3 4 = nI (zbl B E p) ∧ S'.1 3 5 = nI (zai B (zbl B E p) (zne B E p - zbl B E p)) ∧ S'.2 3 6 = zn1 B E (zai B (zbl B E p) (zne B E p - zbl B E p)) (zne B E p) ∧ S'.2 3 7 = zn2 B E (zai B (zbl B E p) (zne B E p - zbl B E p)) (zne B E p) ∧ S'.1 3 8 = nI (zvv B E (zai B (zbl B E p) (zne B E p - zbl B E p)) (zne B E p)) ∧ S'.1 3 2 = nI (zp3 B E (zai B (zbl B E p) (zne B E p - zbl B E p)) (zne B E p))) ∧
    (zai B (zbl B E p) (zne B E p - zbl B E p) < 9 → ¬ zpo B E (zai B (zbl B E p) (zne B E p - zbl B E p)) (zne B E p) → fX10_readAct S = some (nI 0, S') ∧ S'.1 3 3 = nI (zpf B E (zai B (zbl B E p) (zne B E p - zbl B E p)) (zne B E p))) := by
  rw [fX10_readAct]
  obtain ⟨S1, g1, g2, g3⟩ := zx_skip hT hE hB h2 hp
  have hT1 := zTX_2 g3 hT
  have hbl := zbl_le B hp
  have hT3 : zTX (sh_I S1 3 4 (nI (zbl B E p))) B E := by
    unfold zTX
    rw [zI_k S1 3 4 _ (by omega), zI_c S1 3 4 _ (by omega)]
    exact hT1
  have g23 : (sh_I S1 3 4 (nI (zbl B E p))).1 3 2 = nI (zbl B E p) := by rw [zI_k S1 3 4 _ (by omega)]; exact g2
  obtain ⟨S4, k1, k2, k3⟩ := zx_letters hT3 hE hB g23 hbl.2
  have hT4 := zTX_2 k3 hT3
  have hne := zne_le B hp
  have ek : zwd B E (zbl B E p) = zne B E p := rfl
  rw [ek] at k1 k2
  have hno := zx_actNo hT4 (b := zbl B E p) (l := zne B E p - zbl B E p) (by omega)
  have ha9 : zai B (zbl B E p) (zne B E p - zbl B E p) ≤ 9 := by
    have := (zfi_le (zwb B (zbl B E p) (zne B E p - zbl B E p)) 9 0).2
    unfold zai
    omega
  have h44 : S4.1 3 4 = nI (zbl B E p) := by rw [k3.1 4 (by omega)]; exact zI_s _ _ _ _
  have h43 : S4.1 3 3 = -nI 1 := by rw [k3.1 3 (by omega), zI_k S1 3 4 _ (by omega), g3.1 3 (by omega)]; exact h3
  have hf4 : zFr 3 3 S S4 := fun i hi => by
    refine ⟨?_, ?_⟩
    · rw [k3.2.2 i (by omega), zI_c S1 3 4 _ (by omega), g3.2.2 i (by omega)]
    · rw [k3.2.1, zI_2, g3.2.1]
  generalize zai B (zbl B E p) (zne B E p - zbl B E p) = a at *
  by_cases c : a = 9
  · obtain ⟨S', j1, j2, j3, j4⟩ := zx_wrong S4 (zbl B E p)
    refine ⟨S', zTX_3 j4 hT4, zFr_tr hf4 (fun i hi => ⟨j4.2.2 i (by omega), by rw [j4.2.1]⟩), fun _ => ⟨?_, ?_⟩, fun q => by omega, fun q => by omega⟩
    · rw [zsp_f (by omega)] at hno
      simp (disch := omega) only [zq_l9, pk_mul, nI_add, zq_t9, zq_c9, zq_bz9, zq_bo9, zq_g, zq_cl, zq_leT, zq_leF, zq_ltT, zq_ltF, zq_eqT, zq_eqF, zq_em, zq_me, zq_pm, zq_mm, zq_gm, pk_sub, zI_s, zI_k, zI_c, zI_2, zL_s, zL_k, zL_c, zL_1, if_true, if_false, eq_self, Nat.zero_add, Nat.add_zero, g1, g2, k1, hno, h44, j1]
    · rw [j2, h43, zfw_m]
  · have ha : a < 9 := by omega
    rw [zsp_t ha] at hno
    have hnc := zt_nc' a ha
    have hn2 := znc_le a
    have hT5 : zTX (sh_I S4 3 5 (nI a)) B E := by
      unfold zTX
      rw [zI_k S4 3 5 _ (by omega), zI_c S4 3 5 _ (by omega)]
      exact hT4
    have h55 : (sh_I S4 3 5 (nI a)).1 3 5 = nI a := zI_s _ _ _ _
    have h52 : (sh_I S4 3 5 (nI a)).1 3 2 = nI (zne B E p) := by rw [zI_k S4 3 5 _ (by omega)]; exact k2
    have h53 : (sh_I S4 3 5 (nI a)).1 3 3 = -nI 1 := by rw [zI_k S4 3 5 _ (by omega)]; exact h43
    have h54 : (sh_I S4 3 5 (nI a)).1 3 4 = nI (zbl B E p) := by rw [zI_k S4 3 5 _ (by omega)]; exact h44
    have hf5 : zFr 3 3 S (sh_I S4 3 5 (nI a)) := zFr_tr hf4 (zFr_I S4 _ _ (by omega) (by omega))
    by_cases c0 : znc a = 0
    · obtain ⟨S', f1, f2, f3, f4, f5, f6, f7, f8, f9⟩ := zx_a68 hT5 hE hB ha h55 0 h52 hne.2
      have e1 : zp1 B E a (zne B E p) = zne B E p := if_pos c0
      have e2 : (if znc a ≤ 1 then zne B E p else zne B E (zne B E p)) = zp2 B E a (zne B E p) := by
        unfold zp2
        rw [e1]
      rw [e2] at f7 f9
      have hfun : fX10_readAct_68 (sh_I S4 3 5 (nI a)) 0 = some (nI (if S'.1 3 3 = -nI 1 then 1 else 0), S') := f1
      have hTS : zTX S' B E := by
        unfold zTX
        rw [f5, (f6 2 (by omega)).1]
        exact hT5
      refine ⟨S', hTS, zFr_tr hf5 f6, fun q => by omega, fun _ k => ?_, fun _ k => ?_⟩
      · obtain ⟨x1, x2, x3⟩ := k
        rw [e1] at x2
        obtain ⟨y1, y2, y3, y4⟩ := f7 x2 x3
        have y1' := y1.trans h53
        rw [if_pos y1'] at hfun
        refine ⟨?_, y1', f3.trans h54, f4, ?_, ?_, y3, y4⟩
        · rw [← hfun]
          simp (disch := omega) only [zq_l9, pk_mul, nI_add, zq_t9, zq_c9, zq_bz9, zq_bo9, zq_g, zq_cl, zq_leT, zq_leF, zq_ltT, zq_ltF, zq_eqT, zq_eqF, zq_em, zq_me, zq_pm, zq_mm, zq_gm, pk_sub, zI_s, zI_k, zI_c, zI_2, zL_s, zL_k, zL_c, zL_1, if_true, if_false, eq_self, Nat.zero_add, Nat.add_zero, g1, g2, k1, hno, hnc]
        · rw [f2]
          unfold zn1
          rw [if_pos c0]
        · rw [y2]
          unfold zn2
          rw [e1]
      · have hw : S'.1 3 3 = nI (zpf B E a (zne B E p)) := by
          unfold zpf
          rw [if_neg (fun w => by omega)]
          by_cases x2 : 2 ≤ znc a → zno B E (zne B E p)
          · rw [if_neg (fun w => w.2 (by rw [e1]; exact x2 w.1))]
            have x3 : ¬ (zhn a = true → zdo B E (zlo a) (zhi a) (zp2 B E a (zne B E p))) := fun w => k ⟨fun w2 => by omega, by rw [e1]; exact x2, w⟩
            rw [f9 x2 x3, h53, zfw_m]
          · rw [if_pos (Classical.byContradiction fun w => x2 (fun w1 => Classical.byContradiction fun w2 => w ⟨w1, by rw [e1]; exact w2⟩)), f8 x2, h53, zfw_m, e1]
        have hpf : zpf B E a (zne B E p) < 1000 := by
          have d1 := zbl_le B hne.2
          have d2 := zbl_le B (zp1_le B (a := a) hne.2)
          have d3 := zbl_le B (zp2_le B (a := a) hne.2)
          unfold zpf
          (repeat' split) <;> omega
        rw [if_neg (by rw [hw]; exact zq_n1 (by omega))] at hfun
        refine ⟨?_, hw⟩
        rw [← hfun]
        simp (disch := omega) only [zq_l9, pk_mul, nI_add, zq_t9, zq_c9, zq_bz9, zq_bo9, zq_g, zq_cl, zq_leT, zq_leF, zq_ltT, zq_ltF, zq_eqT, zq_eqF, zq_em, zq_me, zq_pm, zq_mm, zq_gm, pk_sub, zI_s, zI_k, zI_c, zI_2, zL_s, zL_k, zL_c, zL_1, if_true, if_false, eq_self, Nat.zero_add, Nat.add_zero, g1, g2, k1, hno, hnc]
    · obtain ⟨r, S6, m1, m2, m3, m4, m5⟩ := zx_readName hT5 hE hB h52 hne.2
      have hT6 := zTX_3 m3 hT5
      have h65 : S6.1 3 5 = nI a := (m3.1 5 (by omega) (by omega)).trans h55
      have hne2 := zne_le B hne.2
      obtain ⟨S', f1, f2, f3, f4, f5, f6, f7, f8, f9⟩ := zx_a68 hT6 hE hB ha h65 r m2 hne2.2
      have e1 : zp1 B E a (zne B E p) = zne B E (zne B E p) := if_neg c0
      have e2 : (if znc a ≤ 1 then zne B E (zne B E p) else zne B E (zne B E (zne B E p))) = zp2 B E a (zne B E p) := by
        unfold zp2
        rw [e1]
      rw [e2] at f7 f9
      have hf6 : zFr 3 3 S S6 := zFr_tr hf5 (fun i hi => ⟨m3.2.2 i (by omega), by rw [m3.2.1]⟩)
      have hTS : zTX S' B E := by
        unfold zTX
        rw [f5, (f6 2 (by omega)).1]
        exact hT6
      have hgo : fX10_readAct_68 S6 r = some (nI (if S'.1 3 3 = -nI 1 then 1 else 0), S') := f1
      refine ⟨S', hTS, zFr_tr hf6 f6, fun q => by omega, fun _ k => ?_, fun _ k => ?_⟩
      · obtain ⟨x1, x2, x3⟩ := k
        obtain ⟨u1, u2⟩ := m4 (x1 (by omega))
        rw [e1] at x2
        obtain ⟨y1, y2, y3, y4⟩ := f7 x2 x3
        have y1' := y1.trans (u2.trans h53)
        rw [if_pos y1'] at hgo
        refine ⟨?_, y1', ?_, f4, ?_, ?_, y3, y4⟩
        · rw [← hgo]
          simp (disch := omega) only [zq_l9, pk_mul, nI_add, zq_t9, zq_c9, zq_bz9, zq_bo9, zq_g, zq_cl, zq_leT, zq_leF, zq_ltT, zq_ltF, zq_eqT, zq_eqF, zq_em, zq_me, zq_pm, zq_mm, zq_gm, pk_sub, zI_s, zI_k, zI_c, zI_2, zL_s, zL_k, zL_c, zL_1, if_true, if_false, eq_self, Nat.zero_add, Nat.add_zero, g1, g2, k1, hno, hnc, m1]
        · rw [f3, m3.1 4 (by omega) (by omega)]; exact h54
        · rw [f2, u1]
          unfold zn1
          rw [if_neg c0]
        · rw [y2]
          unfold zn2
          rw [e1]
      · have hw : S'.1 3 3 = nI (zpf B E a (zne B E p)) := by
          have d1 := zbl_le B hne.2
          have d2 := zbl_le B hne2.2
          have d3 := zbl_le B (zp2_le B (a := a) hne.2)
          unfold zpf
          by_cases x1 : zno B E (zne B E p)
          · rw [if_neg (fun w => w.2 x1)]
            have h63 : S6.1 3 3 = -nI 1 := (m4 x1).2.trans h53
            by_cases x2 : 2 ≤ znc a → zno B E (zne B E (zne B E p))
            · rw [if_neg (fun w => w.2 (by rw [e1]; exact x2 w.1))]
              have x3 : ¬ (zhn a = true → zdo B E (zlo a) (zhi a) (zp2 B E a (zne B E p))) := fun w => k ⟨fun _ => x1, by rw [e1]; exact x2, w⟩
              rw [f9 x2 x3, h63, zfw_m]
            · rw [if_pos (Classical.byContradiction fun w => x2 (fun w1 => Classical.byContradiction fun w2 => w ⟨w1, by rw [e1]; exact w2⟩)), f8 x2, h63, zfw_m, e1]
          · rw [if_pos ⟨by omega, x1⟩]
            have h63 : S6.1 3 3 = nI (zbl B E (zne B E p)) := by rw [m5 x1, h53, zfw_m]
            by_cases x2 : 2 ≤ znc a → zno B E (zne B E (zne B E p))
            · by_cases x3 : zhn a = true → zdo B E (zlo a) (zhi a) (zp2 B E a (zne B E p))
              · rw [(f7 x2 x3).1, h63]
              · rw [f9 x2 x3, h63, zfw_n (by omega)]
            · rw [f8 x2, h63, zfw_n (by omega)]
        have hpf : zpf B E a (zne B E p) < 1000 := by
          have d1 := zbl_le B hne.2
          have d2 := zbl_le B (zp1_le B (a := a) hne.2)
          have d3 := zbl_le B (zp2_le B (a := a) hne.2)
          unfold zpf
          (repeat' split) <;> omega
        rw [if_neg (by rw [hw]; exact zq_n1 (by omega))] at hgo
        refine ⟨?_, hw⟩
        rw [← hgo]
        simp (disch := omega) only [zq_l9, pk_mul, nI_add, zq_t9, zq_c9, zq_bz9, zq_bo9, zq_g, zq_cl, zq_leT, zq_leF, zq_ltT, zq_ltF, zq_eqT, zq_eqF, zq_em, zq_me, zq_pm, zq_mm, zq_gm, pk_sub, zI_s, zI_k, zI_c, zI_2, zL_s, zL_k, zL_c, zL_1, if_true, if_false, eq_self, Nat.zero_add, Nat.add_zero, g1, g2, k1, hno, hnc, m1]
