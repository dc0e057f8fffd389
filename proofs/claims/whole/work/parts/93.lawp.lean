/-! the law's state: class, reference and the answer's place in one -/
theorem zRc_c9 {S S' M M' : sh_St} (h : zRc S M) (h1 : ∀ i, 132 ≤ i → i < 140 → S'.1 i = S.1 i) (m1 : ∀ i, 9 ≤ i → i ≤ 13 → M'.1 i = M.1 i) : zRc S' M' := fun r hr => by
  unfold zRc1
  rw [h1 (132 + 2 * r) (by omega) (by omega), h1 (133 + 2 * r) (by omega) (by omega), m1 9 (by omega) (by omega), m1 10 (by omega) (by omega), m1 11 (by omega) (by omega), m1 12 (by omega) (by omega), m1 13 (by omega) (by omega)]
  exact h r hr
theorem zRR_cg {S S' M M' : sh_St} (h : zRR S M) (hs : ∀ i, i < 140 → S'.1 i = S.1 i ∧ S'.2 i = S.2 i) (hm : ∀ i, i < 22 → M'.1 i = M.1 i ∧ M'.2 i = M.2 i) : zRR S' M' := by
  obtain ⟨T, B, L, hG, hv, hvm, ra, rb1, rb2, rc, rd, re, rg⟩ := h
  refine ⟨T, B, L, hG, zVX_o (fun i h3 h4 => hs i (by omega)) hv, ?_, zRa_cg ra L ra.2.2.1 ?_ (hs 2 (by omega)).1 ?_ (hm 14 (by omega)).1, ?_, ?_, zRc_c9 rc (fun i h3 h4 => (hs i (by omega)).1) (fun i h3 h4 => (hm i (by omega)).1), zRd_cg rd (fun i h3 h4 => hs i (by omega)) ?_ (hm 3 (by omega)).1 (hm 4 (by omega)).2, zRe_cg re ?_ (fun i h3 h4 => hs i (by omega)) ?_ (hm 7 (by omega)).1 (hm 8 (by omega)).2, zRg_cg rg (fun i h3 h4 => (hs i (by omega)).1)⟩
  · unfold zVN
    rw [(hm 1 (by omega)).1, (hm 2 (by omega)).2]
    exact hvm
  · rw [(hs 1 (by omega)).1]; exact ra.1
  · rw [(hm 0 (by omega)).1]; exact ra.2.1
  · rw [(hs 3 (by omega)).1, (hm 0 (by omega)).1]; exact rb1
  · rw [(hs 0 (by omega)).1, (hm 0 (by omega)).1]; exact rb2
  · rw [(hm 0 (by omega)).1]
  · rw [(hs 0 (by omega)).1]
  · rw [(hm 0 (by omega)).1]
theorem zcb_in {o n i : Nat} (S S1 : sh_St) (h : i < n) : (sh_cb o n S S1).1 (o + i) = S1.1 i ∧ (sh_cb o n S S1).2 (o + i) = S1.2 i := by
  have c : o ≤ o + i ∧ o + i < o + n := by omega
  constructor
  · show (if o ≤ o + i ∧ o + i < o + n then S1.1 (o + i - o) else S.1 (o + i)) = S1.1 i
    rw [if_pos c, Nat.add_sub_cancel_left]
  · show (if o ≤ o + i ∧ o + i < o + n then S1.2 (o + i - o) else S.2 (o + i)) = S1.2 i
    rw [if_pos c, Nat.add_sub_cancel_left]
theorem zcb_out {o n i : Nat} (S S1 : sh_St) (h : i < o ∨ o + n ≤ i) : (sh_cb o n S S1).1 i = S.1 i ∧ (sh_cb o n S S1).2 i = S.2 i := ⟨if_neg (by omega), if_neg (by omega)⟩
/-- the law's relation -/
def zLR (SL : sh_St) : Prop := zRR (sh_sS 0 SL) (sh_sS 140 SL)
theorem zLR_of {SL SL' S' M' : sh_St} (h : zRR S' M') (hs : ∀ i, i < 140 → SL'.1 i = S'.1 i ∧ SL'.2 i = S'.2 i) (hm : ∀ i, i < 22 → SL'.1 (140 + i) = M'.1 i ∧ SL'.2 (140 + i) = M'.2 i) : zLR SL' := zRR_cg h (fun i hi => by
  have := hs i hi
  refine ⟨?_, ?_⟩
  · show SL'.1 (0 + i) = _
    rw [Nat.zero_add]; exact this.1
  · show SL'.2 (0 + i) = _
    rw [Nat.zero_add]; exact this.2) (fun i hi => hm i hi)
theorem zlf_e {α : Type} {o n : Nat} {F : sh_St → Option (α × sh_St)} {S S1 : sh_St} {r : α} (h : F (sh_sS o S) = some (r, S1)) : sh_lf o n F S = some (r, sh_cb o n S S1) := by
  unfold sh_lf
  rw [h]
theorem zs140 (SL S' : sh_St) : sh_sS 140 (sh_cb 0 140 SL S') = sh_sS 140 SL := by
  have e1 : (fun i => (sh_cb 0 140 SL S').1 (140 + i)) = fun i => SL.1 (140 + i) := funext fun i => (zcb_out SL S' (by omega)).1
  have e2 : (fun i => (sh_cb 0 140 SL S').2 (140 + i)) = fun i => SL.2 (140 + i) := funext fun i => (zcb_out SL S' (by omega)).2
  show ((fun i => (sh_cb 0 140 SL S').1 (140 + i)), (fun i => (sh_cb 0 140 SL S').2 (140 + i))) = _
  rw [e1, e2]
  rfl
theorem zs140L (SL S' : sh_St) (v : Int64) : sh_sS 140 (sh_L (sh_cb 0 140 SL S') 162 0 v) = sh_L (sh_sS 140 SL) 22 0 v := by
  rw [← zs140 SL S']
  have e2 : (fun i => (sh_L (sh_cb 0 140 SL S') 162 0 v).2 (140 + i)) = fun i => (sh_L (sh_sS 140 (sh_cb 0 140 SL S')) 22 0 v).2 i := funext fun i => by
    show (if 140 + i = 162 then vp_updL ((sh_cb 0 140 SL S').2 (140 + i)) 0 v else (sh_cb 0 140 SL S').2 (140 + i)) = if i = 22 then vp_updL ((sh_cb 0 140 SL S').2 (140 + i)) 0 v else (sh_cb 0 140 SL S').2 (140 + i)
    by_cases c : i = 22
    · rw [if_pos c, if_pos (by omega)]
    · rw [if_neg c, if_neg (by omega)]
  show ((fun i => (sh_cb 0 140 SL S').1 (140 + i)), (fun i => (sh_L (sh_cb 0 140 SL S') 162 0 v).2 (140 + i))) = _
  rw [e2]
  rfl
/-- what the law sees of a call that may throw -/
def zLA (SL : sh_St) (f : Option (Int32 × sh_St)) (g : sh_St → Option (Int32 × sh_St)) : Prop := ∃ k SL1 r SL2, f = some (k, SL1) ∧ g SL1 = some (r, SL2) ∧ SL2.1 140 0 = k ∧ (k = 0 → SL2.2 162 0 = r.toInt64) ∧ zLR SL2
theorem zlaw_t {ex : List String} {F : sh_St → Option ((Int32 ⊕ String) × sh_St)} {Gf : sh_St → Option (Int32 × sh_St)} {SL : sh_St} (hx : ∀ (i j : Nat) (nm : String), ex[i]? = some nm → ex[j]? = some nm → i = j) (hl : ex.length ≤ 3) (hR : zLR SL) (h : ∀ M, zRR (sh_sS 0 SL) M → zCA ex (F (sh_sS 0 SL)) (Gf M)) : zLA SL (sh_hf ex (sh_lf 0 tbX.length F) SL) (sh_lf 140 tbM.length Gf) := by
  rw [tbX_len, tbM_len]
  obtain ⟨x, S', r0, M0, f1, f2, e0, f4⟩ := h (sh_sS 140 SL) hR
  have hlf : sh_lf 0 140 F SL = some (x, sh_cb 0 140 SL S') := zlf_e f1
  rcases e0 with ⟨rfl, e1⟩ | ⟨k, nm, k1, rfl, k3⟩
  · obtain ⟨x2, S2, r, M', g1, g2, g3, g4⟩ := h (sh_sS 140 (sh_L (sh_cb 0 140 SL S') 162 0 r0.toInt64)) (by
      rw [zs140L]
      exact zRR_cg hR (fun i hi => ⟨rfl, rfl⟩) (fun i hi => ⟨rfl, if_neg (by omega)⟩))
    have ex1 := f1.symm.trans g1
    cases ex1
    have hr : r = r0 ∧ M'.1 0 0 = nI 0 := by
      rcases g3 with ⟨a, b⟩ | ⟨k, nm, _, a, _⟩
      · cases a
        exact ⟨rfl, b⟩
      · cases a
    obtain ⟨rfl, hth⟩ := hr
    refine ⟨0, sh_L (sh_cb 0 140 SL S') 162 0 r.toInt64, r, sh_cb 140 22 (sh_L (sh_cb 0 140 SL S') 162 0 r.toInt64) M', ?_, zlf_e g2, ?_, fun _ => ?_, ?_⟩
    · unfold sh_hf
      rw [hlf]
      rfl
    · have := (zcb_in (o := 140) (n := 22) (i := 0) (sh_L (sh_cb 0 140 SL S') 162 0 r.toInt64) M' (by omega)).1
      rw [show 140 + 0 = 140 from rfl] at this
      rw [this, hth]
      rfl
    · rw [(zcb_out (o := 140) (n := 22) (i := 162) (sh_L (sh_cb 0 140 SL S') 162 0 r.toInt64) M' (by omega)).2]
      exact zL_s _ _ _ _
    · refine zLR_of (SL := SL) g4 (fun i hi => ?_) (fun i hi => zcb_in _ _ hi)
      have a := zcb_out (o := 140) (n := 22) (i := i) (sh_L (sh_cb 0 140 SL S') 162 0 r.toInt64) M' (by omega)
      have b := zcb_in (o := 0) (n := 140) (i := i) SL S' hi
      rw [Nat.zero_add] at b
      refine ⟨a.1.trans b.1, a.2.trans (Eq.trans ?_ b.2)⟩
      exact if_neg (by omega)
  · have hs := zs140 SL S'
    have hk3 : k < 3 := by have := (List.getElem?_eq_some_iff.mp k1).1; omega
    refine ⟨nI (k + 1), sh_cb 0 140 SL S', r0, sh_cb 140 22 (sh_cb 0 140 SL S') M0, ?_, zlf_e (by rw [hs]; exact f2), ?_, fun w => ?_, ?_⟩
    · unfold sh_hf
      rw [hlf]
      show (if ex[0]? = some nm then some ((1 : Int32), sh_cb 0 140 SL S') else if ex[1]? = some nm then some (2, sh_cb 0 140 SL S') else if ex[2]? = some nm then some (3, sh_cb 0 140 SL S') else none) = _
      have hc : k = 0 ∨ k = 1 ∨ k = 2 := by omega
      rcases hc with rfl | rfl | rfl
      · rw [if_pos k1]; rfl
      · rw [if_neg (fun w => absurd (hx _ _ _ w k1) (by decide)), if_pos k1]; rfl
      · rw [if_neg (fun w => absurd (hx _ _ _ w k1) (by decide)), if_neg (fun w => absurd (hx _ _ _ w k1) (by decide)), if_pos k1]; rfl
    · have := (zcb_in (o := 140) (n := 22) (i := 0) (sh_cb 0 140 SL S') M0 (by omega)).1
      rw [show 140 + 0 = 140 from rfl] at this
      rw [this, k3]
    · have hc : k = 0 ∨ k = 1 ∨ k = 2 := by omega
      rcases hc with rfl | rfl | rfl <;> exact absurd w (by decide)
    · refine zLR_of (SL := SL) f4 (fun i hi => ?_) (fun i hi => zcb_in _ _ hi)
      have a := zcb_out (o := 140) (n := 22) (i := i) (sh_cb 0 140 SL S') M0 (by omega)
      have b := zcb_in (o := 0) (n := 140) (i := i) SL S' hi
      rw [Nat.zero_add] at b
      exact ⟨a.1.trans b.1, a.2.trans b.2⟩
/-- what the law sees of a call that doesn't throw -/
def zLB (SL : sh_St) (f : Option (Int32 × sh_St)) (g : sh_St → Option (Int32 × sh_St)) : Prop := ∃ r SL1 SL2, f = some (r, SL1) ∧ g SL1 = some (r, SL2) ∧ zLR SL2
theorem zlaw_b {F Gf : sh_St → Option (Int32 × sh_St)} {SL : sh_St} (h : zCB (F (sh_sS 0 SL)) (Gf (sh_sS 140 SL))) : zLB SL (sh_lf 0 tbX.length F SL) (sh_lf 140 tbM.length Gf) := by
  rw [tbX_len, tbM_len]
  obtain ⟨r, S', M', f1, f2, f4⟩ := h
  refine ⟨r, sh_cb 0 140 SL S', sh_cb 140 22 (sh_cb 0 140 SL S') M', zlf_e f1, zlf_e (by rw [zs140 SL S']; exact f2), ?_⟩
  refine zLR_of (SL := SL) f4 (fun i hi => ?_) (fun i hi => zcb_in _ _ hi)
  have a := zcb_out (o := 140) (n := 22) (i := i) (sh_cb 0 140 SL S') M' (by omega)
  have b := zcb_in (o := 0) (n := 140) (i := i) SL S' hi
  rw [Nat.zero_add] at b
  exact ⟨a.1.trans b.1, a.2.trans b.2⟩
theorem znd1 (a : String) : ∀ (i j : Nat) (nm : String), [a][i]? = some nm → [a][j]? = some nm → i = j := fun i j nm h1 h2 => by
  have := (List.getElem?_eq_some_iff.mp h1).1
  have := (List.getElem?_eq_some_iff.mp h2).1
  simp only [List.length_cons, List.length_nil] at *
  omega
theorem znd2 {a b : String} (h : a ≠ b) : ∀ (i j : Nat) (nm : String), [a, b][i]? = some nm → [a, b][j]? = some nm → i = j := fun i j nm h1 h2 => by
  match i, j, h1, h2 with
  | 0, 0, _, _ => rfl
  | 1, 1, _, _ => rfl
  | 0, 1, h1, h2 => exact absurd ((Option.some.inj h1).trans (Option.some.inj h2).symm) h
  | 1, 0, h1, h2 => exact absurd ((Option.some.inj h2).trans (Option.some.inj h1).symm) h
  | i + 2, _, h1, _ => exact nomatch h1
  | _, j + 2, _, h2 => exact nomatch h2
theorem znd3 {a b c : String} (h1 : a ≠ b) (h2 : a ≠ c) (h3 : b ≠ c) : ∀ (i j : Nat) (nm : String), [a, b, c][i]? = some nm → [a, b, c][j]? = some nm → i = j := fun i j nm g1 g2 => by
  match i, j, g1, g2 with
  | 0, 0, _, _ => rfl
  | 1, 1, _, _ => rfl
  | 2, 2, _, _ => rfl
  | 0, 1, g1, g2 => exact absurd ((Option.some.inj g1).trans (Option.some.inj g2).symm) h1
  | 1, 0, g1, g2 => exact absurd ((Option.some.inj g2).trans (Option.some.inj g1).symm) h1
  | 0, 2, g1, g2 => exact absurd ((Option.some.inj g1).trans (Option.some.inj g2).symm) h2
  | 2, 0, g1, g2 => exact absurd ((Option.some.inj g2).trans (Option.some.inj g1).symm) h2
  | 1, 2, g1, g2 => exact absurd ((Option.some.inj g1).trans (Option.some.inj g2).symm) h3
  | 2, 1, g1, g2 => exact absurd ((Option.some.inj g2).trans (Option.some.inj g1).symm) h3
  | i + 3, _, g1, _ => exact nomatch g1
  | _, j + 3, _, g2 => exact nomatch g2
