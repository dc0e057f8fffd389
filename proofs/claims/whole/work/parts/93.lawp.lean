/-! the law's state: class, reference and the answer's place in one -/
theorem zRc_c9 {S S' M M' : sh_St} (h : zRc S M) (h1 : ∀ i, 132 ≤ i → i < 140 → S'.1 i = S.1 i) (m1 : ∀ i, 9 ≤ i → i ≤ 13 → M'.1 i = M.1 i) : zRc S' M' := fun r hr => by
  unfold zRc1
  rw [h1 (132 + 2 * r) (by omega) (by omega), h1 (133 + 2 * r) (by omega) (by omega), m1 9 (by omega) (by omega), m1 10 (by omega) (by omega), m1 11 (by omega) (by omega), m1 12 (by omega) (by omega), m1 13 (by omega) (by omega)]
  exact h r hr
theorem zRR_cg {S S' M M' : sh_St} (h : zRR S M) (hs : ∀ i, i < 140 → S'.1 i = S.1 i ∧ S'.2 i = S.2 i) (hm : ∀ i, i < 22 → M'.1 i = M.1 i ∧ M'.2 i = M.2 i) : zRR S' M' := by
  obtain ⟨T, B, L, hG, hv, hvm, ra, rb1, rb2, rc, rd, re, rg⟩ := h
  refine ⟨T, B, L, hG, zVX_o (fun i h3 h4 => hs i (by omega)) hv, ?_, zRa_cg ra L ra.2.2.1 ?_ (hs 2 (by omega)).1 ?_ (hm 14 (by omega)).1, ?_, ?_, zRc_c9 rc (fun i h3 h4 => (hs i (by omega)).1) (fun i h3 h4 => (hm i (by omega)).1), zRd_cg rd (fun i h3 h4 => hs i (by omega)) ?_ (hm 3 (by omega)).1 (hm 4 (by omega)).2, zRe_cg re ?_ (fun i h3 h4 => hs i (by omega)) ?_ (hm 7 (by omega)).1 (hm 8 (by omega)).2, zRg_cg rg (fun i h3 h4 => (hs i (by omega)).1)⟩
  · unfold zVN
    rw [(hm 1 (by omega)).1, (hm 2 (by omega)).2]
    exact hvm
  · rw [(hs 1 (by omega)).1]; exact ra.1
  · rw [(hm 0 (by omega)).1]; exact ra.2.1
  · rw [(hs 3 (by omega)).1, (hm 0 (by omega)).1]; exact rb1
  · rw [(hs 0 (by omega)).1, (hm 0 (by omega)).1]; exact rb2
  · rw [(hm 0 (by omega)).1]
  · rw [(hs 0 (by omega)).1]
  · rw [(hm 0 (by omega)).1]
theorem zcb_in {o n i : Nat} (S S1 : sh_St) (h : i < n) : (sh_cb o n S S1).1 (o + i) = S1.1 i ∧ (sh_cb o n S S1).2 (o + i) = S1.2 i := by
  have c : o ≤ o + i ∧ o + i < o + n := by omega
  constructor
  · show (if o ≤ o + i ∧ o + i < o + n then S1.1 (o + i - o) else S.1 (o + i)) = S1.1 i
    rw [if_pos c, Nat.add_sub_cancel_left]
  · show (if o ≤ o + i ∧ o + i < o + n then S1.2 (o + i - o) else S.2 (o + i)) = S1.2 i
    rw [if_pos c, Nat.add_sub_cancel_left]
theorem zcb_out {o n i : Nat} (S S1 : sh_St) (h : i < o ∨ o + n ≤ i) : (sh_cb o n S S1).1 i = S.1 i ∧ (sh_cb o n S S1).2 i = S.2 i := ⟨if_neg (by omega), if_neg (by omega)⟩
/-- the law's relation -/
def zLR (SL : sh_St) : Prop := zRR (sh_sS 0 SL) (sh_sS 140 SL)
theorem zLR_of {SL SL' S' M' : sh_St} (h : zRR S' M') (hs : ∀ i, i < 140 → SL'.1 i = S'.1 i ∧ SL'.2 i = S'.2 i) (hm : ∀ i, i < 22 → SL'.1 (140 + i) = M'.1 i ∧ SL'.2 (140 + i) = M'.2 i) : zLR SL' := zRR_cg h (fun i hi => by
  have := hs i hi
  refine ⟨?_, ?_⟩
  · show SL'.1 (0 + i) = _
    rw [Nat.zero_add]; exact this.1
  · show SL'.2 (0 + i) = _
    rw [Nat.zero_add]; exact this.2) (fun i hi => hm i hi)
theorem zlf {α : Type} {o n : Nat} {F : sh_St → Option (α × sh_St)} {S S1 : sh_St} {r : α} (h : F (sh_sS o S) = some (r, S1)) : sh_lf o n F S = some (r, sh_cb o n S S1) := by
  unfold sh_lf
  rw [h]
theorem zs140 (SL S' : sh_St) : sh_sS 140 (sh_cb 0 140 SL S') = sh_sS 140 SL := by
  have e1 : (fun i => (sh_cb 0 140 SL S').1 (140 + i)) = fun i => SL.1 (140 + i) := funext fun i => (zcb_out SL S' (by omega)).1
  have e2 : (fun i => (sh_cb 0 140 SL S').2 (140 + i)) = fun i => SL.2 (140 + i) := funext fun i => (zcb_out SL S' (by omega)).2
  show ((fun i => (sh_cb 0 140 SL S').1 (140 + i)), (fun i => (sh_cb 0 140 SL S').2 (140 + i))) = _
  rw [e1, e2]
  rfl
theorem zs140L (SL S' : sh_St) (v : Int64) : sh_sS 140 (sh_L (sh_cb 0 140 SL S') 162 0 v) = sh_L (sh_sS 140 SL) 22 0 v := by
  rw [← zs140 SL S']
  have e2 : (fun i => (sh_L (sh_cb 0 140 SL S') 162 0 v).2 (140 + i)) = fun i => (sh_L (sh_sS 140 (sh_cb 0 140 SL S')) 22 0 v).2 i := funext fun i => by
    show (if 140 + i = 162 then vp_updL ((sh_cb 0 140 SL S').2 (140 + i)) 0 v else (sh_cb 0 140 SL S').2 (140 + i)) = if i = 22 then vp_updL ((sh_cb 0 140 SL S').2 (140 + i)) 0 v else (sh_cb 0 140 SL S').2 (140 + i)
    by_cases c : i = 22
    · rw [if_pos c, if_pos (by omega)]
    · rw [if_neg c, if_neg (by omega)]
  show ((fun i => (sh_cb 0 140 SL S').1 (140 + i)), (fun i => (sh_L (sh_cb 0 140 SL S') 162 0 v).2 (140 + i))) = _
  rw [e2]
  rfl
