/-! an act by a call -/
theorem zx_byCall {S : sh_St} {T : zT} (hG : zG T) (hv : zVX S 4 T) {a v : Nat} (hr : zrg a v) {n m : Int64} (hn : a < 3 → zval n) (hm : a = 2 → zval m) {t u : Nat} (ht : t < 8) (hu : u ≤ 8) (h2 : S.1 34 2 = nI t) (h1 : S.1 34 1 = nI u) :
    (zref T a n m v ≠ 0 → ∃ S', fX12_doByCall S (nI a) n m (nI v) = some (.inr "java/lang/IllegalStateException", S') ∧ S'.1 0 10 = nI (zref T a n m v) ∧ (∀ k, k ≠ 10 → S'.1 0 k = S.1 0 k) ∧ ∀ i, i ≠ 0 → (i < 116 ∨ 127 < i) → S'.1 i = S.1 i ∧ S'.2 i = S.2 i) ∧
    (zref T a n m v = 0 → ∃ S', fX12_doByCall S (nI a) n m (nI v) = some (.inl (nI (zans T a n m v)), S') ∧ S'.1 0 10 = nI 0 ∧ zVX S' 4 (zact T a n m v) ∧ zG (zact T a n m v) ∧ zVX S' (36 + 10 * t) T ∧ S'.1 34 2 = nI ((t + 1) % 8) ∧ S'.1 34 1 = nI (min (u + 1) 8) ∧ zRD (if 3 ≤ a ∧ a ≤ 6 then 1 else 0) S S' ∧ (∀ k, k ≠ 10 → S'.1 0 k = S.1 0 k) ∧ ∀ i, i ≠ 0 → (i < 4 ∨ (13 < i ∧ i < 34) ∨ (34 < i ∧ i < 116) ∨ (127 < i ∧ i < 132)) → (i < 36 + 10 * t ∨ 36 + 10 * t + 9 < i) → S'.1 i = S.1 i ∧ S'.2 i = S.2 i) := by
  have hI := hG.1
  have ha := hr.1
  have hr5 := zref_le (T := T) (a := a) (n := n) (m := m) (v := v)
  obtain ⟨S1, k1, k2⟩ := zx_refusal hv hI ha n m hr.2.2.2.2
  rw [fX12_doByCall]
  refine ⟨fun c => ?_, fun c => ?_⟩
  · refine ⟨sh_I S1 0 10 (nI (zref T a n m v)), ?_, zI_s _ _ _ _, fun k hk => ?_, fun i h0 hi => ⟨?_, ?_⟩⟩
    · generalize zref T a n m v = r at *
      simp (disch := omega) only [zq_l9, pk_mul, nI_add, zq_t9, zq_c9, zq_bz9, zq_bo9, zq_g, zq_cl, zq_leT, zq_leF, zq_ltT, zq_ltF, zq_eqT, zq_eqF, zq_em, zq_me, zq_pm, zq_mm, zq_gm, pk_sub, zI_s, zI_k, zI_c, zI_2, zL_s, zL_k, zL_c, zL_1, if_true, if_false, eq_self, Nat.zero_add, Nat.add_zero, k1]
    · rw [zI_k S1 0 10 _ hk, (k2 0 (by omega)).1]
    · rw [zI_c S1 0 10 _ h0, (k2 i (by omega)).1]
    · rw [zI_2, (k2 i (by omega)).2]
  · rw [c] at k1
    have hG' := zG_act hG hr hn hm c
    have hv1 : zVX (sh_I S1 0 10 (nI 0)) 4 T := zVX_o (fun i h3 h4 => by
      have := sh_I_ne S1 0 10 (nI 0) i (by omega)
      have w := k2 i (by omega)
      exact ⟨this.1.trans w.1, this.2.trans w.2⟩) hv
    have e2 : (sh_I S1 0 10 (nI 0)).1 34 2 = nI t := by rw [zI_c S1 0 10 _ (by omega), (k2 34 (by omega)).1]; exact h2
    have e1 : (sh_I S1 0 10 (nI 0)).1 34 1 = nI u := by rw [zI_c S1 0 10 _ (by omega), (k2 34 (by omega)).1]; exact h1
    obtain ⟨S2, m1, m2, m3, m4, m5, m6, m7⟩ := zx_remember hv1 hI.1.2.2.2.2 ht hu e2 e1
    have hv2 : zVX S2 4 T := zVX_o (fun i h3 h4 => m7 i (by omega) (by omega)) hv1
    obtain ⟨S3, j1, j2, j3⟩ := zx_carry hv2 hI hr n m c hG'.1
    have htu := zt_tu' a ha
    have h10 : S3.1 0 10 = nI 0 := by rw [(j3 0 (by omega)).1, (m7 0 (by omega) (by omega)).1]; exact zI_s _ _ _ _
    have h0k : ∀ k, k ≠ 10 → S3.1 0 k = S.1 0 k := fun k hk => by rw [(j3 0 (by omega)).1, (m7 0 (by omega) (by omega)).1, zI_k S1 0 10 _ hk, (k2 0 (by omega)).1]
    have hfr : ∀ i, i ≠ 0 → (i < 4 ∨ (13 < i ∧ i < 34) ∨ (34 < i ∧ i < 116) ∨ 127 < i) → (i < 36 + 10 * t ∨ 36 + 10 * t + 9 < i) → S3.1 i = S.1 i ∧ S3.2 i = S.2 i := fun i h0 hi ho => by
      have a1 := j3 i (by omega)
      have a2 := m7 i (by omega) ho
      have a3 := sh_I_ne S1 0 10 (nI 0) i h0
      have a4 := k2 i (by omega)
      exact ⟨a1.1.trans (a2.1.trans (a3.1.trans a4.1)), a1.2.trans (a2.2.trans (a3.2.trans a4.2))⟩
    have hrd : ∀ i, 132 ≤ i → S3.1 i = S.1 i := fun i hi => (hfr i (by omega) (by omega) (by omega)).1
    have hh : zVX S3 (36 + 10 * t) T := zVX_o (fun i h3 h4 => j3 i (by omega)) m2
    have h342 : S3.1 34 2 = nI ((t + 1) % 8) := by rw [(j3 34 (by omega)).1]; exact m3
    have h341 : S3.1 34 1 = nI (min (u + 1) 8) := by rw [(j3 34 (by omega)).1]; exact m4
    by_cases tu : 3 ≤ a ∧ a ≤ 6
    · rw [if_pos tu] at htu ⊢
      obtain ⟨S4, w1, w2, w3, w4⟩ := zx_close S3
      have wf : ∀ i, i < 132 → S4.1 i = S3.1 i ∧ S4.2 i = S3.2 i := fun i hi => ⟨w3 i hi, by rw [w2]⟩
      refine ⟨S4, ?_, ?_, zVX_o (fun i h3 h4 => wf i (by omega)) j2, hG', zVX_o (fun i h3 h4 => wf i (by omega)) hh, ?_, ?_, zRD_eq w4 hrd (fun _ _ => rfl), fun k hk => ?_, fun i h0 hi ho => ?_⟩
      · simp (disch := omega) only [zq_l9, pk_mul, nI_add, zq_t9, zq_c9, zq_bz9, zq_bo9, zq_g, zq_cl, zq_leT, zq_leF, zq_ltT, zq_ltF, zq_eqT, zq_eqF, zq_em, zq_me, zq_pm, zq_mm, zq_gm, pk_sub, zI_s, zI_k, zI_c, zI_2, zL_s, zL_k, zL_c, zL_1, if_true, if_false, eq_self, Nat.zero_add, Nat.add_zero, k1, m1, j1, htu, w1]
      · rw [(wf 0 (by omega)).1]; exact h10
      · rw [(wf 34 (by omega)).1]; exact h342
      · rw [(wf 34 (by omega)).1]; exact h341
      · rw [(wf 0 (by omega)).1]; exact h0k k hk
      · have w9 := hfr i h0 (by omega) ho
        exact ⟨(wf i (by omega)).1.trans w9.1, (wf i (by omega)).2.trans w9.2⟩
    · rw [if_neg tu] at htu ⊢
      refine ⟨S3, ?_, h10, j2, hG', hh, h342, h341, zRD_0 hrd, h0k, fun i h0 hi ho => hfr i h0 (by omega) ho⟩
      simp (disch := omega) only [zq_l9, pk_mul, nI_add, zq_t9, zq_c9, zq_bz9, zq_bo9, zq_g, zq_cl, zq_leT, zq_leF, zq_ltT, zq_ltF, zq_eqT, zq_eqF, zq_em, zq_me, zq_pm, zq_mm, zq_gm, pk_sub, zI_s, zI_k, zI_c, zI_2, zL_s, zL_k, zL_c, zL_1, if_true, if_false, eq_self, Nat.zero_add, Nat.add_zero, k1, m1, j1, htu]
/-- what is put aside -/
def zAs (M M1 : sh_St) : Prop := (∀ k, k < 1084 → M1.1 5 k = M.1 1 k) ∧ (∀ k, k < 240 → M1.2 6 k = M.2 2 k) ∧ (∀ k, k ≠ 0 → k < 27 → M1.1 0 k = M.1 0 k) ∧ (M1.2 0 = M.2 0) ∧ ∀ i, i ≠ 0 → i ≠ 5 → i ≠ 6 → (i < 15 ∨ 20 < i) → M1.1 i = M.1 i ∧ M1.2 i = M.2 i
theorem zAs_m {M M1 M2 : sh_St} (h : zAs M M1) (hm : zFm M1 M2) : zAs M M2 := by
  obtain ⟨a, b, c, d, e⟩ := h
  refine ⟨fun k hk => ?_, fun k hk => ?_, fun k h0 hk => ?_, ?_, fun i h0 h5 h6 hi => ?_⟩
  · rw [(hm.2.2 5 (by omega) (by omega)).1]; exact a k hk
  · rw [(hm.2.2 6 (by omega) (by omega)).2]; exact b k hk
  · rw [hm.1 k hk]; exact c k h0 hk
  · rw [hm.2.1]; exact d
  · exact ⟨(hm.2.2 i h0 hi).1.trans (e i h0 h5 h6 hi).1, (hm.2.2 i h0 hi).2.trans (e i h0 h5 h6 hi).2⟩
theorem zm_isDone0 {M : sh_St} {u : Nat} (hu8 : u ≤ 8) (h5 : M.1 0 5 = nI u) (th : Int32) : ∃ M', fX13_isDone M (nI 0) th = some (nI 1, M') ∧ M'.1 0 21 = nI 0 ∧ M'.1 0 0 = nI 0 ∧ M'.1 0 5 = nI (if u = 8 then 8 else u + 1) ∧
    (∀ j k, k < 1084 → j < (if u = 8 then 7 else u) → M'.1 3 (1084 * j + k) = M.1 3 (1084 * (if u = 8 then j + 1 else j) + k)) ∧ (∀ j k, k < 240 → j < (if u = 8 then 7 else u) → M'.2 4 (240 * j + k) = M.2 4 (240 * (if u = 8 then j + 1 else j) + k)) ∧
    (∀ k, k < 1084 → M'.1 3 (1084 * (if u = 8 then 7 else u) + k) = M.1 5 k) ∧ (∀ k, k < 240 → M'.2 4 (240 * (if u = 8 then 7 else u) + k) = M.2 6 k) ∧
    (∀ k, k ≠ 0 → k ≠ 5 → k ≠ 21 → M'.1 0 k = M.1 0 k) ∧ (∀ i, i ≠ 0 → i ≠ 3 → M'.1 i = M.1 i) ∧ ∀ i, i ≠ 4 → M'.2 i = M.2 i := by
  have hu : (sh_I (sh_I M 0 21 (nI 0)) 0 0 (nI 0)).1 0 5 = nI u := by rw [zI_k _ 0 0 _ (by omega), zI_k M 0 21 _ (by omega)]; exact h5
  obtain ⟨M', f1, f2, f3, f4, f5, f6, f7, f8, f9⟩ := zm_remembers hu8 hu
  refine ⟨M', ?_, ?_, ?_, f2, fun j k hk hj => ?_, fun j k hk hj => ?_, fun k hk => ?_, fun k hk => ?_, fun k h0 h5' h21 => ?_, fun i h0 h3 => ?_, fun i h4 => ?_⟩
  · rw [fX13_isDone]
    simp (disch := omega) only [zq_l9, pk_mul, nI_add, zq_t9, zq_c9, zq_bz9, zq_bo9, zq_g, zq_cl, zq_leT, zq_leF, zq_ltT, zq_ltF, zq_eqT, zq_eqF, zq_em, zq_me, zq_pm, zq_mm, zq_gm, pk_sub, zI_s, zI_k, zI_c, zI_2, zL_s, zL_k, zL_c, zL_1, if_true, if_false, eq_self, Nat.zero_add, Nat.add_zero, fX13_isDone_15, f1, fX13_isDone_26]
  · rw [f7 21 (by omega), zI_k _ 0 0 _ (by omega), zI_s]
  · rw [f7 0 (by omega), zI_s]
  · rw [f3 j k hk hj, zI_c _ 0 0 _ (by omega), zI_c M 0 21 _ (by omega)]
  · rw [f4 j k hk hj, zI_2, zI_2]
  · rw [f5 k hk, zI_c _ 0 0 _ (by omega), zI_c M 0 21 _ (by omega)]
  · rw [f6 k hk, zI_2, zI_2]
  · rw [f7 k h5', zI_k _ 0 0 _ h0, zI_k M 0 21 _ h21]
  · rw [f8 i h0 h3, zI_c _ 0 0 _ h0, zI_c M 0 21 _ h0]
  · rw [f9 i h4, zI_2, zI_2]
theorem zm_isDone1 {M : sh_St} {c th : Nat} (hc : 1 ≤ c) (hc5 : c ≤ 5) : fX13_isDone M (nI c) (nI th) = some (nI 0, sh_I (sh_I M 0 21 (nI c)) 0 0 (nI th)) := by
  rw [fX13_isDone]
  simp (disch := omega) only [zq_l9, pk_mul, nI_add, zq_t9, zq_c9, zq_bz9, zq_bo9, zq_g, zq_cl, zq_leT, zq_leF, zq_ltT, zq_ltF, zq_eqT, zq_eqF, zq_em, zq_me, zq_pm, zq_mm, zq_gm, pk_sub, zI_s, zI_k, zI_c, zI_2, zL_s, zL_k, zL_c, zL_1, if_true, if_false, eq_self, Nat.zero_add, Nat.add_zero, fX13_isDone_15, fX13_isDone_26]
theorem zRc_rd {S S' M M' : sh_St} (h : zRc S M) {c : Nat} (hx : zRD c S S') (m9 : ∀ j, j < 4 → M'.1 9 j = if c = 1 then nI 0 else M.1 9 j) (m1 : ∀ i, 10 ≤ i → i ≤ 13 → M'.1 i = M.1 i) : zRc S' M' := fun r hr => by
  obtain ⟨o, k, z, h1, h2, h3, h4, h5, h6, h7, h8, h9, h10, h11⟩ := h r hr
  obtain ⟨x1, x2, x3⟩ := hx r hr
  refine ⟨if c = 1 then 0 else o, k, z, ?_, h2, h3, ?_, ?_, ?_, ?_, ?_, ?_, ?_, fun j hj => ?_⟩
  · split <;> omega
  · rw [x2, h4]; split <;> rfl
  · rw [m9 r hr, h5]; split <;> rfl
  · rw [x1 2 (by omega)]; exact h6
  · rw [m1 10 (by omega) (by omega)]; exact h7
  · rw [x1 3 (by omega), m1 11 (by omega) (by omega)]; exact h8
  · rw [x1 4 (by omega)]; exact h9
  · rw [m1 12 (by omega) (by omega)]; exact h10
  · rw [x3, m1 13 (by omega) (by omega)]; exact h11 j hj
theorem zR_call {S M M1 M2 : sh_St} {T : zT} {B : Nat → Nat} {L : Nat} (h : zR S M T B L) {a v : Nat} (hr : zrg a v) {n m : Int64} (hn : a < 3 → zval n) (hm : a = 2 → zval m) (hA : zAs M M1) (hop : zOP M1 M2 a n m v T) (th : Nat) :
    ∃ x S' M' T', fX12_doByCall S (nI a) n m (nI v) = some (x, S') ∧ fX13_isDone M2 (nI (zref T a n m v)) (nI th) = some (nI (if zref T a n m v = 0 then 1 else 0), M') ∧ zR S' M' T' B L ∧ (zref T a n m v = 0 → x = .inl (nI (zans T a n m v)) ∧ M'.1 0 0 = nI 0 ∧ T' = zact T a n m v ∧ M'.1 0 37 = M2.1 0 37) ∧ (zref T a n m v ≠ 0 → x = .inr "java/lang/IllegalStateException" ∧ M'.1 0 0 = nI th) := by
  have hh := h
  obtain ⟨hG, hv, hvm, ra, rb1, rb2, rc, rd, re, rg⟩ := h
  obtain ⟨t, u, Th, ht, hu, h2, h1, h5, hT⟩ := rd
  obtain ⟨y, z⟩ := zx_byCall hG hv hr hn hm ht hu h2 h1
  obtain ⟨A1, A2, A3, A4, A5⟩ := hA
  obtain ⟨o1, o2, o3⟩ := hop
  have hr5 := zref_le (T := T) (a := a) (n := n) (m := m) (v := v)
  have b0 : ∀ k, k ≠ 0 → k < 27 → M2.1 0 k = M.1 0 k := fun k h0 hk => (o2.1 k hk).trans (A3 k h0 hk)
  have bi : ∀ i, 3 ≤ i → i ≤ 14 → i ≠ 5 → i ≠ 6 → i ≠ 9 → M2.1 i = M.1 i ∧ M2.2 i = M.2 i := fun i h3 h14 n5 n6 n9 => by
    have a1 := o2.2.2 i h3 (by omega) n9
    have a2 := A5 i (by omega) n5 n6 (by omega)
    exact ⟨a1.1.trans a2.1, a1.2.trans a2.2⟩
  have b5 : ∀ k, k < 1084 → M2.1 5 k = M.1 1 k := fun k hk => by rw [(o2.2.2 5 (by omega) (by omega) (by omega)).1]; exact A1 k hk
  have b6 : ∀ k, k < 240 → M2.2 6 k = M.2 2 k := fun k hk => by rw [(o2.2.2 6 (by omega) (by omega) (by omega)).2]; exact A2 k hk
  have h9 : M1.1 9 = M.1 9 := (A5 9 (by omega) (by omega) (by omega) (by omega)).1
  by_cases c : zref T a n m v = 0
  · obtain ⟨S', x1, x2, x3, x4, x5, x6, x7, x8, x9, x10⟩ := z c
    obtain ⟨M', k1, k2, k3, k4, k5, k6, k7, k8, k9, k10, k11⟩ := zm_isDone0 (M := M2) hu (by rw [b0 5 (by omega) (by omega)]; exact h5) (nI th)
    rw [if_pos c] at o1
    refine ⟨_, S', M', zact T a n m v, x1, by rw [c]; exact k1, ⟨x4, x3, ?_, ?_, ?_, ?_, ?_, ?_, ?_, ?_⟩, fun _ => ⟨rfl, k3, rfl, k9 37 (by omega) (by omega) (by omega)⟩, fun q => absurd c q⟩
    · unfold zVN
      rw [k10 1 (by omega) (by omega), k11 2 (by omega)]
      exact o1
    · refine zRa_cg ra L ra.2.2.1 ?_ (x10 2 (by omega) (by omega) (by omega)).1 ?_ ?_
      · rw [(x10 1 (by omega) (by omega) (by omega)).1]; exact ra.1
      · rw [k9 17 (by omega) (by omega) (by omega), b0 17 (by omega) (by omega)]; exact ra.2.1
      · rw [k10 14 (by omega) (by omega), (bi 14 (by omega) (by omega) (by omega) (by omega) (by omega)).1]
    · rw [(x10 3 (by omega) (by omega) (by omega)).1, k9 20 (by omega) (by omega) (by omega), b0 20 (by omega) (by omega)]; exact rb1
    · rw [x2, k2]
    · refine zRc_rd rc x8 (fun j hj => ?_) (fun i h3 h4 => ?_)
      · rw [k10 9 (by omega) (by omega), o3 j hj, if_pos c, h9]
        by_cases tu : 3 ≤ a ∧ a ≤ 6
        · rw [if_pos tu, if_pos tu, if_pos rfl]
        · rw [if_neg tu, if_neg tu, if_neg (by omega)]
      · rw [k10 i (by omega) (by omega), (bi i (by omega) (by omega) (by omega) (by omega) (by omega)).1]
    · have hslot : ∀ j, j < 8 → 36 + 10 * j ≠ 36 + 10 * t → ∀ T0, zVX S (36 + 10 * j) T0 → zVX S' (36 + 10 * j) T0 := fun j hj hne T0 hv0 => zVX_o (fun i h3 h4 => x10 i (by omega) (by omega) (by omega)) hv0
      have m3 := (bi 3 (by omega) (by omega) (by omega) (by omega) (by omega)).1
      have m4 := (bi 4 (by omega) (by omega) (by omega) (by omega) (by omega)).2
      have hrow : ∀ j i T0, j < (if u = 8 then 7 else u) → i = (if u = 8 then j + 1 else j) → zVM (fun k => M.1 3 (1084 * i + k)) (fun k => M.2 4 (240 * i + k)) T0 → zVM (fun k => M'.1 3 (1084 * j + k)) (fun k => M'.2 4 (240 * j + k)) T0 := fun j i T0 hj e hv0 => by
        refine zVM_cg (fun k hk => ?_) (fun k hk => ?_) hv0
        · show M'.1 3 (1084 * j + k) = M.1 3 (1084 * i + k)
          rw [k5 j k hk hj, m3, e]
        · show M'.2 4 (240 * j + k) = M.2 4 (240 * i + k)
          rw [k6 j k hk hj, m4, e]
      have hlast : zVM (fun k => M'.1 3 (1084 * (if u = 8 then 7 else u) + k)) (fun k => M'.2 4 (240 * (if u = 8 then 7 else u) + k)) T := by
        refine zVM_cg (fun k hk => ?_) (fun k hk => ?_) hvm
        · show M'.1 3 (1084 * (if u = 8 then 7 else u) + k) = M.1 1 k
          rw [k7 k hk, b5 k hk]
        · show M'.2 4 (240 * (if u = 8 then 7 else u) + k) = M.2 2 k
          rw [k8 k hk, b6 k hk]
      by_cases c8 : u = 8
      · have e1 : (if u = 8 then 7 else u) = 7 := if_pos c8
        rw [e1] at hrow hlast
        rw [if_pos c8] at k4
        refine ⟨(t + 1) % 8, 8, fun j => if j < 7 then Th (j + 1) else T, by omega, by omega, x6, by rw [x7, show min (u + 1) 8 = 8 by omega], k4, fun j hj => ?_⟩
        by_cases j7 : j < 7
        · obtain ⟨q1, q2, q3⟩ := hT (j + 1) (by omega)
          rw [show ((fun j => if j < 7 then Th (j + 1) else T) j) = Th (j + 1) from if_pos j7]
          refine ⟨?_, hrow j (j + 1) _ j7 (by rw [if_pos c8]) q2, q3⟩
          rw [show (t + 8 - u + (j + 1)) % 8 = ((t + 1) % 8 + 8 - 8 + j) % 8 by omega] at q1
          exact hslot _ (by omega) (by omega) _ q1
        · rw [show ((fun j => if j < 7 then Th (j + 1) else T) j) = T from if_neg j7]
          have ej : j = 7 := by omega
          subst ej
          refine ⟨?_, hlast, hG⟩
          rw [show ((t + 1) % 8 + 8 - 8 + 7) % 8 = t by omega]
          exact x5
      · have e1 : (if u = 8 then 7 else u) = u := if_neg c8
        rw [e1] at hrow hlast
        rw [if_neg c8] at k4
        refine ⟨(t + 1) % 8, u + 1, fun j => if j < u then Th j else T, by omega, by omega, x6, by rw [x7, show min (u + 1) 8 = u + 1 by omega], k4, fun j hj => ?_⟩
        by_cases ju : j < u
        · obtain ⟨q1, q2, q3⟩ := hT j ju
          rw [show ((fun j => if j < u then Th j else T) j) = Th j from if_pos ju]
          refine ⟨?_, hrow j j _ ju (by rw [if_neg c8]) q2, q3⟩
          rw [show (t + 8 - u + j) % 8 = ((t + 1) % 8 + 8 - (u + 1) + j) % 8 by omega] at q1
          exact hslot _ (by omega) (by omega) _ q1
        · rw [show ((fun j => if j < u then Th j else T) j) = T from if_neg ju]
          have ej : j = u := by omega
          subst ej
          refine ⟨?_, hlast, hG⟩
          rw [show ((t + 1) % 8 + 8 - (j + 1) + j) % 8 = t by omega]
          exact x5
    · exact zRe_cg re (x9 9 (by omega)) (fun i h3 h4 => x10 i (by omega) (by omega) (by omega)) (by rw [k9 10 (by omega) (by omega) (by omega), b0 10 (by omega) (by omega)]) (by rw [k10 7 (by omega) (by omega), (bi 7 (by omega) (by omega) (by omega) (by omega) (by omega)).1]) (by rw [k11 8 (by omega), (bi 8 (by omega) (by omega) (by omega) (by omega) (by omega)).2])
    · exact zRg_cg rg (fun i h3 h4 => (x10 i (by omega) (by omega) (by omega)).1)
  · obtain ⟨S', x1, x2, x3, x4⟩ := y c
    have k1 := zm_isDone1 (M := M2) (c := zref T a n m v) (th := th) (by omega) hr5
    rw [if_neg c] at o1
    have f0 : ∀ k, k ≠ 0 → k ≠ 21 → k < 27 → (sh_I (sh_I M2 0 21 (nI (zref T a n m v))) 0 0 (nI th)).1 0 k = M.1 0 k := fun k h0 h21 hk => by rw [zI_k _ 0 0 _ h0, zI_k M2 0 21 _ h21]; exact b0 k h0 hk
    have fi : ∀ i, i ≠ 0 → (sh_I (sh_I M2 0 21 (nI (zref T a n m v))) 0 0 (nI th)).1 i = M2.1 i ∧ (sh_I (sh_I M2 0 21 (nI (zref T a n m v))) 0 0 (nI th)).2 i = M2.2 i := fun i h0 => ⟨by rw [zI_c _ 0 0 _ h0, zI_c M2 0 21 _ h0], rfl⟩
    have f21 : (sh_I (sh_I M2 0 21 (nI (zref T a n m v))) 0 0 (nI th)).1 0 21 = nI (zref T a n m v) := by rw [zI_k _ 0 0 _ (by omega), zI_s]
    refine ⟨_, S', sh_I (sh_I M2 0 21 (nI (zref T a n m v))) 0 0 (nI th), T, x1, by rw [k1, if_neg c], ⟨hG, zVX_o (fun i h3 h4 => x4 i (by omega) (by omega)) hv, ?_, ?_, ?_, ?_, ?_, ?_, ?_, ?_⟩, fun q => absurd q c, fun _ => ⟨rfl, zI_s _ _ _ _⟩⟩
    · unfold zVN
      rw [(fi 1 (by omega)).1, (fi 2 (by omega)).2]
      exact o1
    · refine zRa_cg ra L ra.2.2.1 ?_ (x4 2 (by omega) (by omega)).1 ?_ ?_
      · rw [(x4 1 (by omega) (by omega)).1]; exact ra.1
      · rw [f0 17 (by omega) (by omega) (by omega)]; exact ra.2.1
      · rw [(fi 14 (by omega)).1, (bi 14 (by omega) (by omega) (by omega) (by omega) (by omega)).1]
    · rw [(x4 3 (by omega) (by omega)).1, f0 20 (by omega) (by omega) (by omega)]; exact rb1
    · rw [x2, f21]
    · refine zRc_rd rc (c := 0) (zRD_0 (fun i hi => (x4 i (by omega) (by omega)).1)) (fun j hj => ?_) (fun i h3 h4 => ?_)
      · rw [(fi 9 (by omega)).1, o3 j hj, if_neg c, h9, if_neg (by omega)]
      · rw [(fi i (by omega)).1, (bi i (by omega) (by omega) (by omega) (by omega) (by omega)).1]
    · exact zRd_cg ⟨t, u, Th, ht, hu, h2, h1, h5, hT⟩ (fun i h3 h4 => x4 i (by omega) (by omega)) (f0 5 (by omega) (by omega) (by omega)) (by rw [(fi 3 (by omega)).1, (bi 3 (by omega) (by omega) (by omega) (by omega) (by omega)).1]) (by rw [(fi 4 (by omega)).2, (bi 4 (by omega) (by omega) (by omega) (by omega) (by omega)).2])
    · exact zRe_cg re (x3 9 (by omega)) (fun i h3 h4 => x4 i (by omega) (by omega)) (f0 10 (by omega) (by omega) (by omega)) (by rw [(fi 7 (by omega)).1, (bi 7 (by omega) (by omega) (by omega) (by omega) (by omega)).1]) (by rw [(fi 8 (by omega)).2, (bi 8 (by omega) (by omega) (by omega) (by omega) (by omega)).2])
    · exact zRg_cg rg (fun i h3 h4 => (x4 i (by omega) (by omega)).1)
