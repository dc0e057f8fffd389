/-! a good tree: each act keeps it -/
def zG (T : zT) : Prop := zInv T ∧ zSo T ∧ zRt T ∧ zLe T ∧ (T.1 7 3 = 1 → zun T)
theorem zput_7 (T : zT) (n : Int64) (d : Nat) {j : Nat} (hj : j ≠ 0) : (zput T n d).1 7 j = T.1 7 j := by
  unfold zput
  split
  · rw [zeT_i _ _ _ _ (by omega)]
  · split
    · unfold zK0
      rw [zRz_7, if_neg hj, zgr_i _ _ _ _ (by omega), zwT_i _ _ _ _ (by omega), zK1_i (by omega) (by omega)]
    · unfold zK6
      split
      · rw [zK2_7 (by omega)]
      · split
        · unfold zK4
          rw [zRz_7, if_neg hj, zCp_i _ _ _ _ (by omega) (by omega), zwT_i _ _ _ _ (by omega), zK3_i (by omega), zK2_7 (by omega)]
        · unfold zK5
          rw [zIn_i _ _ _ _ _ _ (by omega) (by omega), zwT_i _ _ _ _ (by omega), zK3_i (by omega), zK2_7 (by omega)]
theorem zis_f1 {T : zT} {n : Int64} {k : Nat} (hf : T.1 7 3 = 1) (hz : T.2 k ≠ 0) : zis T n k = true ↔ T.2 k ||| zSM = n ||| zSM := by
  rw [zis_1 hz]
  unfold zone
  rw [hf, if_neg (by omega), decide_eq_true_iff]
theorem zG_found {T : zT} (hG : zG T) {n : Int64} (hn : zval n) {k : Nat} (hk : k < 240) (his : zis T n k = true) : (zsk T n).1 < 240 := by
  obtain ⟨hI, hs, ht, hl, _⟩ := hG
  have hz := zis_nz his
  refine zsk_c hI hs ht hl hk his (zone_ha (zInv_va hI hk hz) hn ?_)
  rw [← zis_1 hz]
  exact his
theorem zG_cut {T : zT} (hG : zG T) (k : Nat) : zG (zeT T k 0 0) := by
  obtain ⟨hI, hs, ht, hl, hu⟩ := hG
  have e : ∀ i, i ≠ 3 → (zeT T k 0 0).1 i = T.1 i := fun i hi => zeT_i _ _ _ _ hi
  have eL : zLL (zeT T k 0 0) = zLL T := zLL_cg (e 1 (by omega)) (e 4 (by omega)) (e 5 (by omega)) (e 6 (by omega)) (by rw [e 7 (by omega)])
  obtain ⟨q1, q2⟩ := zlq_cg eL
  have hnz : ∀ j, (zeT T k 0 0).2 j ≠ 0 → j ≠ k ∧ (zeT T k 0 0).2 j = T.2 j := fun j hz => by
    by_cases c : j = k
    · subst c; rw [zeT_2s] at hz; exact absurd rfl hz
    · exact ⟨c, zeT_2k _ _ _ _ c⟩
  refine ⟨zInv_cut hI k 0, zSo_cg eL hs, zRt_cg (e 1 (by omega)) (e 4 (by omega)) (e 5 (by omega)) (e 6 (by omega)) (by rw [e 7 (by omega)]) ht, fun j hj hz => ?_, fun q i j hi hj hij zi zj => ?_⟩
  · obtain ⟨c, en⟩ := hnz j hz
    rw [en] at hz ⊢
    rw [zha_e]
    obtain ⟨p, p1, p2, p3, p4⟩ := hl j hj hz
    exact ⟨p, by omega, by rw [q1]; exact p2, by rw [q1]; exact p3, by rw [zbe_cg eL]; exact p4⟩
  · obtain ⟨_, e1⟩ := hnz i zi
    obtain ⟨_, e2⟩ := hnz j zj
    rw [e1] at zi ⊢
    rw [e2] at zj ⊢
    rw [e 7 (by omega)] at q
    exact hu q i j hi hj hij zi zj
theorem zG_put {T : zT} (hG : zG T) {n : Int64} (hn : zval n) {d : Nat} (hd : d ≤ 999) (hn9 : zned T (zha T n) ≠ 9) (hno : T.1 7 3 = 1 → ∀ k, k < 240 → T.2 k ≠ 0 → T.2 k ||| zSM ≠ n ||| zSM) : zG (zput T n d) := by
  obtain ⟨hI, hs, ht, hl, hu⟩ := hG
  obtain ⟨o1, o2, o3, o4⟩ := zput_ord (d := d) hI hs ht hl (zval_ne hn) hn9
  refine ⟨zput_inv hI hn hd hn9, o1, o2, o3, fun q => ?_⟩
  rw [zput_7 T n d (by omega)] at q
  exact o4 (hu q) (hno q)
theorem zG_tear {T : zT} (hG : zG T) {v : Nat} (hk : T.1 0 v = 2) : zG (zwT T 2 v 1) := by
  obtain ⟨hI, hs, ht, hl, hu⟩ := hG
  have e : ∀ i, i ≠ 2 → (zwT T 2 v 1).1 i = T.1 i := fun i hi => zwT_i _ _ _ _ hi
  have eL : zLL (zwT T 2 v 1) = zLL T := zLL_cg (e 1 (by omega)) (e 4 (by omega)) (e 5 (by omega)) (e 6 (by omega)) (by rw [e 7 (by omega)])
  obtain ⟨q1, q2⟩ := zlq_cg eL
  obtain ⟨a, b, c, d', e', f, g⟩ := hI
  refine ⟨⟨?_, fun x hx => ?_, ?_, ?_, ?_, ?_, ?_⟩, zSo_cg eL hs, zRt_cg (e 1 (by omega)) (e 4 (by omega)) (e 5 (by omega)) (e 6 (by omega)) (by rw [e 7 (by omega)]) ht, fun j hj hz => ?_, fun q => ?_⟩
  · rw [e 7 (by omega)]; exact a
  · rw [e 0 (by omega), e 1 (by omega), zwT_v]
    have := b x hx
    by_cases ex : x = v
    · subst ex
      rw [if_pos rfl]
      exact ⟨this.1, this.2.1, by omega, fun q => absurd hk q, this.2.2.2.2⟩
    · rw [if_neg ex]; exact this
  · rw [e 0 (by omega), e 3 (by omega)]; exact c
  · rw [e 1 (by omega), e 4 (by omega), e 5 (by omega), e 6 (by omega)]; exact d'
  · rw [e 1 (by omega), e 6 (by omega)]; exact e'
  · rw [e 0 (by omega), e 1 (by omega), e 6 (by omega), e 7 (by omega)]; exact f
  · rw [e 0 (by omega), e 1 (by omega), e 6 (by omega)]; exact g
  · rw [zha_7 (T := T) (fun i _ => by rw [e 7 (by omega)])]
    obtain ⟨p, p1, p2, p3, p4⟩ := hl j hj hz
    exact ⟨p, by omega, by rw [q1]; exact p2, by rw [q1]; exact p3, by rw [zbe_cg eL]; exact p4⟩
  · rw [e 7 (by omega)] at q
    exact hu q
theorem zG_build {T : zT} (hG : zG T) {a v : Nat} (hr : zrg a v) (h80 : zall T ≤ 80) (h5 : a = 5 → zuq T) : zG (zbu (zU T a v) (zPA (zU T a v))) := by
  obtain ⟨hI, hs, ht, hl, hu⟩ := hG
  have hIU := zInv_U hI hr
  obtain ⟨b1, b2, b3, b4, b5, b6⟩ := zbu_all (T := zU T a v) (P := zPA (zU T a v)) hIU.1.2 (by rw [zPA_len, zall_U]; exact h80) (zPA_l hIU) (fun x hx => by
    obtain ⟨k, k1, k2, k3⟩ := zpc_mem hx
    have hz : (zU T a v).2 k ≠ 0 := of_decide_eq_true k2
    rw [k3]
    exact ⟨zInv_va hIU k1 hz, zInv_nd hIU k1 hz⟩) (zPA_h _) (zpc_srt _ _ _)
  refine ⟨b1, b2, b3, b4, fun q => b5 ?_⟩
  rw [b6 3 (by omega)] at q
  have hq : zuq T := by
    have q' : zfd T a = 1 := q
    by_cases a5 : a = 5
    · exact h5 a5
    · unfold zfd at q'
      rw [if_neg a5] at q'
      by_cases a6 : a = 6
      · rw [if_pos a6] at q'; omega
      · rw [if_neg a6] at q'; exact (zun_iff T).2 (hu q')
  have hp := zall_pm T (zbi T a v) (zky T a v) (zfd T a)
  exact hp.nodup_iff.2 hq
theorem zG_act {T : zT} (hG : zG T) {a v : Nat} (hr : zrg a v) {n m : Int64} (hn : a < 3 → zval n) (hm : a = 2 → zval m) (h0 : zref T a n m v = 0) : zG (zact T a n m v) := by
  unfold zact
  by_cases a0 : a = 0
  · rw [if_pos a0]
    subst a0
    obtain ⟨c, _, q⟩ := zrP_0 (T := T) (n := n) h0
    exact zG_put hG (hn (by omega)) (hr.2.1 rfl) q (fun hf k hk hz e => c (zG_found hG (hn (by omega)) hk ((zis_f1 hf hz).2 e)))
  rw [if_neg a0]
  by_cases a1 : a = 1
  · rw [if_pos a1]
    exact zG_cut hG _
  rw [if_neg a1]
  by_cases a2 : a = 2
  · rw [if_pos a2]
    subst a2
    obtain ⟨c, c2, q⟩ := zrT_0 (T := T) (n := n) (m := m) h0
    refine zG_put (zG_cut hG _) (hm rfl) (zInv_nd hG.1 c (zsk_nz c)) (zpco_0 q).2 (fun hf k hk hz e => ?_)
    rw [zeT_i _ _ _ _ (by omega)] at hf
    have hne : k ≠ (zsk T n).1 := fun w => by rw [w, zeT_2s] at hz; exact hz rfl
    rw [zeT_2k _ _ _ _ hne] at hz e
    have hf' := zG_found hG (hm rfl) hk ((zis_f1 hf hz).2 e)
    have e1 := c2 hf'
    have his := zsk_is hf'
    rw [e1] at his
    have e3 := (zis_f1 hf (zsk_nz c)).1 his
    exact hG.2.2.2.2 hf k (zsk T n).1 hk c hne hz (zsk_nz c) (e.trans e3.symm)
  rw [if_neg a2]
  by_cases a7 : a = 7
  · rw [if_pos a7]
    subst a7
    have h1 : (if T.1 0 v = 2 then 0 else 5) = 0 := h0
    exact zG_tear hG (Classical.byContradiction fun q => by rw [if_neg q] at h1; omega)
  rw [if_neg a7]
  obtain ⟨h80, h5⟩ := zref_b ⟨a0, a1, a2, a7⟩ h0
  exact zG_build hG hr h80 h5
