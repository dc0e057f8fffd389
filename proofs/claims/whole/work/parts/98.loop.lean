/-! the law's loop -/
theorem zts {j : Nat} (h : j < 32) : (nI j).toInt = (j : Int) := nI_toInt (by omega)
set_option maxRecDepth 100000 in
set_option maxHeartbeats 8000000 in
theorem wL_loop {p : Program} {l : Launch} {e : Env} {s : State} {m : MethodId} {below : List Frame} {meth : Method} {c : Code} {G : sh_Ev} {Q : State → Prop} {b L : Nat} {xs : Nat → Int32} (hst : l.stackTraces = false) (C : sh_Cx p s m #[Value.ref b] meth c cL_law 7 RL G (fun q : Nat => s.heap.size ≤ q)) (hNq : sh_Nq s) (hX : va_X b L xs s s.heap) (hbl : b < s.heap.size) (hL : L ≤ 3072) {c0 s0 : Nat} (hc0 : c0 ≤ 500000) (hs0 : s0 ≤ 7000000)
    (kend : ∀ (t : Nat) (H : Heap) (locs : List Loc) (ls : Array Slot), t ≤ 513 → va_S (fun q : Nat => s.heap.size ≤ q) s.heap H locs → W p l e room_1 s m #[Value.ref b] below meth c H locs (c0 + 2 * t) (s0 + 12 * t) Q (F0 m 1659 ls [])) : ∀ (n t : Nat) (SL : sh_St) (H : Heap) (locs : List Loc) (ls : Array Slot), t ≤ 513 → 6 * t ≤ L + 5 → L + 6 - 6 * t < n → zLR SL → sh_Wx G tbL (fun q : Nat => s.heap.size ≤ q) s H locs SL → lv_has ls 7 [(0, .ref b), (1, .ref (G.2.1 0)), (2, .ref (G.2.1 140)), (3, .ref (G.2.1 162)), (4, .int (nI (6 * t)))] → W p l e room_1 s m #[Value.ref b] below meth c H locs (c0 + 2 * t) (s0 + 12 * t) Q (F0 m 23 ls []) := by
  have hbA : ¬ (fun q : Nat => s.heap.size ≤ q) b := Nat.not_le.mpr hbl
  intro n
  induction n with
  | zero => intro t SL H locs ls h1 h2 h3; omega
  | succ n ih =>
    intro t SL H locs ls h1 h2 h3 hR hw hl
    refine lv_iload C.1 C.2.1 dL_law_23 (lv_at hl 4 rfl) ?_
    refine lv_aload_n C.1 C.2.1 dL_law_25 rfl (lv_at hl 0 rfl) ?_
    refine va_slen C.1 C.2.1 hX hbl hbA hw.2.2 dL_law_26 ?_
    refine lv_bipush (v := nI 6) C.1 C.2.1 dL_law_27 (by decide) ?_
    refine lv_isub C.1 C.2.1 dL_law_29 ?_
    refine lv_icmp_gt (tgt := 1659) C.1 C.2.1 dL_law_30 (by decide) (fun _ => kend t H locs ls h1 hw.2.2) (fun hc => ?_)
    have hle : 6 * t + 6 ≤ L := by
      have e1 : (nI L - nI 6).toInt = (L : Int) - 6 := pk_sub_toInt (by omega) (by omega)
      have e2 : (nI (6 * t)).toInt = ((6 * t : Nat) : Int) := nI_toInt (by omega)
      rcases Nat.lt_or_ge L (6 * t + 6) with q | q
      · refine absurd (Int32.lt_iff_toInt_lt.mpr ?_) hc
        show (nI L - nI 6).toInt < (nI (6 * t)).toInt
        rw [e1, e2]
        omega
      · exact q
    refine lv_aload_n C.1 C.2.1 dL_law_33 rfl (lv_at hl 0 rfl) ?_
    refine lv_iload C.1 C.2.1 dL_law_34 (lv_at hl 4 rfl) ?_
    refine va_sld C.1 C.2.1 hX hbl hbA hw.2.2 (vp_in_nI (by omega) (by omega)) dL_law_36 ?_
    refine lv_bipush (v := nI 31) C.1 C.2.1 dL_law_37 (by decide) ?_
    refine lv_iand C.1 C.2.1 dL_law_39 ?_
    obtain ⟨j, hj, ej⟩ := pk_andE (xs (nI (6 * t)).toNatClampNeg) (m := nI 31) 5 (by decide)
    rw [ej]
    have hnext : ∀ (SL' : sh_St) (H1 : Heap) (locs1 : List Loc) (ls' : Array Slot), zLR SL' → sh_Wx G tbL (fun q : Nat => s.heap.size ≤ q) s H1 locs1 SL' → lv_has ls' 7 [(0, .ref b), (1, .ref (G.2.1 0)), (2, .ref (G.2.1 140)), (3, .ref (G.2.1 162)), (4, .int (nI (6 * t)))] → W p l e room_1 s m #[Value.ref b] below meth c H1 locs1 (c0 + 2 * t + 2) (s0 + 12 * t + 12) Q (F0 m 1653 ls' []) := fun SL' H1 locs1 ls' hR' hw' hl' => by
      refine lv_iinc (v := nI (6 * (t + 1))) C.1 C.2.1 dL_law_1653 hl' (k := 4) rfl (by show nI (6 * t) + nI 6 = nI (6 * (t + 1)); rw [nI_add, Nat.mul_succ]) (by decide) rfl (fun ls hl => ?_)
      refine lv_goto (tgt := 23) C.1 C.2.1 dL_law_1656 (by decide) ?_
      exact ih (t + 1) SL' H1 locs1 ls (by omega) (by omega) (by omega) hR' hw' (lv_sub hl [1, 2, 3, 4, 0] rfl)
    by_cases hj28 : j ≤ 28
    · match j, hj28 with
      | 0, _ => exact lv_tableIn (tgt := 172) C.1 C.2.1 dL_law_40 (by decide) (by decide) rfl (by decide) (wL_0 hst C hNq hX hbl hle hL hR hw hl (by show c0 + 2 * t + 2 ≤ 601024; omega) (by show s0 + 12 * t + 12 ≤ 7293033; omega) hnext)
      | 1, _ => exact lv_tableIn (tgt := 245) C.1 C.2.1 dL_law_40 (by decide) (by decide) rfl (by decide) (wL_1 hst C hNq hX hbl hle hL hR hw hl (by show c0 + 2 * t + 2 ≤ 601024; omega) (by show s0 + 12 * t + 12 ≤ 7293033; omega) hnext)
      | 2, _ => exact lv_tableIn (tgt := 270) C.1 C.2.1 dL_law_40 (by decide) (by decide) rfl (by decide) (wL_2 hst C hNq hX hbl hle hL hR hw hl (by show c0 + 2 * t + 2 ≤ 601024; omega) (by show s0 + 12 * t + 12 ≤ 7293033; omega) hnext)
      | 3, _ => exact lv_tableIn (tgt := 314) C.1 C.2.1 dL_law_40 (by decide) (by decide) rfl (by decide) (wL_3 hst C hNq hX hbl hle hL hR hw hl (by show c0 + 2 * t + 2 ≤ 601024; omega) (by show s0 + 12 * t + 12 ≤ 7293033; omega) hnext)
      | 4, _ => exact lv_tableIn (tgt := 327) C.1 C.2.1 dL_law_40 (by decide) (by decide) rfl (by decide) (wL_4 hst C hNq hX hbl hle hL hR hw hl (by show c0 + 2 * t + 2 ≤ 601024; omega) (by show s0 + 12 * t + 12 ≤ 7293033; omega) hnext)
      | 5, _ => exact lv_tableIn (tgt := 340) C.1 C.2.1 dL_law_40 (by decide) (by decide) rfl (by decide) (wL_5 hst C hNq hX hbl hle hL hR hw hl (by show c0 + 2 * t + 2 ≤ 601024; omega) (by show s0 + 12 * t + 12 ≤ 7293033; omega) hnext)
      | 6, _ => exact lv_tableIn (tgt := 396) C.1 C.2.1 dL_law_40 (by decide) (by decide) rfl (by decide) (wL_6 hst C hNq hX hbl hle hL hR hw hl (by show c0 + 2 * t + 2 ≤ 601024; omega) (by show s0 + 12 * t + 12 ≤ 7293033; omega) hnext)
      | 7, _ => exact lv_tableIn (tgt := 440) C.1 C.2.1 dL_law_40 (by decide) (by decide) rfl (by decide) (wL_7 hst C hNq hX hbl hle hL hR hw hl (by show c0 + 2 * t + 2 ≤ 601024; omega) (by show s0 + 12 * t + 12 ≤ 7293033; omega) hnext)
      | 8, _ => exact lv_tableIn (tgt := 484) C.1 C.2.1 dL_law_40 (by decide) (by decide) rfl (by decide) (wL_8 hst C hNq hX hbl hle hL hR hw hl (by show c0 + 2 * t + 2 ≤ 601024; omega) (by show s0 + 12 * t + 12 ≤ 7293033; omega) hnext)
      | 9, _ => exact lv_tableIn (tgt := 528) C.1 C.2.1 dL_law_40 (by decide) (by decide) rfl (by decide) (wL_9 hst C hNq hX hbl hle hL hR hw hl (by show c0 + 2 * t + 2 ≤ 601024; omega) (by show s0 + 12 * t + 12 ≤ 7293033; omega) hnext)
      | 10, _ => exact lv_tableIn (tgt := 596) C.1 C.2.1 dL_law_40 (by decide) (by decide) rfl (by decide) (wL_10 hst C hNq hX hbl hle hL hR hw hl (by show c0 + 2 * t + 2 ≤ 601024; omega) (by show s0 + 12 * t + 12 ≤ 7293033; omega) hnext)
      | 11, _ => exact lv_tableIn (tgt := 652) C.1 C.2.1 dL_law_40 (by decide) (by decide) rfl (by decide) (wL_11 hst C hNq hX hbl hle hL hR hw hl (by show c0 + 2 * t + 2 ≤ 601024; omega) (by show s0 + 12 * t + 12 ≤ 7293033; omega) hnext)
      | 12, _ => exact lv_tableIn (tgt := 696) C.1 C.2.1 dL_law_40 (by decide) (by decide) rfl (by decide) (wL_12 hst C hNq hX hbl hle hL hR hw hl (by show c0 + 2 * t + 2 ≤ 601024; omega) (by show s0 + 12 * t + 12 ≤ 7293033; omega) hnext)
      | 13, _ => exact lv_tableIn (tgt := 752) C.1 C.2.1 dL_law_40 (by decide) (by decide) rfl (by decide) (wL_13 hst C hNq hX hbl hle hL hR hw hl (by show c0 + 2 * t + 2 ≤ 601024; omega) (by show s0 + 12 * t + 12 ≤ 7293033; omega) hnext)
      | 14, _ => exact lv_tableIn (tgt := 808) C.1 C.2.1 dL_law_40 (by decide) (by decide) rfl (by decide) (wL_14 hst C hNq hX hbl hle hL hR hw hl (by show c0 + 2 * t + 2 ≤ 601024; omega) (by show s0 + 12 * t + 12 ≤ 7293033; omega) hnext)
      | 15, _ => exact lv_tableIn (tgt := 876) C.1 C.2.1 dL_law_40 (by decide) (by decide) rfl (by decide) (wL_15 hst C hNq hX hbl hle hL hR hw hl (by show c0 + 2 * t + 2 ≤ 601024; omega) (by show s0 + 12 * t + 12 ≤ 7293033; omega) hnext)
      | 16, _ => exact lv_tableIn (tgt := 956) C.1 C.2.1 dL_law_40 (by decide) (by decide) rfl (by decide) (wL_16 hst C hNq hX hbl hle hL hR hw hl (by show c0 + 2 * t + 2 ≤ 601024; omega) (by show s0 + 12 * t + 12 ≤ 7293033; omega) hnext)
      | 17, _ => exact lv_tableIn (tgt := 1036) C.1 C.2.1 dL_law_40 (by decide) (by decide) rfl (by decide) (wL_17 hst C hNq hX hbl hle hL hR hw hl (by show c0 + 2 * t + 2 ≤ 601024; omega) (by show s0 + 12 * t + 12 ≤ 7293033; omega) hnext)
      | 18, _ => exact lv_tableIn (tgt := 1116) C.1 C.2.1 dL_law_40 (by decide) (by decide) rfl (by decide) (wL_18 hst C hNq hX hbl hle hL hR hw hl (by show c0 + 2 * t + 2 ≤ 601024; omega) (by show s0 + 12 * t + 12 ≤ 7293033; omega) hnext)
      | 19, _ => exact lv_tableIn (tgt := 1141) C.1 C.2.1 dL_law_40 (by decide) (by decide) rfl (by decide) (wL_19 hst C hNq hX hbl hle hL hR hw hl (by show c0 + 2 * t + 2 ≤ 601024; omega) (by show s0 + 12 * t + 12 ≤ 7293033; omega) hnext)
      | 20, _ => exact lv_tableIn (tgt := 1197) C.1 C.2.1 dL_law_40 (by decide) (by decide) rfl (by decide) (wL_20 hst C hNq hX hbl hle hL hR hw hl (by show c0 + 2 * t + 2 ≤ 601024; omega) (by show s0 + 12 * t + 12 ≤ 7293033; omega) hnext)
      | 21, _ => exact lv_tableIn (tgt := 1253) C.1 C.2.1 dL_law_40 (by decide) (by decide) rfl (by decide) (wL_21 hst C hNq hX hbl hle hL hR hw hl (by show c0 + 2 * t + 2 ≤ 601024; omega) (by show s0 + 12 * t + 12 ≤ 7293033; omega) hnext)
      | 22, _ => exact lv_tableIn (tgt := 1321) C.1 C.2.1 dL_law_40 (by decide) (by decide) rfl (by decide) (wL_22 hst C hNq hX hbl hle hL hR hw hl (by show c0 + 2 * t + 2 ≤ 601024; omega) (by show s0 + 12 * t + 12 ≤ 7293033; omega) hnext)
      | 23, _ => exact lv_tableIn (tgt := 1412) C.1 C.2.1 dL_law_40 (by decide) (by decide) rfl (by decide) (wL_23 hst C hNq hX hbl hle hL hR hw hl (by show c0 + 2 * t + 2 ≤ 601024; omega) (by show s0 + 12 * t + 12 ≤ 7293033; omega) hnext)
      | 24, _ => exact lv_tableIn (tgt := 1468) C.1 C.2.1 dL_law_40 (by decide) (by decide) rfl (by decide) (wL_24 hst C hNq hX hbl hle hL hR hw hl (by show c0 + 2 * t + 2 ≤ 601024; omega) (by show s0 + 12 * t + 12 ≤ 7293033; omega) hnext)
      | 25, _ => exact lv_tableIn (tgt := 1536) C.1 C.2.1 dL_law_40 (by decide) (by decide) rfl (by decide) (wL_25 hst C hNq hX hbl hle hL hR hw hl (by show c0 + 2 * t + 2 ≤ 601024; omega) (by show s0 + 12 * t + 12 ≤ 7293033; omega) hnext)
      | 26, _ => exact lv_tableIn (tgt := 1604) C.1 C.2.1 dL_law_40 (by decide) (by decide) rfl (by decide) (wL_26 hst C hNq hX hbl hle hL hR hw hl (by show c0 + 2 * t + 2 ≤ 601024; omega) (by show s0 + 12 * t + 12 ≤ 7293033; omega) hnext)
      | 27, _ => exact lv_tableIn (tgt := 1615) C.1 C.2.1 dL_law_40 (by decide) (by decide) rfl (by decide) (wL_27 hst C hNq hX hbl hle hL hR hw hl (by show c0 + 2 * t + 2 ≤ 601024; omega) (by show s0 + 12 * t + 12 ≤ 7293033; omega) hnext)
      | 28, _ => exact lv_tableIn (tgt := 1628) C.1 C.2.1 dL_law_40 (by decide) (by decide) rfl (by decide) (wL_28 hst C hNq hX hbl hle hL hR hw hl (by show c0 + 2 * t + 2 ≤ 601024; omega) (by show s0 + 12 * t + 12 ≤ 7293033; omega) hnext)
      | j + 29, h => omega
    · refine lv_tableOut (tgt := 1653) C.1 C.2.1 dL_law_40 (Or.inr ?_) (by decide) ?_
      · rw [nI_toInt (by omega)]
        omega
      · exact W.widen (k := c0 + 2 * t + 2) (n := s0 + 12 * t + 12) (by omega) (by omega) (hnext SL H locs ls hR hw hl)
