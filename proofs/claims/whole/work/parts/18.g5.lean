def fX1_takesNumber (S : sh_St) (v0 : Int32) : Option (Int32 × sh_St) :=
    sh_g v0 9 (if (([999, -1, -1, 12, 65535, -1, -1, 39, -1] : List Int32).getD v0.toNatClampNeg 0) = (-1) then (sh_b 0 (some (0, S)))
    else (sh_b 1 (some (1, S))))
set_option maxRecDepth 100000 in
set_option maxHeartbeats 4000000 in
theorem kX1_takesNumber (l : Launch) (v0 : Int32) : sh_Mi l yX1_takesNumber cX1_takesNumber 1 .boolean 1 tbX (fun G => [.ref (G.2.2.1 v0.toNatClampNeg)]) (fun S => fX1_takesNumber S v0) := by
  refine sh_mki (by decide) (fun G => Nat.le_of_ble_eq_true rfl) ?_
  intro p e s m args below meth c G A S res ls hf C hr hw hl
  have C : sh_Cx p s m args meth c cX1_takesNumber 1 RX1 G A := C
  have hl : lv_has ls 1 [(0, .ref (G.2.2.1 v0.toNatClampNeg))] := hl
  replace hf : fX1_takesNumber S v0 = some res := hf
  rw [fX1_takesNumber] at hf
  refine lv_aload_n C.1 C.2.1 dX1_takesNumber_0 rfl (lv_at hl 0 rfl) ?_
  refine sh_getF C hw ("SteadyShelf$Act", "most", "I", [999, -1, -1, 12, 65535, -1, -1, 39, -1]) (by decide) hf al_X1_63 dX1_takesNumber_1 (fun hf => ?_)
  refine lv_iconst (v := -1) C.1 C.2.1 dX1_takesNumber_4 (by decide) ?_
  refine sh_icmp_eq (tgt := 12) C hf dX1_takesNumber_5 (by decide) (fun hf => ?_) (fun hf => ?_)
  · refine lv_iconst (v := 0) C.1 C.2.1 dX1_takesNumber_12 (by decide) ?_
    exact sh_rz C hw hr hf dX1_takesNumber_13
  · refine lv_iconst (v := 1) C.1 C.2.1 dX1_takesNumber_8 (by decide) ?_
    refine lv_goto (tgt := 13) C.1 C.2.1 dX1_takesNumber_9 (by decide) ?_
    exact sh_rz C hw hr hf dX1_takesNumber_13
def fX2_restart (q : Nat) (S : sh_St) : Option (Unit × sh_St) :=
    sh_b 1 (sh_t (sh_I S (132 + 2 * q) 1 1) fun S1 =>
    sh_t (sh_I S1 (132 + 2 * q) 2 0) fun S2 =>
    sh_t (sh_I S2 (132 + 2 * q) 3 0) fun S3 =>
    sh_t (sh_I S3 (132 + 2 * q) 4 0) fun S4 =>
    some ((), S4))
set_option maxRecDepth 100000 in
set_option maxHeartbeats 4000000 in
theorem kX2_restart (l : Launch) {q : Nat} (hq : q < 4) : sh_Mv l yX2_restart cX2_restart 1 1 tbX (fun G => [.ref (G.2.1 (132 + 2 * q))]) (fun S => fX2_restart q S) := by
  refine sh_mkv (by decide) (fun G => Nat.le_of_ble_eq_true rfl) ?_
  intro p e s m args below meth c G A S res ls hf C hr hw hl
  have C : sh_Cx p s m args meth c cX2_restart 1 RX2 G A := C
  have hl : lv_has ls 1 [(0, .ref (G.2.1 (132 + 2 * q)))] := hl
  replace hf : fX2_restart q S = some res := hf
  rw [fX2_restart] at hf
  refine lv_aload_n C.1 C.2.1 dX2_restart_0 rfl (lv_at hl 0 rfl) ?_
  refine lv_iconst (v := 1) C.1 C.2.1 dX2_restart_1 (by decide) ?_
  refine sh_putz C hw fl_X2_15 fp_0_1 hf (tbX_cur hq) rfl dX2_restart_2 (fun S1 H locs hw hf => ?_)
  refine lv_aload_n C.1 C.2.1 dX2_restart_5 rfl (lv_at hl 0 rfl) ?_
  refine lv_iconst (v := 0) C.1 C.2.1 dX2_restart_6 (by decide) ?_
  refine sh_puti C hw fl_X2_19 fp_0_2 hf (tbX_cur hq) rfl dX2_restart_7 (fun S2 H locs hw hf => ?_)
  refine lv_aload_n C.1 C.2.1 dX2_restart_10 rfl (lv_at hl 0 rfl) ?_
  refine lv_iconst (v := 0) C.1 C.2.1 dX2_restart_11 (by decide) ?_
  refine sh_puti C hw fl_X2_23 fp_0_3 hf (tbX_cur hq) rfl dX2_restart_12 (fun S3 H locs hw hf => ?_)
  refine lv_aload_n C.1 C.2.1 dX2_restart_15 rfl (lv_at hl 0 rfl) ?_
  refine lv_iconst (v := 0) C.1 C.2.1 dX2_restart_16 (by decide) ?_
  refine sh_puti C hw fl_X2_26 fp_0_4 hf (tbX_cur hq) rfl dX2_restart_17 (fun S4 H locs hw hf => ?_)
  exact sh_rv C hw hr hf dX2_restart_20
def fX2_take_15 (q : Nat) : Nat → sh_St → Int32 → Int32 → Option (Unit × sh_St)
  | 0, _, _, _ => none
  | n + 1, S, v2, v3 =>
    if (S.1 (132 + 2 * q) 4) ≤ v3 then (if (S.1 124 3) ≤ 0 then (some ((), S))
    else (sh_t (sh_I S (132 + 2 * q) 3 ((S.1 (132 + 2 * q) 3) + (S.1 124 3))) fun S2 =>
    sh_t (sh_I S2 (132 + 2 * q) 2 (v2 + 1)) fun S3 =>
    some ((), S3)))
    else (sh_g v3 240 (sh_g v3 60 (sh_t (sh_I S (133 + 2 * q) v3.toNatClampNeg (S.1 126 v3.toNatClampNeg)) fun S4 =>
    sh_t (v3 + 1) fun y5 =>
    (fX2_take_15 q n) S4 v2 y5)))
set_option maxRecDepth 100000 in
set_option maxHeartbeats 4000000 in
theorem wX2_take_15 {p : Program} {l : Launch} {e : Env} {s : State} {m : MethodId} {args : Array Value} {below : List Frame} {meth : Method} {c : Code} {G : sh_Ev} {A : Nat → Prop} {res : Unit × sh_St} (C : sh_Cx p s m args meth c cX2_take 4 RX2 G A) (hr : meth.sig.returnType = none) {q : Nat} (hq : q < 4) : ∀ (n : Nat) (S : sh_St) (v2 : Int32) (v3 : Int32), fX2_take_15 q n S v2 v3 = some res → ∀ (H : Heap) (locs : List Loc) (ls : Array Slot), sh_Wx G tbX A s H locs S → lv_has ls 4 [(0, .ref (G.2.1 (132 + 2 * q))), (1, .ref (G.2.1 124)), (2, .int v2), (3, .int v3)] → W p l e (sh_rm 1) s m args below meth c H locs 0 0 (sh_Qv below args s G tbX A res) (F0 m 15 ls []) := by
  intro n
  induction n with
  | zero => intro S v2 v3 hf; exact nomatch (show (none : Option (Unit × sh_St)) = some res from hf)
  | succ n ih =>
    intro S v2 v3 hf H locs ls hw hl
    have hr15 := ih
    rw [fX2_take_15] at hf
    refine lv_iload_n C.1 C.2.1 dX2_take_15 rfl (lv_at hl 3 rfl) ?_
    refine lv_aload_n C.1 C.2.1 dX2_take_16 rfl (lv_at hl 0 rfl) ?_
    refine sh_geti C hw fl_X2_26 (tbX_cur hq) rfl dX2_take_17 ?_
    refine sh_icmp_ge (tgt := 41) C hf dX2_take_20 (by decide) (fun hf => ?_) (fun hf => ?_)
    · refine lv_aload_n C.1 C.2.1 dX2_take_41 rfl (lv_at hl 1 rfl) ?_
      refine sh_geti C hw fl_X2_29 tbX_124 rfl dX2_take_42 ?_
      refine sh_if_le (tgt := 68) C hf dX2_take_45 (by decide) (fun hf => ?_) (fun hf => ?_)
      · exact sh_rv C hw hr hf dX2_take_68
      · refine lv_aload_n C.1 C.2.1 dX2_take_48 rfl (lv_at hl 0 rfl) ?_
        refine lv_dup C.1 C.2.1 dX2_take_49 rfl ?_
        refine sh_geti C hw fl_X2_23 (tbX_cur hq) rfl dX2_take_50 ?_
        refine lv_aload_n C.1 C.2.1 dX2_take_53 rfl (lv_at hl 1 rfl) ?_
        refine sh_geti C hw fl_X2_29 tbX_124 rfl dX2_take_54 ?_
        refine lv_iadd C.1 C.2.1 dX2_take_57 ?_
        refine sh_puti C hw fl_X2_23 fp_0_3 hf (tbX_cur hq) rfl dX2_take_58 (fun S2 H locs hw hf => ?_)
        refine lv_aload_n C.1 C.2.1 dX2_take_61 rfl (lv_at hl 0 rfl) ?_
        refine lv_iload_n C.1 C.2.1 dX2_take_62 rfl (lv_at hl 2 rfl) ?_
        refine lv_iconst (v := 1) C.1 C.2.1 dX2_take_63 (by decide) ?_
        refine lv_iadd C.1 C.2.1 dX2_take_64 ?_
        refine sh_puti C hw fl_X2_19 fp_0_2 hf (tbX_cur hq) rfl dX2_take_65 (fun S3 H locs hw hf => ?_)
        exact sh_rv C hw hr hf dX2_take_68
    · refine lv_aload_n C.1 C.2.1 dX2_take_23 rfl (lv_at hl 0 rfl) ?_
      refine sh_getr C hw fl_X2_9 (tbX_cur hq) rfl dX2_take_24 ?_
      refine lv_iload_n C.1 C.2.1 dX2_take_27 rfl (lv_at hl 3 rfl) ?_
      refine lv_aload_n C.1 C.2.1 dX2_take_28 rfl (lv_at hl 1 rfl) ?_
      refine sh_getr C hw fl_X2_38 tbX_124 rfl dX2_take_29 ?_
      refine lv_iload_n C.1 C.2.1 dX2_take_32 rfl (lv_at hl 3 rfl) ?_
      refine sh_iald C hw hf tbX_126 dX2_take_33 (fun hf => ?_)
      refine sh_iast C hw hf (tbX_curN hq) dX2_take_34 (fun S4 H locs hw hf => ?_)
      obtain ⟨y5, ey5, hf⟩ := sh_nm hf
      refine lv_iinc (v := y5) (lv' := [(3, .int y5), (0, .ref (G.2.1 (132 + 2 * q))), (1, .ref (G.2.1 124)), (2, .int v2)]) C.1 C.2.1 dX2_take_35 hl (k := 3) rfl (by rw [← ey5]; rfl) (by decide) rfl (fun ls hl => ?_)
      refine lv_goto (tgt := 15) C.1 C.2.1 dX2_take_38 (by decide) ?_
      exact hr15 S4 v2 y5 hf _ _ _ hw (lv_sub hl [1, 2, 3, 0] rfl)
def fX2_take (q : Nat) (S : sh_St) (v2 : Int32) : Option (Unit × sh_St) :=
    sh_t (sh_I S (132 + 2 * q) 4 (if 60 < (S.1 124 3) then 60 else (S.1 124 3))) fun S1 =>
    fX2_take_15 q sh_FU S1 v2 0
set_option maxRecDepth 100000 in
set_option maxHeartbeats 4000000 in
theorem kX2_take (l : Launch) {q : Nat} (hq : q < 4) (v2 : Int32) : sh_Mv l yX2_take cX2_take 4 1 tbX (fun G => [.ref (G.2.1 (132 + 2 * q)), .ref (G.2.1 124), .int v2]) (fun S => fX2_take q S v2) := by
  refine sh_mkv (by decide) (fun G => Nat.le_of_ble_eq_true rfl) ?_
  intro p e s m args below meth c G A S res ls hf C hr hw hl
  have C : sh_Cx p s m args meth c cX2_take 4 RX2 G A := C
  have hl : lv_has ls 4 [(0, .ref (G.2.1 (132 + 2 * q))), (1, .ref (G.2.1 124)), (2, .int v2)] := hl
  replace hf : fX2_take q S v2 = some res := hf
  rw [fX2_take] at hf
  refine lv_aload_n C.1 C.2.1 dX2_take_0 rfl (lv_at hl 0 rfl) ?_
  refine lv_aload_n C.1 C.2.1 dX2_take_1 rfl (lv_at hl 1 rfl) ?_
  refine sh_geti C hw fl_X2_29 tbX_124 rfl dX2_take_2 ?_
  refine lv_bipush (v := 60) C.1 C.2.1 dX2_take_5 (by decide) ?_
  refine sh_min C ml_X2_32 mb_min (by decide) hl.1 (Nat.le_of_ble_eq_true rfl) dX2_take_7 ?_
  refine sh_puti C hw fl_X2_26 fp_0_4 hf (tbX_cur hq) rfl dX2_take_10 (fun S1 H locs hw hf => ?_)
  refine lv_iconst (v := 0) C.1 C.2.1 dX2_take_13 (by decide) ?_
  refine lv_istore_n (lv' := [(3, .int 0), (0, .ref (G.2.1 (132 + 2 * q))), (1, .ref (G.2.1 124)), (2, .int v2)]) C.1 C.2.1 dX2_take_14 rfl hl (by decide) rfl (fun ls hl => ?_)
  exact wX2_take_15 C hr hq _ S1 v2 0 hf _ _ _ hw (lv_sub hl [1, 2, 3, 0] rfl)
def fX3_remember (S : sh_St) : Option (Unit × sh_St) :=
    sh_g (S.1 34 2) 8 (sh_c (fX7_copyFrom S (36 + 10 * (S.1 34 2).toNatClampNeg) 4) fun _ S2 =>
    sh_t (sh_I S2 34 2 (((S2.1 34 2) + 1) - ((S2.1 34 2) + 1) / 8 * 8)) fun S4 =>
    sh_t (sh_I S4 34 1 (if 8 < ((S4.1 34 1) + 1) then 8 else ((S4.1 34 1) + 1))) fun S5 =>
    some ((), S5))
set_option maxRecDepth 100000 in
set_option maxHeartbeats 4000000 in
theorem kX3_remember (l : Launch) : sh_Mv l yX3_remember cX3_remember 2 2 tbX (fun G => [.ref (G.2.1 34), .ref (G.2.1 4)]) (fun S => fX3_remember S) := by
  refine sh_mkv (by decide) (fun G => Nat.le_of_ble_eq_true rfl) ?_
  intro p e s m args below meth c G A S res ls hf C hr hw hl
  have C : sh_Cx p s m args meth c cX3_remember 2 RX3 G A := C
  have hl : lv_has ls 2 [(0, .ref (G.2.1 34)), (1, .ref (G.2.1 4))] := hl
  replace hf : fX3_remember S = some res := hf
  rw [fX3_remember] at hf
  refine lv_aload_n C.1 C.2.1 dX3_remember_0 rfl (lv_at hl 0 rfl) ?_
  refine sh_getr C hw fl_X3_11 tbX_34 rfl dX3_remember_1 ?_
  refine lv_aload_n C.1 C.2.1 dX3_remember_4 rfl (lv_at hl 0 rfl) ?_
  refine sh_geti C hw fl_X3_21 tbX_34 rfl dX3_remember_5 ?_
  refine sh_aald3 C hw hf tbX_35 dX3_remember_8 (fun hj1 hf => ?_)
  refine lv_aload_n C.1 C.2.1 dX3_remember_9 rfl (lv_at hl 1 rfl) ?_
  refine sh_Vv (As := [.ref (G.2.1 4)]) (rest := []) C hw (kX7_copyFrom l (isS_h hj1) isS_4 ) yy_X7_copyFrom yv_X7_copyFrom ml_X3_25 hf (isS_h hj1).1 rfl rfl rfl rfl (Nat.le_of_ble_eq_true rfl) (by decide) hl.1 dX3_remember_10 (fun S2 H locs hw hf => ?_)
  refine lv_aload_n C.1 C.2.1 dX3_remember_13 rfl (lv_at hl 0 rfl) ?_
  refine lv_aload_n C.1 C.2.1 dX3_remember_14 rfl (lv_at hl 0 rfl) ?_
  refine sh_geti C hw fl_X3_21 tbX_34 rfl dX3_remember_15 ?_
  refine lv_iconst (v := 1) C.1 C.2.1 dX3_remember_18 (by decide) ?_
  refine lv_iadd C.1 C.2.1 dX3_remember_19 ?_
  refine lv_bipush (v := 8) C.1 C.2.1 dX3_remember_20 (by decide) ?_
  refine lv_irem C.1 C.2.1 dX3_remember_22 (by decide) ?_
  refine sh_puti C hw fl_X3_21 fp_1_2 hf tbX_34 rfl dX3_remember_23 (fun S4 H locs hw hf => ?_)
  refine lv_aload_n C.1 C.2.1 dX3_remember_26 rfl (lv_at hl 0 rfl) ?_
  refine lv_aload_n C.1 C.2.1 dX3_remember_27 rfl (lv_at hl 0 rfl) ?_
  refine sh_geti C hw fl_X3_17 tbX_34 rfl dX3_remember_28 ?_
  refine lv_iconst (v := 1) C.1 C.2.1 dX3_remember_31 (by decide) ?_
  refine lv_iadd C.1 C.2.1 dX3_remember_32 ?_
  refine lv_bipush (v := 8) C.1 C.2.1 dX3_remember_33 (by decide) ?_
  refine sh_min C ml_X3_29 mb_min (by decide) hl.1 (Nat.le_of_ble_eq_true rfl) dX3_remember_35 ?_
  refine sh_puti C hw fl_X3_17 fp_1_1 hf tbX_34 rfl dX3_remember_38 (fun S5 H locs hw hf => ?_)
  exact sh_rv C hw hr hf dX3_remember_41
def fX3_takeBack (S : sh_St) : Option (Unit × sh_St) :=
    sh_t (sh_I S 34 2 ((((S.1 34 2) + 8) - 1) - (((S.1 34 2) + 8) - 1) / 8 * 8)) fun S1 =>
    sh_g (S1.1 34 2) 8 (sh_c (fX7_copyFrom S1 4 (36 + 10 * (S1.1 34 2).toNatClampNeg)) fun _ S3 =>
    sh_t (sh_I S3 34 1 ((S3.1 34 1) - 1)) fun S5 =>
    some ((), S5))
set_option maxRecDepth 100000 in
set_option maxHeartbeats 4000000 in
theorem kX3_takeBack (l : Launch) : sh_Mv l yX3_takeBack cX3_takeBack 2 2 tbX (fun G => [.ref (G.2.1 34), .ref (G.2.1 4)]) (fun S => fX3_takeBack S) := by
  refine sh_mkv (by decide) (fun G => Nat.le_of_ble_eq_true rfl) ?_
  intro p e s m args below meth c G A S res ls hf C hr hw hl
  have C : sh_Cx p s m args meth c cX3_takeBack 2 RX3 G A := C
  have hl : lv_has ls 2 [(0, .ref (G.2.1 34)), (1, .ref (G.2.1 4))] := hl
  replace hf : fX3_takeBack S = some res := hf
  rw [fX3_takeBack] at hf
  refine lv_aload_n C.1 C.2.1 dX3_takeBack_0 rfl (lv_at hl 0 rfl) ?_
  refine lv_aload_n C.1 C.2.1 dX3_takeBack_1 rfl (lv_at hl 0 rfl) ?_
  refine sh_geti C hw fl_X3_21 tbX_34 rfl dX3_takeBack_2 ?_
  refine lv_bipush (v := 8) C.1 C.2.1 dX3_takeBack_5 (by decide) ?_
  refine lv_iadd C.1 C.2.1 dX3_takeBack_7 ?_
  refine lv_iconst (v := 1) C.1 C.2.1 dX3_takeBack_8 (by decide) ?_
  refine lv_isub C.1 C.2.1 dX3_takeBack_9 ?_
  refine lv_bipush (v := 8) C.1 C.2.1 dX3_takeBack_10 (by decide) ?_
  refine lv_irem C.1 C.2.1 dX3_takeBack_12 (by decide) ?_
  refine sh_puti C hw fl_X3_21 fp_1_2 hf tbX_34 rfl dX3_takeBack_13 (fun S1 H locs hw hf => ?_)
  refine lv_aload_n C.1 C.2.1 dX3_takeBack_16 rfl (lv_at hl 1 rfl) ?_
  refine lv_aload_n C.1 C.2.1 dX3_takeBack_17 rfl (lv_at hl 0 rfl) ?_
  refine sh_getr C hw fl_X3_11 tbX_34 rfl dX3_takeBack_18 ?_
  refine lv_aload_n C.1 C.2.1 dX3_takeBack_21 rfl (lv_at hl 0 rfl) ?_
  refine sh_geti C hw fl_X3_21 tbX_34 rfl dX3_takeBack_22 ?_
  refine sh_aald3 C hw hf tbX_35 dX3_takeBack_25 (fun hj2 hf => ?_)
  refine sh_Vv (As := [.ref (G.2.1 (36 + 10 * (S1.1 34 2).toNatClampNeg))]) (rest := []) C hw (kX7_copyFrom l isS_4 (isS_h hj2) ) yy_X7_copyFrom yv_X7_copyFrom ml_X3_25 hf isS_4.1 rfl rfl rfl rfl (Nat.le_of_ble_eq_true rfl) (by decide) hl.1 dX3_takeBack_26 (fun S3 H locs hw hf => ?_)
  refine lv_aload_n C.1 C.2.1 dX3_takeBack_29 rfl (lv_at hl 0 rfl) ?_
  refine lv_dup C.1 C.2.1 dX3_takeBack_30 rfl ?_
  refine sh_geti C hw fl_X3_17 tbX_34 rfl dX3_takeBack_31 ?_
  refine lv_iconst (v := 1) C.1 C.2.1 dX3_takeBack_34 (by decide) ?_
  refine lv_isub C.1 C.2.1 dX3_takeBack_35 ?_
  refine sh_puti C hw fl_X3_17 fp_1_1 hf tbX_34 rfl dX3_takeBack_36 (fun S5 H locs hw hf => ?_)
  exact sh_rv C hw hr hf dX3_takeBack_39
def fX4_refusalOf (S : sh_St) (v1 : Int32) (v2 : Int64) (v4 : Int64) (v6 : Int32) : Option (Int32 × sh_St) :=
    sh_g v1 9 (if (sh_swm.getD v1.toNatClampNeg 0) = 1 then (sh_c (fX4_refusalOfPut S v2) fun r2 S1 =>
    some (r2, S1))
    else (if (sh_swm.getD v1.toNatClampNeg 0) = 2 then (sh_c (fX4_look S v2) fun r4 S3 =>
    if r4 = (-1) then (some (4, S3))
    else (some (0, S3)))
    else (if (sh_swm.getD v1.toNatClampNeg 0) = 3 then (sh_c (fX4_refusalOfTurn S v2 v4) fun r6 S5 =>
    some (r6, S5))
    else (if (sh_swm.getD v1.toNatClampNeg 0) = 4 then (sh_g v6 40 (if (S.1 5 v6.toNatClampNeg) = 2 then (some (0, S))
    else (some (5, S))))
    else (if (sh_swm.getD v1.toNatClampNeg 0) = 5 then (sh_c (fX4_isTooMuchToBuild S ) fun r8 S7 =>
    if r8 = 0 then (sh_c (fX4_wouldFoldMeet S7 ) fun r10 S9 =>
    if r10 = 0 then (some (0, S9))
    else (some (1, S9)))
    else (some (3, S7)))
    else (sh_c (fX4_isTooMuchToBuild S ) fun r12 S11 =>
    if r12 = 0 then (some (0, S11))
    else (some (3, S11))))))))
set_option maxRecDepth 100000 in
set_option maxHeartbeats 4000000 in
theorem kX4_refusalOf (l : Launch) (v1 : Int32) (v2 : Int64) (v4 : Int64) (v6 : Int32) : sh_Mi l yX4_refusalOf cX4_refusalOf 7 .int 6 tbX (fun G => [.ref (G.2.1 116), .ref (G.2.2.1 v1.toNatClampNeg), .long v2, .long v4, .int v6]) (fun S => fX4_refusalOf S v1 v2 v4 v6) := by
  refine sh_mki (by decide) (fun G => Nat.le_of_ble_eq_true rfl) ?_
  intro p e s m args below meth c G A S res ls hf C hr hw hl
  have C : sh_Cx p s m args meth c cX4_refusalOf 7 RX4 G A := C
  have hl : lv_has ls 7 [(0, .ref (G.2.1 116)), (1, .ref (G.2.2.1 v1.toNatClampNeg)), (2, .long v2), (4, .long v4), (6, .int v6)] := hl
  replace hf : fX4_refusalOf S v1 v2 v4 v6 = some res := hf
  rw [fX4_refusalOf] at hf
  refine sh_swm_row C hw (lv_at hl 1 rfl) hf ol_8 (Nat.le_of_ble_eq_true rfl) (by decide) hl.1 dX4_refusalOf_0 dX4_refusalOf_3 dX4_refusalOf_4 dX4_refusalOf_7 (fun H locs hw hf => ?_)
  by_cases h8_1 : (sh_swm.getD v1.toNatClampNeg 0) = 1
  · replace hf := (sh_if hf).1 h8_1
    refine sh_swIn (off := 36) (tgt := 44) C h8_1 dX4_refusalOf_8 (by decide) (by decide) (by decide) (by decide) ?_
    refine lv_aload_n C.1 C.2.1 dX4_refusalOf_44 rfl (lv_at hl 0 rfl) ?_
    refine lv_lload_n C.1 C.2.1 dX4_refusalOf_45 rfl (lv_at hl 2 rfl) ?_
    refine sh_Vi (As := [.long v2]) (rest := []) C hw (kX4_refusalOfPut l v2) yy_X4_refusalOfPut yv_X4_refusalOfPut ml_X4_109 hf tbX_116 rfl rfl rfl rfl (Nat.le_of_ble_eq_true rfl) (by decide) hl.1 dX4_refusalOf_46 (fun r2 S1 H locs hw hf => ?_)
    exact sh_ri C hw hr hf dX4_refusalOf_49
  · replace hf := (sh_if hf).2 h8_1
    by_cases h8_2 : (sh_swm.getD v1.toNatClampNeg 0) = 2
    · replace hf := (sh_if hf).1 h8_2
      refine sh_swIn (off := 42) (tgt := 50) C h8_2 dX4_refusalOf_8 (by decide) (by decide) (by decide) (by decide) ?_
      refine lv_aload_n C.1 C.2.1 dX4_refusalOf_50 rfl (lv_at hl 0 rfl) ?_
      refine lv_lload_n C.1 C.2.1 dX4_refusalOf_51 rfl (lv_at hl 2 rfl) ?_
      refine sh_Vi (As := [.long v2]) (rest := []) C hw (kX4_look l v2) yy_X4_look yv_X4_look ml_X4_93 hf tbX_116 rfl rfl rfl rfl (Nat.le_of_ble_eq_true rfl) (by decide) hl.1 dX4_refusalOf_52 (fun r4 S3 H locs hw hf => ?_)
      refine lv_iconst (v := -1) C.1 C.2.1 dX4_refusalOf_55 (by decide) ?_
      refine sh_icmp_ne (tgt := 63) C hf dX4_refusalOf_56 (by decide) (fun hf => ?_) (fun hf => ?_)
      · refine lv_iconst (v := 0) C.1 C.2.1 dX4_refusalOf_63 (by decide) ?_
        exact sh_ri C hw hr hf dX4_refusalOf_64
      · refine lv_iconst (v := 4) C.1 C.2.1 dX4_refusalOf_59 (by decide) ?_
        refine lv_goto (tgt := 64) C.1 C.2.1 dX4_refusalOf_60 (by decide) ?_
        exact sh_ri C hw hr hf dX4_refusalOf_64
    · replace hf := (sh_if hf).2 h8_2
      by_cases h8_3 : (sh_swm.getD v1.toNatClampNeg 0) = 3
      · replace hf := (sh_if hf).1 h8_3
        refine sh_swIn (off := 57) (tgt := 65) C h8_3 dX4_refusalOf_8 (by decide) (by decide) (by decide) (by decide) ?_
        refine lv_aload_n C.1 C.2.1 dX4_refusalOf_65 rfl (lv_at hl 0 rfl) ?_
        refine lv_lload_n C.1 C.2.1 dX4_refusalOf_66 rfl (lv_at hl 2 rfl) ?_
        refine lv_lload C.1 C.2.1 dX4_refusalOf_67 (lv_at hl 3 rfl) ?_
        refine sh_Vi (As := [.long v2, .long v4]) (rest := []) C hw (kX4_refusalOfTurn l v2 v4) yy_X4_refusalOfTurn yv_X4_refusalOfTurn ml_X4_112 hf tbX_116 rfl rfl rfl rfl (Nat.le_of_ble_eq_true rfl) (by decide) hl.1 dX4_refusalOf_69 (fun r6 S5 H locs hw hf => ?_)
        exact sh_ri C hw hr hf dX4_refusalOf_72
      · replace hf := (sh_if hf).2 h8_3
        by_cases h8_4 : (sh_swm.getD v1.toNatClampNeg 0) = 4
        · replace hf := (sh_if hf).1 h8_4
          refine sh_swIn (off := 65) (tgt := 73) C h8_4 dX4_refusalOf_8 (by decide) (by decide) (by decide) (by decide) ?_
          refine lv_aload_n C.1 C.2.1 dX4_refusalOf_73 rfl (lv_at hl 0 rfl) ?_
          refine sh_getr C hw fl_X4_36 tbX_116 rfl dX4_refusalOf_74 ?_
          refine sh_getr C hw fl_X4_78 tbX_4 rfl dX4_refusalOf_77 ?_
          refine lv_iload C.1 C.2.1 dX4_refusalOf_80 (lv_at hl 4 rfl) ?_
          refine sh_iald C hw hf tbX_5 dX4_refusalOf_82 (fun hf => ?_)
          refine lv_iconst (v := 2) C.1 C.2.1 dX4_refusalOf_83 (by decide) ?_
          refine sh_icmp_ne (tgt := 91) C hf dX4_refusalOf_84 (by decide) (fun hf => ?_) (fun hf => ?_)
          · refine lv_iconst (v := 5) C.1 C.2.1 dX4_refusalOf_91 (by decide) ?_
            exact sh_ri C hw hr hf dX4_refusalOf_92
          · refine lv_iconst (v := 0) C.1 C.2.1 dX4_refusalOf_87 (by decide) ?_
            refine lv_goto (tgt := 92) C.1 C.2.1 dX4_refusalOf_88 (by decide) ?_
            exact sh_ri C hw hr hf dX4_refusalOf_92
        · replace hf := (sh_if hf).2 h8_4
          by_cases h8_5 : (sh_swm.getD v1.toNatClampNeg 0) = 5
          · replace hf := (sh_if hf).1 h8_5
            refine sh_swIn (off := 85) (tgt := 93) C h8_5 dX4_refusalOf_8 (by decide) (by decide) (by decide) (by decide) ?_
            refine lv_aload_n C.1 C.2.1 dX4_refusalOf_93 rfl (lv_at hl 0 rfl) ?_
            refine sh_Vi (As := []) (rest := []) C hw (kX4_isTooMuchToBuild l ) yy_X4_isTooMuchToBuild yv_X4_isTooMuchToBuild ml_X4_116 hf tbX_116 rfl rfl rfl rfl (Nat.le_of_ble_eq_true rfl) (by decide) hl.1 dX4_refusalOf_94 (fun r8 S7 H locs hw hf => ?_)
            refine sh_if_eq (tgt := 104) C hf dX4_refusalOf_97 (by decide) (fun hf => ?_) (fun hf => ?_)
            · refine lv_aload_n C.1 C.2.1 dX4_refusalOf_104 rfl (lv_at hl 0 rfl) ?_
              refine sh_Vi (As := []) (rest := []) C hw (kX4_wouldFoldMeet l ) yy_X4_wouldFoldMeet yv_X4_wouldFoldMeet ml_X4_120 hf tbX_116 rfl rfl rfl rfl (Nat.le_of_ble_eq_true rfl) (by decide) hl.1 dX4_refusalOf_105 (fun r10 S9 H locs hw hf => ?_)
              refine sh_if_eq (tgt := 115) C hf dX4_refusalOf_108 (by decide) (fun hf => ?_) (fun hf => ?_)
              · refine lv_iconst (v := 0) C.1 C.2.1 dX4_refusalOf_115 (by decide) ?_
                exact sh_ri C hw hr hf dX4_refusalOf_116
              · refine lv_iconst (v := 1) C.1 C.2.1 dX4_refusalOf_111 (by decide) ?_
                refine lv_goto (tgt := 116) C.1 C.2.1 dX4_refusalOf_112 (by decide) ?_
                exact sh_ri C hw hr hf dX4_refusalOf_116
            · refine lv_iconst (v := 3) C.1 C.2.1 dX4_refusalOf_100 (by decide) ?_
              refine lv_goto (tgt := 116) C.1 C.2.1 dX4_refusalOf_101 (by decide) ?_
              exact sh_ri C hw hr hf dX4_refusalOf_116
          · replace hf := (sh_if hf).2 h8_5
            refine sh_swOut (tgt := 117) C (by have a1 := sh_neI (z := 1) h8_1 (by decide); have a2 := sh_neI (z := 2) h8_2 (by decide); have a3 := sh_neI (z := 3) h8_3 (by decide); have a4 := sh_neI (z := 4) h8_4 (by decide); have a5 := sh_neI (z := 5) h8_5 (by decide); omega) dX4_refusalOf_8 (by decide) ?_
            refine lv_aload_n C.1 C.2.1 dX4_refusalOf_117 rfl (lv_at hl 0 rfl) ?_
            refine sh_Vi (As := []) (rest := []) C hw (kX4_isTooMuchToBuild l ) yy_X4_isTooMuchToBuild yv_X4_isTooMuchToBuild ml_X4_116 hf tbX_116 rfl rfl rfl rfl (Nat.le_of_ble_eq_true rfl) (by decide) hl.1 dX4_refusalOf_118 (fun r12 S11 H locs hw hf => ?_)
            refine sh_if_eq (tgt := 128) C hf dX4_refusalOf_121 (by decide) (fun hf => ?_) (fun hf => ?_)
            · refine lv_iconst (v := 0) C.1 C.2.1 dX4_refusalOf_128 (by decide) ?_
              exact sh_ri C hw hr hf dX4_refusalOf_129
            · refine lv_iconst (v := 3) C.1 C.2.1 dX4_refusalOf_124 (by decide) ?_
              refine lv_goto (tgt := 129) C.1 C.2.1 dX4_refusalOf_125 (by decide) ?_
              exact sh_ri C hw hr hf dX4_refusalOf_129
def fX4_retune_84 (S : sh_St) (v3 : Int32) (t0 : Int32) : Option (Int32 × sh_St) :=
    sh_b t0 (sh_t (sh_I S 4 2 t0) fun S1 =>
    some (v3, S1))
set_option maxRecDepth 100000 in
set_option maxHeartbeats 4000000 in
theorem wX4_retune_84 {p : Program} {l : Launch} {e : Env} {s : State} {m : MethodId} {args : Array Value} {below : List Frame} {meth : Method} {c : Code} {G : sh_Ev} {A : Nat → Prop} {res : Int32 × sh_St} (C : sh_Cx p s m args meth c cX4_retune 4 RX4 G A) (hr : meth.sig.returnType = some .int) : ∀ (S : sh_St) (v3 : Int32) (t0 : Int32), fX4_retune_84 S v3 t0 = some res → ∀ (H : Heap) (locs : List Loc) (ls : Array Slot), sh_Wx G tbX A s H locs S → lv_has ls 4 [(3, .int v3)] → W p l e (sh_rm 1) s m args below meth c H locs 0 0 (sh_Qi below args s G tbX A res) (F0 m 84 ls [.int t0, .ref (G.2.1 4)]) := by
  intro S v3 t0 hf H locs ls hw hl
  rw [fX4_retune_84] at hf
  refine sh_putz C hw fl_X4_85 fp_5_2 hf tbX_4 rfl dX4_retune_84 (fun S1 H locs hw hf => ?_)
  refine lv_iload_n C.1 C.2.1 dX4_retune_87 rfl (lv_at hl 0 rfl) ?_
  exact sh_ri C hw hr hf dX4_retune_88
def fX4_retune_15 (S : sh_St) (v1 : Int32) (v2 : Int32) (t0 : Int32) : Option (Int32 × sh_St) :=
    sh_g v1 9 (if v1 = 3 then (sh_t (S.1 4 0) fun y4 =>
    sh_t (sh_I S 4 0 v2) fun S5 =>
    some (y4, S5))
    else (sh_g v1 9 (if v1 = 4 then (sh_t (S.1 4 1) fun y2 =>
    sh_t (sh_I S 4 1 v2) fun S3 =>
    some (y2, S3))
    else (sh_g v1 9 (if v1 = 5 then (fX4_retune_84 S t0 1)
    else (fX4_retune_84 S t0 0))))))
set_option maxRecDepth 100000 in
set_option maxHeartbeats 4000000 in
theorem wX4_retune_15 {p : Program} {l : Launch} {e : Env} {s : State} {m : MethodId} {args : Array Value} {below : List Frame} {meth : Method} {c : Code} {G : sh_Ev} {A : Nat → Prop} {res : Int32 × sh_St} (C : sh_Cx p s m args meth c cX4_retune 4 RX4 G A) (hr : meth.sig.returnType = some .int) : ∀ (S : sh_St) (v1 : Int32) (v2 : Int32) (t0 : Int32), fX4_retune_15 S v1 v2 t0 = some res → ∀ (H : Heap) (locs : List Loc) (ls : Array Slot), sh_Wx G tbX A s H locs S → lv_has ls 4 [(0, .ref (G.2.1 116)), (1, .ref (G.2.2.1 v1.toNatClampNeg)), (2, .int v2)] → W p l e (sh_rm 1) s m args below meth c H locs 0 0 (sh_Qi below args s G tbX A res) (F0 m 15 ls [.int t0]) := by
  intro S v1 v2 t0 hf H locs ls hw hl
  rw [fX4_retune_15] at hf
  refine lv_istore_n (lv' := [(3, .int t0), (0, .ref (G.2.1 116)), (1, .ref (G.2.2.1 v1.toNatClampNeg)), (2, .int v2)]) C.1 C.2.1 dX4_retune_15 rfl hl (by decide) rfl (fun ls hl => ?_)
  refine lv_aload_n C.1 C.2.1 dX4_retune_16 rfl (lv_at hl 2 rfl) ?_
  refine sh_gets (k := 3) (z := 3) C hw (by decide) (by decide) al_X4_173 dX4_retune_17 ?_
  refine sh_acmp_ne (tgt := 42) C (by unfold vp_in; decide) hf dX4_retune_20 (by decide) (fun hf => ?_) (fun hf => ?_)
  · refine lv_aload_n C.1 C.2.1 dX4_retune_42 rfl (lv_at hl 2 rfl) ?_
    refine sh_gets (k := 4) (z := 4) C hw (by decide) (by decide) al_X4_180 dX4_retune_43 ?_
    refine sh_acmp_ne (tgt := 68) C (by unfold vp_in; decide) hf dX4_retune_46 (by decide) (fun hf => ?_) (fun hf => ?_)
    · refine lv_aload_n C.1 C.2.1 dX4_retune_68 rfl (lv_at hl 1 rfl) ?_
      refine sh_getr C hw fl_X4_36 tbX_116 rfl dX4_retune_69 ?_
      refine lv_aload_n C.1 C.2.1 dX4_retune_72 rfl (lv_at hl 2 rfl) ?_
      refine sh_gets (k := 5) (z := 5) C hw (by decide) (by decide) al_X4_186 dX4_retune_73 ?_
      refine sh_acmp_ne (tgt := 83) C (by unfold vp_in; decide) hf dX4_retune_76 (by decide) (fun hf => ?_) (fun hf => ?_)
      · refine lv_iconst (v := 0) C.1 C.2.1 dX4_retune_83 (by decide) ?_
        exact wX4_retune_84 C hr S t0 0 hf _ _ _ hw (lv_sub hl [0] rfl)
      · refine lv_iconst (v := 1) C.1 C.2.1 dX4_retune_79 (by decide) ?_
        refine lv_goto (tgt := 84) C.1 C.2.1 dX4_retune_80 (by decide) ?_
        exact wX4_retune_84 C hr S t0 1 hf _ _ _ hw (lv_sub hl [0] rfl)
    · refine lv_aload_n C.1 C.2.1 dX4_retune_49 rfl (lv_at hl 1 rfl) ?_
      refine sh_getr C hw fl_X4_36 tbX_116 rfl dX4_retune_50 ?_
      refine sh_geti C hw fl_X4_183 tbX_4 rfl dX4_retune_53 ?_
      refine sh_ni hf (fun y2 hf => ?_)
      refine lv_istore_n (lv' := [(3, .int y2), (0, .ref (G.2.1 116)), (1, .ref (G.2.2.1 v1.toNatClampNeg)), (2, .int v2)]) C.1 C.2.1 dX4_retune_56 rfl hl (by decide) rfl (fun ls hl => ?_)
      refine lv_aload_n C.1 C.2.1 dX4_retune_57 rfl (lv_at hl 1 rfl) ?_
      refine sh_getr C hw fl_X4_36 tbX_116 rfl dX4_retune_58 ?_
      refine lv_iload_n C.1 C.2.1 dX4_retune_61 rfl (lv_at hl 3 rfl) ?_
      refine sh_puti C hw fl_X4_183 fp_5_1 hf tbX_4 rfl dX4_retune_62 (fun S3 H locs hw hf => ?_)
      refine lv_goto (tgt := 87) C.1 C.2.1 dX4_retune_65 (by decide) ?_
      refine lv_iload_n C.1 C.2.1 dX4_retune_87 rfl (lv_at hl 0 rfl) ?_
      exact sh_ri C hw hr hf dX4_retune_88
  · refine lv_aload_n C.1 C.2.1 dX4_retune_23 rfl (lv_at hl 1 rfl) ?_
    refine sh_getr C hw fl_X4_36 tbX_116 rfl dX4_retune_24 ?_
    refine sh_geti C hw fl_X4_177 tbX_4 rfl dX4_retune_27 ?_
    refine sh_ni hf (fun y4 hf => ?_)
    refine lv_istore_n (lv' := [(3, .int y4), (0, .ref (G.2.1 116)), (1, .ref (G.2.2.1 v1.toNatClampNeg)), (2, .int v2)]) C.1 C.2.1 dX4_retune_30 rfl hl (by decide) rfl (fun ls hl => ?_)
    refine lv_aload_n C.1 C.2.1 dX4_retune_31 rfl (lv_at hl 1 rfl) ?_
    refine sh_getr C hw fl_X4_36 tbX_116 rfl dX4_retune_32 ?_
    refine lv_iload_n C.1 C.2.1 dX4_retune_35 rfl (lv_at hl 3 rfl) ?_
    refine sh_puti C hw fl_X4_177 fp_5_0 hf tbX_4 rfl dX4_retune_36 (fun S5 H locs hw hf => ?_)
    refine lv_goto (tgt := 87) C.1 C.2.1 dX4_retune_39 (by decide) ?_
    refine lv_iload_n C.1 C.2.1 dX4_retune_87 rfl (lv_at hl 0 rfl) ?_
    exact sh_ri C hw hr hf dX4_retune_88
def fX4_retune (S : sh_St) (v1 : Int32) (v2 : Int32) : Option (Int32 × sh_St) :=
    if (S.1 4 2) = 0 then (fX4_retune_15 S v1 v2 0)
    else (fX4_retune_15 S v1 v2 1)
set_option maxRecDepth 100000 in
set_option maxHeartbeats 4000000 in
theorem kX4_retune (l : Launch) (v1 : Int32) (v2 : Int32) : sh_Mi l yX4_retune cX4_retune 4 .int 1 tbX (fun G => [.ref (G.2.1 116), .ref (G.2.2.1 v1.toNatClampNeg), .int v2]) (fun S => fX4_retune S v1 v2) := by
  refine sh_mki (by decide) (fun G => Nat.le_of_ble_eq_true rfl) ?_
  intro p e s m args below meth c G A S res ls hf C hr hw hl
  have C : sh_Cx p s m args meth c cX4_retune 4 RX4 G A := C
  have hl : lv_has ls 4 [(0, .ref (G.2.1 116)), (1, .ref (G.2.2.1 v1.toNatClampNeg)), (2, .int v2)] := hl
  replace hf : fX4_retune S v1 v2 = some res := hf
  rw [fX4_retune] at hf
  refine lv_aload_n C.1 C.2.1 dX4_retune_0 rfl (lv_at hl 0 rfl) ?_
  refine sh_getr C hw fl_X4_36 tbX_116 rfl dX4_retune_1 ?_
  refine sh_geti C hw fl_X4_85 tbX_4 rfl dX4_retune_4 ?_
  refine sh_if_eq (tgt := 14) C hf dX4_retune_7 (by decide) (fun hf => ?_) (fun hf => ?_)
  · refine lv_iconst (v := 0) C.1 C.2.1 dX4_retune_14 (by decide) ?_
    exact wX4_retune_15 C hr S v1 v2 0 hf _ _ _ hw (lv_sub hl [0, 1, 2] rfl)
  · refine lv_iconst (v := 1) C.1 C.2.1 dX4_retune_10 (by decide) ?_
    refine lv_goto (tgt := 15) C.1 C.2.1 dX4_retune_11 (by decide) ?_
    exact wX4_retune_15 C hr S v1 v2 1 hf _ _ _ hw (lv_sub hl [0, 1, 2] rfl)
def fX8_ofName (S : sh_St) (v1 : Int64) (v3 : Int32) : Option (Int32 × sh_St) :=
    sh_c (fX7_hashOf S v1) fun r2 S1 =>
    if v3 = 4 then (some (r2, S1))
    else (if v3 = 5 then (sh_c (fX7_entriesOfHash S1 r2) fun r4 S3 =>
    some (r4, S3))
    else (if v3 = 6 then (sh_c (fX8_roomOnWay S1 r2) fun r6 S5 =>
    some (r6, S5))
    else (if v3 = 7 then (sh_c (fX4_refusalOfPut S1 v1) fun r8 S7 =>
    if r8 = 0 then (sh_c (fX4_blocksFor S7 v1) fun r10 S9 =>
    some (r10, S9))
    else (some ((-1), S7)))
    else (sh_c (fX8_mateOf S1 r2) fun r12 S11 =>
    some (r12, S11)))))
set_option maxRecDepth 100000 in
set_option maxHeartbeats 4000000 in
theorem kX8_ofName (l : Launch) (v1 : Int64) (v3 : Int32) : sh_Mi l yX8_ofName cX8_ofName 5 .int 6 tbX (fun G => [.ref (G.2.1 128), .long v1, .int v3]) (fun S => fX8_ofName S v1 v3) := by
  refine sh_mki (by decide) (fun G => Nat.le_of_ble_eq_true rfl) ?_
  intro p e s m args below meth c G A S res ls hf C hr hw hl
  have C : sh_Cx p s m args meth c cX8_ofName 5 RX8 G A := C
  have hl : lv_has ls 5 [(0, .ref (G.2.1 128)), (1, .long v1), (3, .int v3)] := hl
  replace hf : fX8_ofName S v1 v3 = some res := hf
  rw [fX8_ofName] at hf
  refine lv_aload_n C.1 C.2.1 dX8_ofName_0 rfl (lv_at hl 0 rfl) ?_
  refine sh_getr C hw fl_X8_22 tbX_128 rfl dX8_ofName_1 ?_
  refine lv_lload_n C.1 C.2.1 dX8_ofName_4 rfl (lv_at hl 1 rfl) ?_
  refine sh_Vi (As := [.long v1]) (rest := []) C hw (kX7_hashOf l v1) yy_X7_hashOf yv_X7_hashOf ml_X8_30 hf tbX_4 rfl rfl rfl rfl (Nat.le_of_ble_eq_true rfl) (by decide) hl.1 dX8_ofName_5 (fun r2 S1 H locs hw hf => ?_)
  refine lv_istore (lv' := [(4, .int r2), (0, .ref (G.2.1 128)), (1, .long v1), (3, .int v3)]) C.1 C.2.1 dX8_ofName_8 hl (by decide) rfl (fun ls hl => ?_)
  refine lv_iload_n C.1 C.2.1 dX8_ofName_10 rfl (lv_at hl 3 rfl) ?_
  by_cases h11_4 : v3 = 4
  · replace hf := (sh_if hf).1 h11_4
    refine sh_swIn (off := 29) (tgt := 40) C h11_4 dX8_ofName_11 (by decide) (by decide) (by decide) (by decide) ?_
    refine lv_iload C.1 C.2.1 dX8_ofName_40 (lv_at hl 0 rfl) ?_
    exact sh_ri C hw hr hf dX8_ofName_42
  · replace hf := (sh_if hf).2 h11_4
    by_cases h11_5 : v3 = 5
    · replace hf := (sh_if hf).1 h11_5
      refine sh_swIn (off := 32) (tgt := 43) C h11_5 dX8_ofName_11 (by decide) (by decide) (by decide) (by decide) ?_
      refine lv_aload_n C.1 C.2.1 dX8_ofName_43 rfl (lv_at hl 1 rfl) ?_
      refine sh_getr C hw fl_X8_22 tbX_128 rfl dX8_ofName_44 ?_
      refine lv_iload C.1 C.2.1 dX8_ofName_47 (lv_at hl 0 rfl) ?_
      refine sh_Vi (As := [.int r2]) (rest := []) C hw (kX7_entriesOfHash l r2) yy_X7_entriesOfHash yv_X7_entriesOfHash ml_X8_36 hf tbX_4 rfl rfl rfl rfl (Nat.le_of_ble_eq_true rfl) (by decide) hl.1 dX8_ofName_49 (fun r4 S3 H locs hw hf => ?_)
      exact sh_ri C hw hr hf dX8_ofName_52
    · replace hf := (sh_if hf).2 h11_5
      by_cases h11_6 : v3 = 6
      · replace hf := (sh_if hf).1 h11_6
        refine sh_swIn (off := 42) (tgt := 53) C h11_6 dX8_ofName_11 (by decide) (by decide) (by decide) (by decide) ?_
        refine lv_aload_n C.1 C.2.1 dX8_ofName_53 rfl (lv_at hl 1 rfl) ?_
        refine lv_iload C.1 C.2.1 dX8_ofName_54 (lv_at hl 0 rfl) ?_
        refine sh_Vi (As := [.int r2]) (rest := []) C hw (kX8_roomOnWay l r2) yy_X8_roomOnWay yv_X8_roomOnWay ml_X8_40 hf tbX_128 rfl rfl rfl rfl (Nat.le_of_ble_eq_true rfl) (by decide) hl.1 dX8_ofName_56 (fun r6 S5 H locs hw hf => ?_)
        exact sh_ri C hw hr hf dX8_ofName_59
      · replace hf := (sh_if hf).2 h11_6
        by_cases h11_7 : v3 = 7
        · replace hf := (sh_if hf).1 h11_7
          refine sh_swIn (off := 49) (tgt := 60) C h11_7 dX8_ofName_11 (by decide) (by decide) (by decide) (by decide) ?_
          refine lv_aload_n C.1 C.2.1 dX8_ofName_60 rfl (lv_at hl 1 rfl) ?_
          refine sh_getr C hw fl_X8_26 tbX_128 rfl dX8_ofName_61 ?_
          refine lv_lload_n C.1 C.2.1 dX8_ofName_64 rfl (lv_at hl 2 rfl) ?_
          refine sh_Vi (As := [.long v1]) (rest := []) C hw (kX4_refusalOfPut l v1) yy_X4_refusalOfPut yv_X4_refusalOfPut ml_X8_43 hf tbX_116 rfl rfl rfl rfl (Nat.le_of_ble_eq_true rfl) (by decide) hl.1 dX8_ofName_65 (fun r8 S7 H locs hw hf => ?_)
          refine sh_if_ne (tgt := 82) C hf dX8_ofName_68 (by decide) (fun hf => ?_) (fun hf => ?_)
          · refine lv_iconst (v := -1) C.1 C.2.1 dX8_ofName_82 (by decide) ?_
            exact sh_ri C hw hr hf dX8_ofName_83
          · refine lv_aload_n C.1 C.2.1 dX8_ofName_71 rfl (lv_at hl 1 rfl) ?_
            refine sh_getr C hw fl_X8_26 tbX_128 rfl dX8_ofName_72 ?_
            refine lv_lload_n C.1 C.2.1 dX8_ofName_75 rfl (lv_at hl 2 rfl) ?_
            refine sh_Vi (As := [.long v1]) (rest := []) C hw (kX4_blocksFor l v1) yy_X4_blocksFor yv_X4_blocksFor ml_X8_48 hf tbX_116 rfl rfl rfl rfl (Nat.le_of_ble_eq_true rfl) (by decide) hl.1 dX8_ofName_76 (fun r10 S9 H locs hw hf => ?_)
            refine lv_goto (tgt := 83) C.1 C.2.1 dX8_ofName_79 (by decide) ?_
            exact sh_ri C hw hr hf dX8_ofName_83
        · replace hf := (sh_if hf).2 h11_7
          refine sh_swOut (tgt := 84) C (by have a4 := sh_neI (z := 4) h11_4 (by decide); have a5 := sh_neI (z := 5) h11_5 (by decide); have a6 := sh_neI (z := 6) h11_6 (by decide); have a7 := sh_neI (z := 7) h11_7 (by decide); omega) dX8_ofName_11 (by decide) ?_
          refine lv_aload_n C.1 C.2.1 dX8_ofName_84 rfl (lv_at hl 1 rfl) ?_
          refine lv_iload C.1 C.2.1 dX8_ofName_85 (lv_at hl 0 rfl) ?_
          refine sh_Vi (As := [.int r2]) (rest := []) C hw (kX8_mateOf l r2) yy_X8_mateOf yv_X8_mateOf ml_X8_51 hf tbX_128 rfl rfl rfl rfl (Nat.le_of_ble_eq_true rfl) (by decide) hl.1 dX8_ofName_87 (fun r12 S11 H locs hw hf => ?_)
          exact sh_ri C hw hr hf dX8_ofName_90
def fX8_ofAll (S : sh_St) (v1 : Int32) : Option (Int32 × sh_St) :=
    sh_c (fX5_gather S ) fun _ S1 =>
    if v1 = 0 then (sh_c (fX8_crowdBy S1 (S1.1 4 1)) fun r4 S3 =>
    some (r4, S3))
    else (if v1 = 1 then (sh_c (fX8_longestChain S1 ) fun r6 S5 =>
    some (r6, S5))
    else (if v1 = 2 then (sh_c (fX7_entriesInAll S1 ) fun r8 S7 =>
    sh_c (fX12_groupsOf S7 r8) fun r10 S9 =>
    some (if 1 < r10 then r10 else 1, S9))
    else (if v1 = 3 then (sh_c (fX8_fewestInLeaf S1 ) fun r12 S11 =>
    some (r12, S11))
    else (if v1 = 4 then (sh_c (fX8_fullestPlace S1 ) fun r14 S13 =>
    sh_g r14 40 (sh_c (fX7_entriesIn S13 (S13.1 118 r14.toNatClampNeg)) fun r16 S15 =>
    some (r16, S15)))
    else (if v1 = 5 then (sh_c (fX8_fullestPlace S1 ) fun r18 S17 =>
    some (r18, S17))
    else (if v1 = 6 then (sh_c (fX8_entriesBehind S1 ) fun r20 S19 =>
    some (r20, S19))
    else (if v1 = 7 then (sh_c (fX8_widestIndex S1 ) fun r22 S21 =>
    some (r22, S21))
    else (sh_c (fX8_leastFreeHash S1 ) fun r24 S23 =>
    some (r24, S23)))))))))
set_option maxRecDepth 100000 in
set_option maxHeartbeats 4000000 in
theorem kX8_ofAll (l : Launch) (v1 : Int32) : sh_Mi l yX8_ofAll cX8_ofAll 2 .int 5 tbX (fun G => [.ref (G.2.1 128), .int v1]) (fun S => fX8_ofAll S v1) := by
  refine sh_mki (by decide) (fun G => Nat.le_of_ble_eq_true rfl) ?_
  intro p e s m args below meth c G A S res ls hf C hr hw hl
  have C : sh_Cx p s m args meth c cX8_ofAll 2 RX8 G A := C
  have hl : lv_has ls 2 [(0, .ref (G.2.1 128)), (1, .int v1)] := hl
  replace hf : fX8_ofAll S v1 = some res := hf
  rw [fX8_ofAll] at hf
  refine lv_aload_n C.1 C.2.1 dX8_ofAll_0 rfl (lv_at hl 0 rfl) ?_
  refine sh_getr C hw fl_X8_26 tbX_128 rfl dX8_ofAll_1 ?_
  refine sh_getr C hw fl_X8_54 tbX_116 rfl dX8_ofAll_4 ?_
  refine lv_aload_n C.1 C.2.1 dX8_ofAll_7 rfl (lv_at hl 0 rfl) ?_
  refine sh_getr C hw fl_X8_22 tbX_128 rfl dX8_ofAll_8 ?_
  refine sh_Vv (As := [.ref (G.2.1 4)]) (rest := []) C hw (kX5_gather l ) yy_X5_gather yv_X5_gather ml_X8_58 hf tbX_117 rfl rfl rfl rfl (Nat.le_of_ble_eq_true rfl) (by decide) hl.1 dX8_ofAll_11 (fun S1 H locs hw hf => ?_)
  refine lv_iload_n C.1 C.2.1 dX8_ofAll_14 rfl (lv_at hl 1 rfl) ?_
  by_cases h15_0 : v1 = 0
  · replace hf := (sh_if hf).1 h15_0
    refine sh_swIn (off := 45) (tgt := 60) C h15_0 dX8_ofAll_15 (by decide) (by decide) (by decide) (by decide) ?_
    refine lv_aload_n C.1 C.2.1 dX8_ofAll_60 rfl (lv_at hl 0 rfl) ?_
    refine lv_aload_n C.1 C.2.1 dX8_ofAll_61 rfl (lv_at hl 0 rfl) ?_
    refine sh_getr C hw fl_X8_22 tbX_128 rfl dX8_ofAll_62 ?_
    refine sh_geti C hw fl_X8_64 tbX_4 rfl dX8_ofAll_65 ?_
    refine sh_Vi (As := [.int (S1.1 4 1)]) (rest := []) C hw (kX8_crowdBy l (S1.1 4 1)) yy_X8_crowdBy yv_X8_crowdBy ml_X8_67 hf tbX_128 rfl rfl rfl rfl (Nat.le_of_ble_eq_true rfl) (by decide) hl.1 dX8_ofAll_68 (fun r4 S3 H locs hw hf => ?_)
    exact sh_ri C hw hr hf dX8_ofAll_71
  · replace hf := (sh_if hf).2 h15_0
    by_cases h15_1 : v1 = 1
    · replace hf := (sh_if hf).1 h15_1
      refine sh_swIn (off := 57) (tgt := 72) C h15_1 dX8_ofAll_15 (by decide) (by decide) (by decide) (by decide) ?_
      refine lv_aload_n C.1 C.2.1 dX8_ofAll_72 rfl (lv_at hl 0 rfl) ?_
      refine sh_Vi (As := []) (rest := []) C hw (kX8_longestChain l ) yy_X8_longestChain yv_X8_longestChain ml_X8_70 hf tbX_128 rfl rfl rfl rfl (Nat.le_of_ble_eq_true rfl) (by decide) hl.1 dX8_ofAll_73 (fun r6 S5 H locs hw hf => ?_)
      exact sh_ri C hw hr hf dX8_ofAll_76
    · replace hf := (sh_if hf).2 h15_1
      by_cases h15_2 : v1 = 2
      · replace hf := (sh_if hf).1 h15_2
        refine sh_swIn (off := 62) (tgt := 77) C h15_2 dX8_ofAll_15 (by decide) (by decide) (by decide) (by decide) ?_
        refine lv_iconst (v := 1) C.1 C.2.1 dX8_ofAll_77 (by decide) ?_
        refine lv_aload_n C.1 C.2.1 dX8_ofAll_78 rfl (lv_at hl 0 rfl) ?_
        refine sh_getr C hw fl_X8_22 tbX_128 rfl dX8_ofAll_79 ?_
        refine sh_Vi (As := []) (rest := [.int 1]) C hw (kX7_entriesInAll l ) yy_X7_entriesInAll yv_X7_entriesInAll ml_X8_74 hf tbX_4 rfl rfl rfl rfl (Nat.le_of_ble_eq_true rfl) (by decide) hl.1 dX8_ofAll_82 (fun r8 S7 H locs hw hf => ?_)
        refine sh_Ni (As := [.int r8]) (rest := [.int 1]) C hw (kX12_groupsOf l r8) yy_X12_groupsOf ys_X12_groupsOf nl_X8_77 hf rfl rfl rfl (Nat.le_of_ble_eq_true rfl) (by decide) hl.1 dX8_ofAll_85 (fun r10 S9 H locs hw hf => ?_)
        refine sh_max C ml_X8_80 mb_max (by decide) hl.1 (Nat.le_of_ble_eq_true rfl) dX8_ofAll_88 ?_
        exact sh_ri C hw hr hf dX8_ofAll_91
      · replace hf := (sh_if hf).2 h15_2
        by_cases h15_3 : v1 = 3
        · replace hf := (sh_if hf).1 h15_3
          refine sh_swIn (off := 77) (tgt := 92) C h15_3 dX8_ofAll_15 (by decide) (by decide) (by decide) (by decide) ?_
          refine lv_aload_n C.1 C.2.1 dX8_ofAll_92 rfl (lv_at hl 0 rfl) ?_
          refine sh_Vi (As := []) (rest := []) C hw (kX8_fewestInLeaf l ) yy_X8_fewestInLeaf yv_X8_fewestInLeaf ml_X8_86 hf tbX_128 rfl rfl rfl rfl (Nat.le_of_ble_eq_true rfl) (by decide) hl.1 dX8_ofAll_93 (fun r12 S11 H locs hw hf => ?_)
          exact sh_ri C hw hr hf dX8_ofAll_96
        · replace hf := (sh_if hf).2 h15_3
          by_cases h15_4 : v1 = 4
          · replace hf := (sh_if hf).1 h15_4
            refine sh_swIn (off := 82) (tgt := 97) C h15_4 dX8_ofAll_15 (by decide) (by decide) (by decide) (by decide) ?_
            refine lv_aload_n C.1 C.2.1 dX8_ofAll_97 rfl (lv_at hl 0 rfl) ?_
            refine sh_getr C hw fl_X8_22 tbX_128 rfl dX8_ofAll_98 ?_
            refine lv_aload_n C.1 C.2.1 dX8_ofAll_101 rfl (lv_at hl 0 rfl) ?_
            refine sh_getr C hw fl_X8_26 tbX_128 rfl dX8_ofAll_102 ?_
            refine sh_getr C hw fl_X8_54 tbX_116 rfl dX8_ofAll_105 ?_
            refine sh_getr C hw fl_X8_89 tbX_117 rfl dX8_ofAll_108 ?_
            refine lv_aload_n C.1 C.2.1 dX8_ofAll_111 rfl (lv_at hl 0 rfl) ?_
            refine sh_Vi (As := []) (rest := [.ref (G.2.1 118), .ref (G.2.1 4)]) C hw (kX8_fullestPlace l ) yy_X8_fullestPlace yv_X8_fullestPlace ml_X8_92 hf tbX_128 rfl rfl rfl rfl (Nat.le_of_ble_eq_true rfl) (by decide) hl.1 dX8_ofAll_112 (fun r14 S13 H locs hw hf => ?_)
            refine sh_iald C hw hf tbX_118 dX8_ofAll_115 (fun hf => ?_)
            refine sh_Vi (As := [.int (S13.1 118 r14.toNatClampNeg)]) (rest := []) C hw (kX7_entriesIn l (S13.1 118 r14.toNatClampNeg)) yy_X7_entriesIn yv_X7_entriesIn ml_X8_95 hf tbX_4 rfl rfl rfl rfl (Nat.le_of_ble_eq_true rfl) (by decide) hl.1 dX8_ofAll_116 (fun r16 S15 H locs hw hf => ?_)
            exact sh_ri C hw hr hf dX8_ofAll_119
          · replace hf := (sh_if hf).2 h15_4
            by_cases h15_5 : v1 = 5
            · replace hf := (sh_if hf).1 h15_5
              refine sh_swIn (off := 105) (tgt := 120) C h15_5 dX8_ofAll_15 (by decide) (by decide) (by decide) (by decide) ?_
              refine lv_aload_n C.1 C.2.1 dX8_ofAll_120 rfl (lv_at hl 0 rfl) ?_
              refine sh_Vi (As := []) (rest := []) C hw (kX8_fullestPlace l ) yy_X8_fullestPlace yv_X8_fullestPlace ml_X8_92 hf tbX_128 rfl rfl rfl rfl (Nat.le_of_ble_eq_true rfl) (by decide) hl.1 dX8_ofAll_121 (fun r18 S17 H locs hw hf => ?_)
              exact sh_ri C hw hr hf dX8_ofAll_124
            · replace hf := (sh_if hf).2 h15_5
              by_cases h15_6 : v1 = 6
              · replace hf := (sh_if hf).1 h15_6
                refine sh_swIn (off := 110) (tgt := 125) C h15_6 dX8_ofAll_15 (by decide) (by decide) (by decide) (by decide) ?_
                refine lv_aload_n C.1 C.2.1 dX8_ofAll_125 rfl (lv_at hl 0 rfl) ?_
                refine sh_Vi (As := []) (rest := []) C hw (kX8_entriesBehind l ) yy_X8_entriesBehind yv_X8_entriesBehind ml_X8_98 hf tbX_128 rfl rfl rfl rfl (Nat.le_of_ble_eq_true rfl) (by decide) hl.1 dX8_ofAll_126 (fun r20 S19 H locs hw hf => ?_)
                exact sh_ri C hw hr hf dX8_ofAll_129
              · replace hf := (sh_if hf).2 h15_6
                by_cases h15_7 : v1 = 7
                · replace hf := (sh_if hf).1 h15_7
                  refine sh_swIn (off := 115) (tgt := 130) C h15_7 dX8_ofAll_15 (by decide) (by decide) (by decide) (by decide) ?_
                  refine lv_aload_n C.1 C.2.1 dX8_ofAll_130 rfl (lv_at hl 0 rfl) ?_
                  refine sh_Vi (As := []) (rest := []) C hw (kX8_widestIndex l ) yy_X8_widestIndex yv_X8_widestIndex ml_X8_101 hf tbX_128 rfl rfl rfl rfl (Nat.le_of_ble_eq_true rfl) (by decide) hl.1 dX8_ofAll_131 (fun r22 S21 H locs hw hf => ?_)
                  exact sh_ri C hw hr hf dX8_ofAll_134
                · replace hf := (sh_if hf).2 h15_7
                  refine sh_swOut (tgt := 135) C (by have a0 := sh_neI (z := 0) h15_0 (by decide); have a1 := sh_neI (z := 1) h15_1 (by decide); have a2 := sh_neI (z := 2) h15_2 (by decide); have a3 := sh_neI (z := 3) h15_3 (by decide); have a4 := sh_neI (z := 4) h15_4 (by decide); have a5 := sh_neI (z := 5) h15_5 (by decide); have a6 := sh_neI (z := 6) h15_6 (by decide); have a7 := sh_neI (z := 7) h15_7 (by decide); omega) dX8_ofAll_15 (by decide) ?_
                  refine lv_aload_n C.1 C.2.1 dX8_ofAll_135 rfl (lv_at hl 0 rfl) ?_
                  refine sh_Vi (As := []) (rest := []) C hw (kX8_leastFreeHash l ) yy_X8_leastFreeHash yv_X8_leastFreeHash ml_X8_104 hf tbX_128 rfl rfl rfl rfl (Nat.le_of_ble_eq_true rfl) (by decide) hl.1 dX8_ofAll_136 (fun r24 S23 H locs hw hf => ?_)
                  exact sh_ri C hw hr hf dX8_ofAll_139
def fX12_image (S : sh_St) : Option (Unit × sh_St) :=
    sh_c (fX7_copyFrom S 24 4) fun _ S1 =>
    sh_b 1 (sh_t (sh_I S1 0 9 1) fun S3 =>
    some ((), S3))
set_option maxRecDepth 100000 in
set_option maxHeartbeats 4000000 in
theorem kX12_image (l : Launch) : sh_Mv l yX12_image cX12_image 1 2 tbX (fun G => [.ref (G.2.1 0)]) (fun S => fX12_image S) := by
  refine sh_mkv (by decide) (fun G => Nat.le_of_ble_eq_true rfl) ?_
  intro p e s m args below meth c G A S res ls hf C hr hw hl
  have C : sh_Cx p s m args meth c cX12_image 1 RX12 G A := C
  have hl : lv_has ls 1 [(0, .ref (G.2.1 0))] := hl
  replace hf : fX12_image S = some res := hf
  rw [fX12_image] at hf
  refine lv_aload_n C.1 C.2.1 dX12_image_0 rfl (lv_at hl 0 rfl) ?_
  refine sh_getr C hw fl_X12_35 tbX_0 rfl dX12_image_1 ?_
  refine lv_aload_n C.1 C.2.1 dX12_image_4 rfl (lv_at hl 0 rfl) ?_
  refine sh_getr C hw fl_X12_28 tbX_0 rfl dX12_image_5 ?_
  refine sh_Vv (As := [.ref (G.2.1 4)]) (rest := []) C hw (kX7_copyFrom l isS_24 isS_4 ) yy_X7_copyFrom yv_X7_copyFrom ml_X12_92 hf isS_24.1 rfl rfl rfl rfl (Nat.le_of_ble_eq_true rfl) (by decide) hl.1 dX12_image_8 (fun S1 H locs hw hf => ?_)
  refine lv_aload_n C.1 C.2.1 dX12_image_11 rfl (lv_at hl 0 rfl) ?_
  refine lv_iconst (v := 1) C.1 C.2.1 dX12_image_12 (by decide) ?_
  refine sh_putz C hw fl_X12_69 fp_10_9 hf tbX_0 rfl dX12_image_13 (fun S3 H locs hw hf => ?_)
  exact sh_rv C hw hr hf dX12_image_16
def fX12_count (S : sh_St) (v1 : Int32) : Option (Int32 × sh_St) :=
    if v1 = 0 then (sh_c (fX7_entriesInAll S ) fun r2 S1 =>
    some (r2, S1))
    else (if v1 = 1 then (sh_c (fX7_blocksOfKind S 0) fun r4 S3 =>
    some (40 - r4, S3))
    else (if v1 = 2 then (some (S.1 4 3, S))
    else (if v1 = 3 then (sh_c (fX7_blocksOfKind S 1) fun r6 S5 =>
    some (r6, S5))
    else (if v1 = 4 then (sh_c (fX7_tornIndexes S ) fun r8 S7 =>
    some (r8, S7))
    else (if v1 = 5 then (some (S.1 4 0, S))
    else (if v1 = 6 then (some (S.1 4 1, S))
    else (if v1 = 7 then (if (S.1 4 2) = 0 then (some (0, S))
    else (some (1, S)))
    else (if v1 = 8 then (some (S.1 34 1, S))
    else (some ((-1), S))))))))))
set_option maxRecDepth 100000 in
set_option maxHeartbeats 4000000 in
theorem kX12_count (l : Launch) (v1 : Int32) : sh_Mi l yX12_count cX12_count 2 .int 2 tbX (fun G => [.ref (G.2.1 0), .int v1]) (fun S => fX12_count S v1) := by
  refine sh_mki (by decide) (fun G => Nat.le_of_ble_eq_true rfl) ?_
  intro p e s m args below meth c G A S res ls hf C hr hw hl
  have C : sh_Cx p s m args meth c cX12_count 2 RX12 G A := C
  have hl : lv_has ls 2 [(0, .ref (G.2.1 0)), (1, .int v1)] := hl
  replace hf : fX12_count S v1 = some res := hf
  rw [fX12_count] at hf
  refine lv_iload_n C.1 C.2.1 dX12_count_0 rfl (lv_at hl 1 rfl) ?_
  by_cases h1_0 : v1 = 0
  · replace hf := (sh_if hf).1 h1_0
    refine sh_swIn (off := 51) (tgt := 52) C h1_0 dX12_count_1 (by decide) (by decide) (by decide) (by decide) ?_
    refine lv_aload_n C.1 C.2.1 dX12_count_52 rfl (lv_at hl 0 rfl) ?_
    refine sh_getr C hw fl_X12_28 tbX_0 rfl dX12_count_53 ?_
    refine sh_Vi (As := []) (rest := []) C hw (kX7_entriesInAll l ) yy_X7_entriesInAll yv_X7_entriesInAll ml_X12_337 hf tbX_4 rfl rfl rfl rfl (Nat.le_of_ble_eq_true rfl) (by decide) hl.1 dX12_count_56 (fun r2 S1 H locs hw hf => ?_)
    exact sh_ri C hw hr hf dX12_count_59
  · replace hf := (sh_if hf).2 h1_0
    by_cases h1_1 : v1 = 1
    · replace hf := (sh_if hf).1 h1_1
      refine sh_swIn (off := 59) (tgt := 60) C h1_1 dX12_count_1 (by decide) (by decide) (by decide) (by decide) ?_
      refine lv_bipush (v := 40) C.1 C.2.1 dX12_count_60 (by decide) ?_
      refine lv_aload_n C.1 C.2.1 dX12_count_62 rfl (lv_at hl 0 rfl) ?_
      refine sh_getr C hw fl_X12_28 tbX_0 rfl dX12_count_63 ?_
      refine lv_iconst (v := 0) C.1 C.2.1 dX12_count_66 (by decide) ?_
      refine sh_Vi (As := [.int 0]) (rest := [.int 40]) C hw (kX7_blocksOfKind l 0) yy_X7_blocksOfKind yv_X7_blocksOfKind ml_X12_340 hf tbX_4 rfl rfl rfl rfl (Nat.le_of_ble_eq_true rfl) (by decide) hl.1 dX12_count_67 (fun r4 S3 H locs hw hf => ?_)
      refine lv_isub C.1 C.2.1 dX12_count_70 ?_
      exact sh_ri C hw hr hf dX12_count_71
    · replace hf := (sh_if hf).2 h1_1
      by_cases h1_2 : v1 = 2
      · replace hf := (sh_if hf).1 h1_2
        refine sh_swIn (off := 71) (tgt := 72) C h1_2 dX12_count_1 (by decide) (by decide) (by decide) (by decide) ?_
        refine lv_aload_n C.1 C.2.1 dX12_count_72 rfl (lv_at hl 0 rfl) ?_
        refine sh_getr C hw fl_X12_28 tbX_0 rfl dX12_count_73 ?_
        refine sh_geti C hw fl_X12_343 tbX_4 rfl dX12_count_76 ?_
        exact sh_ri C hw hr hf dX12_count_79
      · replace hf := (sh_if hf).2 h1_2
        by_cases h1_3 : v1 = 3
        · replace hf := (sh_if hf).1 h1_3
          refine sh_swIn (off := 79) (tgt := 80) C h1_3 dX12_count_1 (by decide) (by decide) (by decide) (by decide) ?_
          refine lv_aload_n C.1 C.2.1 dX12_count_80 rfl (lv_at hl 0 rfl) ?_
          refine sh_getr C hw fl_X12_28 tbX_0 rfl dX12_count_81 ?_
          refine lv_iconst (v := 1) C.1 C.2.1 dX12_count_84 (by decide) ?_
          refine sh_Vi (As := [.int 1]) (rest := []) C hw (kX7_blocksOfKind l 1) yy_X7_blocksOfKind yv_X7_blocksOfKind ml_X12_340 hf tbX_4 rfl rfl rfl rfl (Nat.le_of_ble_eq_true rfl) (by decide) hl.1 dX12_count_85 (fun r6 S5 H locs hw hf => ?_)
          exact sh_ri C hw hr hf dX12_count_88
        · replace hf := (sh_if hf).2 h1_3
          by_cases h1_4 : v1 = 4
          · replace hf := (sh_if hf).1 h1_4
            refine sh_swIn (off := 88) (tgt := 89) C h1_4 dX12_count_1 (by decide) (by decide) (by decide) (by decide) ?_
            refine lv_aload_n C.1 C.2.1 dX12_count_89 rfl (lv_at hl 0 rfl) ?_
            refine sh_getr C hw fl_X12_28 tbX_0 rfl dX12_count_90 ?_
            refine sh_Vi (As := []) (rest := []) C hw (kX7_tornIndexes l ) yy_X7_tornIndexes yv_X7_tornIndexes ml_X12_346 hf tbX_4 rfl rfl rfl rfl (Nat.le_of_ble_eq_true rfl) (by decide) hl.1 dX12_count_93 (fun r8 S7 H locs hw hf => ?_)
            exact sh_ri C hw hr hf dX12_count_96
          · replace hf := (sh_if hf).2 h1_4
            by_cases h1_5 : v1 = 5
            · replace hf := (sh_if hf).1 h1_5
              refine sh_swIn (off := 96) (tgt := 97) C h1_5 dX12_count_1 (by decide) (by decide) (by decide) (by decide) ?_
              refine lv_aload_n C.1 C.2.1 dX12_count_97 rfl (lv_at hl 0 rfl) ?_
              refine sh_getr C hw fl_X12_28 tbX_0 rfl dX12_count_98 ?_
              refine sh_geti C hw fl_X12_349 tbX_4 rfl dX12_count_101 ?_
              exact sh_ri C hw hr hf dX12_count_104
            · replace hf := (sh_if hf).2 h1_5
              by_cases h1_6 : v1 = 6
              · replace hf := (sh_if hf).1 h1_6
                refine sh_swIn (off := 104) (tgt := 105) C h1_6 dX12_count_1 (by decide) (by decide) (by decide) (by decide) ?_
                refine lv_aload_n C.1 C.2.1 dX12_count_105 rfl (lv_at hl 0 rfl) ?_
                refine sh_getr C hw fl_X12_28 tbX_0 rfl dX12_count_106 ?_
                refine sh_geti C hw fl_X12_352 tbX_4 rfl dX12_count_109 ?_
                exact sh_ri C hw hr hf dX12_count_112
              · replace hf := (sh_if hf).2 h1_6
                by_cases h1_7 : v1 = 7
                · replace hf := (sh_if hf).1 h1_7
                  refine sh_swIn (off := 112) (tgt := 113) C h1_7 dX12_count_1 (by decide) (by decide) (by decide) (by decide) ?_
                  refine lv_aload_n C.1 C.2.1 dX12_count_113 rfl (lv_at hl 0 rfl) ?_
                  refine sh_getr C hw fl_X12_28 tbX_0 rfl dX12_count_114 ?_
                  refine sh_geti C hw fl_X12_355 tbX_4 rfl dX12_count_117 ?_
                  refine sh_if_eq (tgt := 127) C hf dX12_count_120 (by decide) (fun hf => ?_) (fun hf => ?_)
                  · refine lv_iconst (v := 0) C.1 C.2.1 dX12_count_127 (by decide) ?_
                    exact sh_ri C hw hr hf dX12_count_128
                  · refine lv_iconst (v := 1) C.1 C.2.1 dX12_count_123 (by decide) ?_
                    refine lv_goto (tgt := 128) C.1 C.2.1 dX12_count_124 (by decide) ?_
                    exact sh_ri C hw hr hf dX12_count_128
                · replace hf := (sh_if hf).2 h1_7
                  by_cases h1_8 : v1 = 8
                  · replace hf := (sh_if hf).1 h1_8
                    refine sh_swIn (off := 128) (tgt := 129) C h1_8 dX12_count_1 (by decide) (by decide) (by decide) (by decide) ?_
                    refine lv_aload_n C.1 C.2.1 dX12_count_129 rfl (lv_at hl 0 rfl) ?_
                    refine sh_getr C hw fl_X12_41 tbX_0 rfl dX12_count_130 ?_
                    refine sh_geti C hw fl_X12_186 tbX_34 rfl dX12_count_133 ?_
                    exact sh_ri C hw hr hf dX12_count_136
                  · replace hf := (sh_if hf).2 h1_8
                    refine sh_swOut (tgt := 137) C (by have a0 := sh_neI (z := 0) h1_0 (by decide); have a1 := sh_neI (z := 1) h1_1 (by decide); have a2 := sh_neI (z := 2) h1_2 (by decide); have a3 := sh_neI (z := 3) h1_3 (by decide); have a4 := sh_neI (z := 4) h1_4 (by decide); have a5 := sh_neI (z := 5) h1_5 (by decide); have a6 := sh_neI (z := 6) h1_6 (by decide); have a7 := sh_neI (z := 7) h1_7 (by decide); have a8 := sh_neI (z := 8) h1_8 (by decide); omega) dX12_count_1 (by decide) ?_
                    refine lv_iconst (v := -1) C.1 C.2.1 dX12_count_137 (by decide) ?_
                    exact sh_ri C hw hr hf dX12_count_138
def fX12_closeReaders_2 : Nat → sh_St → Int32 → Option (Unit × sh_St)
  | 0, _, _ => none
  | n + 1, S, v1 =>
    if 4 ≤ v1 then (some ((), S))
    else (sh_g v1 4 (sh_b 0 (sh_t (sh_I S (132 + 2 * v1.toNatClampNeg) 1 0) fun S2 =>
    sh_t (v1 + 1) fun y3 =>
    (fX12_closeReaders_2 n) S2 y3)))
set_option maxRecDepth 100000 in
set_option maxHeartbeats 4000000 in
theorem wX12_closeReaders_2 {p : Program} {l : Launch} {e : Env} {s : State} {m : MethodId} {args : Array Value} {below : List Frame} {meth : Method} {c : Code} {G : sh_Ev} {A : Nat → Prop} {res : Unit × sh_St} (C : sh_Cx p s m args meth c cX12_closeReaders 2 RX12 G A) (hr : meth.sig.returnType = none) : ∀ (n : Nat) (S : sh_St) (v1 : Int32), fX12_closeReaders_2 n S v1 = some res → ∀ (H : Heap) (locs : List Loc) (ls : Array Slot), sh_Wx G tbX A s H locs S → lv_has ls 2 [(0, .ref (G.2.1 0)), (1, .int v1)] → W p l e (sh_rm 1) s m args below meth c H locs 0 0 (sh_Qv below args s G tbX A res) (F0 m 2 ls []) := by
  intro n
  induction n with
  | zero => intro S v1 hf; exact nomatch (show (none : Option (Unit × sh_St)) = some res from hf)
  | succ n ih =>
    intro S v1 hf H locs ls hw hl
    have hr2 := ih
    rw [fX12_closeReaders_2] at hf
    refine lv_iload_n C.1 C.2.1 dX12_closeReaders_2 rfl (lv_at hl 1 rfl) ?_
    refine lv_iconst (v := 4) C.1 C.2.1 dX12_closeReaders_3 (by decide) ?_
    refine sh_icmp_ge (tgt := 23) C hf dX12_closeReaders_4 (by decide) (fun hf => ?_) (fun hf => ?_)
    · exact sh_rv C hw hr hf dX12_closeReaders_23
    · refine lv_aload_n C.1 C.2.1 dX12_closeReaders_7 rfl (lv_at hl 0 rfl) ?_
      refine sh_getr C hw fl_X12_65 tbX_0 rfl dX12_closeReaders_8 ?_
      refine lv_iload_n C.1 C.2.1 dX12_closeReaders_11 rfl (lv_at hl 1 rfl) ?_
      refine sh_aald4 C hw hf tbX_131 dX12_closeReaders_12 (fun hj1 hf => ?_)
      refine lv_iconst (v := 0) C.1 C.2.1 dX12_closeReaders_13 (by decide) ?_
      refine sh_putz C hw fl_X12_301 fp_0_1 hf (tbX_cur hj1) rfl dX12_closeReaders_14 (fun S2 H locs hw hf => ?_)
      obtain ⟨y3, ey3, hf⟩ := sh_nm hf
      refine lv_iinc (v := y3) (lv' := [(1, .int y3), (0, .ref (G.2.1 0))]) C.1 C.2.1 dX12_closeReaders_17 hl (k := 1) rfl (by rw [← ey3]; rfl) (by decide) rfl (fun ls hl => ?_)
      refine lv_goto (tgt := 2) C.1 C.2.1 dX12_closeReaders_20 (by decide) ?_
      exact hr2 S2 y3 hf _ _ _ hw (lv_sub hl [1, 0] rfl)
def fX12_closeReaders (S : sh_St) : Option (Unit × sh_St) :=
    fX12_closeReaders_2 sh_FU S 0
set_option maxRecDepth 100000 in
set_option maxHeartbeats 4000000 in
theorem kX12_closeReaders (l : Launch) : sh_Mv l yX12_closeReaders cX12_closeReaders 2 1 tbX (fun G => [.ref (G.2.1 0)]) (fun S => fX12_closeReaders S) := by
  refine sh_mkv (by decide) (fun G => Nat.le_of_ble_eq_true rfl) ?_
  intro p e s m args below meth c G A S res ls hf C hr hw hl
  have C : sh_Cx p s m args meth c cX12_closeReaders 2 RX12 G A := C
  have hl : lv_has ls 2 [(0, .ref (G.2.1 0))] := hl
  replace hf : fX12_closeReaders S = some res := hf
  rw [fX12_closeReaders] at hf
  refine lv_iconst (v := 0) C.1 C.2.1 dX12_closeReaders_0 (by decide) ?_
  refine lv_istore_n (lv' := [(1, .int 0), (0, .ref (G.2.1 0))]) C.1 C.2.1 dX12_closeReaders_1 rfl hl (by decide) rfl (fun ls hl => ?_)
  exact wX12_closeReaders_2 C hr _ S 0 hf _ _ _ hw (lv_sub hl [1, 0] rfl)
def fX13_find (S : sh_St) (v1 : Int32) : Option (Int32 × sh_St) :=
    sh_c (fX13_isIn S v1 0 8) fun r2 S1 =>
    if r2 = 0 then (sh_t (sh_I S1 0 17 0) fun S24 =>
    sh_t (sh_I S24 0 0 1) fun S25 =>
    some (0, S25))
    else (sh_c (fX13_isName S1 0) fun r4 S3 =>
    if r4 = 0 then (sh_t (sh_I S3 0 0 2) fun S23 =>
    some (0, S23))
    else (sh_c (fX13_seeks S3 (S3.2 0 22)) fun r6 S5 =>
    if v1 = 0 then (if r6 = 0 then (some ((-1), S5))
    else (sh_c (fX13_slotAt S5 (S5.1 0 30) (S5.1 0 31)) fun r8 S7 =>
    sh_g (840 + r8) 1084 (some (S7.1 1 (840 + r8).toNatClampNeg, S7))))
    else (if v1 = 1 then (some (S5.1 0 32, S5))
    else (if v1 = 2 then (some (S5.1 0 30, S5))
    else (if v1 = 3 then (some (S5.1 0 31, S5))
    else (if v1 = 4 then (sh_c (fX13_hashOf S5 (S5.2 0 22)) fun r10 S9 =>
    some (r10, S9))
    else (if v1 = 5 then (sh_c (fX13_hashOf S5 (S5.2 0 22)) fun r12 S11 =>
    sh_c (fX13_meets S11 r12) fun r14 S13 =>
    some (r14, S13))
    else (if v1 = 6 then (sh_c (fX13_hashOf S5 (S5.2 0 22)) fun r16 S15 =>
    sh_c (fX13_room S15 r16) fun r18 S17 =>
    some (r18, S17))
    else (if v1 = 7 then (sh_c (fX13_needsOf S5 (S5.2 0 22)) fun r20 S19 =>
    some (r20, S19))
    else (sh_c (fX13_mate S5 (S5.2 0 22)) fun r22 S21 =>
    some (r22, S21)))))))))))
set_option maxRecDepth 100000 in
set_option maxHeartbeats 4000000 in
theorem kX13_find (l : Launch) (v1 : Int32) : sh_Mi l yX13_find cX13_find 3 .int 7 tbM (fun G => [.ref (G.2.1 0), .int v1]) (fun S => fX13_find S v1) := by
  refine sh_mki (by decide) (fun G => Nat.le_of_ble_eq_true rfl) ?_
  intro p e s m args below meth c G A S res ls hf C hr hw hl
  have C : sh_Cx p s m args meth c cX13_find 3 RX13 G A := C
  have hl : lv_has ls 3 [(0, .ref (G.2.1 0)), (1, .int v1)] := hl
  replace hf : fX13_find S v1 = some res := hf
  rw [fX13_find] at hf
  refine lv_iload_n C.1 C.2.1 dX13_find_0 rfl (lv_at hl 1 rfl) ?_
  refine lv_iconst (v := 0) C.1 C.2.1 dX13_find_1 (by decide) ?_
  refine lv_bipush (v := 8) C.1 C.2.1 dX13_find_2 (by decide) ?_
  refine sh_Si (As := [.int v1, .int 0, .int 8]) (rest := []) C hw (kX13_isIn l v1 0 8) yy_X13_isIn ys_X13_isIn ml_X13_263 rfl hf rfl rfl rfl (Nat.le_of_ble_eq_true rfl) (by decide) hl.1 dX13_find_4 (fun r2 S1 H locs hw hf => ?_)
  refine sh_if_ne (tgt := 22) C hf dX13_find_7 (by decide) (fun hf => ?_) (fun hf => ?_)
  · refine lv_aload_n C.1 C.2.1 dX13_find_22 rfl (lv_at hl 0 rfl) ?_
    refine lv_iconst (v := 0) C.1 C.2.1 dX13_find_23 (by decide) ?_
    refine sh_Vi (As := [.int 0]) (rest := []) C hw (kX13_isName l 0) yy_X13_isName yv_X13_isName ml_X13_362 hf tbM_0 rfl rfl rfl rfl (Nat.le_of_ble_eq_true rfl) (by decide) hl.1 dX13_find_24 (fun r4 S3 H locs hw hf => ?_)
    refine sh_if_ne (tgt := 37) C hf dX13_find_27 (by decide) (fun hf => ?_) (fun hf => ?_)
    · refine lv_aload_n C.1 C.2.1 dX13_find_37 rfl (lv_at hl 0 rfl) ?_
      refine lv_aload_n C.1 C.2.1 dX13_find_38 rfl (lv_at hl 0 rfl) ?_
      refine sh_getl C hw fl_X13_355 tbM_0 rfl dX13_find_39 ?_
      refine sh_Vi (As := [.long (S3.2 0 22)]) (rest := []) C hw (kX13_seeks l (S3.2 0 22)) yy_X13_seeks yv_X13_seeks ml_X13_226 hf tbM_0 rfl rfl rfl rfl (Nat.le_of_ble_eq_true rfl) (by decide) hl.1 dX13_find_42 (fun r6 S5 H locs hw hf => ?_)
      refine lv_istore_n (lv' := [(2, .int r6), (0, .ref (G.2.1 0)), (1, .int v1)]) C.1 C.2.1 dX13_find_45 rfl hl (by decide) rfl (fun ls hl => ?_)
      refine lv_iload_n C.1 C.2.1 dX13_find_46 rfl (lv_at hl 2 rfl) ?_
      by_cases h47_0 : v1 = 0
      · replace hf := (sh_if hf).1 h47_0
        refine sh_swIn (off := 45) (tgt := 92) C h47_0 dX13_find_47 (by decide) (by decide) (by decide) (by decide) ?_
        refine lv_iload_n C.1 C.2.1 dX13_find_92 rfl (lv_at hl 0 rfl) ?_
        refine sh_if_eq (tgt := 119) C hf dX13_find_93 (by decide) (fun hf => ?_) (fun hf => ?_)
        · refine lv_iconst (v := -1) C.1 C.2.1 dX13_find_119 (by decide) ?_
          exact sh_ri C hw hr hf dX13_find_120
        · refine lv_aload_n C.1 C.2.1 dX13_find_96 rfl (lv_at hl 1 rfl) ?_
          refine sh_getr C hw fl_X13_7 tbM_0 rfl dX13_find_97 ?_
          refine lv_sipush (v := 840) C.1 C.2.1 dX13_find_100 (by decide) ?_
          refine lv_aload_n C.1 C.2.1 dX13_find_103 rfl (lv_at hl 1 rfl) ?_
          refine sh_geti C hw fl_X13_150 tbM_0 rfl dX13_find_104 ?_
          refine lv_aload_n C.1 C.2.1 dX13_find_107 rfl (lv_at hl 1 rfl) ?_
          refine sh_geti C hw fl_X13_153 tbM_0 rfl dX13_find_108 ?_
          refine sh_Si (As := [.int (S5.1 0 30), .int (S5.1 0 31)]) (rest := [.int 840, .ref (G.2.1 1)]) C hw (kX13_slotAt l (S5.1 0 30) (S5.1 0 31)) yy_X13_slotAt ys_X13_slotAt ml_X13_82 rfl hf rfl rfl rfl (Nat.le_of_ble_eq_true rfl) (by decide) hl.1 dX13_find_111 (fun r8 S7 H locs hw hf => ?_)
          refine lv_iadd C.1 C.2.1 dX13_find_114 ?_
          refine sh_iald C hw hf tbM_1 dX13_find_115 (fun hf => ?_)
          refine lv_goto (tgt := 120) C.1 C.2.1 dX13_find_116 (by decide) ?_
          exact sh_ri C hw hr hf dX13_find_120
      · replace hf := (sh_if hf).2 h47_0
        by_cases h47_1 : v1 = 1
        · replace hf := (sh_if hf).1 h47_1
          refine sh_swIn (off := 74) (tgt := 121) C h47_1 dX13_find_47 (by decide) (by decide) (by decide) (by decide) ?_
          refine lv_aload_n C.1 C.2.1 dX13_find_121 rfl (lv_at hl 1 rfl) ?_
          refine sh_geti C hw fl_X13_143 tbM_0 rfl dX13_find_122 ?_
          exact sh_ri C hw hr hf dX13_find_125
        · replace hf := (sh_if hf).2 h47_1
          by_cases h47_2 : v1 = 2
          · replace hf := (sh_if hf).1 h47_2
            refine sh_swIn (off := 79) (tgt := 126) C h47_2 dX13_find_47 (by decide) (by decide) (by decide) (by decide) ?_
            refine lv_aload_n C.1 C.2.1 dX13_find_126 rfl (lv_at hl 1 rfl) ?_
            refine sh_geti C hw fl_X13_150 tbM_0 rfl dX13_find_127 ?_
            exact sh_ri C hw hr hf dX13_find_130
          · replace hf := (sh_if hf).2 h47_2
            by_cases h47_3 : v1 = 3
            · replace hf := (sh_if hf).1 h47_3
              refine sh_swIn (off := 84) (tgt := 131) C h47_3 dX13_find_47 (by decide) (by decide) (by decide) (by decide) ?_
              refine lv_aload_n C.1 C.2.1 dX13_find_131 rfl (lv_at hl 1 rfl) ?_
              refine sh_geti C hw fl_X13_153 tbM_0 rfl dX13_find_132 ?_
              exact sh_ri C hw hr hf dX13_find_135
            · replace hf := (sh_if hf).2 h47_3
              by_cases h47_4 : v1 = 4
              · replace hf := (sh_if hf).1 h47_4
                refine sh_swIn (off := 89) (tgt := 136) C h47_4 dX13_find_47 (by decide) (by decide) (by decide) (by decide) ?_
                refine lv_aload_n C.1 C.2.1 dX13_find_136 rfl (lv_at hl 1 rfl) ?_
                refine lv_aload_n C.1 C.2.1 dX13_find_137 rfl (lv_at hl 1 rfl) ?_
                refine sh_getl C hw fl_X13_355 tbM_0 rfl dX13_find_138 ?_
                refine sh_Vi (As := [.long (S5.2 0 22)]) (rest := []) C hw (kX13_hashOf l (S5.2 0 22)) yy_X13_hashOf yv_X13_hashOf ml_X13_164 hf tbM_0 rfl rfl rfl rfl (Nat.le_of_ble_eq_true rfl) (by decide) hl.1 dX13_find_141 (fun r10 S9 H locs hw hf => ?_)
                exact sh_ri C hw hr hf dX13_find_144
              · replace hf := (sh_if hf).2 h47_4
                by_cases h47_5 : v1 = 5
                · replace hf := (sh_if hf).1 h47_5
                  refine sh_swIn (off := 98) (tgt := 145) C h47_5 dX13_find_47 (by decide) (by decide) (by decide) (by decide) ?_
                  refine lv_aload_n C.1 C.2.1 dX13_find_145 rfl (lv_at hl 1 rfl) ?_
                  refine lv_aload_n C.1 C.2.1 dX13_find_146 rfl (lv_at hl 1 rfl) ?_
                  refine lv_aload_n C.1 C.2.1 dX13_find_147 rfl (lv_at hl 1 rfl) ?_
                  refine sh_getl C hw fl_X13_355 tbM_0 rfl dX13_find_148 ?_
                  refine sh_Vi (As := [.long (S5.2 0 22)]) (rest := [.ref (G.2.1 0)]) C hw (kX13_hashOf l (S5.2 0 22)) yy_X13_hashOf yv_X13_hashOf ml_X13_164 hf tbM_0 rfl rfl rfl rfl (Nat.le_of_ble_eq_true rfl) (by decide) hl.1 dX13_find_151 (fun r12 S11 H locs hw hf => ?_)
                  refine sh_Vi (As := [.int r12]) (rest := []) C hw (kX13_meets l r12) yy_X13_meets yv_X13_meets ml_X13_375 hf tbM_0 rfl rfl rfl rfl (Nat.le_of_ble_eq_true rfl) (by decide) hl.1 dX13_find_154 (fun r14 S13 H locs hw hf => ?_)
                  exact sh_ri C hw hr hf dX13_find_157
                · replace hf := (sh_if hf).2 h47_5
                  by_cases h47_6 : v1 = 6
                  · replace hf := (sh_if hf).1 h47_6
                    refine sh_swIn (off := 111) (tgt := 158) C h47_6 dX13_find_47 (by decide) (by decide) (by decide) (by decide) ?_
                    refine lv_aload_n C.1 C.2.1 dX13_find_158 rfl (lv_at hl 1 rfl) ?_
                    refine lv_aload_n C.1 C.2.1 dX13_find_159 rfl (lv_at hl 1 rfl) ?_
                    refine lv_aload_n C.1 C.2.1 dX13_find_160 rfl (lv_at hl 1 rfl) ?_
                    refine sh_getl C hw fl_X13_355 tbM_0 rfl dX13_find_161 ?_
                    refine sh_Vi (As := [.long (S5.2 0 22)]) (rest := [.ref (G.2.1 0)]) C hw (kX13_hashOf l (S5.2 0 22)) yy_X13_hashOf yv_X13_hashOf ml_X13_164 hf tbM_0 rfl rfl rfl rfl (Nat.le_of_ble_eq_true rfl) (by decide) hl.1 dX13_find_164 (fun r16 S15 H locs hw hf => ?_)
                    refine sh_Vi (As := [.int r16]) (rest := []) C hw (kX13_room l r16) yy_X13_room yv_X13_room ml_X13_378 hf tbM_0 rfl rfl rfl rfl (Nat.le_of_ble_eq_true rfl) (by decide) hl.1 dX13_find_167 (fun r18 S17 H locs hw hf => ?_)
                    exact sh_ri C hw hr hf dX13_find_170
                  · replace hf := (sh_if hf).2 h47_6
                    by_cases h47_7 : v1 = 7
                    · replace hf := (sh_if hf).1 h47_7
                      refine sh_swIn (off := 124) (tgt := 171) C h47_7 dX13_find_47 (by decide) (by decide) (by decide) (by decide) ?_
                      refine lv_aload_n C.1 C.2.1 dX13_find_171 rfl (lv_at hl 1 rfl) ?_
                      refine lv_aload_n C.1 C.2.1 dX13_find_172 rfl (lv_at hl 1 rfl) ?_
                      refine sh_getl C hw fl_X13_355 tbM_0 rfl dX13_find_173 ?_
                      refine sh_Vi (As := [.long (S5.2 0 22)]) (rest := []) C hw (kX13_needsOf l (S5.2 0 22)) yy_X13_needsOf yv_X13_needsOf ml_X13_381 hf tbM_0 rfl rfl rfl rfl (Nat.le_of_ble_eq_true rfl) (by decide) hl.1 dX13_find_176 (fun r20 S19 H locs hw hf => ?_)
                      exact sh_ri C hw hr hf dX13_find_179
                    · replace hf := (sh_if hf).2 h47_7
                      refine sh_swOut (tgt := 180) C (by have a0 := sh_neI (z := 0) h47_0 (by decide); have a1 := sh_neI (z := 1) h47_1 (by decide); have a2 := sh_neI (z := 2) h47_2 (by decide); have a3 := sh_neI (z := 3) h47_3 (by decide); have a4 := sh_neI (z := 4) h47_4 (by decide); have a5 := sh_neI (z := 5) h47_5 (by decide); have a6 := sh_neI (z := 6) h47_6 (by decide); have a7 := sh_neI (z := 7) h47_7 (by decide); omega) dX13_find_47 (by decide) ?_
                      refine lv_aload_n C.1 C.2.1 dX13_find_180 rfl (lv_at hl 1 rfl) ?_
                      refine lv_aload_n C.1 C.2.1 dX13_find_181 rfl (lv_at hl 1 rfl) ?_
                      refine sh_getl C hw fl_X13_355 tbM_0 rfl dX13_find_182 ?_
                      refine sh_Vi (As := [.long (S5.2 0 22)]) (rest := []) C hw (kX13_mate l (S5.2 0 22)) yy_X13_mate yv_X13_mate ml_X13_384 hf tbM_0 rfl rfl rfl rfl (Nat.le_of_ble_eq_true rfl) (by decide) hl.1 dX13_find_185 (fun r22 S21 H locs hw hf => ?_)
                      exact sh_ri C hw hr hf dX13_find_188
    · refine lv_aload_n C.1 C.2.1 dX13_find_30 rfl (lv_at hl 0 rfl) ?_
      refine lv_iconst (v := 2) C.1 C.2.1 dX13_find_31 (by decide) ?_
      refine sh_puti C hw fl_X13_79 fp_11_0 hf tbM_0 rfl dX13_find_32 (fun S23 H locs hw hf => ?_)
      refine lv_iconst (v := 0) C.1 C.2.1 dX13_find_35 (by decide) ?_
      exact sh_ri C hw hr hf dX13_find_36
  · refine lv_aload_n C.1 C.2.1 dX13_find_10 rfl (lv_at hl 0 rfl) ?_
    refine lv_iconst (v := 0) C.1 C.2.1 dX13_find_11 (by decide) ?_
    refine sh_puti C hw fl_X13_260 fp_11_17 hf tbM_0 rfl dX13_find_12 (fun S24 H locs hw hf => ?_)
    refine lv_aload_n C.1 C.2.1 dX13_find_15 rfl (lv_at hl 0 rfl) ?_
    refine lv_iconst (v := 1) C.1 C.2.1 dX13_find_16 (by decide) ?_
    refine sh_puti C hw fl_X13_79 fp_11_0 hf tbM_0 rfl dX13_find_17 (fun S25 H locs hw hf => ?_)
    refine lv_iconst (v := 0) C.1 C.2.1 dX13_find_20 (by decide) ?_
    exact sh_ri C hw hr hf dX13_find_21
def fX13_block_26 (S : sh_St) (v1 : Int32) (v2 : Int32) (t0 : Int32) : Option (Int32 × sh_St) :=
    sh_t (sh_I S 0 0 t0) fun S5 =>
    if (S5.1 0 0) ≤ 0 then (if v2 = 0 then (sh_g (0 + v1) 1084 (some (S5.1 1 (0 + v1).toNatClampNeg, S5)))
    else (if v2 = 1 then (sh_g (0 + v1) 1084 (if (S5.1 1 (0 + v1).toNatClampNeg) = 1 then (sh_c (fX13_entries S5 v1) fun r7 S6 =>
    some (r7, S6))
    else (sh_g (0 + v1) 1084 (if (S5.1 1 (0 + v1).toNatClampNeg) = 2 then (sh_g (80 + v1) 1084 (some (S5.1 1 (80 + v1).toNatClampNeg, S5)))
    else (some (0, S5))))))
    else (sh_g (40 + v1) 1084 (some (S5.1 1 (40 + v1).toNatClampNeg, S5)))))
    else (some (0, S5))
set_option maxRecDepth 100000 in
set_option maxHeartbeats 4000000 in
theorem wX13_block_26 {p : Program} {l : Launch} {e : Env} {s : State} {m : MethodId} {args : Array Value} {below : List Frame} {meth : Method} {c : Code} {G : sh_Ev} {A : Nat → Prop} {res : Int32 × sh_St} (C : sh_Cx p s m args meth c cX13_block 3 RX13 G A) (hr : meth.sig.returnType = some .int) : ∀ (S : sh_St) (v1 : Int32) (v2 : Int32) (t0 : Int32), fX13_block_26 S v1 v2 t0 = some res → ∀ (H : Heap) (locs : List Loc) (ls : Array Slot), sh_Wx G tbM A s H locs S → lv_has ls 3 [(0, .ref (G.2.1 0)), (1, .int v1), (2, .int v2)] → W p l e (sh_rm 4) s m args below meth c H locs 0 0 (sh_Qi below args s G tbM A res) (F0 m 26 ls [.int t0, .ref (G.2.1 0)]) := by
  intro S v1 v2 t0 hf H locs ls hw hl
  rw [fX13_block_26] at hf
  refine sh_puti C hw fl_X13_79 fp_11_0 hf tbM_0 rfl dX13_block_26 (fun S5 H locs hw hf => ?_)
  refine lv_aload_n C.1 C.2.1 dX13_block_29 rfl (lv_at hl 0 rfl) ?_
  refine sh_geti C hw fl_X13_79 tbM_0 rfl dX13_block_30 ?_
  refine sh_if_le (tgt := 38) C hf dX13_block_33 (by decide) (fun hf => ?_) (fun hf => ?_)
  · refine lv_iload_n C.1 C.2.1 dX13_block_38 rfl (lv_at hl 2 rfl) ?_
    by_cases h39_0 : v2 = 0
    · replace hf := (sh_if hf).1 h39_0
      refine sh_lkIn (off := 25) (tgt := 64) C h39_0 dX13_block_39 (by decide) (by decide) (by decide) ?_
      refine lv_aload_n C.1 C.2.1 dX13_block_64 rfl (lv_at hl 0 rfl) ?_
      refine sh_getr C hw fl_X13_7 tbM_0 rfl dX13_block_65 ?_
      refine lv_iconst (v := 0) C.1 C.2.1 dX13_block_68 (by decide) ?_
      refine lv_iload_n C.1 C.2.1 dX13_block_69 rfl (lv_at hl 1 rfl) ?_
      refine lv_iadd C.1 C.2.1 dX13_block_70 ?_
      refine sh_iald C hw hf tbM_1 dX13_block_71 (fun hf => ?_)
      exact sh_ri C hw hr hf dX13_block_72
    · replace hf := (sh_if hf).2 h39_0
      by_cases h39_1 : v2 = 1
      · replace hf := (sh_if hf).1 h39_1
        refine sh_lkIn (off := 34) (tgt := 73) C h39_1 dX13_block_39 (by decide) (by decide) (by decide) ?_
        refine lv_aload_n C.1 C.2.1 dX13_block_73 rfl (lv_at hl 0 rfl) ?_
        refine sh_getr C hw fl_X13_7 tbM_0 rfl dX13_block_74 ?_
        refine lv_iconst (v := 0) C.1 C.2.1 dX13_block_77 (by decide) ?_
        refine lv_iload_n C.1 C.2.1 dX13_block_78 rfl (lv_at hl 1 rfl) ?_
        refine lv_iadd C.1 C.2.1 dX13_block_79 ?_
        refine sh_iald C hw hf tbM_1 dX13_block_80 (fun hf => ?_)
        refine lv_iconst (v := 1) C.1 C.2.1 dX13_block_81 (by decide) ?_
        refine sh_icmp_ne (tgt := 91) C hf dX13_block_82 (by decide) (fun hf => ?_) (fun hf => ?_)
        · refine lv_aload_n C.1 C.2.1 dX13_block_91 rfl (lv_at hl 0 rfl) ?_
          refine sh_getr C hw fl_X13_7 tbM_0 rfl dX13_block_92 ?_
          refine lv_iconst (v := 0) C.1 C.2.1 dX13_block_95 (by decide) ?_
          refine lv_iload_n C.1 C.2.1 dX13_block_96 rfl (lv_at hl 1 rfl) ?_
          refine lv_iadd C.1 C.2.1 dX13_block_97 ?_
          refine sh_iald C hw hf tbM_1 dX13_block_98 (fun hf => ?_)
          refine lv_iconst (v := 2) C.1 C.2.1 dX13_block_99 (by decide) ?_
          refine sh_icmp_ne (tgt := 115) C hf dX13_block_100 (by decide) (fun hf => ?_) (fun hf => ?_)
          · refine lv_iconst (v := 0) C.1 C.2.1 dX13_block_115 (by decide) ?_
            exact sh_ri C hw hr hf dX13_block_116
          · refine lv_aload_n C.1 C.2.1 dX13_block_103 rfl (lv_at hl 0 rfl) ?_
            refine sh_getr C hw fl_X13_7 tbM_0 rfl dX13_block_104 ?_
            refine lv_bipush (v := 80) C.1 C.2.1 dX13_block_107 (by decide) ?_
            refine lv_iload_n C.1 C.2.1 dX13_block_109 rfl (lv_at hl 1 rfl) ?_
            refine lv_iadd C.1 C.2.1 dX13_block_110 ?_
            refine sh_iald C hw hf tbM_1 dX13_block_111 (fun hf => ?_)
            refine lv_goto (tgt := 116) C.1 C.2.1 dX13_block_112 (by decide) ?_
            exact sh_ri C hw hr hf dX13_block_116
        · refine lv_aload_n C.1 C.2.1 dX13_block_85 rfl (lv_at hl 0 rfl) ?_
          refine lv_iload_n C.1 C.2.1 dX13_block_86 rfl (lv_at hl 1 rfl) ?_
          refine sh_Vi (As := [.int v1]) (rest := []) C hw (kX13_entries l v1) yy_X13_entries yv_X13_entries ml_X13_372 hf tbM_0 rfl rfl rfl rfl (Nat.le_of_ble_eq_true rfl) (by decide) hl.1 dX13_block_87 (fun r7 S6 H locs hw hf => ?_)
          exact sh_ri C hw hr hf dX13_block_90
      · replace hf := (sh_if hf).2 h39_1
        refine sh_lkOut (tgt := 117) C dX13_block_39 (by decide) (sh_off2 (sh_neI h39_0 (by decide)) (sh_neI h39_1 (by decide))) (by decide) ?_
        refine lv_aload_n C.1 C.2.1 dX13_block_117 rfl (lv_at hl 0 rfl) ?_
        refine sh_getr C hw fl_X13_7 tbM_0 rfl dX13_block_118 ?_
        refine lv_bipush (v := 40) C.1 C.2.1 dX13_block_121 (by decide) ?_
        refine lv_iload_n C.1 C.2.1 dX13_block_123 rfl (lv_at hl 1 rfl) ?_
        refine lv_iadd C.1 C.2.1 dX13_block_124 ?_
        refine sh_iald C hw hf tbM_1 dX13_block_125 (fun hf => ?_)
        exact sh_ri C hw hr hf dX13_block_126
  · refine lv_iconst (v := 0) C.1 C.2.1 dX13_block_36 (by decide) ?_
    exact sh_ri C hw hr hf dX13_block_37
def fX13_block (S : sh_St) (v1 : Int32) (v2 : Int32) : Option (Int32 × sh_St) :=
    sh_c (fX13_isBlock S v1) fun r2 S1 =>
    if r2 = 0 then (fX13_block_26 S1 v1 v2 1)
    else (sh_c (fX13_isIn S1 v2 0 2) fun r4 S3 =>
    if r4 = 0 then (fX13_block_26 S3 v1 v2 2)
    else (fX13_block_26 S3 v1 v2 0))
set_option maxRecDepth 100000 in
set_option maxHeartbeats 4000000 in
theorem kX13_block (l : Launch) (v1 : Int32) (v2 : Int32) : sh_Mi l yX13_block cX13_block 3 .int 4 tbM (fun G => [.ref (G.2.1 0), .int v1, .int v2]) (fun S => fX13_block S v1 v2) := by
  refine sh_mki (by decide) (fun G => Nat.le_of_ble_eq_true rfl) ?_
  intro p e s m args below meth c G A S res ls hf C hr hw hl
  have C : sh_Cx p s m args meth c cX13_block 3 RX13 G A := C
  have hl : lv_has ls 3 [(0, .ref (G.2.1 0)), (1, .int v1), (2, .int v2)] := hl
  replace hf : fX13_block S v1 v2 = some res := hf
  rw [fX13_block] at hf
  refine lv_aload_n C.1 C.2.1 dX13_block_0 rfl (lv_at hl 0 rfl) ?_
  refine lv_iload_n C.1 C.2.1 dX13_block_1 rfl (lv_at hl 1 rfl) ?_
  refine sh_Si (As := [.int v1]) (rest := [.ref (G.2.1 0)]) C hw (kX13_isBlock l v1) yy_X13_isBlock ys_X13_isBlock ml_X13_369 rfl hf rfl rfl rfl (Nat.le_of_ble_eq_true rfl) (by decide) hl.1 dX13_block_2 (fun r2 S1 H locs hw hf => ?_)
  refine sh_if_ne (tgt := 12) C hf dX13_block_5 (by decide) (fun hf => ?_) (fun hf => ?_)
  · refine lv_iload_n C.1 C.2.1 dX13_block_12 rfl (lv_at hl 2 rfl) ?_
    refine lv_iconst (v := 0) C.1 C.2.1 dX13_block_13 (by decide) ?_
    refine lv_iconst (v := 2) C.1 C.2.1 dX13_block_14 (by decide) ?_
    refine sh_Si (As := [.int v2, .int 0, .int 2]) (rest := [.ref (G.2.1 0)]) C hw (kX13_isIn l v2 0 2) yy_X13_isIn ys_X13_isIn ml_X13_263 rfl hf rfl rfl rfl (Nat.le_of_ble_eq_true rfl) (by decide) hl.1 dX13_block_15 (fun r4 S3 H locs hw hf => ?_)
    refine sh_if_ne (tgt := 25) C hf dX13_block_18 (by decide) (fun hf => ?_) (fun hf => ?_)
    · refine lv_iconst (v := 0) C.1 C.2.1 dX13_block_25 (by decide) ?_
      exact wX13_block_26 C hr S3 v1 v2 0 hf _ _ _ hw (lv_sub hl [0, 1, 2] rfl)
    · refine lv_iconst (v := 2) C.1 C.2.1 dX13_block_21 (by decide) ?_
      refine lv_goto (tgt := 26) C.1 C.2.1 dX13_block_22 (by decide) ?_
      exact wX13_block_26 C hr S3 v1 v2 2 hf _ _ _ hw (lv_sub hl [0, 1, 2] rfl)
  · refine lv_iconst (v := 1) C.1 C.2.1 dX13_block_8 (by decide) ?_
    refine lv_goto (tgt := 26) C.1 C.2.1 dX13_block_9 (by decide) ?_
    exact wX13_block_26 C hr S1 v1 v2 1 hf _ _ _ hw (lv_sub hl [0, 1, 2] rfl)
def fX13_entry_27 (S : sh_St) (v1 : Int32) (v2 : Int32) (v3 : Int32) (t0 : Int32) : Option (Int32 × sh_St) :=
    sh_t (sh_I S 0 0 t0) fun S5 =>
    if (S5.1 0 0) ≤ 0 then (sh_c (fX13_hasEntry S5 v1 v2) fun r7 S6 =>
    if r7 = 0 then (some ((-1), S6))
    else (sh_c (fX13_slotAt S6 v1 v2) fun r9 S8 =>
    sh_g r9 240 (sh_t (S8.2 2 r9.toNatClampNeg) fun y10 =>
    if v3 = 0 then (sh_c (fX13_slotAt S8 v1 v2) fun r12 S11 =>
    sh_g (840 + r12) 1084 (some (S11.1 1 (840 + r12).toNatClampNeg, S11)))
    else (if v3 = 1 then (sh_c (fX13_hashOf S8 y10) fun r14 S13 =>
    some (r14, S13))
    else (sh_c (fX13_longOf S8 y10) fun r16 S15 =>
    some (r16, S15))))))
    else (some (0, S5))
set_option maxRecDepth 100000 in
set_option maxHeartbeats 4000000 in
theorem wX13_entry_27 {p : Program} {l : Launch} {e : Env} {s : State} {m : MethodId} {args : Array Value} {below : List Frame} {meth : Method} {c : Code} {G : sh_Ev} {A : Nat → Prop} {res : Int32 × sh_St} (C : sh_Cx p s m args meth c cX13_entry 6 RX13 G A) (hr : meth.sig.returnType = some .int) : ∀ (S : sh_St) (v1 : Int32) (v2 : Int32) (v3 : Int32) (t0 : Int32), fX13_entry_27 S v1 v2 v3 t0 = some res → ∀ (H : Heap) (locs : List Loc) (ls : Array Slot), sh_Wx G tbM A s H locs S → lv_has ls 6 [(0, .ref (G.2.1 0)), (1, .int v1), (2, .int v2), (3, .int v3)] → W p l e (sh_rm 5) s m args below meth c H locs 0 0 (sh_Qi below args s G tbM A res) (F0 m 27 ls [.int t0, .ref (G.2.1 0)]) := by
  intro S v1 v2 v3 t0 hf H locs ls hw hl
  rw [fX13_entry_27] at hf
  refine sh_puti C hw fl_X13_79 fp_11_0 hf tbM_0 rfl dX13_entry_27 (fun S5 H locs hw hf => ?_)
  refine lv_aload_n C.1 C.2.1 dX13_entry_30 rfl (lv_at hl 0 rfl) ?_
  refine sh_geti C hw fl_X13_79 tbM_0 rfl dX13_entry_31 ?_
  refine sh_if_le (tgt := 39) C hf dX13_entry_34 (by decide) (fun hf => ?_) (fun hf => ?_)
  · refine lv_aload_n C.1 C.2.1 dX13_entry_39 rfl (lv_at hl 0 rfl) ?_
    refine lv_iload_n C.1 C.2.1 dX13_entry_40 rfl (lv_at hl 1 rfl) ?_
    refine lv_iload_n C.1 C.2.1 dX13_entry_41 rfl (lv_at hl 2 rfl) ?_
    refine sh_Vi (As := [.int v1, .int v2]) (rest := []) C hw (kX13_hasEntry l v1 v2) yy_X13_hasEntry yv_X13_hasEntry ml_X13_393 hf tbM_0 rfl rfl rfl rfl (Nat.le_of_ble_eq_true rfl) (by decide) hl.1 dX13_entry_42 (fun r7 S6 H locs hw hf => ?_)
    refine sh_if_ne (tgt := 50) C hf dX13_entry_45 (by decide) (fun hf => ?_) (fun hf => ?_)
    · refine lv_aload_n C.1 C.2.1 dX13_entry_50 rfl (lv_at hl 0 rfl) ?_
      refine sh_getr C hw fl_X13_13 tbM_0 rfl dX13_entry_51 ?_
      refine lv_iload_n C.1 C.2.1 dX13_entry_54 rfl (lv_at hl 1 rfl) ?_
      refine lv_iload_n C.1 C.2.1 dX13_entry_55 rfl (lv_at hl 2 rfl) ?_
      refine sh_Si (As := [.int v1, .int v2]) (rest := [.ref (G.2.1 2)]) C hw (kX13_slotAt l v1 v2) yy_X13_slotAt ys_X13_slotAt ml_X13_82 rfl hf rfl rfl rfl (Nat.le_of_ble_eq_true rfl) (by decide) hl.1 dX13_entry_56 (fun r9 S8 H locs hw hf => ?_)
      refine sh_lald C hw hf tbM_2 dX13_entry_59 (fun hf => ?_)
      refine sh_nl hf (fun y10 hf => ?_)
      refine lv_lstore (lv' := [(4, .long y10), (0, .ref (G.2.1 0)), (1, .int v1), (2, .int v2), (3, .int v3)]) C.1 C.2.1 dX13_entry_60 hl (by decide) rfl (fun ls hl => ?_)
      refine lv_iload_n C.1 C.2.1 dX13_entry_62 rfl (lv_at hl 4 rfl) ?_
      by_cases h63_0 : v3 = 0
      · replace hf := (sh_if hf).1 h63_0
        refine sh_lkIn (off := 25) (tgt := 88) C h63_0 dX13_entry_63 (by decide) (by decide) (by decide) ?_
        refine lv_aload_n C.1 C.2.1 dX13_entry_88 rfl (lv_at hl 1 rfl) ?_
        refine sh_getr C hw fl_X13_7 tbM_0 rfl dX13_entry_89 ?_
        refine lv_sipush (v := 840) C.1 C.2.1 dX13_entry_92 (by decide) ?_
        refine lv_iload_n C.1 C.2.1 dX13_entry_95 rfl (lv_at hl 2 rfl) ?_
        refine lv_iload_n C.1 C.2.1 dX13_entry_96 rfl (lv_at hl 3 rfl) ?_
        refine sh_Si (As := [.int v1, .int v2]) (rest := [.int 840, .ref (G.2.1 1)]) C hw (kX13_slotAt l v1 v2) yy_X13_slotAt ys_X13_slotAt ml_X13_82 rfl hf rfl rfl rfl (Nat.le_of_ble_eq_true rfl) (by decide) hl.1 dX13_entry_97 (fun r12 S11 H locs hw hf => ?_)
        refine lv_iadd C.1 C.2.1 dX13_entry_100 ?_
        refine sh_iald C hw hf tbM_1 dX13_entry_101 (fun hf => ?_)
        exact sh_ri C hw hr hf dX13_entry_102
      · replace hf := (sh_if hf).2 h63_0
        by_cases h63_1 : v3 = 1
        · replace hf := (sh_if hf).1 h63_1
          refine sh_lkIn (off := 40) (tgt := 103) C h63_1 dX13_entry_63 (by decide) (by decide) (by decide) ?_
          refine lv_aload_n C.1 C.2.1 dX13_entry_103 rfl (lv_at hl 1 rfl) ?_
          refine lv_lload C.1 C.2.1 dX13_entry_104 (lv_at hl 0 rfl) ?_
          refine sh_Vi (As := [.long y10]) (rest := []) C hw (kX13_hashOf l y10) yy_X13_hashOf yv_X13_hashOf ml_X13_164 hf tbM_0 rfl rfl rfl rfl (Nat.le_of_ble_eq_true rfl) (by decide) hl.1 dX13_entry_106 (fun r14 S13 H locs hw hf => ?_)
          exact sh_ri C hw hr hf dX13_entry_109
        · replace hf := (sh_if hf).2 h63_1
          refine sh_lkOut (tgt := 110) C dX13_entry_63 (by decide) (sh_off2 (sh_neI h63_0 (by decide)) (sh_neI h63_1 (by decide))) (by decide) ?_
          refine lv_lload C.1 C.2.1 dX13_entry_110 (lv_at hl 0 rfl) ?_
          refine sh_Si (As := [.long y10]) (rest := []) C hw (kX13_longOf l y10) yy_X13_longOf ys_X13_longOf ml_X13_105 rfl hf rfl rfl rfl (Nat.le_of_ble_eq_true rfl) (by decide) hl.1 dX13_entry_112 (fun r16 S15 H locs hw hf => ?_)
          exact sh_ri C hw hr hf dX13_entry_115
    · refine lv_iconst (v := -1) C.1 C.2.1 dX13_entry_48 (by decide) ?_
      exact sh_ri C hw hr hf dX13_entry_49
  · refine lv_iconst (v := 0) C.1 C.2.1 dX13_entry_37 (by decide) ?_
    exact sh_ri C hw hr hf dX13_entry_38
def fX13_entry (S : sh_St) (v1 : Int32) (v2 : Int32) (v3 : Int32) : Option (Int32 × sh_St) :=
    sh_c (fX13_isPlace S v1 v2) fun r2 S1 =>
    if r2 = 0 then (fX13_entry_27 S1 v1 v2 v3 1)
    else (sh_c (fX13_isIn S1 v3 0 2) fun r4 S3 =>
    if r4 = 0 then (fX13_entry_27 S3 v1 v2 v3 2)
    else (fX13_entry_27 S3 v1 v2 v3 0))
set_option maxRecDepth 100000 in
set_option maxHeartbeats 4000000 in
theorem kX13_entry (l : Launch) (v1 : Int32) (v2 : Int32) (v3 : Int32) : sh_Mi l yX13_entry cX13_entry 6 .int 5 tbM (fun G => [.ref (G.2.1 0), .int v1, .int v2, .int v3]) (fun S => fX13_entry S v1 v2 v3) := by
  refine sh_mki (by decide) (fun G => Nat.le_of_ble_eq_true rfl) ?_
  intro p e s m args below meth c G A S res ls hf C hr hw hl
  have C : sh_Cx p s m args meth c cX13_entry 6 RX13 G A := C
  have hl : lv_has ls 6 [(0, .ref (G.2.1 0)), (1, .int v1), (2, .int v2), (3, .int v3)] := hl
  replace hf : fX13_entry S v1 v2 v3 = some res := hf
  rw [fX13_entry] at hf
  refine lv_aload_n C.1 C.2.1 dX13_entry_0 rfl (lv_at hl 0 rfl) ?_
  refine lv_iload_n C.1 C.2.1 dX13_entry_1 rfl (lv_at hl 1 rfl) ?_
  refine lv_iload_n C.1 C.2.1 dX13_entry_2 rfl (lv_at hl 2 rfl) ?_
  refine sh_Si (As := [.int v1, .int v2]) (rest := [.ref (G.2.1 0)]) C hw (kX13_isPlace l v1 v2) yy_X13_isPlace ys_X13_isPlace ml_X13_390 rfl hf rfl rfl rfl (Nat.le_of_ble_eq_true rfl) (by decide) hl.1 dX13_entry_3 (fun r2 S1 H locs hw hf => ?_)
  refine sh_if_ne (tgt := 13) C hf dX13_entry_6 (by decide) (fun hf => ?_) (fun hf => ?_)
  · refine lv_iload_n C.1 C.2.1 dX13_entry_13 rfl (lv_at hl 3 rfl) ?_
    refine lv_iconst (v := 0) C.1 C.2.1 dX13_entry_14 (by decide) ?_
    refine lv_iconst (v := 2) C.1 C.2.1 dX13_entry_15 (by decide) ?_
    refine sh_Si (As := [.int v3, .int 0, .int 2]) (rest := [.ref (G.2.1 0)]) C hw (kX13_isIn l v3 0 2) yy_X13_isIn ys_X13_isIn ml_X13_263 rfl hf rfl rfl rfl (Nat.le_of_ble_eq_true rfl) (by decide) hl.1 dX13_entry_16 (fun r4 S3 H locs hw hf => ?_)
    refine sh_if_ne (tgt := 26) C hf dX13_entry_19 (by decide) (fun hf => ?_) (fun hf => ?_)
    · refine lv_iconst (v := 0) C.1 C.2.1 dX13_entry_26 (by decide) ?_
      exact wX13_entry_27 C hr S3 v1 v2 v3 0 hf _ _ _ hw (lv_sub hl [0, 1, 2, 3] rfl)
    · refine lv_iconst (v := 2) C.1 C.2.1 dX13_entry_22 (by decide) ?_
      refine lv_goto (tgt := 27) C.1 C.2.1 dX13_entry_23 (by decide) ?_
      exact wX13_entry_27 C hr S3 v1 v2 v3 2 hf _ _ _ hw (lv_sub hl [0, 1, 2, 3] rfl)
  · refine lv_iconst (v := 1) C.1 C.2.1 dX13_entry_9 (by decide) ?_
    refine lv_goto (tgt := 27) C.1 C.2.1 dX13_entry_10 (by decide) ?_
    exact wX13_entry_27 C hr S1 v1 v2 v3 1 hf _ _ _ hw (lv_sub hl [0, 1, 2, 3] rfl)
def fX13_shape_16 (S : sh_St) (v1 : Int32) (t0 : Int32) : Option (Int32 × sh_St) :=
    sh_t (sh_I S 0 0 t0) fun S3 =>
    if (S3.1 0 0) ≤ 0 then (if v1 = 0 then (sh_g 1082 1084 (sh_c (fX13_crowdBy S3 (S3.1 1 (1082 : Int32).toNatClampNeg)) fun r5 S4 =>
    some (r5, S4)))
    else (if v1 = 1 then (sh_c (fX13_chain S3 ) fun r7 S6 =>
    some (r7, S6))
    else (if v1 = 2 then (sh_c (fX13_allEntries S3 ) fun r9 S8 =>
    sh_c (fX13_leavesFor S8 r9) fun r11 S10 =>
    some (r11, S10))
    else (if v1 = 3 then (sh_c (fX13_leafBy S3 0) fun r13 S12 =>
    sh_g r13 40 (sh_c (fX13_entries S12 (S12.1 15 r13.toNatClampNeg)) fun r15 S14 =>
    some (r15, S14)))
    else (if v1 = 4 then (sh_c (fX13_leafBy S3 1) fun r17 S16 =>
    sh_g r17 40 (sh_c (fX13_entries S16 (S16.1 15 r17.toNatClampNeg)) fun r19 S18 =>
    some (r19, S18)))
    else (if v1 = 5 then (sh_c (fX13_leafBy S3 1) fun r21 S20 =>
    some (r21, S20))
    else (if v1 = 6 then (sh_c (fX13_strays S3 ) fun r23 S22 =>
    some (r23, S22))
    else (if v1 = 7 then (sh_c (fX13_fullest S3 ) fun r25 S24 =>
    some (r25, S24))
    else (sh_c (fX13_empty S3 ) fun r27 S26 =>
    some (r27, S26))))))))))
    else (some (0, S3))
set_option maxRecDepth 100000 in
set_option maxHeartbeats 4000000 in
theorem wX13_shape_16 {p : Program} {l : Launch} {e : Env} {s : State} {m : MethodId} {args : Array Value} {below : List Frame} {meth : Method} {c : Code} {G : sh_Ev} {A : Nat → Prop} {res : Int32 × sh_St} (C : sh_Cx p s m args meth c cX13_shape 2 RX13 G A) (hr : meth.sig.returnType = some .int) : ∀ (S : sh_St) (v1 : Int32) (t0 : Int32), fX13_shape_16 S v1 t0 = some res → ∀ (H : Heap) (locs : List Loc) (ls : Array Slot), sh_Wx G tbM A s H locs S → lv_has ls 2 [(0, .ref (G.2.1 0)), (1, .int v1)] → W p l e (sh_rm 7) s m args below meth c H locs 0 0 (sh_Qi below args s G tbM A res) (F0 m 16 ls [.int t0, .ref (G.2.1 0)]) := by
  intro S v1 t0 hf H locs ls hw hl
  rw [fX13_shape_16] at hf
  refine sh_puti C hw fl_X13_79 fp_11_0 hf tbM_0 rfl dX13_shape_16 (fun S3 H locs hw hf => ?_)
  refine lv_aload_n C.1 C.2.1 dX13_shape_19 rfl (lv_at hl 0 rfl) ?_
  refine sh_geti C hw fl_X13_79 tbM_0 rfl dX13_shape_20 ?_
  refine sh_if_le (tgt := 28) C hf dX13_shape_23 (by decide) (fun hf => ?_) (fun hf => ?_)
  · refine lv_iload_n C.1 C.2.1 dX13_shape_28 rfl (lv_at hl 1 rfl) ?_
    by_cases h29_0 : v1 = 0
    · replace hf := (sh_if hf).1 h29_0
      refine sh_swIn (off := 47) (tgt := 76) C h29_0 dX13_shape_29 (by decide) (by decide) (by decide) (by decide) ?_
      refine lv_aload_n C.1 C.2.1 dX13_shape_76 rfl (lv_at hl 0 rfl) ?_
      refine lv_aload_n C.1 C.2.1 dX13_shape_77 rfl (lv_at hl 0 rfl) ?_
      refine sh_getr C hw fl_X13_7 tbM_0 rfl dX13_shape_78 ?_
      refine lv_sipush (v := 1082) C.1 C.2.1 dX13_shape_81 (by decide) ?_
      refine sh_iald C hw hf tbM_1 dX13_shape_84 (fun hf => ?_)
      refine sh_Vi (As := [.int (S3.1 1 (1082 : Int32).toNatClampNeg)]) (rest := []) C hw (kX13_crowdBy l (S3.1 1 (1082 : Int32).toNatClampNeg)) yy_X13_crowdBy yv_X13_crowdBy ml_X13_399 hf tbM_0 rfl rfl rfl rfl (Nat.le_of_ble_eq_true rfl) (by decide) hl.1 dX13_shape_85 (fun r5 S4 H locs hw hf => ?_)
      exact sh_ri C hw hr hf dX13_shape_88
    · replace hf := (sh_if hf).2 h29_0
      by_cases h29_1 : v1 = 1
      · replace hf := (sh_if hf).1 h29_1
        refine sh_swIn (off := 60) (tgt := 89) C h29_1 dX13_shape_29 (by decide) (by decide) (by decide) (by decide) ?_
        refine lv_aload_n C.1 C.2.1 dX13_shape_89 rfl (lv_at hl 0 rfl) ?_
        refine sh_Vi (As := []) (rest := []) C hw (kX13_chain l ) yy_X13_chain yv_X13_chain ml_X13_402 hf tbM_0 rfl rfl rfl rfl (Nat.le_of_ble_eq_true rfl) (by decide) hl.1 dX13_shape_90 (fun r7 S6 H locs hw hf => ?_)
        exact sh_ri C hw hr hf dX13_shape_93
      · replace hf := (sh_if hf).2 h29_1
        by_cases h29_2 : v1 = 2
        · replace hf := (sh_if hf).1 h29_2
          refine sh_swIn (off := 65) (tgt := 94) C h29_2 dX13_shape_29 (by decide) (by decide) (by decide) (by decide) ?_
          refine lv_aload_n C.1 C.2.1 dX13_shape_94 rfl (lv_at hl 0 rfl) ?_
          refine sh_Vi (As := []) (rest := []) C hw (kX13_allEntries l ) yy_X13_allEntries yv_X13_allEntries ml_X13_405 hf tbM_0 rfl rfl rfl rfl (Nat.le_of_ble_eq_true rfl) (by decide) hl.1 dX13_shape_95 (fun r9 S8 H locs hw hf => ?_)
          refine sh_Si (As := [.int r9]) (rest := []) C hw (kX13_leavesFor l r9) yy_X13_leavesFor ys_X13_leavesFor ml_X13_236 rfl hf rfl rfl rfl (Nat.le_of_ble_eq_true rfl) (by decide) hl.1 dX13_shape_98 (fun r11 S10 H locs hw hf => ?_)
          exact sh_ri C hw hr hf dX13_shape_101
        · replace hf := (sh_if hf).2 h29_2
          by_cases h29_3 : v1 = 3
          · replace hf := (sh_if hf).1 h29_3
            refine sh_swIn (off := 73) (tgt := 102) C h29_3 dX13_shape_29 (by decide) (by decide) (by decide) (by decide) ?_
            refine lv_aload_n C.1 C.2.1 dX13_shape_102 rfl (lv_at hl 0 rfl) ?_
            refine lv_aload_n C.1 C.2.1 dX13_shape_103 rfl (lv_at hl 0 rfl) ?_
            refine sh_getr C hw fl_X13_58 tbM_0 rfl dX13_shape_104 ?_
            refine lv_aload_n C.1 C.2.1 dX13_shape_107 rfl (lv_at hl 0 rfl) ?_
            refine lv_iconst (v := 0) C.1 C.2.1 dX13_shape_108 (by decide) ?_
            refine sh_Vi (As := [.int 0]) (rest := [.ref (G.2.1 15), .ref (G.2.1 0)]) C hw (kX13_leafBy l 0) yy_X13_leafBy yv_X13_leafBy ml_X13_408 hf tbM_0 rfl rfl rfl rfl (Nat.le_of_ble_eq_true rfl) (by decide) hl.1 dX13_shape_109 (fun r13 S12 H locs hw hf => ?_)
            refine sh_iald C hw hf tbM_15 dX13_shape_112 (fun hf => ?_)
            refine sh_Vi (As := [.int (S12.1 15 r13.toNatClampNeg)]) (rest := []) C hw (kX13_entries l (S12.1 15 r13.toNatClampNeg)) yy_X13_entries yv_X13_entries ml_X13_372 hf tbM_0 rfl rfl rfl rfl (Nat.le_of_ble_eq_true rfl) (by decide) hl.1 dX13_shape_113 (fun r15 S14 H locs hw hf => ?_)
            exact sh_ri C hw hr hf dX13_shape_116
          · replace hf := (sh_if hf).2 h29_3
            by_cases h29_4 : v1 = 4
            · replace hf := (sh_if hf).1 h29_4
              refine sh_swIn (off := 88) (tgt := 117) C h29_4 dX13_shape_29 (by decide) (by decide) (by decide) (by decide) ?_
              refine lv_aload_n C.1 C.2.1 dX13_shape_117 rfl (lv_at hl 0 rfl) ?_
              refine lv_aload_n C.1 C.2.1 dX13_shape_118 rfl (lv_at hl 0 rfl) ?_
              refine sh_getr C hw fl_X13_58 tbM_0 rfl dX13_shape_119 ?_
              refine lv_aload_n C.1 C.2.1 dX13_shape_122 rfl (lv_at hl 0 rfl) ?_
              refine lv_iconst (v := 1) C.1 C.2.1 dX13_shape_123 (by decide) ?_
              refine sh_Vi (As := [.int 1]) (rest := [.ref (G.2.1 15), .ref (G.2.1 0)]) C hw (kX13_leafBy l 1) yy_X13_leafBy yv_X13_leafBy ml_X13_408 hf tbM_0 rfl rfl rfl rfl (Nat.le_of_ble_eq_true rfl) (by decide) hl.1 dX13_shape_124 (fun r17 S16 H locs hw hf => ?_)
              refine sh_iald C hw hf tbM_15 dX13_shape_127 (fun hf => ?_)
              refine sh_Vi (As := [.int (S16.1 15 r17.toNatClampNeg)]) (rest := []) C hw (kX13_entries l (S16.1 15 r17.toNatClampNeg)) yy_X13_entries yv_X13_entries ml_X13_372 hf tbM_0 rfl rfl rfl rfl (Nat.le_of_ble_eq_true rfl) (by decide) hl.1 dX13_shape_128 (fun r19 S18 H locs hw hf => ?_)
              exact sh_ri C hw hr hf dX13_shape_131
            · replace hf := (sh_if hf).2 h29_4
              by_cases h29_5 : v1 = 5
              · replace hf := (sh_if hf).1 h29_5
                refine sh_swIn (off := 103) (tgt := 132) C h29_5 dX13_shape_29 (by decide) (by decide) (by decide) (by decide) ?_
                refine lv_aload_n C.1 C.2.1 dX13_shape_132 rfl (lv_at hl 0 rfl) ?_
                refine lv_iconst (v := 1) C.1 C.2.1 dX13_shape_133 (by decide) ?_
                refine sh_Vi (As := [.int 1]) (rest := []) C hw (kX13_leafBy l 1) yy_X13_leafBy yv_X13_leafBy ml_X13_408 hf tbM_0 rfl rfl rfl rfl (Nat.le_of_ble_eq_true rfl) (by decide) hl.1 dX13_shape_134 (fun r21 S20 H locs hw hf => ?_)
                exact sh_ri C hw hr hf dX13_shape_137
              · replace hf := (sh_if hf).2 h29_5
                by_cases h29_6 : v1 = 6
                · replace hf := (sh_if hf).1 h29_6
                  refine sh_swIn (off := 109) (tgt := 138) C h29_6 dX13_shape_29 (by decide) (by decide) (by decide) (by decide) ?_
                  refine lv_aload_n C.1 C.2.1 dX13_shape_138 rfl (lv_at hl 0 rfl) ?_
                  refine sh_Vi (As := []) (rest := []) C hw (kX13_strays l ) yy_X13_strays yv_X13_strays ml_X13_412 hf tbM_0 rfl rfl rfl rfl (Nat.le_of_ble_eq_true rfl) (by decide) hl.1 dX13_shape_139 (fun r23 S22 H locs hw hf => ?_)
                  exact sh_ri C hw hr hf dX13_shape_142
                · replace hf := (sh_if hf).2 h29_6
                  by_cases h29_7 : v1 = 7
                  · replace hf := (sh_if hf).1 h29_7
                    refine sh_swIn (off := 114) (tgt := 143) C h29_7 dX13_shape_29 (by decide) (by decide) (by decide) (by decide) ?_
                    refine lv_aload_n C.1 C.2.1 dX13_shape_143 rfl (lv_at hl 0 rfl) ?_
                    refine sh_Vi (As := []) (rest := []) C hw (kX13_fullest l ) yy_X13_fullest yv_X13_fullest ml_X13_415 hf tbM_0 rfl rfl rfl rfl (Nat.le_of_ble_eq_true rfl) (by decide) hl.1 dX13_shape_144 (fun r25 S24 H locs hw hf => ?_)
                    exact sh_ri C hw hr hf dX13_shape_147
                  · replace hf := (sh_if hf).2 h29_7
                    refine sh_swOut (tgt := 148) C (by have a0 := sh_neI (z := 0) h29_0 (by decide); have a1 := sh_neI (z := 1) h29_1 (by decide); have a2 := sh_neI (z := 2) h29_2 (by decide); have a3 := sh_neI (z := 3) h29_3 (by decide); have a4 := sh_neI (z := 4) h29_4 (by decide); have a5 := sh_neI (z := 5) h29_5 (by decide); have a6 := sh_neI (z := 6) h29_6 (by decide); have a7 := sh_neI (z := 7) h29_7 (by decide); omega) dX13_shape_29 (by decide) ?_
                    refine lv_aload_n C.1 C.2.1 dX13_shape_148 rfl (lv_at hl 0 rfl) ?_
                    refine sh_Vi (As := []) (rest := []) C hw (kX13_empty l ) yy_X13_empty yv_X13_empty ml_X13_418 hf tbM_0 rfl rfl rfl rfl (Nat.le_of_ble_eq_true rfl) (by decide) hl.1 dX13_shape_149 (fun r27 S26 H locs hw hf => ?_)
                    exact sh_ri C hw hr hf dX13_shape_152
  · refine lv_iconst (v := 0) C.1 C.2.1 dX13_shape_26 (by decide) ?_
    exact sh_ri C hw hr hf dX13_shape_27
def fX13_shape (S : sh_St) (v1 : Int32) : Option (Int32 × sh_St) :=
    sh_c (fX13_isIn S v1 0 8) fun r2 S1 =>
    if r2 = 0 then (fX13_shape_16 S1 v1 1)
    else (fX13_shape_16 S1 v1 0)
set_option maxRecDepth 100000 in
set_option maxHeartbeats 4000000 in
theorem kX13_shape (l : Launch) (v1 : Int32) : sh_Mi l yX13_shape cX13_shape 2 .int 7 tbM (fun G => [.ref (G.2.1 0), .int v1]) (fun S => fX13_shape S v1) := by
  refine sh_mki (by decide) (fun G => Nat.le_of_ble_eq_true rfl) ?_
  intro p e s m args below meth c G A S res ls hf C hr hw hl
  have C : sh_Cx p s m args meth c cX13_shape 2 RX13 G A := C
  have hl : lv_has ls 2 [(0, .ref (G.2.1 0)), (1, .int v1)] := hl
  replace hf : fX13_shape S v1 = some res := hf
  rw [fX13_shape] at hf
  refine lv_aload_n C.1 C.2.1 dX13_shape_0 rfl (lv_at hl 0 rfl) ?_
  refine lv_iload_n C.1 C.2.1 dX13_shape_1 rfl (lv_at hl 1 rfl) ?_
  refine lv_iconst (v := 0) C.1 C.2.1 dX13_shape_2 (by decide) ?_
  refine lv_bipush (v := 8) C.1 C.2.1 dX13_shape_3 (by decide) ?_
  refine sh_Si (As := [.int v1, .int 0, .int 8]) (rest := [.ref (G.2.1 0)]) C hw (kX13_isIn l v1 0 8) yy_X13_isIn ys_X13_isIn ml_X13_263 rfl hf rfl rfl rfl (Nat.le_of_ble_eq_true rfl) (by decide) hl.1 dX13_shape_5 (fun r2 S1 H locs hw hf => ?_)
  refine sh_if_eq (tgt := 15) C hf dX13_shape_8 (by decide) (fun hf => ?_) (fun hf => ?_)
  · refine lv_iconst (v := 1) C.1 C.2.1 dX13_shape_15 (by decide) ?_
    exact wX13_shape_16 C hr S1 v1 1 hf _ _ _ hw (lv_sub hl [0, 1] rfl)
  · refine lv_iconst (v := 0) C.1 C.2.1 dX13_shape_11 (by decide) ?_
    refine lv_goto (tgt := 16) C.1 C.2.1 dX13_shape_12 (by decide) ?_
    exact wX13_shape_16 C hr S1 v1 0 hf _ _ _ hw (lv_sub hl [0, 1] rfl)
def fX13_reader_26 (S : sh_St) (v1 : Int32) (v2 : Int32) (t0 : Int32) : Option (Int32 × sh_St) :=
    sh_t (sh_I S 0 0 t0) fun S5 =>
    if (S5.1 0 0) ≤ 0 then (if v2 = 0 then (sh_g v1 4 (if (S5.1 9 v1.toNatClampNeg) = 0 then (some (0, S5))
    else (some (1, S5))))
    else (if v2 = 1 then (sh_g v1 4 (some (S5.1 10 v1.toNatClampNeg, S5)))
    else (if v2 = 2 then (sh_g v1 4 (some (S5.1 11 v1.toNatClampNeg, S5)))
    else (sh_g v1 4 (some (S5.1 12 v1.toNatClampNeg, S5))))))
    else (some (0, S5))
set_option maxRecDepth 100000 in
set_option maxHeartbeats 4000000 in
theorem wX13_reader_26 {p : Program} {l : Launch} {e : Env} {s : State} {m : MethodId} {args : Array Value} {below : List Frame} {meth : Method} {c : Code} {G : sh_Ev} {A : Nat → Prop} {res : Int32 × sh_St} (C : sh_Cx p s m args meth c cX13_reader 3 RX13 G A) (hr : meth.sig.returnType = some .int) : ∀ (S : sh_St) (v1 : Int32) (v2 : Int32) (t0 : Int32), fX13_reader_26 S v1 v2 t0 = some res → ∀ (H : Heap) (locs : List Loc) (ls : Array Slot), sh_Wx G tbM A s H locs S → lv_has ls 3 [(0, .ref (G.2.1 0)), (1, .int v1), (2, .int v2)] → W p l e (sh_rm 3) s m args below meth c H locs 0 0 (sh_Qi below args s G tbM A res) (F0 m 26 ls [.int t0, .ref (G.2.1 0)]) := by
  intro S v1 v2 t0 hf H locs ls hw hl
  rw [fX13_reader_26] at hf
  refine sh_puti C hw fl_X13_79 fp_11_0 hf tbM_0 rfl dX13_reader_26 (fun S5 H locs hw hf => ?_)
  refine lv_aload_n C.1 C.2.1 dX13_reader_29 rfl (lv_at hl 0 rfl) ?_
  refine sh_geti C hw fl_X13_79 tbM_0 rfl dX13_reader_30 ?_
  refine sh_if_le (tgt := 38) C hf dX13_reader_33 (by decide) (fun hf => ?_) (fun hf => ?_)
  · refine lv_iload_n C.1 C.2.1 dX13_reader_38 rfl (lv_at hl 2 rfl) ?_
    by_cases h39_0 : v2 = 0
    · replace hf := (sh_if hf).1 h39_0
      refine sh_swIn (off := 25) (tgt := 64) C h39_0 dX13_reader_39 (by decide) (by decide) (by decide) (by decide) ?_
      refine lv_aload_n C.1 C.2.1 dX13_reader_64 rfl (lv_at hl 0 rfl) ?_
      refine sh_getr C hw fl_X13_35 tbM_0 rfl dX13_reader_65 ?_
      refine lv_iload_n C.1 C.2.1 dX13_reader_68 rfl (lv_at hl 1 rfl) ?_
      refine sh_zald C hw hf tbM_9 dX13_reader_69 (fun hf => ?_)
      refine sh_if_eq (tgt := 77) C hf dX13_reader_70 (by decide) (fun hf => ?_) (fun hf => ?_)
      · refine lv_iconst (v := 0) C.1 C.2.1 dX13_reader_77 (by decide) ?_
        exact sh_ri C hw hr hf dX13_reader_78
      · refine lv_iconst (v := 1) C.1 C.2.1 dX13_reader_73 (by decide) ?_
        refine lv_goto (tgt := 78) C.1 C.2.1 dX13_reader_74 (by decide) ?_
        exact sh_ri C hw hr hf dX13_reader_78
    · replace hf := (sh_if hf).2 h39_0
      by_cases h39_1 : v2 = 1
      · replace hf := (sh_if hf).1 h39_1
        refine sh_swIn (off := 40) (tgt := 79) C h39_1 dX13_reader_39 (by decide) (by decide) (by decide) (by decide) ?_
        refine lv_aload_n C.1 C.2.1 dX13_reader_79 rfl (lv_at hl 0 rfl) ?_
        refine sh_getr C hw fl_X13_39 tbM_0 rfl dX13_reader_80 ?_
        refine lv_iload_n C.1 C.2.1 dX13_reader_83 rfl (lv_at hl 1 rfl) ?_
        refine sh_iald C hw hf tbM_10 dX13_reader_84 (fun hf => ?_)
        exact sh_ri C hw hr hf dX13_reader_85
      · replace hf := (sh_if hf).2 h39_1
        by_cases h39_2 : v2 = 2
        · replace hf := (sh_if hf).1 h39_2
          refine sh_swIn (off := 47) (tgt := 86) C h39_2 dX13_reader_39 (by decide) (by decide) (by decide) (by decide) ?_
          refine lv_aload_n C.1 C.2.1 dX13_reader_86 rfl (lv_at hl 0 rfl) ?_
          refine sh_getr C hw fl_X13_42 tbM_0 rfl dX13_reader_87 ?_
          refine lv_iload_n C.1 C.2.1 dX13_reader_90 rfl (lv_at hl 1 rfl) ?_
          refine sh_iald C hw hf tbM_11 dX13_reader_91 (fun hf => ?_)
          exact sh_ri C hw hr hf dX13_reader_92
        · replace hf := (sh_if hf).2 h39_2
          refine sh_swOut (tgt := 93) C (by have a0 := sh_neI (z := 0) h39_0 (by decide); have a1 := sh_neI (z := 1) h39_1 (by decide); have a2 := sh_neI (z := 2) h39_2 (by decide); omega) dX13_reader_39 (by decide) ?_
          refine lv_aload_n C.1 C.2.1 dX13_reader_93 rfl (lv_at hl 0 rfl) ?_
          refine sh_getr C hw fl_X13_45 tbM_0 rfl dX13_reader_94 ?_
          refine lv_iload_n C.1 C.2.1 dX13_reader_97 rfl (lv_at hl 1 rfl) ?_
          refine sh_iald C hw hf tbM_12 dX13_reader_98 (fun hf => ?_)
          exact sh_ri C hw hr hf dX13_reader_99
  · refine lv_iconst (v := 0) C.1 C.2.1 dX13_reader_36 (by decide) ?_
    exact sh_ri C hw hr hf dX13_reader_37
def fX13_reader (S : sh_St) (v1 : Int32) (v2 : Int32) : Option (Int32 × sh_St) :=
    sh_c (fX13_isReader S v1) fun r2 S1 =>
    if r2 = 0 then (fX13_reader_26 S1 v1 v2 1)
    else (sh_c (fX13_isIn S1 v2 0 3) fun r4 S3 =>
    if r4 = 0 then (fX13_reader_26 S3 v1 v2 2)
    else (fX13_reader_26 S3 v1 v2 0))
set_option maxRecDepth 100000 in
set_option maxHeartbeats 4000000 in
theorem kX13_reader (l : Launch) (v1 : Int32) (v2 : Int32) : sh_Mi l yX13_reader cX13_reader 3 .int 3 tbM (fun G => [.ref (G.2.1 0), .int v1, .int v2]) (fun S => fX13_reader S v1 v2) := by
  refine sh_mki (by decide) (fun G => Nat.le_of_ble_eq_true rfl) ?_
  intro p e s m args below meth c G A S res ls hf C hr hw hl
  have C : sh_Cx p s m args meth c cX13_reader 3 RX13 G A := C
  have hl : lv_has ls 3 [(0, .ref (G.2.1 0)), (1, .int v1), (2, .int v2)] := hl
  replace hf : fX13_reader S v1 v2 = some res := hf
  rw [fX13_reader] at hf
  refine lv_aload_n C.1 C.2.1 dX13_reader_0 rfl (lv_at hl 0 rfl) ?_
  refine lv_iload_n C.1 C.2.1 dX13_reader_1 rfl (lv_at hl 1 rfl) ?_
  refine sh_Si (As := [.int v1]) (rest := [.ref (G.2.1 0)]) C hw (kX13_isReader l v1) yy_X13_isReader ys_X13_isReader ml_X13_421 rfl hf rfl rfl rfl (Nat.le_of_ble_eq_true rfl) (by decide) hl.1 dX13_reader_2 (fun r2 S1 H locs hw hf => ?_)
  refine sh_if_ne (tgt := 12) C hf dX13_reader_5 (by decide) (fun hf => ?_) (fun hf => ?_)
  · refine lv_iload_n C.1 C.2.1 dX13_reader_12 rfl (lv_at hl 2 rfl) ?_
    refine lv_iconst (v := 0) C.1 C.2.1 dX13_reader_13 (by decide) ?_
    refine lv_iconst (v := 3) C.1 C.2.1 dX13_reader_14 (by decide) ?_
    refine sh_Si (As := [.int v2, .int 0, .int 3]) (rest := [.ref (G.2.1 0)]) C hw (kX13_isIn l v2 0 3) yy_X13_isIn ys_X13_isIn ml_X13_263 rfl hf rfl rfl rfl (Nat.le_of_ble_eq_true rfl) (by decide) hl.1 dX13_reader_15 (fun r4 S3 H locs hw hf => ?_)
    refine sh_if_ne (tgt := 25) C hf dX13_reader_18 (by decide) (fun hf => ?_) (fun hf => ?_)
    · refine lv_iconst (v := 0) C.1 C.2.1 dX13_reader_25 (by decide) ?_
      exact wX13_reader_26 C hr S3 v1 v2 0 hf _ _ _ hw (lv_sub hl [0, 1, 2] rfl)
    · refine lv_iconst (v := 2) C.1 C.2.1 dX13_reader_21 (by decide) ?_
      refine lv_goto (tgt := 26) C.1 C.2.1 dX13_reader_22 (by decide) ?_
      exact wX13_reader_26 C hr S3 v1 v2 2 hf _ _ _ hw (lv_sub hl [0, 1, 2] rfl)
  · refine lv_iconst (v := 1) C.1 C.2.1 dX13_reader_8 (by decide) ?_
    refine lv_goto (tgt := 26) C.1 C.2.1 dX13_reader_9 (by decide) ?_
    exact wX13_reader_26 C hr S1 v1 v2 1 hf _ _ _ hw (lv_sub hl [0, 1, 2] rfl)
def fX13_count (S : sh_St) (v1 : Int32) : Option (Int32 × sh_St) :=
    sh_t (sh_I S 0 0 0) fun S1 =>
    if v1 = 0 then (sh_c (fX13_allEntries S1 ) fun r3 S2 =>
    some (r3, S2))
    else (if v1 = 1 then (sh_c (fX13_countOf S1 0 0) fun r5 S4 =>
    some (40 - r5, S4))
    else (if v1 = 2 then (sh_g 1080 1084 (some (S1.1 1 (1080 : Int32).toNatClampNeg, S1)))
    else (if v1 = 3 then (sh_c (fX13_countOf S1 0 1) fun r7 S6 =>
    some (r7, S6))
    else (if v1 = 4 then (sh_c (fX13_countOf S1 40 1) fun r9 S8 =>
    some (r9, S8))
    else (if v1 = 5 then (sh_g 1081 1084 (some (S1.1 1 (1081 : Int32).toNatClampNeg, S1)))
    else (if v1 = 6 then (sh_g 1082 1084 (some (S1.1 1 (1082 : Int32).toNatClampNeg, S1)))
    else (if v1 = 7 then (sh_g 1083 1084 (some (S1.1 1 (1083 : Int32).toNatClampNeg, S1)))
    else (if v1 = 8 then (some (S1.1 0 5, S1))
    else (some ((-1), S1))))))))))
set_option maxRecDepth 100000 in
set_option maxHeartbeats 4000000 in
theorem kX13_count (l : Launch) (v1 : Int32) : sh_Mi l yX13_count cX13_count 2 .int 2 tbM (fun G => [.ref (G.2.1 0), .int v1]) (fun S => fX13_count S v1) := by
  refine sh_mki (by decide) (fun G => Nat.le_of_ble_eq_true rfl) ?_
  intro p e s m args below meth c G A S res ls hf C hr hw hl
  have C : sh_Cx p s m args meth c cX13_count 2 RX13 G A := C
  have hl : lv_has ls 2 [(0, .ref (G.2.1 0)), (1, .int v1)] := hl
  replace hf : fX13_count S v1 = some res := hf
  rw [fX13_count] at hf
  refine lv_aload_n C.1 C.2.1 dX13_count_0 rfl (lv_at hl 0 rfl) ?_
  refine lv_iconst (v := 0) C.1 C.2.1 dX13_count_1 (by decide) ?_
  refine sh_puti C hw fl_X13_79 fp_11_0 hf tbM_0 rfl dX13_count_2 (fun S1 H locs hw hf => ?_)
  refine lv_iload_n C.1 C.2.1 dX13_count_5 rfl (lv_at hl 1 rfl) ?_
  by_cases h6_0 : v1 = 0
  · replace hf := (sh_if hf).1 h6_0
    refine sh_swIn (off := 50) (tgt := 56) C h6_0 dX13_count_6 (by decide) (by decide) (by decide) (by decide) ?_
    refine lv_aload_n C.1 C.2.1 dX13_count_56 rfl (lv_at hl 0 rfl) ?_
    refine sh_Vi (As := []) (rest := []) C hw (kX13_allEntries l ) yy_X13_allEntries yv_X13_allEntries ml_X13_405 hf tbM_0 rfl rfl rfl rfl (Nat.le_of_ble_eq_true rfl) (by decide) hl.1 dX13_count_57 (fun r3 S2 H locs hw hf => ?_)
    exact sh_ri C hw hr hf dX13_count_60
  · replace hf := (sh_if hf).2 h6_0
    by_cases h6_1 : v1 = 1
    · replace hf := (sh_if hf).1 h6_1
      refine sh_swIn (off := 55) (tgt := 61) C h6_1 dX13_count_6 (by decide) (by decide) (by decide) (by decide) ?_
      refine lv_bipush (v := 40) C.1 C.2.1 dX13_count_61 (by decide) ?_
      refine lv_aload_n C.1 C.2.1 dX13_count_63 rfl (lv_at hl 0 rfl) ?_
      refine lv_iconst (v := 0) C.1 C.2.1 dX13_count_64 (by decide) ?_
      refine lv_iconst (v := 0) C.1 C.2.1 dX13_count_65 (by decide) ?_
      refine sh_Vi (As := [.int 0, .int 0]) (rest := [.int 40]) C hw (kX13_countOf l 0 0) yy_X13_countOf yv_X13_countOf ml_X13_90 hf tbM_0 rfl rfl rfl rfl (Nat.le_of_ble_eq_true rfl) (by decide) hl.1 dX13_count_66 (fun r5 S4 H locs hw hf => ?_)
      refine lv_isub C.1 C.2.1 dX13_count_69 ?_
      exact sh_ri C hw hr hf dX13_count_70
    · replace hf := (sh_if hf).2 h6_1
      by_cases h6_2 : v1 = 2
      · replace hf := (sh_if hf).1 h6_2
        refine sh_swIn (off := 65) (tgt := 71) C h6_2 dX13_count_6 (by decide) (by decide) (by decide) (by decide) ?_
        refine lv_aload_n C.1 C.2.1 dX13_count_71 rfl (lv_at hl 0 rfl) ?_
        refine sh_getr C hw fl_X13_7 tbM_0 rfl dX13_count_72 ?_
        refine lv_sipush (v := 1080) C.1 C.2.1 dX13_count_75 (by decide) ?_
        refine sh_iald C hw hf tbM_1 dX13_count_78 (fun hf => ?_)
        exact sh_ri C hw hr hf dX13_count_79
      · replace hf := (sh_if hf).2 h6_2
        by_cases h6_3 : v1 = 3
        · replace hf := (sh_if hf).1 h6_3
          refine sh_swIn (off := 74) (tgt := 80) C h6_3 dX13_count_6 (by decide) (by decide) (by decide) (by decide) ?_
          refine lv_aload_n C.1 C.2.1 dX13_count_80 rfl (lv_at hl 0 rfl) ?_
          refine lv_iconst (v := 0) C.1 C.2.1 dX13_count_81 (by decide) ?_
          refine lv_iconst (v := 1) C.1 C.2.1 dX13_count_82 (by decide) ?_
          refine sh_Vi (As := [.int 0, .int 1]) (rest := []) C hw (kX13_countOf l 0 1) yy_X13_countOf yv_X13_countOf ml_X13_90 hf tbM_0 rfl rfl rfl rfl (Nat.le_of_ble_eq_true rfl) (by decide) hl.1 dX13_count_83 (fun r7 S6 H locs hw hf => ?_)
          exact sh_ri C hw hr hf dX13_count_86
        · replace hf := (sh_if hf).2 h6_3
          by_cases h6_4 : v1 = 4
          · replace hf := (sh_if hf).1 h6_4
            refine sh_swIn (off := 81) (tgt := 87) C h6_4 dX13_count_6 (by decide) (by decide) (by decide) (by decide) ?_
            refine lv_aload_n C.1 C.2.1 dX13_count_87 rfl (lv_at hl 0 rfl) ?_
            refine lv_bipush (v := 40) C.1 C.2.1 dX13_count_88 (by decide) ?_
            refine lv_iconst (v := 1) C.1 C.2.1 dX13_count_90 (by decide) ?_
            refine sh_Vi (As := [.int 40, .int 1]) (rest := []) C hw (kX13_countOf l 40 1) yy_X13_countOf yv_X13_countOf ml_X13_90 hf tbM_0 rfl rfl rfl rfl (Nat.le_of_ble_eq_true rfl) (by decide) hl.1 dX13_count_91 (fun r9 S8 H locs hw hf => ?_)
            exact sh_ri C hw hr hf dX13_count_94
          · replace hf := (sh_if hf).2 h6_4
            by_cases h6_5 : v1 = 5
            · replace hf := (sh_if hf).1 h6_5
              refine sh_swIn (off := 89) (tgt := 95) C h6_5 dX13_count_6 (by decide) (by decide) (by decide) (by decide) ?_
              refine lv_aload_n C.1 C.2.1 dX13_count_95 rfl (lv_at hl 0 rfl) ?_
              refine sh_getr C hw fl_X13_7 tbM_0 rfl dX13_count_96 ?_
              refine lv_sipush (v := 1081) C.1 C.2.1 dX13_count_99 (by decide) ?_
              refine sh_iald C hw hf tbM_1 dX13_count_102 (fun hf => ?_)
              exact sh_ri C hw hr hf dX13_count_103
            · replace hf := (sh_if hf).2 h6_5
              by_cases h6_6 : v1 = 6
              · replace hf := (sh_if hf).1 h6_6
                refine sh_swIn (off := 98) (tgt := 104) C h6_6 dX13_count_6 (by decide) (by decide) (by decide) (by decide) ?_
                refine lv_aload_n C.1 C.2.1 dX13_count_104 rfl (lv_at hl 0 rfl) ?_
                refine sh_getr C hw fl_X13_7 tbM_0 rfl dX13_count_105 ?_
                refine lv_sipush (v := 1082) C.1 C.2.1 dX13_count_108 (by decide) ?_
                refine sh_iald C hw hf tbM_1 dX13_count_111 (fun hf => ?_)
                exact sh_ri C hw hr hf dX13_count_112
              · replace hf := (sh_if hf).2 h6_6
                by_cases h6_7 : v1 = 7
                · replace hf := (sh_if hf).1 h6_7
                  refine sh_swIn (off := 107) (tgt := 113) C h6_7 dX13_count_6 (by decide) (by decide) (by decide) (by decide) ?_
                  refine lv_aload_n C.1 C.2.1 dX13_count_113 rfl (lv_at hl 0 rfl) ?_
                  refine sh_getr C hw fl_X13_7 tbM_0 rfl dX13_count_114 ?_
                  refine lv_sipush (v := 1083) C.1 C.2.1 dX13_count_117 (by decide) ?_
                  refine sh_iald C hw hf tbM_1 dX13_count_120 (fun hf => ?_)
                  exact sh_ri C hw hr hf dX13_count_121
                · replace hf := (sh_if hf).2 h6_7
                  by_cases h6_8 : v1 = 8
                  · replace hf := (sh_if hf).1 h6_8
                    refine sh_swIn (off := 116) (tgt := 122) C h6_8 dX13_count_6 (by decide) (by decide) (by decide) (by decide) ?_
                    refine lv_aload_n C.1 C.2.1 dX13_count_122 rfl (lv_at hl 0 rfl) ?_
                    refine sh_geti C hw fl_X13_251 tbM_0 rfl dX13_count_123 ?_
                    exact sh_ri C hw hr hf dX13_count_126
                  · replace hf := (sh_if hf).2 h6_8
                    refine sh_swOut (tgt := 127) C (by have a0 := sh_neI (z := 0) h6_0 (by decide); have a1 := sh_neI (z := 1) h6_1 (by decide); have a2 := sh_neI (z := 2) h6_2 (by decide); have a3 := sh_neI (z := 3) h6_3 (by decide); have a4 := sh_neI (z := 4) h6_4 (by decide); have a5 := sh_neI (z := 5) h6_5 (by decide); have a6 := sh_neI (z := 6) h6_6 (by decide); have a7 := sh_neI (z := 7) h6_7 (by decide); have a8 := sh_neI (z := 8) h6_8 (by decide); omega) dX13_count_6 (by decide) ?_
                    refine lv_iconst (v := -1) C.1 C.2.1 dX13_count_127 (by decide) ?_
                    exact sh_ri C hw hr hf dX13_count_128
def fX13_parts_v0_99 : Nat → sh_St → Int32 → Int32 → Int32 → Int32 → Int32 → Option (Unit × sh_St)
  | 0, _, _, _, _, _, _ => none
  | n + 1, S, v2, v3, v4, v5, v6 =>
    if 3 ≤ v6 then (sh_g (80 + v5) 1084 (sh_t (sh_I S 1 (80 + v5).toNatClampNeg 3) fun S12 =>
    sh_c (fX13_laysRow S12 0 0 0 0 v5) fun _ S13 =>
    sh_c (fX13_laysRow S13 0 1 v3 v4 v2) fun _ S15 =>
    sh_g 80 1084 (sh_t (sh_I S15 1 (80 : Int32).toNatClampNeg 2) fun S17 =>
    sh_g 1080 1084 (sh_g 1080 1084 (sh_t (sh_I S17 1 (1080 : Int32).toNatClampNeg ((S17.1 1 (1080 : Int32).toNatClampNeg) + 1)) fun S18 =>
    some ((), S18))))))
    else (sh_c (fX13_copiesRow S 0 v6 v5 v6) fun _ S19 =>
    sh_t (v6 + 1) fun y21 =>
    (fX13_parts_v0_99 n) S19 v2 v3 v4 v5 y21)
set_option maxRecDepth 100000 in
set_option maxHeartbeats 4000000 in
theorem wX13_parts_v0_99 {p : Program} {l : Launch} {e : Env} {s : State} {m : MethodId} {args : Array Value} {below : List Frame} {meth : Method} {c : Code} {G : sh_Ev} {A : Nat → Prop} {res : Unit × sh_St} (C : sh_Cx p s m args meth c cX13_parts 7 RX13 G A) (hr : meth.sig.returnType = none) : ∀ (n : Nat) (S : sh_St) (v2 : Int32) (v3 : Int32) (v4 : Int32) (v5 : Int32) (v6 : Int32), fX13_parts_v0_99 n S v2 v3 v4 v5 v6 = some res → ∀ (H : Heap) (locs : List Loc) (ls : Array Slot), sh_Wx G tbM A s H locs S → lv_has ls 7 [(0, .ref (G.2.1 0)), (2, .int v2), (3, .int v3), (4, .int v4), (5, .int v5), (6, .int v6)] → W p l e (sh_rm 4) s m args below meth c H locs 0 0 (sh_Qv below args s G tbM A res) (F0 m 99 ls []) := by
  intro n
  induction n with
  | zero => intro S v2 v3 v4 v5 v6 hf; exact nomatch (show (none : Option (Unit × sh_St)) = some res from hf)
  | succ n ih =>
    intro S v2 v3 v4 v5 v6 hf H locs ls hw hl
    have hr99 := ih
    rw [fX13_parts_v0_99] at hf
    refine lv_iload C.1 C.2.1 dX13_parts_99 (lv_at hl 5 rfl) ?_
    refine lv_iconst (v := 3) C.1 C.2.1 dX13_parts_101 (by decide) ?_
    refine sh_icmp_ge (tgt := 122) C hf dX13_parts_102 (by decide) (fun hf => ?_) (fun hf => ?_)
    · refine lv_aload_n C.1 C.2.1 dX13_parts_122 rfl (lv_at hl 0 rfl) ?_
      refine sh_getr C hw fl_X13_7 tbM_0 rfl dX13_parts_123 ?_
      refine lv_bipush (v := 80) C.1 C.2.1 dX13_parts_126 (by decide) ?_
      refine lv_iload C.1 C.2.1 dX13_parts_128 (lv_at hl 4 rfl) ?_
      refine lv_iadd C.1 C.2.1 dX13_parts_130 ?_
      refine lv_iconst (v := 3) C.1 C.2.1 dX13_parts_131 (by decide) ?_
      refine sh_iast C hw hf tbM_1 dX13_parts_132 (fun S12 H locs hw hf => ?_)
      refine lv_aload_n C.1 C.2.1 dX13_parts_133 rfl (lv_at hl 0 rfl) ?_
      refine lv_iconst (v := 0) C.1 C.2.1 dX13_parts_134 (by decide) ?_
      refine lv_iconst (v := 0) C.1 C.2.1 dX13_parts_135 (by decide) ?_
      refine lv_iconst (v := 0) C.1 C.2.1 dX13_parts_136 (by decide) ?_
      refine lv_iconst (v := 0) C.1 C.2.1 dX13_parts_137 (by decide) ?_
      refine lv_iload C.1 C.2.1 dX13_parts_138 (lv_at hl 4 rfl) ?_
      refine sh_Vv (As := [.int 0, .int 0, .int 0, .int 0, .int v5]) (rest := []) C hw (kX13_laysRow l 0 0 0 0 v5) yy_X13_laysRow yv_X13_laysRow ml_X13_184 hf tbM_0 rfl rfl rfl rfl (Nat.le_of_ble_eq_true rfl) (by decide) hl.1 dX13_parts_140 (fun S13 H locs hw hf => ?_)
      refine lv_aload_n C.1 C.2.1 dX13_parts_143 rfl (lv_at hl 0 rfl) ?_
      refine lv_iconst (v := 0) C.1 C.2.1 dX13_parts_144 (by decide) ?_
      refine lv_iconst (v := 1) C.1 C.2.1 dX13_parts_145 (by decide) ?_
      refine lv_iload_n C.1 C.2.1 dX13_parts_146 rfl (lv_at hl 2 rfl) ?_
      refine lv_iload C.1 C.2.1 dX13_parts_147 (lv_at hl 3 rfl) ?_
      refine lv_iload_n C.1 C.2.1 dX13_parts_149 rfl (lv_at hl 1 rfl) ?_
      refine sh_Vv (As := [.int 0, .int 1, .int v3, .int v4, .int v2]) (rest := []) C hw (kX13_laysRow l 0 1 v3 v4 v2) yy_X13_laysRow yv_X13_laysRow ml_X13_184 hf tbM_0 rfl rfl rfl rfl (Nat.le_of_ble_eq_true rfl) (by decide) hl.1 dX13_parts_150 (fun S15 H locs hw hf => ?_)
      refine lv_aload_n C.1 C.2.1 dX13_parts_153 rfl (lv_at hl 0 rfl) ?_
      refine sh_getr C hw fl_X13_7 tbM_0 rfl dX13_parts_154 ?_
      refine lv_bipush (v := 80) C.1 C.2.1 dX13_parts_157 (by decide) ?_
      refine lv_iconst (v := 2) C.1 C.2.1 dX13_parts_159 (by decide) ?_
      refine sh_iast C hw hf tbM_1 dX13_parts_160 (fun S17 H locs hw hf => ?_)
      refine lv_aload_n C.1 C.2.1 dX13_parts_161 rfl (lv_at hl 0 rfl) ?_
      refine sh_getr C hw fl_X13_7 tbM_0 rfl dX13_parts_162 ?_
      refine lv_sipush (v := 1080) C.1 C.2.1 dX13_parts_165 (by decide) ?_
      refine lv_dup2_11 C.1 C.2.1 dX13_parts_168 rfl rfl ?_
      refine sh_iald C hw hf tbM_1 dX13_parts_169 (fun hf => ?_)
      refine lv_iconst (v := 1) C.1 C.2.1 dX13_parts_170 (by decide) ?_
      refine lv_iadd C.1 C.2.1 dX13_parts_171 ?_
      refine sh_iast C hw hf tbM_1 dX13_parts_172 (fun S18 H locs hw hf => ?_)
      exact sh_rv C hw hr hf dX13_parts_173
    · refine lv_aload_n C.1 C.2.1 dX13_parts_105 rfl (lv_at hl 0 rfl) ?_
      refine lv_iconst (v := 0) C.1 C.2.1 dX13_parts_106 (by decide) ?_
      refine lv_iload C.1 C.2.1 dX13_parts_107 (lv_at hl 5 rfl) ?_
      refine lv_iload C.1 C.2.1 dX13_parts_109 (lv_at hl 4 rfl) ?_
      refine lv_iload C.1 C.2.1 dX13_parts_111 (lv_at hl 5 rfl) ?_
      refine sh_Vv (As := [.int 0, .int v6, .int v5, .int v6]) (rest := []) C hw (kX13_copiesRow l 0 v6 v5 v6) yy_X13_copiesRow yv_X13_copiesRow ml_X13_197 hf tbM_0 rfl rfl rfl rfl (Nat.le_of_ble_eq_true rfl) (by decide) hl.1 dX13_parts_113 (fun S19 H locs hw hf => ?_)
      obtain ⟨y21, ey21, hf⟩ := sh_nm hf
      refine lv_iinc (v := y21) (lv' := [(6, .int y21), (0, .ref (G.2.1 0)), (2, .int v2), (3, .int v3), (4, .int v4), (5, .int v5)]) C.1 C.2.1 dX13_parts_116 hl (k := 5) rfl (by rw [← ey21]; rfl) (by decide) rfl (fun ls hl => ?_)
      refine lv_goto (tgt := 99) C.1 C.2.1 dX13_parts_119 (by decide) ?_
      exact hr99 S19 v2 v3 v4 v5 y21 hf _ _ _ hw (lv_sub hl [1, 2, 3, 4, 5, 0] rfl)
def fX13_parts_v0_8 : Nat → sh_St → Int32 → Int32 → Int32 → Option (Unit × sh_St)
  | 0, _, _, _, _ => none
  | n + 1, S, v1, v2, v3 =>
    if 3 ≤ v3 then (sh_g (80 + v2) 1084 (sh_t (sh_I S 1 (80 + v2).toNatClampNeg 3) fun S3 =>
    sh_c (fX13_rowAt S3 v2 0 0) fun r5 S4 =>
    sh_g r5 1084 (sh_t (S4.1 1 r5.toNatClampNeg) fun y6 =>
    sh_c (fX13_rowAt S4 v2 0 1) fun r8 S7 =>
    sh_g r8 1084 (sh_t (S7.1 1 r8.toNatClampNeg) fun y9 =>
    if v1 = 0 then (sh_c (fX13_takesBlock S7 2) fun r11 S10 =>
    fX13_parts_v0_99 sh_FU S10 v2 y6 y9 r11 0)
    else (sh_g (80 + v1) 1084 (sh_t (sh_I S7 1 (80 + v1).toNatClampNeg 3) fun S22 =>
    none))))))
    else (sh_c (fX13_copiesRow S v1 (3 + v3) v2 v3) fun _ S23 =>
    sh_t (v3 + 1) fun y25 =>
    (fX13_parts_v0_8 n) S23 v1 v2 y25)
set_option maxRecDepth 100000 in
set_option maxHeartbeats 4000000 in
theorem wX13_parts_v0_8 {p : Program} {l : Launch} {e : Env} {s : State} {m : MethodId} {args : Array Value} {below : List Frame} {meth : Method} {c : Code} {G : sh_Ev} {A : Nat → Prop} {res : Unit × sh_St} (C : sh_Cx p s m args meth c cX13_parts 7 RX13 G A) (hr : meth.sig.returnType = none) : ∀ (n : Nat) (S : sh_St) (v1 : Int32) (v2 : Int32) (v3 : Int32), fX13_parts_v0_8 n S v1 v2 v3 = some res → ∀ (H : Heap) (locs : List Loc) (ls : Array Slot), sh_Wx G tbM A s H locs S → lv_has ls 7 [(0, .ref (G.2.1 0)), (1, .int v1), (2, .int v2), (3, .int v3)] → W p l e (sh_rm 4) s m args below meth c H locs 0 0 (sh_Qv below args s G tbM A res) (F0 m 8 ls []) := by
  intro n
  induction n with
  | zero => intro S v1 v2 v3 hf; exact nomatch (show (none : Option (Unit × sh_St)) = some res from hf)
  | succ n ih =>
    intro S v1 v2 v3 hf H locs ls hw hl
    have hr8 := ih
    rw [fX13_parts_v0_8] at hf
    refine lv_iload_n C.1 C.2.1 dX13_parts_8 rfl (lv_at hl 3 rfl) ?_
    refine lv_iconst (v := 3) C.1 C.2.1 dX13_parts_9 (by decide) ?_
    refine sh_icmp_ge (tgt := 29) C hf dX13_parts_10 (by decide) (fun hf => ?_) (fun hf => ?_)
    · refine lv_aload_n C.1 C.2.1 dX13_parts_29 rfl (lv_at hl 0 rfl) ?_
      refine sh_getr C hw fl_X13_7 tbM_0 rfl dX13_parts_30 ?_
      refine lv_bipush (v := 80) C.1 C.2.1 dX13_parts_33 (by decide) ?_
      refine lv_iload_n C.1 C.2.1 dX13_parts_35 rfl (lv_at hl 2 rfl) ?_
      refine lv_iadd C.1 C.2.1 dX13_parts_36 ?_
      refine lv_iconst (v := 3) C.1 C.2.1 dX13_parts_37 (by decide) ?_
      refine sh_iast C hw hf tbM_1 dX13_parts_38 (fun S3 H locs hw hf => ?_)
      refine lv_aload_n C.1 C.2.1 dX13_parts_39 rfl (lv_at hl 0 rfl) ?_
      refine sh_getr C hw fl_X13_7 tbM_0 rfl dX13_parts_40 ?_
      refine lv_iload_n C.1 C.2.1 dX13_parts_43 rfl (lv_at hl 2 rfl) ?_
      refine lv_iconst (v := 0) C.1 C.2.1 dX13_parts_44 (by decide) ?_
      refine lv_iconst (v := 0) C.1 C.2.1 dX13_parts_45 (by decide) ?_
      refine sh_Si (As := [.int v2, .int 0, .int 0]) (rest := [.ref (G.2.1 1)]) C hw (kX13_rowAt l v2 0 0) yy_X13_rowAt ys_X13_rowAt ml_X13_117 rfl hf rfl rfl rfl (Nat.le_of_ble_eq_true rfl) (by decide) hl.1 dX13_parts_46 (fun r5 S4 H locs hw hf => ?_)
      refine sh_iald C hw hf tbM_1 dX13_parts_49 (fun hf => ?_)
      refine sh_ni hf (fun y6 hf => ?_)
      refine lv_istore_n (lv' := [(3, .int y6), (0, .ref (G.2.1 0)), (1, .int v1), (2, .int v2)]) C.1 C.2.1 dX13_parts_50 rfl hl (by decide) rfl (fun ls hl => ?_)
      refine lv_aload_n C.1 C.2.1 dX13_parts_51 rfl (lv_at hl 1 rfl) ?_
      refine sh_getr C hw fl_X13_7 tbM_0 rfl dX13_parts_52 ?_
      refine lv_iload_n C.1 C.2.1 dX13_parts_55 rfl (lv_at hl 3 rfl) ?_
      refine lv_iconst (v := 0) C.1 C.2.1 dX13_parts_56 (by decide) ?_
      refine lv_iconst (v := 1) C.1 C.2.1 dX13_parts_57 (by decide) ?_
      refine sh_Si (As := [.int v2, .int 0, .int 1]) (rest := [.ref (G.2.1 1)]) C hw (kX13_rowAt l v2 0 1) yy_X13_rowAt ys_X13_rowAt ml_X13_117 rfl hf rfl rfl rfl (Nat.le_of_ble_eq_true rfl) (by decide) hl.1 dX13_parts_58 (fun r8 S7 H locs hw hf => ?_)
      refine sh_iald C hw hf tbM_1 dX13_parts_61 (fun hf => ?_)
      refine sh_ni hf (fun y9 hf => ?_)
      refine lv_istore (lv' := [(4, .int y9), (3, .int y6), (0, .ref (G.2.1 0)), (1, .int v1), (2, .int v2)]) C.1 C.2.1 dX13_parts_62 hl (by decide) rfl (fun ls hl => ?_)
      refine lv_iload_n C.1 C.2.1 dX13_parts_64 rfl (lv_at hl 3 rfl) ?_
      refine sh_if_eq (tgt := 89) C hf dX13_parts_65 (by decide) (fun hf => ?_) (fun hf => ?_)
      · refine lv_aload_n C.1 C.2.1 dX13_parts_89 rfl (lv_at hl 2 rfl) ?_
        refine lv_iconst (v := 2) C.1 C.2.1 dX13_parts_90 (by decide) ?_
        refine sh_Vi (As := [.int 2]) (rest := []) C hw (kX13_takesBlock l 2) yy_X13_takesBlock yv_X13_takesBlock ml_X13_204 hf tbM_0 rfl rfl rfl rfl (Nat.le_of_ble_eq_true rfl) (by decide) hl.1 dX13_parts_91 (fun r11 S10 H locs hw hf => ?_)
        refine lv_istore (lv' := [(5, .int r11), (4, .int y9), (3, .int y6), (0, .ref (G.2.1 0)), (1, .int v1), (2, .int v2)]) C.1 C.2.1 dX13_parts_94 hl (by decide) rfl (fun ls hl => ?_)
        refine lv_iconst (v := 0) C.1 C.2.1 dX13_parts_96 (by decide) ?_
        refine lv_istore (lv' := [(6, .int 0), (5, .int r11), (4, .int y9), (3, .int y6), (0, .ref (G.2.1 0)), (1, .int v1), (2, .int v2)]) C.1 C.2.1 dX13_parts_97 hl (by decide) rfl (fun ls hl => ?_)
        exact wX13_parts_v0_99 C hr _ S10 v2 y6 y9 r11 0 hf _ _ _ hw (lv_sub hl [4, 6, 3, 2, 1, 0] rfl)
      · refine lv_aload_n C.1 C.2.1 dX13_parts_68 rfl (lv_at hl 2 rfl) ?_
        refine sh_getr C hw fl_X13_7 tbM_0 rfl dX13_parts_69 ?_
        refine lv_bipush (v := 80) C.1 C.2.1 dX13_parts_72 (by decide) ?_
        refine lv_iload_n C.1 C.2.1 dX13_parts_74 rfl (lv_at hl 3 rfl) ?_
        refine lv_iadd C.1 C.2.1 dX13_parts_75 ?_
        refine lv_iconst (v := 3) C.1 C.2.1 dX13_parts_76 (by decide) ?_
        refine sh_iast C hw hf tbM_1 dX13_parts_77 (fun S22 H locs hw hf => ?_)
        refine lv_aload_n C.1 C.2.1 dX13_parts_78 rfl (lv_at hl 2 rfl) ?_
        refine lv_iconst (v := 0) C.1 C.2.1 dX13_parts_79 (by decide) ?_
        refine lv_iload_n C.1 C.2.1 dX13_parts_80 rfl (lv_at hl 3 rfl) ?_
        refine lv_iload_n C.1 C.2.1 dX13_parts_81 rfl (lv_at hl 1 rfl) ?_
        refine lv_iload C.1 C.2.1 dX13_parts_82 (lv_at hl 0 rfl) ?_
        refine lv_iload_n C.1 C.2.1 dX13_parts_84 rfl (lv_at hl 4 rfl) ?_
        exact nomatch hf
    · refine lv_aload_n C.1 C.2.1 dX13_parts_13 rfl (lv_at hl 0 rfl) ?_
      refine lv_iload_n C.1 C.2.1 dX13_parts_14 rfl (lv_at hl 1 rfl) ?_
      refine lv_iconst (v := 3) C.1 C.2.1 dX13_parts_15 (by decide) ?_
      refine lv_iload_n C.1 C.2.1 dX13_parts_16 rfl (lv_at hl 3 rfl) ?_
      refine lv_iadd C.1 C.2.1 dX13_parts_17 ?_
      refine lv_iload_n C.1 C.2.1 dX13_parts_18 rfl (lv_at hl 2 rfl) ?_
      refine lv_iload_n C.1 C.2.1 dX13_parts_19 rfl (lv_at hl 3 rfl) ?_
      refine sh_Vv (As := [.int v1, .int (3 + v3), .int v2, .int v3]) (rest := []) C hw (kX13_copiesRow l v1 (3 + v3) v2 v3) yy_X13_copiesRow yv_X13_copiesRow ml_X13_197 hf tbM_0 rfl rfl rfl rfl (Nat.le_of_ble_eq_true rfl) (by decide) hl.1 dX13_parts_20 (fun S23 H locs hw hf => ?_)
      obtain ⟨y25, ey25, hf⟩ := sh_nm hf
      refine lv_iinc (v := y25) (lv' := [(3, .int y25), (0, .ref (G.2.1 0)), (1, .int v1), (2, .int v2)]) C.1 C.2.1 dX13_parts_23 hl (k := 3) rfl (by rw [← ey25]; rfl) (by decide) rfl (fun ls hl => ?_)
      refine lv_goto (tgt := 8) C.1 C.2.1 dX13_parts_26 (by decide) ?_
      exact hr8 S23 v1 v2 y25 hf _ _ _ hw (lv_sub hl [1, 2, 3, 0] rfl)
def fX13_parts_v0 (S : sh_St) (v1 : Int32) : Option (Unit × sh_St) :=
    sh_c (fX13_takesBlock S 2) fun r2 S1 =>
    fX13_parts_v0_8 sh_FU S1 v1 r2 0
set_option maxRecDepth 100000 in
set_option maxHeartbeats 4000000 in
theorem kX13_parts_v0 (l : Launch) (v1 : Int32) : sh_Mv l yX13_parts cX13_parts 7 4 tbM (fun G => [.ref (G.2.1 0), .int v1]) (fun S => fX13_parts_v0 S v1) := by
  refine sh_mkv (by decide) (fun G => Nat.le_of_ble_eq_true rfl) ?_
  intro p e s m args below meth c G A S res ls hf C hr hw hl
  have C : sh_Cx p s m args meth c cX13_parts 7 RX13 G A := C
  have hl : lv_has ls 7 [(0, .ref (G.2.1 0)), (1, .int v1)] := hl
  replace hf : fX13_parts_v0 S v1 = some res := hf
  rw [fX13_parts_v0] at hf
  refine lv_aload_n C.1 C.2.1 dX13_parts_0 rfl (lv_at hl 0 rfl) ?_
  refine lv_iconst (v := 2) C.1 C.2.1 dX13_parts_1 (by decide) ?_
  refine sh_Vi (As := [.int 2]) (rest := []) C hw (kX13_takesBlock l 2) yy_X13_takesBlock yv_X13_takesBlock ml_X13_204 hf tbM_0 rfl rfl rfl rfl (Nat.le_of_ble_eq_true rfl) (by decide) hl.1 dX13_parts_2 (fun r2 S1 H locs hw hf => ?_)
  refine lv_istore_n (lv' := [(2, .int r2), (0, .ref (G.2.1 0)), (1, .int v1)]) C.1 C.2.1 dX13_parts_5 rfl hl (by decide) rfl (fun ls hl => ?_)
  refine lv_iconst (v := 0) C.1 C.2.1 dX13_parts_6 (by decide) ?_
  refine lv_istore_n (lv' := [(3, .int 0), (2, .int r2), (0, .ref (G.2.1 0)), (1, .int v1)]) C.1 C.2.1 dX13_parts_7 rfl hl (by decide) rfl (fun ls hl => ?_)
  exact wX13_parts_v0_8 C hr _ S1 v1 r2 0 hf _ _ _ hw (lv_sub hl [2, 3, 1, 0] rfl)
def fX13_comesBehind_v1_21 : Nat → sh_St → Int32 → Int32 → Int32 → Int32 → Int32 → Int32 → Option (Unit × sh_St)
  | 0, _, _, _, _, _, _, _ => none
  | n + 1, S, v1, v3, v4, v5, v6, v7 =>
    if v7 ≤ v6 then (sh_c (fX13_laysRow S v1 v6 v3 v4 v5) fun _ S5 =>
    sh_g (80 + v1) 1084 (sh_g (80 + v1) 1084 (sh_t (sh_I S5 1 (80 + v1).toNatClampNeg ((S5.1 1 (80 + v1).toNatClampNeg) + 1)) fun S7 =>
    sh_g (80 + v1) 1084 (if (S7.1 1 (80 + v1).toNatClampNeg) = 6 then (sh_c (fX13_parts_v0 S7 v1) fun _ S8 =>
    some ((), S8))
    else (some ((), S7))))))
    else (sh_c (fX13_copiesRow S v1 (v7 - 1) v1 v7) fun _ S10 =>
    sh_t (v7 + (-1)) fun y12 =>
    (fX13_comesBehind_v1_21 n) S10 v1 v3 v4 v5 v6 y12)
set_option maxRecDepth 100000 in
set_option maxHeartbeats 4000000 in
theorem wX13_comesBehind_v1_21 {p : Program} {l : Launch} {e : Env} {s : State} {m : MethodId} {args : Array Value} {below : List Frame} {meth : Method} {c : Code} {G : sh_Ev} {A : Nat → Prop} {res : Unit × sh_St} (C : sh_Cx p s m args meth c cX13_comesBehind 8 RX13 G A) (hr : meth.sig.returnType = none) : ∀ (n : Nat) (S : sh_St) (v1 : Int32) (v3 : Int32) (v4 : Int32) (v5 : Int32) (v6 : Int32) (v7 : Int32), fX13_comesBehind_v1_21 n S v1 v3 v4 v5 v6 v7 = some res → ∀ (H : Heap) (locs : List Loc) (ls : Array Slot), sh_Wx G tbM A s H locs S → lv_has ls 8 [(0, .ref (G.2.1 0)), (1, .int v1), (3, .int v3), (4, .int v4), (5, .int v5), (6, .int v6), (7, .int v7)] → W p l e (sh_rm 5) s m args below meth c H locs 0 0 (sh_Qv below args s G tbM A res) (F0 m 21 ls []) := by
  intro n
  induction n with
  | zero => intro S v1 v3 v4 v5 v6 v7 hf; exact nomatch (show (none : Option (Unit × sh_St)) = some res from hf)
  | succ n ih =>
    intro S v1 v3 v4 v5 v6 v7 hf H locs ls hw hl
    have hr21 := ih
    rw [fX13_comesBehind_v1_21] at hf
    refine lv_iload C.1 C.2.1 dX13_comesBehind_21 (lv_at hl 6 rfl) ?_
    refine lv_iload C.1 C.2.1 dX13_comesBehind_23 (lv_at hl 5 rfl) ?_
    refine sh_icmp_le (tgt := 46) C hf dX13_comesBehind_25 (by decide) (fun hf => ?_) (fun hf => ?_)
    · refine lv_aload_n C.1 C.2.1 dX13_comesBehind_46 rfl (lv_at hl 0 rfl) ?_
      refine lv_iload_n C.1 C.2.1 dX13_comesBehind_47 rfl (lv_at hl 1 rfl) ?_
      refine lv_iload C.1 C.2.1 dX13_comesBehind_48 (lv_at hl 5 rfl) ?_
      refine lv_iload_n C.1 C.2.1 dX13_comesBehind_50 rfl (lv_at hl 2 rfl) ?_
      refine lv_iload C.1 C.2.1 dX13_comesBehind_51 (lv_at hl 3 rfl) ?_
      refine lv_iload C.1 C.2.1 dX13_comesBehind_53 (lv_at hl 4 rfl) ?_
      refine sh_Vv (As := [.int v1, .int v6, .int v3, .int v4, .int v5]) (rest := []) C hw (kX13_laysRow l v1 v6 v3 v4 v5) yy_X13_laysRow yv_X13_laysRow ml_X13_184 hf tbM_0 rfl rfl rfl rfl (Nat.le_of_ble_eq_true rfl) (by decide) hl.1 dX13_comesBehind_55 (fun S5 H locs hw hf => ?_)
      refine lv_aload_n C.1 C.2.1 dX13_comesBehind_58 rfl (lv_at hl 0 rfl) ?_
      refine sh_getr C hw fl_X13_7 tbM_0 rfl dX13_comesBehind_59 ?_
      refine lv_bipush (v := 80) C.1 C.2.1 dX13_comesBehind_62 (by decide) ?_
      refine lv_iload_n C.1 C.2.1 dX13_comesBehind_64 rfl (lv_at hl 1 rfl) ?_
      refine lv_iadd C.1 C.2.1 dX13_comesBehind_65 ?_
      refine lv_dup2_11 C.1 C.2.1 dX13_comesBehind_66 rfl rfl ?_
      refine sh_iald C hw hf tbM_1 dX13_comesBehind_67 (fun hf => ?_)
      refine lv_iconst (v := 1) C.1 C.2.1 dX13_comesBehind_68 (by decide) ?_
      refine lv_iadd C.1 C.2.1 dX13_comesBehind_69 ?_
      refine sh_iast C hw hf tbM_1 dX13_comesBehind_70 (fun S7 H locs hw hf => ?_)
      refine lv_aload_n C.1 C.2.1 dX13_comesBehind_71 rfl (lv_at hl 0 rfl) ?_
      refine sh_getr C hw fl_X13_7 tbM_0 rfl dX13_comesBehind_72 ?_
      refine lv_bipush (v := 80) C.1 C.2.1 dX13_comesBehind_75 (by decide) ?_
      refine lv_iload_n C.1 C.2.1 dX13_comesBehind_77 rfl (lv_at hl 1 rfl) ?_
      refine lv_iadd C.1 C.2.1 dX13_comesBehind_78 ?_
      refine sh_iald C hw hf tbM_1 dX13_comesBehind_79 (fun hf => ?_)
      refine lv_bipush (v := 6) C.1 C.2.1 dX13_comesBehind_80 (by decide) ?_
      refine sh_icmp_ne (tgt := 90) C hf dX13_comesBehind_82 (by decide) (fun hf => ?_) (fun hf => ?_)
      · exact sh_rv C hw hr hf dX13_comesBehind_90
      · refine lv_aload_n C.1 C.2.1 dX13_comesBehind_85 rfl (lv_at hl 0 rfl) ?_
        refine lv_iload_n C.1 C.2.1 dX13_comesBehind_86 rfl (lv_at hl 1 rfl) ?_
        refine sh_Vv (As := [.int v1]) (rest := []) C hw (kX13_parts_v0 l v1) yy_X13_parts yv_X13_parts ml_X13_201 hf tbM_0 rfl rfl rfl rfl (Nat.le_of_ble_eq_true rfl) (by decide) hl.1 dX13_comesBehind_87 (fun S8 H locs hw hf => ?_)
        exact sh_rv C hw hr hf dX13_comesBehind_90
    · refine lv_aload_n C.1 C.2.1 dX13_comesBehind_28 rfl (lv_at hl 0 rfl) ?_
      refine lv_iload_n C.1 C.2.1 dX13_comesBehind_29 rfl (lv_at hl 1 rfl) ?_
      refine lv_iload C.1 C.2.1 dX13_comesBehind_30 (lv_at hl 6 rfl) ?_
      refine lv_iconst (v := 1) C.1 C.2.1 dX13_comesBehind_32 (by decide) ?_
      refine lv_isub C.1 C.2.1 dX13_comesBehind_33 ?_
      refine lv_iload_n C.1 C.2.1 dX13_comesBehind_34 rfl (lv_at hl 1 rfl) ?_
      refine lv_iload C.1 C.2.1 dX13_comesBehind_35 (lv_at hl 6 rfl) ?_
      refine sh_Vv (As := [.int v1, .int (v7 - 1), .int v1, .int v7]) (rest := []) C hw (kX13_copiesRow l v1 (v7 - 1) v1 v7) yy_X13_copiesRow yv_X13_copiesRow ml_X13_197 hf tbM_0 rfl rfl rfl rfl (Nat.le_of_ble_eq_true rfl) (by decide) hl.1 dX13_comesBehind_37 (fun S10 H locs hw hf => ?_)
      obtain ⟨y12, ey12, hf⟩ := sh_nm hf
      refine lv_iinc (v := y12) (lv' := [(7, .int y12), (0, .ref (G.2.1 0)), (1, .int v1), (3, .int v3), (4, .int v4), (5, .int v5), (6, .int v6)]) C.1 C.2.1 dX13_comesBehind_40 hl (k := 6) rfl (by rw [← ey12]; rfl) (by decide) rfl (fun ls hl => ?_)
      refine lv_goto (tgt := 21) C.1 C.2.1 dX13_comesBehind_43 (by decide) ?_
      exact hr21 S10 v1 v3 v4 v5 v6 y12 hf _ _ _ hw (lv_sub hl [1, 2, 3, 4, 5, 6, 0] rfl)
def fX13_comesBehind_v1 (S : sh_St) (v1 : Int32) (v2 : Int32) (v3 : Int32) (v4 : Int32) (v5 : Int32) : Option (Unit × sh_St) :=
    sh_c (fX13_rowOf S v1 v2) fun r2 S1 =>
    sh_t (r2 + 1) fun y3 =>
    sh_g (80 + v1) 1084 (sh_t (S1.1 1 (80 + v1).toNatClampNeg) fun y4 =>
    fX13_comesBehind_v1_21 sh_FU S1 v1 v3 v4 v5 y3 y4)
set_option maxRecDepth 100000 in
set_option maxHeartbeats 4000000 in
theorem kX13_comesBehind_v1 (l : Launch) (v1 : Int32) (v2 : Int32) (v3 : Int32) (v4 : Int32) (v5 : Int32) : sh_Mv l yX13_comesBehind cX13_comesBehind 8 5 tbM (fun G => [.ref (G.2.1 0), .int v1, .int v2, .int v3, .int v4, .int v5]) (fun S => fX13_comesBehind_v1 S v1 v2 v3 v4 v5) := by
  refine sh_mkv (by decide) (fun G => Nat.le_of_ble_eq_true rfl) ?_
  intro p e s m args below meth c G A S res ls hf C hr hw hl
  have C : sh_Cx p s m args meth c cX13_comesBehind 8 RX13 G A := C
  have hl : lv_has ls 8 [(0, .ref (G.2.1 0)), (1, .int v1), (2, .int v2), (3, .int v3), (4, .int v4), (5, .int v5)] := hl
  replace hf : fX13_comesBehind_v1 S v1 v2 v3 v4 v5 = some res := hf
  rw [fX13_comesBehind_v1] at hf
  refine lv_aload_n C.1 C.2.1 dX13_comesBehind_0 rfl (lv_at hl 0 rfl) ?_
  refine lv_iload_n C.1 C.2.1 dX13_comesBehind_1 rfl (lv_at hl 1 rfl) ?_
  refine lv_iload_n C.1 C.2.1 dX13_comesBehind_2 rfl (lv_at hl 2 rfl) ?_
  refine sh_Vi (As := [.int v1, .int v2]) (rest := []) C hw (kX13_rowOf l v1 v2) yy_X13_rowOf yv_X13_rowOf ml_X13_194 hf tbM_0 rfl rfl rfl rfl (Nat.le_of_ble_eq_true rfl) (by decide) hl.1 dX13_comesBehind_3 (fun r2 S1 H locs hw hf => ?_)
  refine lv_iconst (v := 1) C.1 C.2.1 dX13_comesBehind_6 (by decide) ?_
  refine lv_iadd C.1 C.2.1 dX13_comesBehind_7 ?_
  refine sh_ni hf (fun y3 hf => ?_)
  refine lv_istore (lv' := [(6, .int y3), (0, .ref (G.2.1 0)), (1, .int v1), (2, .int v2), (3, .int v3), (4, .int v4), (5, .int v5)]) C.1 C.2.1 dX13_comesBehind_8 hl (by decide) rfl (fun ls hl => ?_)
  refine lv_aload_n C.1 C.2.1 dX13_comesBehind_10 rfl (lv_at hl 1 rfl) ?_
  refine sh_getr C hw fl_X13_7 tbM_0 rfl dX13_comesBehind_11 ?_
  refine lv_bipush (v := 80) C.1 C.2.1 dX13_comesBehind_14 (by decide) ?_
  refine lv_iload_n C.1 C.2.1 dX13_comesBehind_16 rfl (lv_at hl 2 rfl) ?_
  refine lv_iadd C.1 C.2.1 dX13_comesBehind_17 ?_
  refine sh_iald C hw hf tbM_1 dX13_comesBehind_18 (fun hf => ?_)
  refine sh_ni hf (fun y4 hf => ?_)
  refine lv_istore (lv' := [(7, .int y4), (6, .int y3), (0, .ref (G.2.1 0)), (1, .int v1), (2, .int v2), (3, .int v3), (4, .int v4), (5, .int v5)]) C.1 C.2.1 dX13_comesBehind_19 hl (by decide) rfl (fun ls hl => ?_)
  exact wX13_comesBehind_v1_21 C hr _ S1 v1 v3 v4 v5 y3 y4 hf _ _ _ hw (lv_sub hl [2, 3, 5, 6, 7, 1, 0] rfl)
def fX13_parts_v1_99 : Nat → sh_St → Int32 → Int32 → Int32 → Int32 → Int32 → Option (Unit × sh_St)
  | 0, _, _, _, _, _, _ => none
  | n + 1, S, v2, v3, v4, v5, v6 =>
    if 3 ≤ v6 then (sh_g (80 + v5) 1084 (sh_t (sh_I S 1 (80 + v5).toNatClampNeg 3) fun S12 =>
    sh_c (fX13_laysRow S12 0 0 0 0 v5) fun _ S13 =>
    sh_c (fX13_laysRow S13 0 1 v3 v4 v2) fun _ S15 =>
    sh_g 80 1084 (sh_t (sh_I S15 1 (80 : Int32).toNatClampNeg 2) fun S17 =>
    sh_g 1080 1084 (sh_g 1080 1084 (sh_t (sh_I S17 1 (1080 : Int32).toNatClampNeg ((S17.1 1 (1080 : Int32).toNatClampNeg) + 1)) fun S18 =>
    some ((), S18))))))
    else (sh_c (fX13_copiesRow S 0 v6 v5 v6) fun _ S19 =>
    sh_t (v6 + 1) fun y21 =>
    (fX13_parts_v1_99 n) S19 v2 v3 v4 v5 y21)
set_option maxRecDepth 100000 in
set_option maxHeartbeats 4000000 in
theorem wX13_parts_v1_99 {p : Program} {l : Launch} {e : Env} {s : State} {m : MethodId} {args : Array Value} {below : List Frame} {meth : Method} {c : Code} {G : sh_Ev} {A : Nat → Prop} {res : Unit × sh_St} (C : sh_Cx p s m args meth c cX13_parts 7 RX13 G A) (hr : meth.sig.returnType = none) : ∀ (n : Nat) (S : sh_St) (v2 : Int32) (v3 : Int32) (v4 : Int32) (v5 : Int32) (v6 : Int32), fX13_parts_v1_99 n S v2 v3 v4 v5 v6 = some res → ∀ (H : Heap) (locs : List Loc) (ls : Array Slot), sh_Wx G tbM A s H locs S → lv_has ls 7 [(0, .ref (G.2.1 0)), (2, .int v2), (3, .int v3), (4, .int v4), (5, .int v5), (6, .int v6)] → W p l e (sh_rm 6) s m args below meth c H locs 0 0 (sh_Qv below args s G tbM A res) (F0 m 99 ls []) := by
  intro n
  induction n with
  | zero => intro S v2 v3 v4 v5 v6 hf; exact nomatch (show (none : Option (Unit × sh_St)) = some res from hf)
  | succ n ih =>
    intro S v2 v3 v4 v5 v6 hf H locs ls hw hl
    have hr99 := ih
    rw [fX13_parts_v1_99] at hf
    refine lv_iload C.1 C.2.1 dX13_parts_99 (lv_at hl 5 rfl) ?_
    refine lv_iconst (v := 3) C.1 C.2.1 dX13_parts_101 (by decide) ?_
    refine sh_icmp_ge (tgt := 122) C hf dX13_parts_102 (by decide) (fun hf => ?_) (fun hf => ?_)
    · refine lv_aload_n C.1 C.2.1 dX13_parts_122 rfl (lv_at hl 0 rfl) ?_
      refine sh_getr C hw fl_X13_7 tbM_0 rfl dX13_parts_123 ?_
      refine lv_bipush (v := 80) C.1 C.2.1 dX13_parts_126 (by decide) ?_
      refine lv_iload C.1 C.2.1 dX13_parts_128 (lv_at hl 4 rfl) ?_
      refine lv_iadd C.1 C.2.1 dX13_parts_130 ?_
      refine lv_iconst (v := 3) C.1 C.2.1 dX13_parts_131 (by decide) ?_
      refine sh_iast C hw hf tbM_1 dX13_parts_132 (fun S12 H locs hw hf => ?_)
      refine lv_aload_n C.1 C.2.1 dX13_parts_133 rfl (lv_at hl 0 rfl) ?_
      refine lv_iconst (v := 0) C.1 C.2.1 dX13_parts_134 (by decide) ?_
      refine lv_iconst (v := 0) C.1 C.2.1 dX13_parts_135 (by decide) ?_
      refine lv_iconst (v := 0) C.1 C.2.1 dX13_parts_136 (by decide) ?_
      refine lv_iconst (v := 0) C.1 C.2.1 dX13_parts_137 (by decide) ?_
      refine lv_iload C.1 C.2.1 dX13_parts_138 (lv_at hl 4 rfl) ?_
      refine sh_Vv (As := [.int 0, .int 0, .int 0, .int 0, .int v5]) (rest := []) C hw (kX13_laysRow l 0 0 0 0 v5) yy_X13_laysRow yv_X13_laysRow ml_X13_184 hf tbM_0 rfl rfl rfl rfl (Nat.le_of_ble_eq_true rfl) (by decide) hl.1 dX13_parts_140 (fun S13 H locs hw hf => ?_)
      refine lv_aload_n C.1 C.2.1 dX13_parts_143 rfl (lv_at hl 0 rfl) ?_
      refine lv_iconst (v := 0) C.1 C.2.1 dX13_parts_144 (by decide) ?_
      refine lv_iconst (v := 1) C.1 C.2.1 dX13_parts_145 (by decide) ?_
      refine lv_iload_n C.1 C.2.1 dX13_parts_146 rfl (lv_at hl 2 rfl) ?_
      refine lv_iload C.1 C.2.1 dX13_parts_147 (lv_at hl 3 rfl) ?_
      refine lv_iload_n C.1 C.2.1 dX13_parts_149 rfl (lv_at hl 1 rfl) ?_
      refine sh_Vv (As := [.int 0, .int 1, .int v3, .int v4, .int v2]) (rest := []) C hw (kX13_laysRow l 0 1 v3 v4 v2) yy_X13_laysRow yv_X13_laysRow ml_X13_184 hf tbM_0 rfl rfl rfl rfl (Nat.le_of_ble_eq_true rfl) (by decide) hl.1 dX13_parts_150 (fun S15 H locs hw hf => ?_)
      refine lv_aload_n C.1 C.2.1 dX13_parts_153 rfl (lv_at hl 0 rfl) ?_
      refine sh_getr C hw fl_X13_7 tbM_0 rfl dX13_parts_154 ?_
      refine lv_bipush (v := 80) C.1 C.2.1 dX13_parts_157 (by decide) ?_
      refine lv_iconst (v := 2) C.1 C.2.1 dX13_parts_159 (by decide) ?_
      refine sh_iast C hw hf tbM_1 dX13_parts_160 (fun S17 H locs hw hf => ?_)
      refine lv_aload_n C.1 C.2.1 dX13_parts_161 rfl (lv_at hl 0 rfl) ?_
      refine sh_getr C hw fl_X13_7 tbM_0 rfl dX13_parts_162 ?_
      refine lv_sipush (v := 1080) C.1 C.2.1 dX13_parts_165 (by decide) ?_
      refine lv_dup2_11 C.1 C.2.1 dX13_parts_168 rfl rfl ?_
      refine sh_iald C hw hf tbM_1 dX13_parts_169 (fun hf => ?_)
      refine lv_iconst (v := 1) C.1 C.2.1 dX13_parts_170 (by decide) ?_
      refine lv_iadd C.1 C.2.1 dX13_parts_171 ?_
      refine sh_iast C hw hf tbM_1 dX13_parts_172 (fun S18 H locs hw hf => ?_)
      exact sh_rv C hw hr hf dX13_parts_173
    · refine lv_aload_n C.1 C.2.1 dX13_parts_105 rfl (lv_at hl 0 rfl) ?_
      refine lv_iconst (v := 0) C.1 C.2.1 dX13_parts_106 (by decide) ?_
      refine lv_iload C.1 C.2.1 dX13_parts_107 (lv_at hl 5 rfl) ?_
      refine lv_iload C.1 C.2.1 dX13_parts_109 (lv_at hl 4 rfl) ?_
      refine lv_iload C.1 C.2.1 dX13_parts_111 (lv_at hl 5 rfl) ?_
      refine sh_Vv (As := [.int 0, .int v6, .int v5, .int v6]) (rest := []) C hw (kX13_copiesRow l 0 v6 v5 v6) yy_X13_copiesRow yv_X13_copiesRow ml_X13_197 hf tbM_0 rfl rfl rfl rfl (Nat.le_of_ble_eq_true rfl) (by decide) hl.1 dX13_parts_113 (fun S19 H locs hw hf => ?_)
      obtain ⟨y21, ey21, hf⟩ := sh_nm hf
      refine lv_iinc (v := y21) (lv' := [(6, .int y21), (0, .ref (G.2.1 0)), (2, .int v2), (3, .int v3), (4, .int v4), (5, .int v5)]) C.1 C.2.1 dX13_parts_116 hl (k := 5) rfl (by rw [← ey21]; rfl) (by decide) rfl (fun ls hl => ?_)
      refine lv_goto (tgt := 99) C.1 C.2.1 dX13_parts_119 (by decide) ?_
      exact hr99 S19 v2 v3 v4 v5 y21 hf _ _ _ hw (lv_sub hl [1, 2, 3, 4, 5, 0] rfl)
def fX13_parts_v1_8 : Nat → sh_St → Int32 → Int32 → Int32 → Option (Unit × sh_St)
  | 0, _, _, _, _ => none
  | n + 1, S, v1, v2, v3 =>
    if 3 ≤ v3 then (sh_g (80 + v2) 1084 (sh_t (sh_I S 1 (80 + v2).toNatClampNeg 3) fun S3 =>
    sh_c (fX13_rowAt S3 v2 0 0) fun r5 S4 =>
    sh_g r5 1084 (sh_t (S4.1 1 r5.toNatClampNeg) fun y6 =>
    sh_c (fX13_rowAt S4 v2 0 1) fun r8 S7 =>
    sh_g r8 1084 (sh_t (S7.1 1 r8.toNatClampNeg) fun y9 =>
    if v1 = 0 then (sh_c (fX13_takesBlock S7 2) fun r11 S10 =>
    fX13_parts_v1_99 sh_FU S10 v2 y6 y9 r11 0)
    else (sh_g (80 + v1) 1084 (sh_t (sh_I S7 1 (80 + v1).toNatClampNeg 3) fun S22 =>
    sh_c (fX13_comesBehind_v1 S22 0 v1 y6 y9 v2) fun _ S23 =>
    some ((), S23)))))))
    else (sh_c (fX13_copiesRow S v1 (3 + v3) v2 v3) fun _ S25 =>
    sh_t (v3 + 1) fun y27 =>
    (fX13_parts_v1_8 n) S25 v1 v2 y27)
set_option maxRecDepth 100000 in
set_option maxHeartbeats 4000000 in
theorem wX13_parts_v1_8 {p : Program} {l : Launch} {e : Env} {s : State} {m : MethodId} {args : Array Value} {below : List Frame} {meth : Method} {c : Code} {G : sh_Ev} {A : Nat → Prop} {res : Unit × sh_St} (C : sh_Cx p s m args meth c cX13_parts 7 RX13 G A) (hr : meth.sig.returnType = none) : ∀ (n : Nat) (S : sh_St) (v1 : Int32) (v2 : Int32) (v3 : Int32), fX13_parts_v1_8 n S v1 v2 v3 = some res → ∀ (H : Heap) (locs : List Loc) (ls : Array Slot), sh_Wx G tbM A s H locs S → lv_has ls 7 [(0, .ref (G.2.1 0)), (1, .int v1), (2, .int v2), (3, .int v3)] → W p l e (sh_rm 6) s m args below meth c H locs 0 0 (sh_Qv below args s G tbM A res) (F0 m 8 ls []) := by
  intro n
  induction n with
  | zero => intro S v1 v2 v3 hf; exact nomatch (show (none : Option (Unit × sh_St)) = some res from hf)
  | succ n ih =>
    intro S v1 v2 v3 hf H locs ls hw hl
    have hr8 := ih
    rw [fX13_parts_v1_8] at hf
    refine lv_iload_n C.1 C.2.1 dX13_parts_8 rfl (lv_at hl 3 rfl) ?_
    refine lv_iconst (v := 3) C.1 C.2.1 dX13_parts_9 (by decide) ?_
    refine sh_icmp_ge (tgt := 29) C hf dX13_parts_10 (by decide) (fun hf => ?_) (fun hf => ?_)
    · refine lv_aload_n C.1 C.2.1 dX13_parts_29 rfl (lv_at hl 0 rfl) ?_
      refine sh_getr C hw fl_X13_7 tbM_0 rfl dX13_parts_30 ?_
      refine lv_bipush (v := 80) C.1 C.2.1 dX13_parts_33 (by decide) ?_
      refine lv_iload_n C.1 C.2.1 dX13_parts_35 rfl (lv_at hl 2 rfl) ?_
      refine lv_iadd C.1 C.2.1 dX13_parts_36 ?_
      refine lv_iconst (v := 3) C.1 C.2.1 dX13_parts_37 (by decide) ?_
      refine sh_iast C hw hf tbM_1 dX13_parts_38 (fun S3 H locs hw hf => ?_)
      refine lv_aload_n C.1 C.2.1 dX13_parts_39 rfl (lv_at hl 0 rfl) ?_
      refine sh_getr C hw fl_X13_7 tbM_0 rfl dX13_parts_40 ?_
      refine lv_iload_n C.1 C.2.1 dX13_parts_43 rfl (lv_at hl 2 rfl) ?_
      refine lv_iconst (v := 0) C.1 C.2.1 dX13_parts_44 (by decide) ?_
      refine lv_iconst (v := 0) C.1 C.2.1 dX13_parts_45 (by decide) ?_
      refine sh_Si (As := [.int v2, .int 0, .int 0]) (rest := [.ref (G.2.1 1)]) C hw (kX13_rowAt l v2 0 0) yy_X13_rowAt ys_X13_rowAt ml_X13_117 rfl hf rfl rfl rfl (Nat.le_of_ble_eq_true rfl) (by decide) hl.1 dX13_parts_46 (fun r5 S4 H locs hw hf => ?_)
      refine sh_iald C hw hf tbM_1 dX13_parts_49 (fun hf => ?_)
      refine sh_ni hf (fun y6 hf => ?_)
      refine lv_istore_n (lv' := [(3, .int y6), (0, .ref (G.2.1 0)), (1, .int v1), (2, .int v2)]) C.1 C.2.1 dX13_parts_50 rfl hl (by decide) rfl (fun ls hl => ?_)
      refine lv_aload_n C.1 C.2.1 dX13_parts_51 rfl (lv_at hl 1 rfl) ?_
      refine sh_getr C hw fl_X13_7 tbM_0 rfl dX13_parts_52 ?_
      refine lv_iload_n C.1 C.2.1 dX13_parts_55 rfl (lv_at hl 3 rfl) ?_
      refine lv_iconst (v := 0) C.1 C.2.1 dX13_parts_56 (by decide) ?_
      refine lv_iconst (v := 1) C.1 C.2.1 dX13_parts_57 (by decide) ?_
      refine sh_Si (As := [.int v2, .int 0, .int 1]) (rest := [.ref (G.2.1 1)]) C hw (kX13_rowAt l v2 0 1) yy_X13_rowAt ys_X13_rowAt ml_X13_117 rfl hf rfl rfl rfl (Nat.le_of_ble_eq_true rfl) (by decide) hl.1 dX13_parts_58 (fun r8 S7 H locs hw hf => ?_)
      refine sh_iald C hw hf tbM_1 dX13_parts_61 (fun hf => ?_)
      refine sh_ni hf (fun y9 hf => ?_)
      refine lv_istore (lv' := [(4, .int y9), (3, .int y6), (0, .ref (G.2.1 0)), (1, .int v1), (2, .int v2)]) C.1 C.2.1 dX13_parts_62 hl (by decide) rfl (fun ls hl => ?_)
      refine lv_iload_n C.1 C.2.1 dX13_parts_64 rfl (lv_at hl 3 rfl) ?_
      refine sh_if_eq (tgt := 89) C hf dX13_parts_65 (by decide) (fun hf => ?_) (fun hf => ?_)
      · refine lv_aload_n C.1 C.2.1 dX13_parts_89 rfl (lv_at hl 2 rfl) ?_
        refine lv_iconst (v := 2) C.1 C.2.1 dX13_parts_90 (by decide) ?_
        refine sh_Vi (As := [.int 2]) (rest := []) C hw (kX13_takesBlock l 2) yy_X13_takesBlock yv_X13_takesBlock ml_X13_204 hf tbM_0 rfl rfl rfl rfl (Nat.le_of_ble_eq_true rfl) (by decide) hl.1 dX13_parts_91 (fun r11 S10 H locs hw hf => ?_)
        refine lv_istore (lv' := [(5, .int r11), (4, .int y9), (3, .int y6), (0, .ref (G.2.1 0)), (1, .int v1), (2, .int v2)]) C.1 C.2.1 dX13_parts_94 hl (by decide) rfl (fun ls hl => ?_)
        refine lv_iconst (v := 0) C.1 C.2.1 dX13_parts_96 (by decide) ?_
        refine lv_istore (lv' := [(6, .int 0), (5, .int r11), (4, .int y9), (3, .int y6), (0, .ref (G.2.1 0)), (1, .int v1), (2, .int v2)]) C.1 C.2.1 dX13_parts_97 hl (by decide) rfl (fun ls hl => ?_)
        exact wX13_parts_v1_99 C hr _ S10 v2 y6 y9 r11 0 hf _ _ _ hw (lv_sub hl [4, 6, 3, 2, 1, 0] rfl)
      · refine lv_aload_n C.1 C.2.1 dX13_parts_68 rfl (lv_at hl 2 rfl) ?_
        refine sh_getr C hw fl_X13_7 tbM_0 rfl dX13_parts_69 ?_
        refine lv_bipush (v := 80) C.1 C.2.1 dX13_parts_72 (by decide) ?_
        refine lv_iload_n C.1 C.2.1 dX13_parts_74 rfl (lv_at hl 3 rfl) ?_
        refine lv_iadd C.1 C.2.1 dX13_parts_75 ?_
        refine lv_iconst (v := 3) C.1 C.2.1 dX13_parts_76 (by decide) ?_
        refine sh_iast C hw hf tbM_1 dX13_parts_77 (fun S22 H locs hw hf => ?_)
        refine lv_aload_n C.1 C.2.1 dX13_parts_78 rfl (lv_at hl 2 rfl) ?_
        refine lv_iconst (v := 0) C.1 C.2.1 dX13_parts_79 (by decide) ?_
        refine lv_iload_n C.1 C.2.1 dX13_parts_80 rfl (lv_at hl 3 rfl) ?_
        refine lv_iload_n C.1 C.2.1 dX13_parts_81 rfl (lv_at hl 1 rfl) ?_
        refine lv_iload C.1 C.2.1 dX13_parts_82 (lv_at hl 0 rfl) ?_
        refine lv_iload_n C.1 C.2.1 dX13_parts_84 rfl (lv_at hl 4 rfl) ?_
        refine sh_Vv (As := [.int 0, .int v1, .int y6, .int y9, .int v2]) (rest := []) C hw (kX13_comesBehind_v1 l 0 v1 y6 y9 v2) yy_X13_comesBehind yv_X13_comesBehind ml_X13_207 hf tbM_0 rfl rfl rfl rfl (Nat.le_of_ble_eq_true rfl) (by decide) hl.1 dX13_parts_85 (fun S23 H locs hw hf => ?_)
        exact sh_rv C hw hr hf dX13_parts_88
    · refine lv_aload_n C.1 C.2.1 dX13_parts_13 rfl (lv_at hl 0 rfl) ?_
      refine lv_iload_n C.1 C.2.1 dX13_parts_14 rfl (lv_at hl 1 rfl) ?_
      refine lv_iconst (v := 3) C.1 C.2.1 dX13_parts_15 (by decide) ?_
      refine lv_iload_n C.1 C.2.1 dX13_parts_16 rfl (lv_at hl 3 rfl) ?_
      refine lv_iadd C.1 C.2.1 dX13_parts_17 ?_
      refine lv_iload_n C.1 C.2.1 dX13_parts_18 rfl (lv_at hl 2 rfl) ?_
      refine lv_iload_n C.1 C.2.1 dX13_parts_19 rfl (lv_at hl 3 rfl) ?_
      refine sh_Vv (As := [.int v1, .int (3 + v3), .int v2, .int v3]) (rest := []) C hw (kX13_copiesRow l v1 (3 + v3) v2 v3) yy_X13_copiesRow yv_X13_copiesRow ml_X13_197 hf tbM_0 rfl rfl rfl rfl (Nat.le_of_ble_eq_true rfl) (by decide) hl.1 dX13_parts_20 (fun S25 H locs hw hf => ?_)
      obtain ⟨y27, ey27, hf⟩ := sh_nm hf
      refine lv_iinc (v := y27) (lv' := [(3, .int y27), (0, .ref (G.2.1 0)), (1, .int v1), (2, .int v2)]) C.1 C.2.1 dX13_parts_23 hl (k := 3) rfl (by rw [← ey27]; rfl) (by decide) rfl (fun ls hl => ?_)
      refine lv_goto (tgt := 8) C.1 C.2.1 dX13_parts_26 (by decide) ?_
      exact hr8 S25 v1 v2 y27 hf _ _ _ hw (lv_sub hl [1, 2, 3, 0] rfl)
def fX13_parts_v1 (S : sh_St) (v1 : Int32) : Option (Unit × sh_St) :=
    sh_c (fX13_takesBlock S 2) fun r2 S1 =>
    fX13_parts_v1_8 sh_FU S1 v1 r2 0
set_option maxRecDepth 100000 in
set_option maxHeartbeats 4000000 in
theorem kX13_parts_v1 (l : Launch) (v1 : Int32) : sh_Mv l yX13_parts cX13_parts 7 6 tbM (fun G => [.ref (G.2.1 0), .int v1]) (fun S => fX13_parts_v1 S v1) := by
  refine sh_mkv (by decide) (fun G => Nat.le_of_ble_eq_true rfl) ?_
  intro p e s m args below meth c G A S res ls hf C hr hw hl
  have C : sh_Cx p s m args meth c cX13_parts 7 RX13 G A := C
  have hl : lv_has ls 7 [(0, .ref (G.2.1 0)), (1, .int v1)] := hl
  replace hf : fX13_parts_v1 S v1 = some res := hf
  rw [fX13_parts_v1] at hf
  refine lv_aload_n C.1 C.2.1 dX13_parts_0 rfl (lv_at hl 0 rfl) ?_
  refine lv_iconst (v := 2) C.1 C.2.1 dX13_parts_1 (by decide) ?_
  refine sh_Vi (As := [.int 2]) (rest := []) C hw (kX13_takesBlock l 2) yy_X13_takesBlock yv_X13_takesBlock ml_X13_204 hf tbM_0 rfl rfl rfl rfl (Nat.le_of_ble_eq_true rfl) (by decide) hl.1 dX13_parts_2 (fun r2 S1 H locs hw hf => ?_)
  refine lv_istore_n (lv' := [(2, .int r2), (0, .ref (G.2.1 0)), (1, .int v1)]) C.1 C.2.1 dX13_parts_5 rfl hl (by decide) rfl (fun ls hl => ?_)
  refine lv_iconst (v := 0) C.1 C.2.1 dX13_parts_6 (by decide) ?_
  refine lv_istore_n (lv' := [(3, .int 0), (2, .int r2), (0, .ref (G.2.1 0)), (1, .int v1)]) C.1 C.2.1 dX13_parts_7 rfl hl (by decide) rfl (fun ls hl => ?_)
  exact wX13_parts_v1_8 C hr _ S1 v1 r2 0 hf _ _ _ hw (lv_sub hl [2, 3, 1, 0] rfl)
def fX13_comesBehind_v2_21 : Nat → sh_St → Int32 → Int32 → Int32 → Int32 → Int32 → Int32 → Option (Unit × sh_St)
  | 0, _, _, _, _, _, _, _ => none
  | n + 1, S, v1, v3, v4, v5, v6, v7 =>
    if v7 ≤ v6 then (sh_c (fX13_laysRow S v1 v6 v3 v4 v5) fun _ S5 =>
    sh_g (80 + v1) 1084 (sh_g (80 + v1) 1084 (sh_t (sh_I S5 1 (80 + v1).toNatClampNeg ((S5.1 1 (80 + v1).toNatClampNeg) + 1)) fun S7 =>
    sh_g (80 + v1) 1084 (if (S7.1 1 (80 + v1).toNatClampNeg) = 6 then (sh_c (fX13_parts_v1 S7 v1) fun _ S8 =>
    some ((), S8))
    else (some ((), S7))))))
    else (sh_c (fX13_copiesRow S v1 (v7 - 1) v1 v7) fun _ S10 =>
    sh_t (v7 + (-1)) fun y12 =>
    (fX13_comesBehind_v2_21 n) S10 v1 v3 v4 v5 v6 y12)
set_option maxRecDepth 100000 in
set_option maxHeartbeats 4000000 in
theorem wX13_comesBehind_v2_21 {p : Program} {l : Launch} {e : Env} {s : State} {m : MethodId} {args : Array Value} {below : List Frame} {meth : Method} {c : Code} {G : sh_Ev} {A : Nat → Prop} {res : Unit × sh_St} (C : sh_Cx p s m args meth c cX13_comesBehind 8 RX13 G A) (hr : meth.sig.returnType = none) : ∀ (n : Nat) (S : sh_St) (v1 : Int32) (v3 : Int32) (v4 : Int32) (v5 : Int32) (v6 : Int32) (v7 : Int32), fX13_comesBehind_v2_21 n S v1 v3 v4 v5 v6 v7 = some res → ∀ (H : Heap) (locs : List Loc) (ls : Array Slot), sh_Wx G tbM A s H locs S → lv_has ls 8 [(0, .ref (G.2.1 0)), (1, .int v1), (3, .int v3), (4, .int v4), (5, .int v5), (6, .int v6), (7, .int v7)] → W p l e (sh_rm 7) s m args below meth c H locs 0 0 (sh_Qv below args s G tbM A res) (F0 m 21 ls []) := by
  intro n
  induction n with
  | zero => intro S v1 v3 v4 v5 v6 v7 hf; exact nomatch (show (none : Option (Unit × sh_St)) = some res from hf)
  | succ n ih =>
    intro S v1 v3 v4 v5 v6 v7 hf H locs ls hw hl
    have hr21 := ih
    rw [fX13_comesBehind_v2_21] at hf
    refine lv_iload C.1 C.2.1 dX13_comesBehind_21 (lv_at hl 6 rfl) ?_
    refine lv_iload C.1 C.2.1 dX13_comesBehind_23 (lv_at hl 5 rfl) ?_
    refine sh_icmp_le (tgt := 46) C hf dX13_comesBehind_25 (by decide) (fun hf => ?_) (fun hf => ?_)
    · refine lv_aload_n C.1 C.2.1 dX13_comesBehind_46 rfl (lv_at hl 0 rfl) ?_
      refine lv_iload_n C.1 C.2.1 dX13_comesBehind_47 rfl (lv_at hl 1 rfl) ?_
      refine lv_iload C.1 C.2.1 dX13_comesBehind_48 (lv_at hl 5 rfl) ?_
      refine lv_iload_n C.1 C.2.1 dX13_comesBehind_50 rfl (lv_at hl 2 rfl) ?_
      refine lv_iload C.1 C.2.1 dX13_comesBehind_51 (lv_at hl 3 rfl) ?_
      refine lv_iload C.1 C.2.1 dX13_comesBehind_53 (lv_at hl 4 rfl) ?_
      refine sh_Vv (As := [.int v1, .int v6, .int v3, .int v4, .int v5]) (rest := []) C hw (kX13_laysRow l v1 v6 v3 v4 v5) yy_X13_laysRow yv_X13_laysRow ml_X13_184 hf tbM_0 rfl rfl rfl rfl (Nat.le_of_ble_eq_true rfl) (by decide) hl.1 dX13_comesBehind_55 (fun S5 H locs hw hf => ?_)
      refine lv_aload_n C.1 C.2.1 dX13_comesBehind_58 rfl (lv_at hl 0 rfl) ?_
      refine sh_getr C hw fl_X13_7 tbM_0 rfl dX13_comesBehind_59 ?_
      refine lv_bipush (v := 80) C.1 C.2.1 dX13_comesBehind_62 (by decide) ?_
      refine lv_iload_n C.1 C.2.1 dX13_comesBehind_64 rfl (lv_at hl 1 rfl) ?_
      refine lv_iadd C.1 C.2.1 dX13_comesBehind_65 ?_
      refine lv_dup2_11 C.1 C.2.1 dX13_comesBehind_66 rfl rfl ?_
      refine sh_iald C hw hf tbM_1 dX13_comesBehind_67 (fun hf => ?_)
      refine lv_iconst (v := 1) C.1 C.2.1 dX13_comesBehind_68 (by decide) ?_
      refine lv_iadd C.1 C.2.1 dX13_comesBehind_69 ?_
      refine sh_iast C hw hf tbM_1 dX13_comesBehind_70 (fun S7 H locs hw hf => ?_)
      refine lv_aload_n C.1 C.2.1 dX13_comesBehind_71 rfl (lv_at hl 0 rfl) ?_
      refine sh_getr C hw fl_X13_7 tbM_0 rfl dX13_comesBehind_72 ?_
      refine lv_bipush (v := 80) C.1 C.2.1 dX13_comesBehind_75 (by decide) ?_
      refine lv_iload_n C.1 C.2.1 dX13_comesBehind_77 rfl (lv_at hl 1 rfl) ?_
      refine lv_iadd C.1 C.2.1 dX13_comesBehind_78 ?_
      refine sh_iald C hw hf tbM_1 dX13_comesBehind_79 (fun hf => ?_)
      refine lv_bipush (v := 6) C.1 C.2.1 dX13_comesBehind_80 (by decide) ?_
      refine sh_icmp_ne (tgt := 90) C hf dX13_comesBehind_82 (by decide) (fun hf => ?_) (fun hf => ?_)
      · exact sh_rv C hw hr hf dX13_comesBehind_90
      · refine lv_aload_n C.1 C.2.1 dX13_comesBehind_85 rfl (lv_at hl 0 rfl) ?_
        refine lv_iload_n C.1 C.2.1 dX13_comesBehind_86 rfl (lv_at hl 1 rfl) ?_
        refine sh_Vv (As := [.int v1]) (rest := []) C hw (kX13_parts_v1 l v1) yy_X13_parts yv_X13_parts ml_X13_201 hf tbM_0 rfl rfl rfl rfl (Nat.le_of_ble_eq_true rfl) (by decide) hl.1 dX13_comesBehind_87 (fun S8 H locs hw hf => ?_)
        exact sh_rv C hw hr hf dX13_comesBehind_90
    · refine lv_aload_n C.1 C.2.1 dX13_comesBehind_28 rfl (lv_at hl 0 rfl) ?_
      refine lv_iload_n C.1 C.2.1 dX13_comesBehind_29 rfl (lv_at hl 1 rfl) ?_
      refine lv_iload C.1 C.2.1 dX13_comesBehind_30 (lv_at hl 6 rfl) ?_
      refine lv_iconst (v := 1) C.1 C.2.1 dX13_comesBehind_32 (by decide) ?_
      refine lv_isub C.1 C.2.1 dX13_comesBehind_33 ?_
      refine lv_iload_n C.1 C.2.1 dX13_comesBehind_34 rfl (lv_at hl 1 rfl) ?_
      refine lv_iload C.1 C.2.1 dX13_comesBehind_35 (lv_at hl 6 rfl) ?_
      refine sh_Vv (As := [.int v1, .int (v7 - 1), .int v1, .int v7]) (rest := []) C hw (kX13_copiesRow l v1 (v7 - 1) v1 v7) yy_X13_copiesRow yv_X13_copiesRow ml_X13_197 hf tbM_0 rfl rfl rfl rfl (Nat.le_of_ble_eq_true rfl) (by decide) hl.1 dX13_comesBehind_37 (fun S10 H locs hw hf => ?_)
      obtain ⟨y12, ey12, hf⟩ := sh_nm hf
      refine lv_iinc (v := y12) (lv' := [(7, .int y12), (0, .ref (G.2.1 0)), (1, .int v1), (3, .int v3), (4, .int v4), (5, .int v5), (6, .int v6)]) C.1 C.2.1 dX13_comesBehind_40 hl (k := 6) rfl (by rw [← ey12]; rfl) (by decide) rfl (fun ls hl => ?_)
      refine lv_goto (tgt := 21) C.1 C.2.1 dX13_comesBehind_43 (by decide) ?_
      exact hr21 S10 v1 v3 v4 v5 v6 y12 hf _ _ _ hw (lv_sub hl [1, 2, 3, 4, 5, 6, 0] rfl)
def fX13_comesBehind_v2 (S : sh_St) (v1 : Int32) (v2 : Int32) (v3 : Int32) (v4 : Int32) (v5 : Int32) : Option (Unit × sh_St) :=
    sh_c (fX13_rowOf S v1 v2) fun r2 S1 =>
    sh_t (r2 + 1) fun y3 =>
    sh_g (80 + v1) 1084 (sh_t (S1.1 1 (80 + v1).toNatClampNeg) fun y4 =>
    fX13_comesBehind_v2_21 sh_FU S1 v1 v3 v4 v5 y3 y4)
set_option maxRecDepth 100000 in
set_option maxHeartbeats 4000000 in
theorem kX13_comesBehind_v2 (l : Launch) (v1 : Int32) (v2 : Int32) (v3 : Int32) (v4 : Int32) (v5 : Int32) : sh_Mv l yX13_comesBehind cX13_comesBehind 8 7 tbM (fun G => [.ref (G.2.1 0), .int v1, .int v2, .int v3, .int v4, .int v5]) (fun S => fX13_comesBehind_v2 S v1 v2 v3 v4 v5) := by
  refine sh_mkv (by decide) (fun G => Nat.le_of_ble_eq_true rfl) ?_
  intro p e s m args below meth c G A S res ls hf C hr hw hl
  have C : sh_Cx p s m args meth c cX13_comesBehind 8 RX13 G A := C
  have hl : lv_has ls 8 [(0, .ref (G.2.1 0)), (1, .int v1), (2, .int v2), (3, .int v3), (4, .int v4), (5, .int v5)] := hl
  replace hf : fX13_comesBehind_v2 S v1 v2 v3 v4 v5 = some res := hf
  rw [fX13_comesBehind_v2] at hf
  refine lv_aload_n C.1 C.2.1 dX13_comesBehind_0 rfl (lv_at hl 0 rfl) ?_
  refine lv_iload_n C.1 C.2.1 dX13_comesBehind_1 rfl (lv_at hl 1 rfl) ?_
  refine lv_iload_n C.1 C.2.1 dX13_comesBehind_2 rfl (lv_at hl 2 rfl) ?_
  refine sh_Vi (As := [.int v1, .int v2]) (rest := []) C hw (kX13_rowOf l v1 v2) yy_X13_rowOf yv_X13_rowOf ml_X13_194 hf tbM_0 rfl rfl rfl rfl (Nat.le_of_ble_eq_true rfl) (by decide) hl.1 dX13_comesBehind_3 (fun r2 S1 H locs hw hf => ?_)
  refine lv_iconst (v := 1) C.1 C.2.1 dX13_comesBehind_6 (by decide) ?_
  refine lv_iadd C.1 C.2.1 dX13_comesBehind_7 ?_
  refine sh_ni hf (fun y3 hf => ?_)
  refine lv_istore (lv' := [(6, .int y3), (0, .ref (G.2.1 0)), (1, .int v1), (2, .int v2), (3, .int v3), (4, .int v4), (5, .int v5)]) C.1 C.2.1 dX13_comesBehind_8 hl (by decide) rfl (fun ls hl => ?_)
  refine lv_aload_n C.1 C.2.1 dX13_comesBehind_10 rfl (lv_at hl 1 rfl) ?_
  refine sh_getr C hw fl_X13_7 tbM_0 rfl dX13_comesBehind_11 ?_
  refine lv_bipush (v := 80) C.1 C.2.1 dX13_comesBehind_14 (by decide) ?_
  refine lv_iload_n C.1 C.2.1 dX13_comesBehind_16 rfl (lv_at hl 2 rfl) ?_
  refine lv_iadd C.1 C.2.1 dX13_comesBehind_17 ?_
  refine sh_iald C hw hf tbM_1 dX13_comesBehind_18 (fun hf => ?_)
  refine sh_ni hf (fun y4 hf => ?_)
  refine lv_istore (lv' := [(7, .int y4), (6, .int y3), (0, .ref (G.2.1 0)), (1, .int v1), (2, .int v2), (3, .int v3), (4, .int v4), (5, .int v5)]) C.1 C.2.1 dX13_comesBehind_19 hl (by decide) rfl (fun ls hl => ?_)
  exact wX13_comesBehind_v2_21 C hr _ S1 v1 v3 v4 v5 y3 y4 hf _ _ _ hw (lv_sub hl [2, 3, 5, 6, 7, 1, 0] rfl)
def fX4_carryOut (S : sh_St) (v1 : Int32) (v2 : Int64) (v4 : Int64) (v6 : Int32) : Option (Int32 × sh_St) :=
    sh_g v1 9 (if (sh_swm.getD v1.toNatClampNeg 0) = 1 then (sh_c (fX4_placeEntry S v2 v6) fun r2 S1 =>
    some (r2, S1))
    else (if (sh_swm.getD v1.toNatClampNeg 0) = 2 then (sh_c (fX4_removeEntry S v2) fun r4 S3 =>
    some (r4, S3))
    else (if (sh_swm.getD v1.toNatClampNeg 0) = 3 then (sh_c (fX4_removeEntry S v2) fun r6 S5 =>
    sh_c (fX4_placeEntry S5 v4 r6) fun r8 S7 =>
    some (r6, S7))
    else (if (sh_swm.getD v1.toNatClampNeg 0) = 4 then (sh_g v6 40 (sh_t (sh_I S 7 v6.toNatClampNeg 1) fun S9 =>
    sh_c (fX7_tornIndexes S9 ) fun r11 S10 =>
    some (r11, S10)))
    else (if (sh_swm.getD v1.toNatClampNeg 0) = 5 then (sh_c (fX4_retune S v1 v6) fun r13 S12 =>
    sh_c (fX4_layAnew S12 ) fun _ S14 =>
    some (r13, S14))
    else (if (sh_swm.getD v1.toNatClampNeg 0) = 6 then (sh_c (fX4_layAnew S ) fun _ S16 =>
    sh_c (fX7_blocksOfKind S16 0) fun r19 S18 =>
    some (40 - r19, S18))
    else (sh_c (fX4_retune S v1 v6) fun r21 S20 =>
    sh_c (fX4_layAnew S20 ) fun _ S22 =>
    some (r21, S22))))))))
set_option maxRecDepth 100000 in
set_option maxHeartbeats 4000000 in
theorem kX4_carryOut (l : Launch) (v1 : Int32) (v2 : Int64) (v4 : Int64) (v6 : Int32) : sh_Mi l yX4_carryOut cX4_carryOut 9 .int 6 tbX (fun G => [.ref (G.2.1 116), .ref (G.2.2.1 v1.toNatClampNeg), .long v2, .long v4, .int v6]) (fun S => fX4_carryOut S v1 v2 v4 v6) := by
  refine sh_mki (by decide) (fun G => Nat.le_of_ble_eq_true rfl) ?_
  intro p e s m args below meth c G A S res ls hf C hr hw hl
  have C : sh_Cx p s m args meth c cX4_carryOut 9 RX4 G A := C
  have hl : lv_has ls 9 [(0, .ref (G.2.1 116)), (1, .ref (G.2.2.1 v1.toNatClampNeg)), (2, .long v2), (4, .long v4), (6, .int v6)] := hl
  replace hf : fX4_carryOut S v1 v2 v4 v6 = some res := hf
  rw [fX4_carryOut] at hf
  refine sh_swm_row C hw (lv_at hl 1 rfl) hf ol_8 (Nat.le_of_ble_eq_true rfl) (by decide) hl.1 dX4_carryOut_0 dX4_carryOut_3 dX4_carryOut_4 dX4_carryOut_7 (fun H locs hw hf => ?_)
  by_cases h8_1 : (sh_swm.getD v1.toNatClampNeg 0) = 1
  · replace hf := (sh_if hf).1 h8_1
    refine sh_swIn (off := 40) (tgt := 48) C h8_1 dX4_carryOut_8 (by decide) (by decide) (by decide) (by decide) ?_
    refine lv_aload_n C.1 C.2.1 dX4_carryOut_48 rfl (lv_at hl 0 rfl) ?_
    refine lv_lload_n C.1 C.2.1 dX4_carryOut_49 rfl (lv_at hl 2 rfl) ?_
    refine lv_iload C.1 C.2.1 dX4_carryOut_50 (lv_at hl 4 rfl) ?_
    refine sh_Vi (As := [.long v2, .int v6]) (rest := []) C hw (kX4_placeEntry l v2 v6) yy_X4_placeEntry yv_X4_placeEntry ml_X4_153 hf tbX_116 rfl rfl rfl rfl (Nat.le_of_ble_eq_true rfl) (by decide) hl.1 dX4_carryOut_52 (fun r2 S1 H locs hw hf => ?_)
    exact sh_ri C hw hr hf dX4_carryOut_55
  · replace hf := (sh_if hf).2 h8_1
    by_cases h8_2 : (sh_swm.getD v1.toNatClampNeg 0) = 2
    · replace hf := (sh_if hf).1 h8_2
      refine sh_swIn (off := 48) (tgt := 56) C h8_2 dX4_carryOut_8 (by decide) (by decide) (by decide) (by decide) ?_
      refine lv_aload_n C.1 C.2.1 dX4_carryOut_56 rfl (lv_at hl 0 rfl) ?_
      refine lv_lload_n C.1 C.2.1 dX4_carryOut_57 rfl (lv_at hl 2 rfl) ?_
      refine sh_Vi (As := [.long v2]) (rest := []) C hw (kX4_removeEntry l v2) yy_X4_removeEntry yv_X4_removeEntry ml_X4_157 hf tbX_116 rfl rfl rfl rfl (Nat.le_of_ble_eq_true rfl) (by decide) hl.1 dX4_carryOut_58 (fun r4 S3 H locs hw hf => ?_)
      exact sh_ri C hw hr hf dX4_carryOut_61
    · replace hf := (sh_if hf).2 h8_2
      by_cases h8_3 : (sh_swm.getD v1.toNatClampNeg 0) = 3
      · replace hf := (sh_if hf).1 h8_3
        refine sh_swIn (off := 54) (tgt := 62) C h8_3 dX4_carryOut_8 (by decide) (by decide) (by decide) (by decide) ?_
        refine lv_aload_n C.1 C.2.1 dX4_carryOut_62 rfl (lv_at hl 0 rfl) ?_
        refine lv_lload_n C.1 C.2.1 dX4_carryOut_63 rfl (lv_at hl 2 rfl) ?_
        refine sh_Vi (As := [.long v2]) (rest := []) C hw (kX4_removeEntry l v2) yy_X4_removeEntry yv_X4_removeEntry ml_X4_157 hf tbX_116 rfl rfl rfl rfl (Nat.le_of_ble_eq_true rfl) (by decide) hl.1 dX4_carryOut_64 (fun r6 S5 H locs hw hf => ?_)
        refine lv_istore (lv' := [(7, .int r6), (0, .ref (G.2.1 116)), (1, .ref (G.2.2.1 v1.toNatClampNeg)), (2, .long v2), (4, .long v4), (6, .int v6)]) C.1 C.2.1 dX4_carryOut_67 hl (by decide) rfl (fun ls hl => ?_)
        refine lv_aload_n C.1 C.2.1 dX4_carryOut_69 rfl (lv_at hl 1 rfl) ?_
        refine lv_lload C.1 C.2.1 dX4_carryOut_70 (lv_at hl 4 rfl) ?_
        refine lv_iload C.1 C.2.1 dX4_carryOut_72 (lv_at hl 0 rfl) ?_
        refine sh_Vi (As := [.long v4, .int r6]) (rest := []) C hw (kX4_placeEntry l v4 r6) yy_X4_placeEntry yv_X4_placeEntry ml_X4_153 hf tbX_116 rfl rfl rfl rfl (Nat.le_of_ble_eq_true rfl) (by decide) hl.1 dX4_carryOut_74 (fun r8 S7 H locs hw hf => ?_)
        refine lv_pop C.1 C.2.1 dX4_carryOut_77 rfl ?_
        refine lv_iload C.1 C.2.1 dX4_carryOut_78 (lv_at hl 0 rfl) ?_
        exact sh_ri C hw hr hf dX4_carryOut_80
      · replace hf := (sh_if hf).2 h8_3
        by_cases h8_4 : (sh_swm.getD v1.toNatClampNeg 0) = 4
        · replace hf := (sh_if hf).1 h8_4
          refine sh_swIn (off := 73) (tgt := 81) C h8_4 dX4_carryOut_8 (by decide) (by decide) (by decide) (by decide) ?_
          refine lv_aload_n C.1 C.2.1 dX4_carryOut_81 rfl (lv_at hl 0 rfl) ?_
          refine sh_getr C hw fl_X4_36 tbX_116 rfl dX4_carryOut_82 ?_
          refine sh_getr C hw fl_X4_160 tbX_4 rfl dX4_carryOut_85 ?_
          refine lv_iload C.1 C.2.1 dX4_carryOut_88 (lv_at hl 4 rfl) ?_
          refine lv_iconst (v := 1) C.1 C.2.1 dX4_carryOut_90 (by decide) ?_
          refine sh_iast C hw hf tbX_7 dX4_carryOut_91 (fun S9 H locs hw hf => ?_)
          refine lv_aload_n C.1 C.2.1 dX4_carryOut_92 rfl (lv_at hl 0 rfl) ?_
          refine sh_getr C hw fl_X4_36 tbX_116 rfl dX4_carryOut_93 ?_
          refine sh_Vi (As := []) (rest := []) C hw (kX7_tornIndexes l ) yy_X7_tornIndexes yv_X7_tornIndexes ml_X4_48 hf tbX_4 rfl rfl rfl rfl (Nat.le_of_ble_eq_true rfl) (by decide) hl.1 dX4_carryOut_96 (fun r11 S10 H locs hw hf => ?_)
          exact sh_ri C hw hr hf dX4_carryOut_99
        · replace hf := (sh_if hf).2 h8_4
          by_cases h8_5 : (sh_swm.getD v1.toNatClampNeg 0) = 5
          · replace hf := (sh_if hf).1 h8_5
            refine sh_swIn (off := 108) (tgt := 116) C h8_5 dX4_carryOut_8 (by decide) (by decide) (by decide) (by decide) ?_
            refine lv_aload_n C.1 C.2.1 dX4_carryOut_116 rfl (lv_at hl 0 rfl) ?_
            refine lv_aload_n C.1 C.2.1 dX4_carryOut_117 rfl (lv_at hl 1 rfl) ?_
            refine lv_iload C.1 C.2.1 dX4_carryOut_118 (lv_at hl 4 rfl) ?_
            refine sh_Vi (As := [.ref (G.2.2.1 v1.toNatClampNeg), .int v6]) (rest := []) C hw (kX4_retune l v1 v6) yy_X4_retune yv_X4_retune ml_X4_169 hf tbX_116 rfl rfl rfl rfl (Nat.le_of_ble_eq_true rfl) (by decide) hl.1 dX4_carryOut_120 (fun r13 S12 H locs hw hf => ?_)
            refine lv_istore (lv' := [(8, .int r13), (0, .ref (G.2.1 116)), (1, .ref (G.2.2.1 v1.toNatClampNeg)), (2, .long v2), (4, .long v4), (6, .int v6)]) C.1 C.2.1 dX4_carryOut_123 hl (by decide) rfl (fun ls hl => ?_)
            refine lv_aload_n C.1 C.2.1 dX4_carryOut_125 rfl (lv_at hl 1 rfl) ?_
            refine sh_Vv (As := []) (rest := []) C hw (kX4_layAnew l ) yy_X4_layAnew yv_X4_layAnew ml_X4_163 hf tbX_116 rfl rfl rfl rfl (Nat.le_of_ble_eq_true rfl) (by decide) hl.1 dX4_carryOut_126 (fun S14 H locs hw hf => ?_)
            refine lv_iload C.1 C.2.1 dX4_carryOut_129 (lv_at hl 0 rfl) ?_
            exact sh_ri C hw hr hf dX4_carryOut_131
          · replace hf := (sh_if hf).2 h8_5
            by_cases h8_6 : (sh_swm.getD v1.toNatClampNeg 0) = 6
            · replace hf := (sh_if hf).1 h8_6
              refine sh_swIn (off := 92) (tgt := 100) C h8_6 dX4_carryOut_8 (by decide) (by decide) (by decide) (by decide) ?_
              refine lv_aload_n C.1 C.2.1 dX4_carryOut_100 rfl (lv_at hl 0 rfl) ?_
              refine sh_Vv (As := []) (rest := []) C hw (kX4_layAnew l ) yy_X4_layAnew yv_X4_layAnew ml_X4_163 hf tbX_116 rfl rfl rfl rfl (Nat.le_of_ble_eq_true rfl) (by decide) hl.1 dX4_carryOut_101 (fun S16 H locs hw hf => ?_)
              refine lv_bipush (v := 40) C.1 C.2.1 dX4_carryOut_104 (by decide) ?_
              refine lv_aload_n C.1 C.2.1 dX4_carryOut_106 rfl (lv_at hl 0 rfl) ?_
              refine sh_getr C hw fl_X4_36 tbX_116 rfl dX4_carryOut_107 ?_
              refine lv_iconst (v := 0) C.1 C.2.1 dX4_carryOut_110 (by decide) ?_
              refine sh_Vi (As := [.int 0]) (rest := [.int 40]) C hw (kX7_blocksOfKind l 0) yy_X7_blocksOfKind yv_X7_blocksOfKind ml_X4_166 hf tbX_4 rfl rfl rfl rfl (Nat.le_of_ble_eq_true rfl) (by decide) hl.1 dX4_carryOut_111 (fun r19 S18 H locs hw hf => ?_)
              refine lv_isub C.1 C.2.1 dX4_carryOut_114 ?_
              exact sh_ri C hw hr hf dX4_carryOut_115
            · replace hf := (sh_if hf).2 h8_6
              refine sh_swOut (tgt := 116) C (by have a1 := sh_neI (z := 1) h8_1 (by decide); have a2 := sh_neI (z := 2) h8_2 (by decide); have a3 := sh_neI (z := 3) h8_3 (by decide); have a4 := sh_neI (z := 4) h8_4 (by decide); have a5 := sh_neI (z := 5) h8_5 (by decide); have a6 := sh_neI (z := 6) h8_6 (by decide); omega) dX4_carryOut_8 (by decide) ?_
              refine lv_aload_n C.1 C.2.1 dX4_carryOut_116 rfl (lv_at hl 0 rfl) ?_
              refine lv_aload_n C.1 C.2.1 dX4_carryOut_117 rfl (lv_at hl 1 rfl) ?_
              refine lv_iload C.1 C.2.1 dX4_carryOut_118 (lv_at hl 4 rfl) ?_
              refine sh_Vi (As := [.ref (G.2.2.1 v1.toNatClampNeg), .int v6]) (rest := []) C hw (kX4_retune l v1 v6) yy_X4_retune yv_X4_retune ml_X4_169 hf tbX_116 rfl rfl rfl rfl (Nat.le_of_ble_eq_true rfl) (by decide) hl.1 dX4_carryOut_120 (fun r21 S20 H locs hw hf => ?_)
              refine lv_istore (lv' := [(8, .int r21), (0, .ref (G.2.1 116)), (1, .ref (G.2.2.1 v1.toNatClampNeg)), (2, .long v2), (4, .long v4), (6, .int v6)]) C.1 C.2.1 dX4_carryOut_123 hl (by decide) rfl (fun ls hl => ?_)
              refine lv_aload_n C.1 C.2.1 dX4_carryOut_125 rfl (lv_at hl 1 rfl) ?_
              refine sh_Vv (As := []) (rest := []) C hw (kX4_layAnew l ) yy_X4_layAnew yv_X4_layAnew ml_X4_163 hf tbX_116 rfl rfl rfl rfl (Nat.le_of_ble_eq_true rfl) (by decide) hl.1 dX4_carryOut_126 (fun S22 H locs hw hf => ?_)
              refine lv_iload C.1 C.2.1 dX4_carryOut_129 (lv_at hl 0 rfl) ?_
              exact sh_ri C hw hr hf dX4_carryOut_131
def fX12_back (S : sh_St) : Option (Int32 × sh_St) :=
    if (S.1 0 9) = 0 then (sh_b 0 (some (0, S)))
    else (sh_c (fX7_copyFrom S 4 24) fun _ S1 =>
    sh_c (fX3_forget S1 ) fun _ S3 =>
    sh_c (fX12_closeReaders S3 ) fun _ S5 =>
    sh_b 1 (some (1, S5)))
set_option maxRecDepth 100000 in
set_option maxHeartbeats 4000000 in
theorem kX12_back (l : Launch) : sh_Mi l yX12_back cX12_back 1 .boolean 2 tbX (fun G => [.ref (G.2.1 0)]) (fun S => fX12_back S) := by
  refine sh_mki (by decide) (fun G => Nat.le_of_ble_eq_true rfl) ?_
  intro p e s m args below meth c G A S res ls hf C hr hw hl
  have C : sh_Cx p s m args meth c cX12_back 1 RX12 G A := C
  have hl : lv_has ls 1 [(0, .ref (G.2.1 0))] := hl
  replace hf : fX12_back S = some res := hf
  rw [fX12_back] at hf
  refine lv_aload_n C.1 C.2.1 dX12_back_0 rfl (lv_at hl 0 rfl) ?_
  refine sh_geti C hw fl_X12_69 tbX_0 rfl dX12_back_1 ?_
  refine sh_if_ne (tgt := 9) C hf dX12_back_4 (by decide) (fun hf => ?_) (fun hf => ?_)
  · refine lv_aload_n C.1 C.2.1 dX12_back_9 rfl (lv_at hl 0 rfl) ?_
    refine sh_getr C hw fl_X12_28 tbX_0 rfl dX12_back_10 ?_
    refine lv_aload_n C.1 C.2.1 dX12_back_13 rfl (lv_at hl 0 rfl) ?_
    refine sh_getr C hw fl_X12_35 tbX_0 rfl dX12_back_14 ?_
    refine sh_Vv (As := [.ref (G.2.1 24)]) (rest := []) C hw (kX7_copyFrom l isS_4 isS_24 ) yy_X7_copyFrom yv_X7_copyFrom ml_X12_92 hf isS_4.1 rfl rfl rfl rfl (Nat.le_of_ble_eq_true rfl) (by decide) hl.1 dX12_back_17 (fun S1 H locs hw hf => ?_)
    refine lv_aload_n C.1 C.2.1 dX12_back_20 rfl (lv_at hl 0 rfl) ?_
    refine sh_getr C hw fl_X12_41 tbX_0 rfl dX12_back_21 ?_
    refine sh_Vv (As := []) (rest := []) C hw (kX3_forget l ) yy_X3_forget yv_X3_forget ml_X12_105 hf tbX_34 rfl rfl rfl rfl (Nat.le_of_ble_eq_true rfl) (by decide) hl.1 dX12_back_24 (fun S3 H locs hw hf => ?_)
    refine lv_aload_n C.1 C.2.1 dX12_back_27 rfl (lv_at hl 0 rfl) ?_
    refine sh_Vv (As := []) (rest := []) C hw (kX12_closeReaders l ) yy_X12_closeReaders yv_X12_closeReaders ml_X12_334 hf tbX_0 rfl rfl rfl rfl (Nat.le_of_ble_eq_true rfl) (by decide) hl.1 dX12_back_28 (fun S5 H locs hw hf => ?_)
    refine lv_iconst (v := 1) C.1 C.2.1 dX12_back_31 (by decide) ?_
    exact sh_rz C hw hr hf dX12_back_32
  · refine lv_iconst (v := 0) C.1 C.2.1 dX12_back_7 (by decide) ?_
    exact sh_rz C hw hr hf dX12_back_8
def fX12_endText (S : sh_St) (v1 : Int32) (v2 : Int32) : Option (Int32 × sh_St) :=
    sh_c (fX10_isRightlyOver S ) fun r2 S1 =>
    if r2 = 0 then (some ((-1), S1))
    else (if v1 = 0 then (some (v2, S1))
    else (sh_c (fX12_closeReaders S1 ) fun _ S3 =>
    some (v2, S3)))
set_option maxRecDepth 100000 in
set_option maxHeartbeats 4000000 in
theorem kX12_endText (l : Launch) (v1 : Int32) (v2 : Int32) : sh_Mi l yX12_endText cX12_endText 3 .int 5 tbX (fun G => [.ref (G.2.1 0), .int v1, .int v2]) (fun S => fX12_endText S v1 v2) := by
  refine sh_mki (by decide) (fun G => Nat.le_of_ble_eq_true rfl) ?_
  intro p e s m args below meth c G A S res ls hf C hr hw hl
  have C : sh_Cx p s m args meth c cX12_endText 3 RX12 G A := C
  have hl : lv_has ls 3 [(0, .ref (G.2.1 0)), (1, .int v1), (2, .int v2)] := hl
  replace hf : fX12_endText S v1 v2 = some res := hf
  rw [fX12_endText] at hf
  refine lv_aload_n C.1 C.2.1 dX12_endText_0 rfl (lv_at hl 0 rfl) ?_
  refine sh_getr C hw fl_X12_21 tbX_0 rfl dX12_endText_1 ?_
  refine sh_Vi (As := []) (rest := []) C hw (kX10_isRightlyOver l ) yy_X10_isRightlyOver yv_X10_isRightlyOver ml_X12_134 hf tbX_3 rfl rfl rfl rfl (Nat.le_of_ble_eq_true rfl) (by decide) hl.1 dX12_endText_4 (fun r2 S1 H locs hw hf => ?_)
  refine sh_if_ne (tgt := 12) C hf dX12_endText_7 (by decide) (fun hf => ?_) (fun hf => ?_)
  · refine lv_iload_n C.1 C.2.1 dX12_endText_12 rfl (lv_at hl 1 rfl) ?_
    refine sh_if_eq (tgt := 20) C hf dX12_endText_13 (by decide) (fun hf => ?_) (fun hf => ?_)
    · refine lv_iload_n C.1 C.2.1 dX12_endText_20 rfl (lv_at hl 2 rfl) ?_
      exact sh_ri C hw hr hf dX12_endText_21
    · refine lv_aload_n C.1 C.2.1 dX12_endText_16 rfl (lv_at hl 0 rfl) ?_
      refine sh_Vv (As := []) (rest := []) C hw (kX12_closeReaders l ) yy_X12_closeReaders yv_X12_closeReaders ml_X12_334 hf tbX_0 rfl rfl rfl rfl (Nat.le_of_ble_eq_true rfl) (by decide) hl.1 dX12_endText_17 (fun S3 H locs hw hf => ?_)
      refine lv_iload_n C.1 C.2.1 dX12_endText_20 rfl (lv_at hl 2 rfl) ?_
      exact sh_ri C hw hr hf dX12_endText_21
  · refine lv_iconst (v := -1) C.1 C.2.1 dX12_endText_10 (by decide) ?_
    exact sh_ri C hw hr hf dX12_endText_11
def fX13_splits_98 (S : sh_St) (v1 : Int32) (t0 : Int32) : Option (Unit × sh_St) :=
    sh_g 3 240 (sh_t (S.1 20 (3 : Int32).toNatClampNeg) fun y6 =>
    sh_c (fX13_takesBlock S 1) fun r8 S7 =>
    sh_c (fX13_fills S7 r8 3 4) fun _ S9 =>
    sh_g 1080 1084 (if (S9.1 1 (1080 : Int32).toNatClampNeg) ≤ 0 then (sh_c (fX13_takesBlock S9 1) fun r12 S11 =>
    sh_c (fX13_fills S11 r12 0 3) fun _ S13 =>
    sh_c (fX13_empties S13 0) fun _ S15 =>
    sh_g 0 1084 (sh_t (sh_I S15 1 (0 : Int32).toNatClampNeg 2) fun S17 =>
    sh_g 1080 1084 (sh_t (sh_I S17 1 (1080 : Int32).toNatClampNeg 1) fun S18 =>
    sh_g 80 1084 (sh_t (sh_I S18 1 (80 : Int32).toNatClampNeg 2) fun S19 =>
    sh_c (fX13_laysRow S19 0 0 0 0 r12) fun _ S20 =>
    sh_c (fX13_laysRow S20 0 1 y6 t0 r8) fun _ S22 =>
    some ((), S22)))))
    else (sh_c (fX13_fills S9 v1 0 3) fun _ S24 =>
    sh_c (fX13_aboveOf S24 v1) fun r27 S26 =>
    sh_c (fX13_comesBehind_v2 S26 r27 v1 y6 t0 r8) fun _ S28 =>
    some ((), S28))))
set_option maxRecDepth 100000 in
set_option maxHeartbeats 4000000 in
theorem wX13_splits_98 {p : Program} {l : Launch} {e : Env} {s : State} {m : MethodId} {args : Array Value} {below : List Frame} {meth : Method} {c : Code} {G : sh_Ev} {A : Nat → Prop} {res : Unit × sh_St} (C : sh_Cx p s m args meth c cX13_splits 9 RX13 G A) (hr : meth.sig.returnType = none) : ∀ (S : sh_St) (v1 : Int32) (t0 : Int32), fX13_splits_98 S v1 t0 = some res → ∀ (H : Heap) (locs : List Loc) (ls : Array Slot), sh_Wx G tbM A s H locs S → lv_has ls 9 [(0, .ref (G.2.1 0)), (1, .int v1)] → W p l e (sh_rm 8) s m args below meth c H locs 0 0 (sh_Qv below args s G tbM A res) (F0 m 98 ls [.int t0]) := by
  intro S v1 t0 hf H locs ls hw hl
  rw [fX13_splits_98] at hf
  refine lv_istore (lv' := [(5, .int t0), (0, .ref (G.2.1 0)), (1, .int v1)]) C.1 C.2.1 dX13_splits_98 hl (by decide) rfl (fun ls hl => ?_)
  refine lv_aload_n C.1 C.2.1 dX13_splits_100 rfl (lv_at hl 1 rfl) ?_
  refine sh_getr C hw fl_X13_73 tbM_0 rfl dX13_splits_101 ?_
  refine lv_iconst (v := 3) C.1 C.2.1 dX13_splits_104 (by decide) ?_
  refine sh_iald C hw hf tbM_20 dX13_splits_105 (fun hf => ?_)
  refine sh_ni hf (fun y6 hf => ?_)
  refine lv_istore (lv' := [(6, .int y6), (5, .int t0), (0, .ref (G.2.1 0)), (1, .int v1)]) C.1 C.2.1 dX13_splits_106 hl (by decide) rfl (fun ls hl => ?_)
  refine lv_aload_n C.1 C.2.1 dX13_splits_108 rfl (lv_at hl 2 rfl) ?_
  refine lv_iconst (v := 1) C.1 C.2.1 dX13_splits_109 (by decide) ?_
  refine sh_Vi (As := [.int 1]) (rest := []) C hw (kX13_takesBlock l 1) yy_X13_takesBlock yv_X13_takesBlock ml_X13_204 hf tbM_0 rfl rfl rfl rfl (Nat.le_of_ble_eq_true rfl) (by decide) hl.1 dX13_splits_110 (fun r8 S7 H locs hw hf => ?_)
  refine lv_istore (lv' := [(7, .int r8), (6, .int y6), (5, .int t0), (0, .ref (G.2.1 0)), (1, .int v1)]) C.1 C.2.1 dX13_splits_113 hl (by decide) rfl (fun ls hl => ?_)
  refine lv_aload_n C.1 C.2.1 dX13_splits_115 rfl (lv_at hl 3 rfl) ?_
  refine lv_iload C.1 C.2.1 dX13_splits_116 (lv_at hl 0 rfl) ?_
  refine lv_iconst (v := 3) C.1 C.2.1 dX13_splits_118 (by decide) ?_
  refine lv_iconst (v := 4) C.1 C.2.1 dX13_splits_119 (by decide) ?_
  refine sh_Vv (As := [.int r8, .int 3, .int 4]) (rest := []) C hw (kX13_fills l r8 3 4) yy_X13_fills yv_X13_fills ml_X13_214 hf tbM_0 rfl rfl rfl rfl (Nat.le_of_ble_eq_true rfl) (by decide) hl.1 dX13_splits_120 (fun S9 H locs hw hf => ?_)
  refine lv_aload_n C.1 C.2.1 dX13_splits_123 rfl (lv_at hl 3 rfl) ?_
  refine sh_getr C hw fl_X13_7 tbM_0 rfl dX13_splits_124 ?_
  refine lv_sipush (v := 1080) C.1 C.2.1 dX13_splits_127 (by decide) ?_
  refine sh_iald C hw hf tbM_1 dX13_splits_130 (fun hf => ?_)
  refine sh_if_le (tgt := 158) C hf dX13_splits_131 (by decide) (fun hf => ?_) (fun hf => ?_)
  · refine lv_aload_n C.1 C.2.1 dX13_splits_158 rfl (lv_at hl 3 rfl) ?_
    refine lv_iconst (v := 1) C.1 C.2.1 dX13_splits_159 (by decide) ?_
    refine sh_Vi (As := [.int 1]) (rest := []) C hw (kX13_takesBlock l 1) yy_X13_takesBlock yv_X13_takesBlock ml_X13_204 hf tbM_0 rfl rfl rfl rfl (Nat.le_of_ble_eq_true rfl) (by decide) hl.1 dX13_splits_160 (fun r12 S11 H locs hw hf => ?_)
    refine lv_istore (lv' := [(8, .int r12), (7, .int r8), (6, .int y6), (5, .int t0), (0, .ref (G.2.1 0)), (1, .int v1)]) C.1 C.2.1 dX13_splits_163 hl (by decide) rfl (fun ls hl => ?_)
    refine lv_aload_n C.1 C.2.1 dX13_splits_165 rfl (lv_at hl 4 rfl) ?_
    refine lv_iload C.1 C.2.1 dX13_splits_166 (lv_at hl 0 rfl) ?_
    refine lv_iconst (v := 0) C.1 C.2.1 dX13_splits_168 (by decide) ?_
    refine lv_iconst (v := 3) C.1 C.2.1 dX13_splits_169 (by decide) ?_
    refine sh_Vv (As := [.int r12, .int 0, .int 3]) (rest := []) C hw (kX13_fills l r12 0 3) yy_X13_fills yv_X13_fills ml_X13_214 hf tbM_0 rfl rfl rfl rfl (Nat.le_of_ble_eq_true rfl) (by decide) hl.1 dX13_splits_170 (fun S13 H locs hw hf => ?_)
    refine lv_aload_n C.1 C.2.1 dX13_splits_173 rfl (lv_at hl 4 rfl) ?_
    refine lv_iconst (v := 0) C.1 C.2.1 dX13_splits_174 (by decide) ?_
    refine sh_Vv (As := [.int 0]) (rest := []) C hw (kX13_empties l 0) yy_X13_empties yv_X13_empties ml_X13_191 hf tbM_0 rfl rfl rfl rfl (Nat.le_of_ble_eq_true rfl) (by decide) hl.1 dX13_splits_175 (fun S15 H locs hw hf => ?_)
    refine lv_aload_n C.1 C.2.1 dX13_splits_178 rfl (lv_at hl 4 rfl) ?_
    refine sh_getr C hw fl_X13_7 tbM_0 rfl dX13_splits_179 ?_
    refine lv_iconst (v := 0) C.1 C.2.1 dX13_splits_182 (by decide) ?_
    refine lv_iconst (v := 2) C.1 C.2.1 dX13_splits_183 (by decide) ?_
    refine sh_iast C hw hf tbM_1 dX13_splits_184 (fun S17 H locs hw hf => ?_)
    refine lv_aload_n C.1 C.2.1 dX13_splits_185 rfl (lv_at hl 4 rfl) ?_
    refine sh_getr C hw fl_X13_7 tbM_0 rfl dX13_splits_186 ?_
    refine lv_sipush (v := 1080) C.1 C.2.1 dX13_splits_189 (by decide) ?_
    refine lv_iconst (v := 1) C.1 C.2.1 dX13_splits_192 (by decide) ?_
    refine sh_iast C hw hf tbM_1 dX13_splits_193 (fun S18 H locs hw hf => ?_)
    refine lv_aload_n C.1 C.2.1 dX13_splits_194 rfl (lv_at hl 4 rfl) ?_
    refine sh_getr C hw fl_X13_7 tbM_0 rfl dX13_splits_195 ?_
    refine lv_bipush (v := 80) C.1 C.2.1 dX13_splits_198 (by decide) ?_
    refine lv_iconst (v := 2) C.1 C.2.1 dX13_splits_200 (by decide) ?_
    refine sh_iast C hw hf tbM_1 dX13_splits_201 (fun S19 H locs hw hf => ?_)
    refine lv_aload_n C.1 C.2.1 dX13_splits_202 rfl (lv_at hl 4 rfl) ?_
    refine lv_iconst (v := 0) C.1 C.2.1 dX13_splits_203 (by decide) ?_
    refine lv_iconst (v := 0) C.1 C.2.1 dX13_splits_204 (by decide) ?_
    refine lv_iconst (v := 0) C.1 C.2.1 dX13_splits_205 (by decide) ?_
    refine lv_iconst (v := 0) C.1 C.2.1 dX13_splits_206 (by decide) ?_
    refine lv_iload C.1 C.2.1 dX13_splits_207 (lv_at hl 0 rfl) ?_
    refine sh_Vv (As := [.int 0, .int 0, .int 0, .int 0, .int r12]) (rest := []) C hw (kX13_laysRow l 0 0 0 0 r12) yy_X13_laysRow yv_X13_laysRow ml_X13_184 hf tbM_0 rfl rfl rfl rfl (Nat.le_of_ble_eq_true rfl) (by decide) hl.1 dX13_splits_209 (fun S20 H locs hw hf => ?_)
    refine lv_aload_n C.1 C.2.1 dX13_splits_212 rfl (lv_at hl 4 rfl) ?_
    refine lv_iconst (v := 0) C.1 C.2.1 dX13_splits_213 (by decide) ?_
    refine lv_iconst (v := 1) C.1 C.2.1 dX13_splits_214 (by decide) ?_
    refine lv_iload C.1 C.2.1 dX13_splits_215 (lv_at hl 2 rfl) ?_
    refine lv_iload C.1 C.2.1 dX13_splits_217 (lv_at hl 3 rfl) ?_
    refine lv_iload C.1 C.2.1 dX13_splits_219 (lv_at hl 1 rfl) ?_
    refine sh_Vv (As := [.int 0, .int 1, .int y6, .int t0, .int r8]) (rest := []) C hw (kX13_laysRow l 0 1 y6 t0 r8) yy_X13_laysRow yv_X13_laysRow ml_X13_184 hf tbM_0 rfl rfl rfl rfl (Nat.le_of_ble_eq_true rfl) (by decide) hl.1 dX13_splits_221 (fun S22 H locs hw hf => ?_)
    exact sh_rv C hw hr hf dX13_splits_224
  · refine lv_aload_n C.1 C.2.1 dX13_splits_134 rfl (lv_at hl 3 rfl) ?_
    refine lv_iload_n C.1 C.2.1 dX13_splits_135 rfl (lv_at hl 4 rfl) ?_
    refine lv_iconst (v := 0) C.1 C.2.1 dX13_splits_136 (by decide) ?_
    refine lv_iconst (v := 3) C.1 C.2.1 dX13_splits_137 (by decide) ?_
    refine sh_Vv (As := [.int v1, .int 0, .int 3]) (rest := []) C hw (kX13_fills l v1 0 3) yy_X13_fills yv_X13_fills ml_X13_214 hf tbM_0 rfl rfl rfl rfl (Nat.le_of_ble_eq_true rfl) (by decide) hl.1 dX13_splits_138 (fun S24 H locs hw hf => ?_)
    refine lv_aload_n C.1 C.2.1 dX13_splits_141 rfl (lv_at hl 3 rfl) ?_
    refine lv_aload_n C.1 C.2.1 dX13_splits_142 rfl (lv_at hl 3 rfl) ?_
    refine lv_iload_n C.1 C.2.1 dX13_splits_143 rfl (lv_at hl 4 rfl) ?_
    refine sh_Vi (As := [.int v1]) (rest := [.ref (G.2.1 0)]) C hw (kX13_aboveOf l v1) yy_X13_aboveOf yv_X13_aboveOf ml_X13_174 hf tbM_0 rfl rfl rfl rfl (Nat.le_of_ble_eq_true rfl) (by decide) hl.1 dX13_splits_144 (fun r27 S26 H locs hw hf => ?_)
    refine lv_iload_n C.1 C.2.1 dX13_splits_147 rfl (lv_at hl 4 rfl) ?_
    refine lv_iload C.1 C.2.1 dX13_splits_148 (lv_at hl 1 rfl) ?_
    refine lv_iload C.1 C.2.1 dX13_splits_150 (lv_at hl 2 rfl) ?_
    refine lv_iload C.1 C.2.1 dX13_splits_152 (lv_at hl 0 rfl) ?_
    refine sh_Vv (As := [.int r27, .int v1, .int y6, .int t0, .int r8]) (rest := []) C hw (kX13_comesBehind_v2 l r27 v1 y6 t0 r8) yy_X13_comesBehind yv_X13_comesBehind ml_X13_207 hf tbM_0 rfl rfl rfl rfl (Nat.le_of_ble_eq_true rfl) (by decide) hl.1 dX13_splits_154 (fun S28 H locs hw hf => ?_)
    exact sh_rv C hw hr hf dX13_splits_157
def fX13_splits_8 : Nat → sh_St → Int32 → Int64 → Int32 → Int32 → Option (Unit × sh_St)
  | 0, _, _, _, _, _ => none
  | n + 1, S, v1, v2, v4, v5 =>
    if 6 ≤ v5 then (sh_c (fX13_hashOf S v2) fun r3 S2 =>
    sh_c (fX13_sorts S2 v2 v4 r3) fun _ S4 =>
    sh_g 2 240 (sh_g 3 240 (if (S4.1 20 (2 : Int32).toNatClampNeg) = (S4.1 20 (3 : Int32).toNatClampNeg) then (fX13_splits_98 S4 v1 1)
    else (fX13_splits_98 S4 v1 0))))
    else (sh_c (fX13_slotAt S v1 v5) fun r31 S30 =>
    sh_g r31 240 (sh_c (fX13_slotAt S30 v1 v5) fun r33 S32 =>
    sh_g (840 + r33) 1084 (sh_c (fX13_slotAt S32 v1 v5) fun r35 S34 =>
    sh_g r35 240 (sh_c (fX13_hashOf S34 (S34.2 2 r35.toNatClampNeg)) fun r37 S36 =>
    sh_c (fX13_sorts S36 (S30.2 2 r31.toNatClampNeg) (S32.1 1 (840 + r33).toNatClampNeg) r37) fun _ S38 =>
    sh_t (v5 + 1) fun y40 =>
    (fX13_splits_8 n) S38 v1 v2 v4 y40))))
set_option maxRecDepth 100000 in
set_option maxHeartbeats 4000000 in
theorem wX13_splits_8 {p : Program} {l : Launch} {e : Env} {s : State} {m : MethodId} {args : Array Value} {below : List Frame} {meth : Method} {c : Code} {G : sh_Ev} {A : Nat → Prop} {res : Unit × sh_St} (C : sh_Cx p s m args meth c cX13_splits 9 RX13 G A) (hr : meth.sig.returnType = none) : ∀ (n : Nat) (S : sh_St) (v1 : Int32) (v2 : Int64) (v4 : Int32) (v5 : Int32), fX13_splits_8 n S v1 v2 v4 v5 = some res → ∀ (H : Heap) (locs : List Loc) (ls : Array Slot), sh_Wx G tbM A s H locs S → lv_has ls 9 [(0, .ref (G.2.1 0)), (1, .int v1), (2, .long v2), (4, .int v4), (5, .int v5)] → W p l e (sh_rm 8) s m args below meth c H locs 0 0 (sh_Qv below args s G tbM A res) (F0 m 8 ls []) := by
  intro n
  induction n with
  | zero => intro S v1 v2 v4 v5 hf; exact nomatch (show (none : Option (Unit × sh_St)) = some res from hf)
  | succ n ih =>
    intro S v1 v2 v4 v5 hf H locs ls hw hl
    have hr8 := ih
    rw [fX13_splits_8] at hf
    refine lv_iload C.1 C.2.1 dX13_splits_8 (lv_at hl 4 rfl) ?_
    refine lv_bipush (v := 6) C.1 C.2.1 dX13_splits_10 (by decide) ?_
    refine sh_icmp_ge (tgt := 66) C hf dX13_splits_12 (by decide) (fun hf => ?_) (fun hf => ?_)
    · refine lv_aload_n C.1 C.2.1 dX13_splits_66 rfl (lv_at hl 0 rfl) ?_
      refine lv_lload_n C.1 C.2.1 dX13_splits_67 rfl (lv_at hl 2 rfl) ?_
      refine lv_iload C.1 C.2.1 dX13_splits_68 (lv_at hl 3 rfl) ?_
      refine lv_aload_n C.1 C.2.1 dX13_splits_70 rfl (lv_at hl 0 rfl) ?_
      refine lv_lload_n C.1 C.2.1 dX13_splits_71 rfl (lv_at hl 2 rfl) ?_
      refine sh_Vi (As := [.long v2]) (rest := [.int v4, .long v2, .ref (G.2.1 0)]) C hw (kX13_hashOf l v2) yy_X13_hashOf yv_X13_hashOf ml_X13_164 hf tbM_0 rfl rfl rfl rfl (Nat.le_of_ble_eq_true rfl) (by decide) hl.1 dX13_splits_72 (fun r3 S2 H locs hw hf => ?_)
      refine sh_Vv (As := [.long v2, .int v4, .int r3]) (rest := []) C hw (kX13_sorts l v2 v4 r3) yy_X13_sorts yv_X13_sorts ml_X13_210 hf tbM_0 rfl rfl rfl rfl (Nat.le_of_ble_eq_true rfl) (by decide) hl.1 dX13_splits_75 (fun S4 H locs hw hf => ?_)
      refine lv_aload_n C.1 C.2.1 dX13_splits_78 rfl (lv_at hl 0 rfl) ?_
      refine sh_getr C hw fl_X13_73 tbM_0 rfl dX13_splits_79 ?_
      refine lv_iconst (v := 2) C.1 C.2.1 dX13_splits_82 (by decide) ?_
      refine sh_iald C hw hf tbM_20 dX13_splits_83 (fun hf => ?_)
      refine lv_aload_n C.1 C.2.1 dX13_splits_84 rfl (lv_at hl 0 rfl) ?_
      refine sh_getr C hw fl_X13_73 tbM_0 rfl dX13_splits_85 ?_
      refine lv_iconst (v := 3) C.1 C.2.1 dX13_splits_88 (by decide) ?_
      refine sh_iald C hw hf tbM_20 dX13_splits_89 (fun hf => ?_)
      refine sh_icmp_ne (tgt := 97) C hf dX13_splits_90 (by decide) (fun hf => ?_) (fun hf => ?_)
      · refine lv_iconst (v := 0) C.1 C.2.1 dX13_splits_97 (by decide) ?_
        exact wX13_splits_98 C hr S4 v1 0 hf _ _ _ hw (lv_sub hl [0, 1] rfl)
      · refine lv_iconst (v := 1) C.1 C.2.1 dX13_splits_93 (by decide) ?_
        refine lv_goto (tgt := 98) C.1 C.2.1 dX13_splits_94 (by decide) ?_
        exact wX13_splits_98 C hr S4 v1 1 hf _ _ _ hw (lv_sub hl [0, 1] rfl)
    · refine lv_aload_n C.1 C.2.1 dX13_splits_15 rfl (lv_at hl 0 rfl) ?_
      refine lv_aload_n C.1 C.2.1 dX13_splits_16 rfl (lv_at hl 0 rfl) ?_
      refine sh_getr C hw fl_X13_13 tbM_0 rfl dX13_splits_17 ?_
      refine lv_iload_n C.1 C.2.1 dX13_splits_20 rfl (lv_at hl 1 rfl) ?_
      refine lv_iload C.1 C.2.1 dX13_splits_21 (lv_at hl 4 rfl) ?_
      refine sh_Si (As := [.int v1, .int v5]) (rest := [.ref (G.2.1 2), .ref (G.2.1 0)]) C hw (kX13_slotAt l v1 v5) yy_X13_slotAt ys_X13_slotAt ml_X13_82 rfl hf rfl rfl rfl (Nat.le_of_ble_eq_true rfl) (by decide) hl.1 dX13_splits_23 (fun r31 S30 H locs hw hf => ?_)
      refine sh_lald C hw hf tbM_2 dX13_splits_26 (fun hf => ?_)
      refine lv_aload_n C.1 C.2.1 dX13_splits_27 rfl (lv_at hl 0 rfl) ?_
      refine sh_getr C hw fl_X13_7 tbM_0 rfl dX13_splits_28 ?_
      refine lv_sipush (v := 840) C.1 C.2.1 dX13_splits_31 (by decide) ?_
      refine lv_iload_n C.1 C.2.1 dX13_splits_34 rfl (lv_at hl 1 rfl) ?_
      refine lv_iload C.1 C.2.1 dX13_splits_35 (lv_at hl 4 rfl) ?_
      refine sh_Si (As := [.int v1, .int v5]) (rest := [.int 840, .ref (G.2.1 1), .long (S30.2 2 r31.toNatClampNeg), .ref (G.2.1 0)]) C hw (kX13_slotAt l v1 v5) yy_X13_slotAt ys_X13_slotAt ml_X13_82 rfl hf rfl rfl rfl (Nat.le_of_ble_eq_true rfl) (by decide) hl.1 dX13_splits_37 (fun r33 S32 H locs hw hf => ?_)
      refine lv_iadd C.1 C.2.1 dX13_splits_40 ?_
      refine sh_iald C hw hf tbM_1 dX13_splits_41 (fun hf => ?_)
      refine lv_aload_n C.1 C.2.1 dX13_splits_42 rfl (lv_at hl 0 rfl) ?_
      refine lv_aload_n C.1 C.2.1 dX13_splits_43 rfl (lv_at hl 0 rfl) ?_
      refine sh_getr C hw fl_X13_13 tbM_0 rfl dX13_splits_44 ?_
      refine lv_iload_n C.1 C.2.1 dX13_splits_47 rfl (lv_at hl 1 rfl) ?_
      refine lv_iload C.1 C.2.1 dX13_splits_48 (lv_at hl 4 rfl) ?_
      refine sh_Si (As := [.int v1, .int v5]) (rest := [.ref (G.2.1 2), .ref (G.2.1 0), .int (S32.1 1 (840 + r33).toNatClampNeg), .long (S30.2 2 r31.toNatClampNeg), .ref (G.2.1 0)]) C hw (kX13_slotAt l v1 v5) yy_X13_slotAt ys_X13_slotAt ml_X13_82 rfl hf rfl rfl rfl (Nat.le_of_ble_eq_true rfl) (by decide) hl.1 dX13_splits_50 (fun r35 S34 H locs hw hf => ?_)
      refine sh_lald C hw hf tbM_2 dX13_splits_53 (fun hf => ?_)
      refine sh_Vi (As := [.long (S34.2 2 r35.toNatClampNeg)]) (rest := [.int (S32.1 1 (840 + r33).toNatClampNeg), .long (S30.2 2 r31.toNatClampNeg), .ref (G.2.1 0)]) C hw (kX13_hashOf l (S34.2 2 r35.toNatClampNeg)) yy_X13_hashOf yv_X13_hashOf ml_X13_164 hf tbM_0 rfl rfl rfl rfl (Nat.le_of_ble_eq_true rfl) (by decide) hl.1 dX13_splits_54 (fun r37 S36 H locs hw hf => ?_)
      refine sh_Vv (As := [.long (S30.2 2 r31.toNatClampNeg), .int (S32.1 1 (840 + r33).toNatClampNeg), .int r37]) (rest := []) C hw (kX13_sorts l (S30.2 2 r31.toNatClampNeg) (S32.1 1 (840 + r33).toNatClampNeg) r37) yy_X13_sorts yv_X13_sorts ml_X13_210 hf tbM_0 rfl rfl rfl rfl (Nat.le_of_ble_eq_true rfl) (by decide) hl.1 dX13_splits_57 (fun S38 H locs hw hf => ?_)
      obtain ⟨y40, ey40, hf⟩ := sh_nm hf
      refine lv_iinc (v := y40) (lv' := [(5, .int y40), (0, .ref (G.2.1 0)), (1, .int v1), (2, .long v2), (4, .int v4)]) C.1 C.2.1 dX13_splits_60 hl (k := 4) rfl (by rw [← ey40]; rfl) (by decide) rfl (fun ls hl => ?_)
      refine lv_goto (tgt := 8) C.1 C.2.1 dX13_splits_63 (by decide) ?_
      exact hr8 S38 v1 v2 v4 y40 hf _ _ _ hw (lv_sub hl [1, 2, 3, 4, 0] rfl)
def fX13_splits (S : sh_St) (v1 : Int32) (v2 : Int64) (v4 : Int32) : Option (Unit × sh_St) :=
    sh_t (sh_I S 0 36 0) fun S1 =>
    fX13_splits_8 sh_FU S1 v1 v2 v4 0
set_option maxRecDepth 100000 in
set_option maxHeartbeats 4000000 in
theorem kX13_splits (l : Launch) (v1 : Int32) (v2 : Int64) (v4 : Int32) : sh_Mv l yX13_splits cX13_splits 9 8 tbM (fun G => [.ref (G.2.1 0), .int v1, .long v2, .int v4]) (fun S => fX13_splits S v1 v2 v4) := by
  refine sh_mkv (by decide) (fun G => Nat.le_of_ble_eq_true rfl) ?_
  intro p e s m args below meth c G A S res ls hf C hr hw hl
  have C : sh_Cx p s m args meth c cX13_splits 9 RX13 G A := C
  have hl : lv_has ls 9 [(0, .ref (G.2.1 0)), (1, .int v1), (2, .long v2), (4, .int v4)] := hl
  replace hf : fX13_splits S v1 v2 v4 = some res := hf
  rw [fX13_splits] at hf
  refine lv_aload_n C.1 C.2.1 dX13_splits_0 rfl (lv_at hl 0 rfl) ?_
  refine lv_iconst (v := 0) C.1 C.2.1 dX13_splits_1 (by decide) ?_
  refine sh_puti C hw fl_X13_188 fp_11_36 hf tbM_0 rfl dX13_splits_2 (fun S1 H locs hw hf => ?_)
  refine lv_iconst (v := 0) C.1 C.2.1 dX13_splits_5 (by decide) ?_
  refine lv_istore (lv' := [(5, .int 0), (0, .ref (G.2.1 0)), (1, .int v1), (2, .long v2), (4, .int v4)]) C.1 C.2.1 dX13_splits_6 hl (by decide) rfl (fun ls hl => ?_)
  exact wX13_splits_8 C hr _ S1 v1 v2 v4 0 hf _ _ _ hw (lv_sub hl [1, 2, 3, 4, 0] rfl)
def fX13_puts_36 : Nat → sh_St → Int64 → Int32 → Int32 → Option (Int32 × sh_St)
  | 0, _, _, _, _ => none
  | n + 1, S, v1, v3, v4 =>
    if (S.1 0 29) ≤ v4 then (sh_g (S.1 0 28) 40 (sh_c (fX13_splits S (S.1 15 (S.1 0 28).toNatClampNeg) v1 v3) fun _ S10 =>
    some (0, S10)))
    else (sh_g ((S.1 0 28) + v4) 40 (sh_t (S.1 15 ((S.1 0 28) + v4).toNatClampNeg) fun y12 =>
    sh_c (fX13_emptySlot S y12) fun r14 S13 =>
    if r14 = (-1) then (sh_t (v4 + 1) fun y19 =>
    (fX13_puts_36 n) S13 v1 v3 y19)
    else (sh_c (fX13_emptySlot S13 y12) fun r16 S15 =>
    sh_c (fX13_lays S15 y12 r16 v1 v3) fun _ S17 =>
    some (0, S17))))
set_option maxRecDepth 100000 in
set_option maxHeartbeats 4000000 in
theorem wX13_puts_36 {p : Program} {l : Launch} {e : Env} {s : State} {m : MethodId} {args : Array Value} {below : List Frame} {meth : Method} {c : Code} {G : sh_Ev} {A : Nat → Prop} {res : Int32 × sh_St} (C : sh_Cx p s m args meth c cX13_puts 6 RX13 G A) (hr : meth.sig.returnType = some .int) : ∀ (n : Nat) (S : sh_St) (v1 : Int64) (v3 : Int32) (v4 : Int32), fX13_puts_36 n S v1 v3 v4 = some res → ∀ (H : Heap) (locs : List Loc) (ls : Array Slot), sh_Wx G tbM A s H locs S → lv_has ls 6 [(0, .ref (G.2.1 0)), (1, .long v1), (3, .int v3), (4, .int v4)] → W p l e (sh_rm 9) s m args below meth c H locs 0 0 (sh_Qi below args s G tbM A res) (F0 m 36 ls []) := by
  intro n
  induction n with
  | zero => intro S v1 v3 v4 hf; exact nomatch (show (none : Option (Int32 × sh_St)) = some res from hf)
  | succ n ih =>
    intro S v1 v3 v4 hf H locs ls hw hl
    have hr36 := ih
    rw [fX13_puts_36] at hf
    refine lv_iload C.1 C.2.1 dX13_puts_36 (lv_at hl 3 rfl) ?_
    refine lv_aload_n C.1 C.2.1 dX13_puts_38 rfl (lv_at hl 0 rfl) ?_
    refine sh_geti C hw fl_X13_140 tbM_0 rfl dX13_puts_39 ?_
    refine sh_icmp_ge (tgt := 94) C hf dX13_puts_42 (by decide) (fun hf => ?_) (fun hf => ?_)
    · refine lv_aload_n C.1 C.2.1 dX13_puts_94 rfl (lv_at hl 0 rfl) ?_
      refine lv_aload_n C.1 C.2.1 dX13_puts_95 rfl (lv_at hl 0 rfl) ?_
      refine sh_getr C hw fl_X13_58 tbM_0 rfl dX13_puts_96 ?_
      refine lv_aload_n C.1 C.2.1 dX13_puts_99 rfl (lv_at hl 0 rfl) ?_
      refine sh_geti C hw fl_X13_137 tbM_0 rfl dX13_puts_100 ?_
      refine sh_iald C hw hf tbM_15 dX13_puts_103 (fun hf => ?_)
      refine lv_lload_n C.1 C.2.1 dX13_puts_104 rfl (lv_at hl 1 rfl) ?_
      refine lv_iload_n C.1 C.2.1 dX13_puts_105 rfl (lv_at hl 2 rfl) ?_
      refine sh_Vv (As := [.int (S.1 15 (S.1 0 28).toNatClampNeg), .long v1, .int v3]) (rest := []) C hw (kX13_splits l (S.1 15 (S.1 0 28).toNatClampNeg) v1 v3) yy_X13_splits yv_X13_splits ml_X13_222 hf tbM_0 rfl rfl rfl rfl (Nat.le_of_ble_eq_true rfl) (by decide) hl.1 dX13_puts_106 (fun S10 H locs hw hf => ?_)
      refine lv_iconst (v := 0) C.1 C.2.1 dX13_puts_109 (by decide) ?_
      exact sh_ri C hw hr hf dX13_puts_110
    · refine lv_aload_n C.1 C.2.1 dX13_puts_45 rfl (lv_at hl 0 rfl) ?_
      refine sh_getr C hw fl_X13_58 tbM_0 rfl dX13_puts_46 ?_
      refine lv_aload_n C.1 C.2.1 dX13_puts_49 rfl (lv_at hl 0 rfl) ?_
      refine sh_geti C hw fl_X13_137 tbM_0 rfl dX13_puts_50 ?_
      refine lv_iload C.1 C.2.1 dX13_puts_53 (lv_at hl 3 rfl) ?_
      refine lv_iadd C.1 C.2.1 dX13_puts_55 ?_
      refine sh_iald C hw hf tbM_15 dX13_puts_56 (fun hf => ?_)
      refine sh_ni hf (fun y12 hf => ?_)
      refine lv_istore (lv' := [(5, .int y12), (0, .ref (G.2.1 0)), (1, .long v1), (3, .int v3), (4, .int v4)]) C.1 C.2.1 dX13_puts_57 hl (by decide) rfl (fun ls hl => ?_)
      refine lv_aload_n C.1 C.2.1 dX13_puts_59 rfl (lv_at hl 1 rfl) ?_
      refine lv_iload C.1 C.2.1 dX13_puts_60 (lv_at hl 0 rfl) ?_
      refine sh_Vi (As := [.int y12]) (rest := []) C hw (kX13_emptySlot l y12) yy_X13_emptySlot yv_X13_emptySlot ml_X13_171 hf tbM_0 rfl rfl rfl rfl (Nat.le_of_ble_eq_true rfl) (by decide) hl.1 dX13_puts_62 (fun r14 S13 H locs hw hf => ?_)
      refine lv_iconst (v := -1) C.1 C.2.1 dX13_puts_65 (by decide) ?_
      refine sh_icmp_ne (tgt := 72) C hf dX13_puts_66 (by decide) (fun hf => ?_) (fun hf => ?_)
      · refine lv_aload_n C.1 C.2.1 dX13_puts_72 rfl (lv_at hl 1 rfl) ?_
        refine lv_iload C.1 C.2.1 dX13_puts_73 (lv_at hl 0 rfl) ?_
        refine lv_aload_n C.1 C.2.1 dX13_puts_75 rfl (lv_at hl 1 rfl) ?_
        refine lv_iload C.1 C.2.1 dX13_puts_76 (lv_at hl 0 rfl) ?_
        refine sh_Vi (As := [.int y12]) (rest := [.int y12, .ref (G.2.1 0)]) C hw (kX13_emptySlot l y12) yy_X13_emptySlot yv_X13_emptySlot ml_X13_171 hf tbM_0 rfl rfl rfl rfl (Nat.le_of_ble_eq_true rfl) (by decide) hl.1 dX13_puts_78 (fun r16 S15 H locs hw hf => ?_)
        refine lv_lload_n C.1 C.2.1 dX13_puts_81 rfl (lv_at hl 2 rfl) ?_
        refine lv_iload_n C.1 C.2.1 dX13_puts_82 rfl (lv_at hl 3 rfl) ?_
        refine sh_Vv (As := [.int y12, .int r16, .long v1, .int v3]) (rest := []) C hw (kX13_lays l y12 r16 v1 v3) yy_X13_lays yv_X13_lays ml_X13_180 hf tbM_0 rfl rfl rfl rfl (Nat.le_of_ble_eq_true rfl) (by decide) hl.1 dX13_puts_83 (fun S17 H locs hw hf => ?_)
        refine lv_iconst (v := 0) C.1 C.2.1 dX13_puts_86 (by decide) ?_
        exact sh_ri C hw hr hf dX13_puts_87
      · refine lv_goto (tgt := 88) C.1 C.2.1 dX13_puts_69 (by decide) ?_
        obtain ⟨y19, ey19, hf⟩ := sh_nm hf
        refine lv_iinc (v := y19) (lv' := [(4, .int y19), (5, .int y12), (0, .ref (G.2.1 0)), (1, .long v1), (3, .int v3)]) C.1 C.2.1 dX13_puts_88 hl (k := 4) rfl (by rw [← ey19]; rfl) (by decide) rfl (fun ls hl => ?_)
        refine lv_goto (tgt := 36) C.1 C.2.1 dX13_puts_91 (by decide) ?_
        exact hr36 S13 v1 v3 y19 hf _ _ _ hw (lv_sub hl [2, 3, 4, 0] rfl)
def fX13_puts (S : sh_St) (v1 : Int64) (v3 : Int32) : Option (Int32 × sh_St) :=
    sh_c (fX13_isAnyTorn S ) fun r2 S1 =>
    if r2 = 0 then (sh_c (fX13_hashOf S1 v1) fun r4 S3 =>
    sh_c (fX13_goes S3 r4) fun _ S5 =>
    sh_c (fX13_needs S5 ) fun r8 S7 =>
    if r8 = (-1) then (some (3, S7))
    else (sh_t (sh_I S7 0 37 0) fun S9 =>
    fX13_puts_36 sh_FU S9 v1 v3 0))
    else (some (2, S1))
set_option maxRecDepth 100000 in
set_option maxHeartbeats 4000000 in
theorem kX13_puts (l : Launch) (v1 : Int64) (v3 : Int32) : sh_Mi l yX13_puts cX13_puts 6 .int 9 tbM (fun G => [.ref (G.2.1 0), .long v1, .int v3]) (fun S => fX13_puts S v1 v3) := by
  refine sh_mki (by decide) (fun G => Nat.le_of_ble_eq_true rfl) ?_
  intro p e s m args below meth c G A S res ls hf C hr hw hl
  have C : sh_Cx p s m args meth c cX13_puts 6 RX13 G A := C
  have hl : lv_has ls 6 [(0, .ref (G.2.1 0)), (1, .long v1), (3, .int v3)] := hl
  replace hf : fX13_puts S v1 v3 = some res := hf
  rw [fX13_puts] at hf
  refine lv_aload_n C.1 C.2.1 dX13_puts_0 rfl (lv_at hl 0 rfl) ?_
  refine sh_Vi (As := []) (rest := []) C hw (kX13_isAnyTorn l ) yy_X13_isAnyTorn yv_X13_isAnyTorn ml_X13_156 hf tbM_0 rfl rfl rfl rfl (Nat.le_of_ble_eq_true rfl) (by decide) hl.1 dX13_puts_1 (fun r2 S1 H locs hw hf => ?_)
  refine sh_if_eq (tgt := 9) C hf dX13_puts_4 (by decide) (fun hf => ?_) (fun hf => ?_)
  · refine lv_aload_n C.1 C.2.1 dX13_puts_9 rfl (lv_at hl 0 rfl) ?_
    refine lv_aload_n C.1 C.2.1 dX13_puts_10 rfl (lv_at hl 0 rfl) ?_
    refine lv_lload_n C.1 C.2.1 dX13_puts_11 rfl (lv_at hl 1 rfl) ?_
    refine sh_Vi (As := [.long v1]) (rest := [.ref (G.2.1 0)]) C hw (kX13_hashOf l v1) yy_X13_hashOf yv_X13_hashOf ml_X13_164 hf tbM_0 rfl rfl rfl rfl (Nat.le_of_ble_eq_true rfl) (by decide) hl.1 dX13_puts_12 (fun r4 S3 H locs hw hf => ?_)
    refine sh_Vv (As := [.int r4]) (rest := []) C hw (kX13_goes l r4) yy_X13_goes yv_X13_goes ml_X13_167 hf tbM_0 rfl rfl rfl rfl (Nat.le_of_ble_eq_true rfl) (by decide) hl.1 dX13_puts_15 (fun S5 H locs hw hf => ?_)
    refine lv_aload_n C.1 C.2.1 dX13_puts_18 rfl (lv_at hl 0 rfl) ?_
    refine sh_Vi (As := []) (rest := []) C hw (kX13_needs l ) yy_X13_needs yv_X13_needs ml_X13_218 hf tbM_0 rfl rfl rfl rfl (Nat.le_of_ble_eq_true rfl) (by decide) hl.1 dX13_puts_19 (fun r8 S7 H locs hw hf => ?_)
    refine lv_iconst (v := -1) C.1 C.2.1 dX13_puts_22 (by decide) ?_
    refine sh_icmp_ne (tgt := 28) C hf dX13_puts_23 (by decide) (fun hf => ?_) (fun hf => ?_)
    · refine lv_aload_n C.1 C.2.1 dX13_puts_28 rfl (lv_at hl 0 rfl) ?_
      refine lv_iconst (v := 0) C.1 C.2.1 dX13_puts_29 (by decide) ?_
      refine sh_puti C hw fl_X13_177 fp_11_37 hf tbM_0 rfl dX13_puts_30 (fun S9 H locs hw hf => ?_)
      refine lv_iconst (v := 0) C.1 C.2.1 dX13_puts_33 (by decide) ?_
      refine lv_istore (lv' := [(4, .int 0), (0, .ref (G.2.1 0)), (1, .long v1), (3, .int v3)]) C.1 C.2.1 dX13_puts_34 hl (by decide) rfl (fun ls hl => ?_)
      exact wX13_puts_36 C hr _ S9 v1 v3 0 hf _ _ _ hw (lv_sub hl [1, 2, 3, 0] rfl)
    · refine lv_iconst (v := 3) C.1 C.2.1 dX13_puts_26 (by decide) ?_
      exact sh_ri C hw hr hf dX13_puts_27
  · refine lv_iconst (v := 2) C.1 C.2.1 dX13_puts_7 (by decide) ?_
    exact sh_ri C hw hr hf dX13_puts_8
def fX13_put0 (S : sh_St) (v1 : Int64) (v3 : Int32) : Option (Int32 × sh_St) :=
    sh_t (sh_I S 0 37 0) fun S1 =>
    sh_c (fX13_seeks S1 v1) fun r3 S2 =>
    if r3 = 0 then (sh_c (fX13_puts S2 v1 v3) fun r5 S4 =>
    some (r5, S4))
    else (some (1, S2))
set_option maxRecDepth 100000 in
set_option maxHeartbeats 4000000 in
theorem kX13_put0 (l : Launch) (v1 : Int64) (v3 : Int32) : sh_Mi l yX13_put0 cX13_put0 4 .int 10 tbM (fun G => [.ref (G.2.1 0), .long v1, .int v3]) (fun S => fX13_put0 S v1 v3) := by
  refine sh_mki (by decide) (fun G => Nat.le_of_ble_eq_true rfl) ?_
  intro p e s m args below meth c G A S res ls hf C hr hw hl
  have C : sh_Cx p s m args meth c cX13_put0 4 RX13 G A := C
  have hl : lv_has ls 4 [(0, .ref (G.2.1 0)), (1, .long v1), (3, .int v3)] := hl
  replace hf : fX13_put0 S v1 v3 = some res := hf
  rw [fX13_put0] at hf
  refine lv_aload_n C.1 C.2.1 dX13_put0_0 rfl (lv_at hl 0 rfl) ?_
  refine lv_iconst (v := 0) C.1 C.2.1 dX13_put0_1 (by decide) ?_
  refine sh_puti C hw fl_X13_177 fp_11_37 hf tbM_0 rfl dX13_put0_2 (fun S1 H locs hw hf => ?_)
  refine lv_aload_n C.1 C.2.1 dX13_put0_5 rfl (lv_at hl 0 rfl) ?_
  refine lv_lload_n C.1 C.2.1 dX13_put0_6 rfl (lv_at hl 1 rfl) ?_
  refine sh_Vi (As := [.long v1]) (rest := []) C hw (kX13_seeks l v1) yy_X13_seeks yv_X13_seeks ml_X13_226 hf tbM_0 rfl rfl rfl rfl (Nat.le_of_ble_eq_true rfl) (by decide) hl.1 dX13_put0_7 (fun r3 S2 H locs hw hf => ?_)
  refine sh_if_eq (tgt := 17) C hf dX13_put0_10 (by decide) (fun hf => ?_) (fun hf => ?_)
  · refine lv_aload_n C.1 C.2.1 dX13_put0_17 rfl (lv_at hl 0 rfl) ?_
    refine lv_lload_n C.1 C.2.1 dX13_put0_18 rfl (lv_at hl 1 rfl) ?_
    refine lv_iload_n C.1 C.2.1 dX13_put0_19 rfl (lv_at hl 2 rfl) ?_
    refine sh_Vi (As := [.long v1, .int v3]) (rest := []) C hw (kX13_puts l v1 v3) yy_X13_puts yv_X13_puts ml_X13_230 hf tbM_0 rfl rfl rfl rfl (Nat.le_of_ble_eq_true rfl) (by decide) hl.1 dX13_put0_20 (fun r5 S4 H locs hw hf => ?_)
    exact sh_ri C hw hr hf dX13_put0_23
  · refine lv_iconst (v := 1) C.1 C.2.1 dX13_put0_13 (by decide) ?_
    refine lv_goto (tgt := 23) C.1 C.2.1 dX13_put0_14 (by decide) ?_
    exact sh_ri C hw hr hf dX13_put0_23
def fX13_turn0_50 (S : sh_St) (v3 : Int64) (v5 : Int32) (v6 : Int32) : Option (Int32 × sh_St) :=
    sh_c (fX13_slotAt S v5 v6) fun r8 S7 =>
    sh_g (840 + r8) 1084 (sh_t (S7.1 1 (840 + r8).toNatClampNeg) fun y9 =>
    sh_c (fX13_slotAt S7 v5 v6) fun r11 S10 =>
    sh_g r11 240 (sh_t (S10.2 2 r11.toNatClampNeg) fun y12 =>
    sh_c (fX13_lays S10 v5 v6 0 (-1)) fun _ S13 =>
    sh_c (fX13_puts S13 v3 y9) fun r16 S15 =>
    if r16 ≤ 0 then (some (r16, S15))
    else (sh_c (fX13_lays S15 v5 v6 y12 y9) fun _ S17 =>
    some (r16, S17))))
set_option maxRecDepth 100000 in
set_option maxHeartbeats 4000000 in
theorem wX13_turn0_50 {p : Program} {l : Launch} {e : Env} {s : State} {m : MethodId} {args : Array Value} {below : List Frame} {meth : Method} {c : Code} {G : sh_Ev} {A : Nat → Prop} {res : Int32 × sh_St} (C : sh_Cx p s m args meth c cX13_turn0 11 RX13 G A) (hr : meth.sig.returnType = some .int) : ∀ (S : sh_St) (v3 : Int64) (v5 : Int32) (v6 : Int32), fX13_turn0_50 S v3 v5 v6 = some res → ∀ (H : Heap) (locs : List Loc) (ls : Array Slot), sh_Wx G tbM A s H locs S → lv_has ls 11 [(0, .ref (G.2.1 0)), (3, .long v3), (5, .int v5), (6, .int v6)] → W p l e (sh_rm 10) s m args below meth c H locs 0 0 (sh_Qi below args s G tbM A res) (F0 m 50 ls []) := by
  intro S v3 v5 v6 hf H locs ls hw hl
  rw [fX13_turn0_50] at hf
  refine lv_aload_n C.1 C.2.1 dX13_turn0_50 rfl (lv_at hl 0 rfl) ?_
  refine sh_getr C hw fl_X13_7 tbM_0 rfl dX13_turn0_51 ?_
  refine lv_sipush (v := 840) C.1 C.2.1 dX13_turn0_54 (by decide) ?_
  refine lv_iload C.1 C.2.1 dX13_turn0_57 (lv_at hl 2 rfl) ?_
  refine lv_iload C.1 C.2.1 dX13_turn0_59 (lv_at hl 3 rfl) ?_
  refine sh_Si (As := [.int v5, .int v6]) (rest := [.int 840, .ref (G.2.1 1)]) C hw (kX13_slotAt l v5 v6) yy_X13_slotAt ys_X13_slotAt ml_X13_82 rfl hf rfl rfl rfl (Nat.le_of_ble_eq_true rfl) (by decide) hl.1 dX13_turn0_61 (fun r8 S7 H locs hw hf => ?_)
  refine lv_iadd C.1 C.2.1 dX13_turn0_64 ?_
  refine sh_iald C hw hf tbM_1 dX13_turn0_65 (fun hf => ?_)
  refine sh_ni hf (fun y9 hf => ?_)
  refine lv_istore (lv' := [(7, .int y9), (0, .ref (G.2.1 0)), (3, .long v3), (5, .int v5), (6, .int v6)]) C.1 C.2.1 dX13_turn0_66 hl (by decide) rfl (fun ls hl => ?_)
  refine lv_aload_n C.1 C.2.1 dX13_turn0_68 rfl (lv_at hl 1 rfl) ?_
  refine sh_getr C hw fl_X13_13 tbM_0 rfl dX13_turn0_69 ?_
  refine lv_iload C.1 C.2.1 dX13_turn0_72 (lv_at hl 3 rfl) ?_
  refine lv_iload C.1 C.2.1 dX13_turn0_74 (lv_at hl 4 rfl) ?_
  refine sh_Si (As := [.int v5, .int v6]) (rest := [.ref (G.2.1 2)]) C hw (kX13_slotAt l v5 v6) yy_X13_slotAt ys_X13_slotAt ml_X13_82 rfl hf rfl rfl rfl (Nat.le_of_ble_eq_true rfl) (by decide) hl.1 dX13_turn0_76 (fun r11 S10 H locs hw hf => ?_)
  refine sh_lald C hw hf tbM_2 dX13_turn0_79 (fun hf => ?_)
  refine sh_nl hf (fun y12 hf => ?_)
  refine lv_lstore (lv' := [(8, .long y12), (7, .int y9), (0, .ref (G.2.1 0)), (3, .long v3), (5, .int v5), (6, .int v6)]) C.1 C.2.1 dX13_turn0_80 hl (by decide) rfl (fun ls hl => ?_)
  refine lv_aload_n C.1 C.2.1 dX13_turn0_82 rfl (lv_at hl 2 rfl) ?_
  refine lv_iload C.1 C.2.1 dX13_turn0_83 (lv_at hl 4 rfl) ?_
  refine lv_iload C.1 C.2.1 dX13_turn0_85 (lv_at hl 5 rfl) ?_
  refine lv_lconst (v := 0) C.1 C.2.1 dX13_turn0_87 (by decide) ?_
  refine lv_iconst (v := -1) C.1 C.2.1 dX13_turn0_88 (by decide) ?_
  refine sh_Vv (As := [.int v5, .int v6, .long 0, .int (-1)]) (rest := []) C hw (kX13_lays l v5 v6 0 (-1)) yy_X13_lays yv_X13_lays ml_X13_180 hf tbM_0 rfl rfl rfl rfl (Nat.le_of_ble_eq_true rfl) (by decide) hl.1 dX13_turn0_89 (fun S13 H locs hw hf => ?_)
  refine lv_aload_n C.1 C.2.1 dX13_turn0_92 rfl (lv_at hl 2 rfl) ?_
  refine lv_lload_n C.1 C.2.1 dX13_turn0_93 rfl (lv_at hl 3 rfl) ?_
  refine lv_iload C.1 C.2.1 dX13_turn0_94 (lv_at hl 1 rfl) ?_
  refine sh_Vi (As := [.long v3, .int y9]) (rest := []) C hw (kX13_puts l v3 y9) yy_X13_puts yv_X13_puts ml_X13_230 hf tbM_0 rfl rfl rfl rfl (Nat.le_of_ble_eq_true rfl) (by decide) hl.1 dX13_turn0_96 (fun r16 S15 H locs hw hf => ?_)
  refine lv_istore (lv' := [(10, .int r16), (8, .long y12), (7, .int y9), (0, .ref (G.2.1 0)), (3, .long v3), (5, .int v5), (6, .int v6)]) C.1 C.2.1 dX13_turn0_99 hl (by decide) rfl (fun ls hl => ?_)
  refine lv_iload C.1 C.2.1 dX13_turn0_101 (lv_at hl 0 rfl) ?_
  refine sh_if_le (tgt := 118) C hf dX13_turn0_103 (by decide) (fun hf => ?_) (fun hf => ?_)
  · refine lv_iload C.1 C.2.1 dX13_turn0_118 (lv_at hl 0 rfl) ?_
    exact sh_ri C hw hr hf dX13_turn0_120
  · refine lv_aload_n C.1 C.2.1 dX13_turn0_106 rfl (lv_at hl 3 rfl) ?_
    refine lv_iload C.1 C.2.1 dX13_turn0_107 (lv_at hl 5 rfl) ?_
    refine lv_iload C.1 C.2.1 dX13_turn0_109 (lv_at hl 6 rfl) ?_
    refine lv_lload C.1 C.2.1 dX13_turn0_111 (lv_at hl 1 rfl) ?_
    refine lv_iload C.1 C.2.1 dX13_turn0_113 (lv_at hl 2 rfl) ?_
    refine sh_Vv (As := [.int v5, .int v6, .long y12, .int y9]) (rest := []) C hw (kX13_lays l v5 v6 y12 y9) yy_X13_lays yv_X13_lays ml_X13_180 hf tbM_0 rfl rfl rfl rfl (Nat.le_of_ble_eq_true rfl) (by decide) hl.1 dX13_turn0_115 (fun S17 H locs hw hf => ?_)
    refine lv_iload C.1 C.2.1 dX13_turn0_118 (lv_at hl 0 rfl) ?_
    exact sh_ri C hw hr hf dX13_turn0_120
def fX13_turn0 (S : sh_St) (v1 : Int64) (v3 : Int64) : Option (Int32 × sh_St) :=
    sh_c (fX13_seeks S v1) fun r2 S1 =>
    if r2 = 0 then (some (4, S1))
    else (sh_t (S1.1 0 30) fun y3 =>
    sh_t (S1.1 0 31) fun y4 =>
    sh_c (fX13_seeks S1 v3) fun r6 S5 =>
    if r6 = 0 then (fX13_turn0_50 S5 v3 y3 y4)
    else (if (S5.1 0 30) = y3 then (if (S5.1 0 31) = y4 then (fX13_turn0_50 S5 v3 y3 y4)
    else (some (1, S5)))
    else (some (1, S5))))
set_option maxRecDepth 100000 in
set_option maxHeartbeats 4000000 in
theorem kX13_turn0 (l : Launch) (v1 : Int64) (v3 : Int64) : sh_Mi l yX13_turn0 cX13_turn0 11 .int 10 tbM (fun G => [.ref (G.2.1 0), .long v1, .long v3]) (fun S => fX13_turn0 S v1 v3) := by
  refine sh_mki (by decide) (fun G => Nat.le_of_ble_eq_true rfl) ?_
  intro p e s m args below meth c G A S res ls hf C hr hw hl
  have C : sh_Cx p s m args meth c cX13_turn0 11 RX13 G A := C
  have hl : lv_has ls 11 [(0, .ref (G.2.1 0)), (1, .long v1), (3, .long v3)] := hl
  replace hf : fX13_turn0 S v1 v3 = some res := hf
  rw [fX13_turn0] at hf
  refine lv_aload_n C.1 C.2.1 dX13_turn0_0 rfl (lv_at hl 0 rfl) ?_
  refine lv_lload_n C.1 C.2.1 dX13_turn0_1 rfl (lv_at hl 1 rfl) ?_
  refine sh_Vi (As := [.long v1]) (rest := []) C hw (kX13_seeks l v1) yy_X13_seeks yv_X13_seeks ml_X13_226 hf tbM_0 rfl rfl rfl rfl (Nat.le_of_ble_eq_true rfl) (by decide) hl.1 dX13_turn0_2 (fun r2 S1 H locs hw hf => ?_)
  refine sh_if_ne (tgt := 10) C hf dX13_turn0_5 (by decide) (fun hf => ?_) (fun hf => ?_)
  · refine lv_aload_n C.1 C.2.1 dX13_turn0_10 rfl (lv_at hl 0 rfl) ?_
    refine sh_geti C hw fl_X13_150 tbM_0 rfl dX13_turn0_11 ?_
    refine sh_ni hf (fun y3 hf => ?_)
    refine lv_istore (lv' := [(5, .int y3), (0, .ref (G.2.1 0)), (1, .long v1), (3, .long v3)]) C.1 C.2.1 dX13_turn0_14 hl (by decide) rfl (fun ls hl => ?_)
    refine lv_aload_n C.1 C.2.1 dX13_turn0_16 rfl (lv_at hl 1 rfl) ?_
    refine sh_geti C hw fl_X13_153 tbM_0 rfl dX13_turn0_17 ?_
    refine sh_ni hf (fun y4 hf => ?_)
    refine lv_istore (lv' := [(6, .int y4), (5, .int y3), (0, .ref (G.2.1 0)), (1, .long v1), (3, .long v3)]) C.1 C.2.1 dX13_turn0_20 hl (by decide) rfl (fun ls hl => ?_)
    refine lv_aload_n C.1 C.2.1 dX13_turn0_22 rfl (lv_at hl 2 rfl) ?_
    refine lv_lload_n C.1 C.2.1 dX13_turn0_23 rfl (lv_at hl 4 rfl) ?_
    refine sh_Vi (As := [.long v3]) (rest := []) C hw (kX13_seeks l v3) yy_X13_seeks yv_X13_seeks ml_X13_226 hf tbM_0 rfl rfl rfl rfl (Nat.le_of_ble_eq_true rfl) (by decide) hl.1 dX13_turn0_24 (fun r6 S5 H locs hw hf => ?_)
    refine sh_if_eq (tgt := 50) C hf dX13_turn0_27 (by decide) (fun hf => ?_) (fun hf => ?_)
    · exact wX13_turn0_50 C hr S5 v3 y3 y4 hf _ _ _ hw (lv_sub hl [2, 4, 1, 0] rfl)
    · refine lv_aload_n C.1 C.2.1 dX13_turn0_30 rfl (lv_at hl 2 rfl) ?_
      refine sh_geti C hw fl_X13_150 tbM_0 rfl dX13_turn0_31 ?_
      refine lv_iload C.1 C.2.1 dX13_turn0_34 (lv_at hl 1 rfl) ?_
      refine sh_icmp_ne (tgt := 48) C hf dX13_turn0_36 (by decide) (fun hf => ?_) (fun hf => ?_)
      · refine lv_iconst (v := 1) C.1 C.2.1 dX13_turn0_48 (by decide) ?_
        exact sh_ri C hw hr hf dX13_turn0_49
      · refine lv_aload_n C.1 C.2.1 dX13_turn0_39 rfl (lv_at hl 2 rfl) ?_
        refine sh_geti C hw fl_X13_153 tbM_0 rfl dX13_turn0_40 ?_
        refine lv_iload C.1 C.2.1 dX13_turn0_43 (lv_at hl 0 rfl) ?_
        refine sh_icmp_eq (tgt := 50) C hf dX13_turn0_45 (by decide) (fun hf => ?_) (fun hf => ?_)
        · exact wX13_turn0_50 C hr S5 v3 y3 y4 hf _ _ _ hw (lv_sub hl [2, 4, 1, 0] rfl)
        · refine lv_iconst (v := 1) C.1 C.2.1 dX13_turn0_48 (by decide) ?_
          exact sh_ri C hw hr hf dX13_turn0_49
  · refine lv_iconst (v := 4) C.1 C.2.1 dX13_turn0_8 (by decide) ?_
    exact sh_ri C hw hr hf dX13_turn0_9
def fX13_put (S : sh_St) (v1 : Int32) : Option (Int32 × sh_St) :=
    sh_c (fX13_isIn S v1 0 999) fun r2 S1 =>
    if r2 = 0 then (sh_t (sh_I S1 0 17 0) fun S11 =>
    sh_t (sh_I S11 0 0 1) fun S12 =>
    some (0, S12))
    else (sh_c (fX13_isName S1 0) fun r4 S3 =>
    if r4 = 0 then (some (0, S3))
    else (sh_c (fX13_putsAside S3 ) fun _ S5 =>
    sh_c (fX13_put0 S5 (S5.2 0 22) v1) fun r8 S7 =>
    sh_c (fX13_isDone S7 r8 2) fun r10 S9 =>
    if r10 = 0 then (some (0, S9))
    else (some (S9.1 0 37, S9))))
set_option maxRecDepth 100000 in
set_option maxHeartbeats 4000000 in
theorem kX13_put (l : Launch) (v1 : Int32) : sh_Mi l yX13_put cX13_put 2 .int 11 tbM (fun G => [.ref (G.2.1 0), .int v1]) (fun S => fX13_put S v1) := by
  refine sh_mki (by decide) (fun G => Nat.le_of_ble_eq_true rfl) ?_
  intro p e s m args below meth c G A S res ls hf C hr hw hl
  have C : sh_Cx p s m args meth c cX13_put 2 RX13 G A := C
  have hl : lv_has ls 2 [(0, .ref (G.2.1 0)), (1, .int v1)] := hl
  replace hf : fX13_put S v1 = some res := hf
  rw [fX13_put] at hf
  refine lv_iload_n C.1 C.2.1 dX13_put_0 rfl (lv_at hl 1 rfl) ?_
  refine lv_iconst (v := 0) C.1 C.2.1 dX13_put_1 (by decide) ?_
  refine lv_sipush (v := 999) C.1 C.2.1 dX13_put_2 (by decide) ?_
  refine sh_Si (As := [.int v1, .int 0, .int 999]) (rest := []) C hw (kX13_isIn l v1 0 999) yy_X13_isIn ys_X13_isIn ml_X13_263 rfl hf rfl rfl rfl (Nat.le_of_ble_eq_true rfl) (by decide) hl.1 dX13_put_5 (fun r2 S1 H locs hw hf => ?_)
  refine sh_if_ne (tgt := 23) C hf dX13_put_8 (by decide) (fun hf => ?_) (fun hf => ?_)
  · refine lv_aload_n C.1 C.2.1 dX13_put_23 rfl (lv_at hl 0 rfl) ?_
    refine lv_iconst (v := 0) C.1 C.2.1 dX13_put_24 (by decide) ?_
    refine sh_Vi (As := [.int 0]) (rest := []) C hw (kX13_isName l 0) yy_X13_isName yv_X13_isName ml_X13_362 hf tbM_0 rfl rfl rfl rfl (Nat.le_of_ble_eq_true rfl) (by decide) hl.1 dX13_put_25 (fun r4 S3 H locs hw hf => ?_)
    refine sh_if_ne (tgt := 33) C hf dX13_put_28 (by decide) (fun hf => ?_) (fun hf => ?_)
    · refine lv_aload_n C.1 C.2.1 dX13_put_33 rfl (lv_at hl 0 rfl) ?_
      refine sh_Vv (As := []) (rest := []) C hw (kX13_putsAside l ) yy_X13_putsAside yv_X13_putsAside ml_X13_343 hf tbM_0 rfl rfl rfl rfl (Nat.le_of_ble_eq_true rfl) (by decide) hl.1 dX13_put_34 (fun S5 H locs hw hf => ?_)
      refine lv_aload_n C.1 C.2.1 dX13_put_37 rfl (lv_at hl 0 rfl) ?_
      refine lv_aload_n C.1 C.2.1 dX13_put_38 rfl (lv_at hl 0 rfl) ?_
      refine lv_aload_n C.1 C.2.1 dX13_put_39 rfl (lv_at hl 0 rfl) ?_
      refine sh_getl C hw fl_X13_355 tbM_0 rfl dX13_put_40 ?_
      refine lv_iload_n C.1 C.2.1 dX13_put_43 rfl (lv_at hl 1 rfl) ?_
      refine sh_Vi (As := [.long (S5.2 0 22), .int v1]) (rest := [.ref (G.2.1 0)]) C hw (kX13_put0 l (S5.2 0 22) v1) yy_X13_put0 yv_X13_put0 ml_X13_308 hf tbM_0 rfl rfl rfl rfl (Nat.le_of_ble_eq_true rfl) (by decide) hl.1 dX13_put_44 (fun r8 S7 H locs hw hf => ?_)
      refine lv_iconst (v := 2) C.1 C.2.1 dX13_put_47 (by decide) ?_
      refine sh_Vi (As := [.int r8, .int 2]) (rest := []) C hw (kX13_isDone l r8 2) yy_X13_isDone yv_X13_isDone ml_X13_366 hf tbM_0 rfl rfl rfl rfl (Nat.le_of_ble_eq_true rfl) (by decide) hl.1 dX13_put_48 (fun r10 S9 H locs hw hf => ?_)
      refine sh_if_eq (tgt := 61) C hf dX13_put_51 (by decide) (fun hf => ?_) (fun hf => ?_)
      · refine lv_iconst (v := 0) C.1 C.2.1 dX13_put_61 (by decide) ?_
        exact sh_ri C hw hr hf dX13_put_62
      · refine lv_aload_n C.1 C.2.1 dX13_put_54 rfl (lv_at hl 0 rfl) ?_
        refine sh_geti C hw fl_X13_177 tbM_0 rfl dX13_put_55 ?_
        refine lv_goto (tgt := 62) C.1 C.2.1 dX13_put_58 (by decide) ?_
        exact sh_ri C hw hr hf dX13_put_62
    · refine lv_iconst (v := 0) C.1 C.2.1 dX13_put_31 (by decide) ?_
      exact sh_ri C hw hr hf dX13_put_32
  · refine lv_aload_n C.1 C.2.1 dX13_put_11 rfl (lv_at hl 0 rfl) ?_
    refine lv_iconst (v := 0) C.1 C.2.1 dX13_put_12 (by decide) ?_
    refine sh_puti C hw fl_X13_260 fp_11_17 hf tbM_0 rfl dX13_put_13 (fun S11 H locs hw hf => ?_)
    refine lv_aload_n C.1 C.2.1 dX13_put_16 rfl (lv_at hl 0 rfl) ?_
    refine lv_iconst (v := 1) C.1 C.2.1 dX13_put_17 (by decide) ?_
    refine sh_puti C hw fl_X13_79 fp_11_0 hf tbM_0 rfl dX13_put_18 (fun S12 H locs hw hf => ?_)
    refine lv_iconst (v := 0) C.1 C.2.1 dX13_put_21 (by decide) ?_
    exact sh_ri C hw hr hf dX13_put_22
def fX13_turn_51 (S : sh_St) (t0 : Int32) : Option (Int32 × sh_St) :=
    sh_c (fX13_turn0 S (S.2 0 22) (S.2 0 23)) fun r8 S7 =>
    sh_c (fX13_isDone S7 r8 2) fun r10 S9 =>
    if r10 = 0 then (some (0, S9))
    else (some (t0, S9))
set_option maxRecDepth 100000 in
set_option maxHeartbeats 4000000 in
theorem wX13_turn_51 {p : Program} {l : Launch} {e : Env} {s : State} {m : MethodId} {args : Array Value} {below : List Frame} {meth : Method} {c : Code} {G : sh_Ev} {A : Nat → Prop} {res : Int32 × sh_St} (C : sh_Cx p s m args meth c cX13_turn 3 RX13 G A) (hr : meth.sig.returnType = some .int) : ∀ (S : sh_St) (t0 : Int32), fX13_turn_51 S t0 = some res → ∀ (H : Heap) (locs : List Loc) (ls : Array Slot), sh_Wx G tbM A s H locs S → lv_has ls 3 [(0, .ref (G.2.1 0))] → W p l e (sh_rm 11) s m args below meth c H locs 0 0 (sh_Qi below args s G tbM A res) (F0 m 51 ls [.int t0]) := by
  intro S t0 hf H locs ls hw hl
  rw [fX13_turn_51] at hf
  refine lv_istore_n (lv' := [(2, .int t0), (0, .ref (G.2.1 0))]) C.1 C.2.1 dX13_turn_51 rfl hl (by decide) rfl (fun ls hl => ?_)
  refine lv_aload_n C.1 C.2.1 dX13_turn_52 rfl (lv_at hl 1 rfl) ?_
  refine lv_aload_n C.1 C.2.1 dX13_turn_53 rfl (lv_at hl 1 rfl) ?_
  refine lv_aload_n C.1 C.2.1 dX13_turn_54 rfl (lv_at hl 1 rfl) ?_
  refine sh_getl C hw fl_X13_355 tbM_0 rfl dX13_turn_55 ?_
  refine lv_aload_n C.1 C.2.1 dX13_turn_58 rfl (lv_at hl 1 rfl) ?_
  refine sh_getl C hw fl_X13_359 tbM_0 rfl dX13_turn_59 ?_
  refine sh_Vi (As := [.long (S.2 0 22), .long (S.2 0 23)]) (rest := [.ref (G.2.1 0)]) C hw (kX13_turn0 l (S.2 0 22) (S.2 0 23)) yy_X13_turn0 yv_X13_turn0 ml_X13_318 hf tbM_0 rfl rfl rfl rfl (Nat.le_of_ble_eq_true rfl) (by decide) hl.1 dX13_turn_62 (fun r8 S7 H locs hw hf => ?_)
  refine lv_iconst (v := 2) C.1 C.2.1 dX13_turn_65 (by decide) ?_
  refine sh_Vi (As := [.int r8, .int 2]) (rest := []) C hw (kX13_isDone l r8 2) yy_X13_isDone yv_X13_isDone ml_X13_366 hf tbM_0 rfl rfl rfl rfl (Nat.le_of_ble_eq_true rfl) (by decide) hl.1 dX13_turn_66 (fun r10 S9 H locs hw hf => ?_)
  refine sh_if_eq (tgt := 76) C hf dX13_turn_69 (by decide) (fun hf => ?_) (fun hf => ?_)
  · refine lv_iconst (v := 0) C.1 C.2.1 dX13_turn_76 (by decide) ?_
    exact sh_ri C hw hr hf dX13_turn_77
  · refine lv_iload_n C.1 C.2.1 dX13_turn_72 rfl (lv_at hl 0 rfl) ?_
    refine lv_goto (tgt := 77) C.1 C.2.1 dX13_turn_73 (by decide) ?_
    exact sh_ri C hw hr hf dX13_turn_77
def fX13_turn (S : sh_St) : Option (Int32 × sh_St) :=
    sh_c (fX13_isName S 1) fun r2 S1 =>
    if r2 = 0 then (some (0, S1))
    else (sh_c (fX13_putsAside S1 ) fun _ S3 =>
    sh_c (fX13_seeks S3 (S3.2 0 22)) fun r6 S5 =>
    if r6 = 0 then (fX13_turn_51 S5 0)
    else (sh_c (fX13_slotAt S5 (S5.1 0 30) (S5.1 0 31)) fun r12 S11 =>
    sh_g (840 + r12) 1084 (fX13_turn_51 S11 (S11.1 1 (840 + r12).toNatClampNeg))))
set_option maxRecDepth 100000 in
set_option maxHeartbeats 4000000 in
theorem kX13_turn (l : Launch) : sh_Mi l yX13_turn cX13_turn 3 .int 11 tbM (fun G => [.ref (G.2.1 0)]) (fun S => fX13_turn S) := by
  refine sh_mki (by decide) (fun G => Nat.le_of_ble_eq_true rfl) ?_
  intro p e s m args below meth c G A S res ls hf C hr hw hl
  have C : sh_Cx p s m args meth c cX13_turn 3 RX13 G A := C
  have hl : lv_has ls 3 [(0, .ref (G.2.1 0))] := hl
  replace hf : fX13_turn S = some res := hf
  rw [fX13_turn] at hf
  refine lv_aload_n C.1 C.2.1 dX13_turn_0 rfl (lv_at hl 0 rfl) ?_
  refine lv_iconst (v := 1) C.1 C.2.1 dX13_turn_1 (by decide) ?_
  refine sh_Vi (As := [.int 1]) (rest := []) C hw (kX13_isName l 1) yy_X13_isName yv_X13_isName ml_X13_362 hf tbM_0 rfl rfl rfl rfl (Nat.le_of_ble_eq_true rfl) (by decide) hl.1 dX13_turn_2 (fun r2 S1 H locs hw hf => ?_)
  refine sh_if_ne (tgt := 10) C hf dX13_turn_5 (by decide) (fun hf => ?_) (fun hf => ?_)
  · refine lv_aload_n C.1 C.2.1 dX13_turn_10 rfl (lv_at hl 0 rfl) ?_
    refine sh_Vv (As := []) (rest := []) C hw (kX13_putsAside l ) yy_X13_putsAside yv_X13_putsAside ml_X13_343 hf tbM_0 rfl rfl rfl rfl (Nat.le_of_ble_eq_true rfl) (by decide) hl.1 dX13_turn_11 (fun S3 H locs hw hf => ?_)
    refine lv_aload_n C.1 C.2.1 dX13_turn_14 rfl (lv_at hl 0 rfl) ?_
    refine lv_aload_n C.1 C.2.1 dX13_turn_15 rfl (lv_at hl 0 rfl) ?_
    refine sh_getl C hw fl_X13_355 tbM_0 rfl dX13_turn_16 ?_
    refine sh_Vi (As := [.long (S3.2 0 22)]) (rest := []) C hw (kX13_seeks l (S3.2 0 22)) yy_X13_seeks yv_X13_seeks ml_X13_226 hf tbM_0 rfl rfl rfl rfl (Nat.le_of_ble_eq_true rfl) (by decide) hl.1 dX13_turn_19 (fun r6 S5 H locs hw hf => ?_)
    refine lv_istore_n (lv' := [(1, .int r6), (0, .ref (G.2.1 0))]) C.1 C.2.1 dX13_turn_22 rfl hl (by decide) rfl (fun ls hl => ?_)
    refine lv_iload_n C.1 C.2.1 dX13_turn_23 rfl (lv_at hl 0 rfl) ?_
    refine sh_if_eq (tgt := 50) C hf dX13_turn_24 (by decide) (fun hf => ?_) (fun hf => ?_)
    · refine lv_iconst (v := 0) C.1 C.2.1 dX13_turn_50 (by decide) ?_
      exact wX13_turn_51 C hr S5 0 hf _ _ _ hw (lv_sub hl [1] rfl)
    · refine lv_aload_n C.1 C.2.1 dX13_turn_27 rfl (lv_at hl 1 rfl) ?_
      refine sh_getr C hw fl_X13_7 tbM_0 rfl dX13_turn_28 ?_
      refine lv_sipush (v := 840) C.1 C.2.1 dX13_turn_31 (by decide) ?_
      refine lv_aload_n C.1 C.2.1 dX13_turn_34 rfl (lv_at hl 1 rfl) ?_
      refine sh_geti C hw fl_X13_150 tbM_0 rfl dX13_turn_35 ?_
      refine lv_aload_n C.1 C.2.1 dX13_turn_38 rfl (lv_at hl 1 rfl) ?_
      refine sh_geti C hw fl_X13_153 tbM_0 rfl dX13_turn_39 ?_
      refine sh_Si (As := [.int (S5.1 0 30), .int (S5.1 0 31)]) (rest := [.int 840, .ref (G.2.1 1)]) C hw (kX13_slotAt l (S5.1 0 30) (S5.1 0 31)) yy_X13_slotAt ys_X13_slotAt ml_X13_82 rfl hf rfl rfl rfl (Nat.le_of_ble_eq_true rfl) (by decide) hl.1 dX13_turn_42 (fun r12 S11 H locs hw hf => ?_)
      refine lv_iadd C.1 C.2.1 dX13_turn_45 ?_
      refine sh_iald C hw hf tbM_1 dX13_turn_46 (fun hf => ?_)
      refine lv_goto (tgt := 51) C.1 C.2.1 dX13_turn_47 (by decide) ?_
      exact wX13_turn_51 C hr S11 (S11.1 1 (840 + r12).toNatClampNeg) hf _ _ _ hw (lv_sub hl [1] rfl)
  · refine lv_iconst (v := 0) C.1 C.2.1 dX13_turn_8 (by decide) ?_
    exact sh_ri C hw hr hf dX13_turn_9
