def sh_FU : Nat := 100000
theorem sh_nm {α β : Type} {x : α} {f : α → Option β} {res : β} (hf : sh_t x f = some res) : ∃ y, x = y ∧ f y = some res := ⟨x, rfl, hf⟩
def fX3_forget (S : sh_St) : Option (Unit × sh_St) :=
    sh_t (sh_I S 34 1 0) fun S1 =>
    some ((), S1)
set_option maxRecDepth 100000 in
set_option maxHeartbeats 4000000 in
theorem kX3_forget (l : Launch) : sh_Mv l yX3_forget cX3_forget 1 1 tbX (fun G => [.ref (G.2.1 34)]) (fun S => fX3_forget S) := by
  refine sh_mkv (by decide) (fun G => Nat.le_of_ble_eq_true rfl) ?_
  intro p e s m args below meth c G A S res ls hf C hr hw hl
  have C : sh_Cx p s m args meth c cX3_forget 1 RX3 G A := C
  have hl : lv_has ls 1 [(0, .ref (G.2.1 34))] := hl
  replace hf : fX3_forget S = some res := hf
  rw [fX3_forget] at hf
  refine lv_aload_n C.1 C.2.1 dX3_forget_0 rfl (lv_at hl 0 rfl) ?_
  refine lv_iconst (v := 0) C.1 C.2.1 dX3_forget_1 (by decide) ?_
  refine sh_puti C hw fl_X3_17 fp_1_1 hf tbX_34 rfl dX3_forget_2 (fun S1 H locs hw hf => ?_)
  exact sh_rv C hw hr hf dX3_forget_5
def fX4_limitOfLaid (S : sh_St) (v1 : Int32) : Option (Int32 × sh_St) :=
    if v1 = 0 then (some (0, S))
    else (sh_g (v1 * 4) 240 (some (S.1 127 (v1 * 4).toNatClampNeg, S)))
set_option maxRecDepth 100000 in
set_option maxHeartbeats 4000000 in
theorem kX4_limitOfLaid (l : Launch) (v1 : Int32) : sh_Mi l yX4_limitOfLaid cX4_limitOfLaid 2 .int 1 tbX (fun G => [.ref (G.2.1 116), .int v1]) (fun S => fX4_limitOfLaid S v1) := by
  refine sh_mki (by decide) (fun G => Nat.le_of_ble_eq_true rfl) ?_
  intro p e s m args below meth c G A S res ls hf C hr hw hl
  have C : sh_Cx p s m args meth c cX4_limitOfLaid 2 RX4 G A := C
  have hl : lv_has ls 2 [(0, .ref (G.2.1 116)), (1, .int v1)] := hl
  replace hf : fX4_limitOfLaid S v1 = some res := hf
  rw [fX4_limitOfLaid] at hf
  refine lv_iload_n C.1 C.2.1 dX4_limitOfLaid_0 rfl (lv_at hl 1 rfl) ?_
  refine sh_if_ne (tgt := 8) C hf dX4_limitOfLaid_1 (by decide) (fun hf => ?_) (fun hf => ?_)
  · refine lv_aload_n C.1 C.2.1 dX4_limitOfLaid_8 rfl (lv_at hl 0 rfl) ?_
    refine sh_getr C hw fl_X4_28 tbX_116 rfl dX4_limitOfLaid_9 ?_
    refine sh_getr C hw fl_X4_208 tbX_124 rfl dX4_limitOfLaid_12 ?_
    refine lv_iload_n C.1 C.2.1 dX4_limitOfLaid_15 rfl (lv_at hl 1 rfl) ?_
    refine lv_iconst (v := 4) C.1 C.2.1 dX4_limitOfLaid_16 (by decide) ?_
    refine lv_imul C.1 C.2.1 dX4_limitOfLaid_17 ?_
    refine sh_iald C hw hf tbX_127 dX4_limitOfLaid_18 (fun hf => ?_)
    exact sh_ri C hw hr hf dX4_limitOfLaid_19
  · refine lv_iconst (v := 0) C.1 C.2.1 dX4_limitOfLaid_4 (by decide) ?_
    refine lv_goto (tgt := 19) C.1 C.2.1 dX4_limitOfLaid_5 (by decide) ?_
    exact sh_ri C hw hr hf dX4_limitOfLaid_19
def fX5_placeOf_24 (rk4 : sh_St → Int32 → Int32 → Int32 → Option (Int32 × sh_St)) (S : sh_St) (v1 : Int32) (v2 : Int32) (v3 : Int32) : Option (Int32 × sh_St) :=
    sh_t (v3 + 1) fun y1 =>
    rk4 S v1 v2 y1
set_option maxRecDepth 100000 in
set_option maxHeartbeats 4000000 in
theorem wX5_placeOf_24 {p : Program} {l : Launch} {e : Env} {s : State} {m : MethodId} {args : Array Value} {below : List Frame} {meth : Method} {c : Code} {G : sh_Ev} {A : Nat → Prop} {res : Int32 × sh_St} (C : sh_Cx p s m args meth c cX5_placeOf 4 RX5 G A) (hr : meth.sig.returnType = some .int) (rk4 : sh_St → Int32 → Int32 → Int32 → Option (Int32 × sh_St)) (hr4 : ∀ (S : sh_St) (v1 : Int32) (v2 : Int32) (v3 : Int32), rk4 S v1 v2 v3 = some res → ∀ (H : Heap) (locs : List Loc) (ls : Array Slot), sh_Wx G tbX A s H locs S → lv_has ls 4 [(0, .ref (G.2.1 117)), (1, .int v1), (2, .int v2), (3, .int v3)] → W p l e (sh_rm 1) s m args below meth c H locs 0 0 (sh_Qi below args s G tbX A res) (F0 m 4 ls [])) : ∀ (S : sh_St) (v1 : Int32) (v2 : Int32) (v3 : Int32), fX5_placeOf_24 rk4 S v1 v2 v3 = some res → ∀ (H : Heap) (locs : List Loc) (ls : Array Slot), sh_Wx G tbX A s H locs S → lv_has ls 4 [(0, .ref (G.2.1 117)), (1, .int v1), (2, .int v2), (3, .int v3)] → W p l e (sh_rm 1) s m args below meth c H locs 0 0 (sh_Qi below args s G tbX A res) (F0 m 24 ls []) := by
  intro S v1 v2 v3 hf H locs ls hw hl
  rw [fX5_placeOf_24] at hf
  obtain ⟨y1, ey1, hf⟩ := sh_nm hf
  refine lv_iinc (v := y1) (lv' := [(3, .int y1), (0, .ref (G.2.1 117)), (1, .int v1), (2, .int v2)]) C.1 C.2.1 dX5_placeOf_24 hl (k := 3) rfl (by rw [← ey1]; rfl) (by decide) rfl (fun ls hl => ?_)
  refine lv_goto (tgt := 4) C.1 C.2.1 dX5_placeOf_27 (by decide) ?_
  exact hr4 S v1 v2 y1 hf _ _ _ hw (lv_sub hl [1, 2, 3, 0] rfl)
def fX5_placeOf_4 : Nat → sh_St → Int32 → Int32 → Int32 → Option (Int32 × sh_St)
  | 0, _, _, _, _ => none
  | n + 1, S, v1, v2, v3 =>
    if (S.1 117 3) ≤ v3 then (some (v2, S))
    else (sh_g v3 40 (if (S.1 118 v3.toNatClampNeg) = v1 then (fX5_placeOf_24 (fX5_placeOf_4 n) S v1 v3 v3)
    else (fX5_placeOf_24 (fX5_placeOf_4 n) S v1 v2 v3)))
set_option maxRecDepth 100000 in
set_option maxHeartbeats 4000000 in
theorem wX5_placeOf_4 {p : Program} {l : Launch} {e : Env} {s : State} {m : MethodId} {args : Array Value} {below : List Frame} {meth : Method} {c : Code} {G : sh_Ev} {A : Nat → Prop} {res : Int32 × sh_St} (C : sh_Cx p s m args meth c cX5_placeOf 4 RX5 G A) (hr : meth.sig.returnType = some .int) : ∀ (n : Nat) (S : sh_St) (v1 : Int32) (v2 : Int32) (v3 : Int32), fX5_placeOf_4 n S v1 v2 v3 = some res → ∀ (H : Heap) (locs : List Loc) (ls : Array Slot), sh_Wx G tbX A s H locs S → lv_has ls 4 [(0, .ref (G.2.1 117)), (1, .int v1), (2, .int v2), (3, .int v3)] → W p l e (sh_rm 1) s m args below meth c H locs 0 0 (sh_Qi below args s G tbX A res) (F0 m 4 ls []) := by
  intro n
  induction n with
  | zero => intro S v1 v2 v3 hf; exact nomatch (show (none : Option (Int32 × sh_St)) = some res from hf)
  | succ n ih =>
    intro S v1 v2 v3 hf H locs ls hw hl
    have hr4 := ih
    rw [fX5_placeOf_4] at hf
    refine lv_iload_n C.1 C.2.1 dX5_placeOf_4 rfl (lv_at hl 3 rfl) ?_
    refine lv_aload_n C.1 C.2.1 dX5_placeOf_5 rfl (lv_at hl 0 rfl) ?_
    refine sh_geti C hw fl_X5_21 tbX_117 rfl dX5_placeOf_6 ?_
    refine sh_icmp_ge (tgt := 30) C hf dX5_placeOf_9 (by decide) (fun hf => ?_) (fun hf => ?_)
    · refine lv_iload_n C.1 C.2.1 dX5_placeOf_30 rfl (lv_at hl 2 rfl) ?_
      exact sh_ri C hw hr hf dX5_placeOf_31
    · refine lv_aload_n C.1 C.2.1 dX5_placeOf_12 rfl (lv_at hl 0 rfl) ?_
      refine sh_getr C hw fl_X5_9 tbX_117 rfl dX5_placeOf_13 ?_
      refine lv_iload_n C.1 C.2.1 dX5_placeOf_16 rfl (lv_at hl 3 rfl) ?_
      refine sh_iald C hw hf tbX_118 dX5_placeOf_17 (fun hf => ?_)
      refine lv_iload_n C.1 C.2.1 dX5_placeOf_18 rfl (lv_at hl 1 rfl) ?_
      refine sh_icmp_ne (tgt := 24) C hf dX5_placeOf_19 (by decide) (fun hf => ?_) (fun hf => ?_)
      · exact wX5_placeOf_24 C hr (fX5_placeOf_4 n) hr4 S v1 v2 v3 hf _ _ _ hw (lv_sub hl [0, 1, 2, 3] rfl)
      · refine lv_iload_n C.1 C.2.1 dX5_placeOf_22 rfl (lv_at hl 3 rfl) ?_
        refine lv_istore_n (lv' := [(2, .int v3), (0, .ref (G.2.1 117)), (1, .int v1), (3, .int v3)]) C.1 C.2.1 dX5_placeOf_23 rfl hl (by decide) rfl (fun ls hl => ?_)
        exact wX5_placeOf_24 C hr (fX5_placeOf_4 n) hr4 S v1 v3 v3 hf _ _ _ hw (lv_sub hl [1, 2, 0, 3] rfl)
def fX5_placeOf (S : sh_St) (v1 : Int32) : Option (Int32 × sh_St) :=
    fX5_placeOf_4 sh_FU S v1 0 0
set_option maxRecDepth 100000 in
set_option maxHeartbeats 4000000 in
theorem kX5_placeOf (l : Launch) (v1 : Int32) : sh_Mi l yX5_placeOf cX5_placeOf 4 .int 1 tbX (fun G => [.ref (G.2.1 117), .int v1]) (fun S => fX5_placeOf S v1) := by
  refine sh_mki (by decide) (fun G => Nat.le_of_ble_eq_true rfl) ?_
  intro p e s m args below meth c G A S res ls hf C hr hw hl
  have C : sh_Cx p s m args meth c cX5_placeOf 4 RX5 G A := C
  have hl : lv_has ls 4 [(0, .ref (G.2.1 117)), (1, .int v1)] := hl
  replace hf : fX5_placeOf S v1 = some res := hf
  rw [fX5_placeOf] at hf
  refine lv_iconst (v := 0) C.1 C.2.1 dX5_placeOf_0 (by decide) ?_
  refine lv_istore_n (lv' := [(2, .int 0), (0, .ref (G.2.1 117)), (1, .int v1)]) C.1 C.2.1 dX5_placeOf_1 rfl hl (by decide) rfl (fun ls hl => ?_)
  refine lv_iconst (v := 0) C.1 C.2.1 dX5_placeOf_2 (by decide) ?_
  refine lv_istore_n (lv' := [(3, .int 0), (2, .int 0), (0, .ref (G.2.1 117)), (1, .int v1)]) C.1 C.2.1 dX5_placeOf_3 rfl hl (by decide) rfl (fun ls hl => ?_)
  exact wX5_placeOf_4 C hr _ S v1 0 0 hf _ _ _ hw (lv_sub hl [2, 3, 1, 0] rfl)
def fX5_addRowsOf_2 : Nat → sh_St → Int32 → Int32 → Option (Unit × sh_St)
  | 0, _, _, _ => none
  | n + 1, S, v2, v3 =>
    sh_g v2 40 (if (S.1 6 v2.toNatClampNeg) ≤ v3 then (some ((), S))
    else (if 40 ≤ (S.1 117 3) then (some ((), S))
    else (sh_t ((v2 * 6) + v3) fun y1 =>
    sh_g y1 240 (sh_g (S.1 117 3) 40 (sh_t (sh_I S 118 (S.1 117 3).toNatClampNeg (S.1 13 y1.toNatClampNeg)) fun S2 =>
    sh_g y1 240 (sh_g (S2.1 117 3) 40 (sh_t (sh_I S2 119 (S2.1 117 3).toNatClampNeg (S2.1 11 y1.toNatClampNeg)) fun S3 =>
    sh_g y1 240 (sh_g (S3.1 117 3) 40 (sh_t (sh_I S3 120 (S3.1 117 3).toNatClampNeg (S3.1 12 y1.toNatClampNeg)) fun S4 =>
    sh_t (sh_I S4 117 3 ((S4.1 117 3) + 1)) fun S5 =>
    sh_t (v3 + 1) fun y6 =>
    (fX5_addRowsOf_2 n) S5 v2 y6)))))))))
set_option maxRecDepth 100000 in
set_option maxHeartbeats 4000000 in
theorem wX5_addRowsOf_2 {p : Program} {l : Launch} {e : Env} {s : State} {m : MethodId} {args : Array Value} {below : List Frame} {meth : Method} {c : Code} {G : sh_Ev} {A : Nat → Prop} {res : Unit × sh_St} (C : sh_Cx p s m args meth c cX5_addRowsOf 5 RX5 G A) (hr : meth.sig.returnType = none) : ∀ (n : Nat) (S : sh_St) (v2 : Int32) (v3 : Int32), fX5_addRowsOf_2 n S v2 v3 = some res → ∀ (H : Heap) (locs : List Loc) (ls : Array Slot), sh_Wx G tbX A s H locs S → lv_has ls 5 [(0, .ref (G.2.1 117)), (1, .ref (G.2.1 4)), (2, .int v2), (3, .int v3)] → W p l e (sh_rm 1) s m args below meth c H locs 0 0 (sh_Qv below args s G tbX A res) (F0 m 2 ls []) := by
  intro n
  induction n with
  | zero => intro S v2 v3 hf; exact nomatch (show (none : Option (Unit × sh_St)) = some res from hf)
  | succ n ih =>
    intro S v2 v3 hf H locs ls hw hl
    have hr2 := ih
    rw [fX5_addRowsOf_2] at hf
    refine lv_iload_n C.1 C.2.1 dX5_addRowsOf_2 rfl (lv_at hl 3 rfl) ?_
    refine lv_aload_n C.1 C.2.1 dX5_addRowsOf_3 rfl (lv_at hl 1 rfl) ?_
    refine sh_getr C hw fl_X5_34 tbX_4 rfl dX5_addRowsOf_4 ?_
    refine lv_iload_n C.1 C.2.1 dX5_addRowsOf_7 rfl (lv_at hl 2 rfl) ?_
    refine sh_iald C hw hf tbX_6 dX5_addRowsOf_8 (fun hf => ?_)
    refine sh_icmp_ge (tgt := 93) C hf dX5_addRowsOf_9 (by decide) (fun hf => ?_) (fun hf => ?_)
    · exact sh_rv C hw hr hf dX5_addRowsOf_93
    · refine lv_aload_n C.1 C.2.1 dX5_addRowsOf_12 rfl (lv_at hl 0 rfl) ?_
      refine sh_geti C hw fl_X5_21 tbX_117 rfl dX5_addRowsOf_13 ?_
      refine lv_bipush (v := 40) C.1 C.2.1 dX5_addRowsOf_16 (by decide) ?_
      refine sh_icmp_ge (tgt := 93) C hf dX5_addRowsOf_18 (by decide) (fun hf => ?_) (fun hf => ?_)
      · exact sh_rv C hw hr hf dX5_addRowsOf_93
      · refine lv_iload_n C.1 C.2.1 dX5_addRowsOf_21 rfl (lv_at hl 2 rfl) ?_
        refine lv_bipush (v := 6) C.1 C.2.1 dX5_addRowsOf_22 (by decide) ?_
        refine lv_imul C.1 C.2.1 dX5_addRowsOf_24 ?_
        refine lv_iload_n C.1 C.2.1 dX5_addRowsOf_25 rfl (lv_at hl 3 rfl) ?_
        refine lv_iadd C.1 C.2.1 dX5_addRowsOf_26 ?_
        refine sh_ni hf (fun y1 hf => ?_)
        refine lv_istore (lv' := [(4, .int y1), (0, .ref (G.2.1 117)), (1, .ref (G.2.1 4)), (2, .int v2), (3, .int v3)]) C.1 C.2.1 dX5_addRowsOf_27 hl (by decide) rfl (fun ls hl => ?_)
        refine lv_aload_n C.1 C.2.1 dX5_addRowsOf_29 rfl (lv_at hl 1 rfl) ?_
        refine sh_getr C hw fl_X5_9 tbX_117 rfl dX5_addRowsOf_30 ?_
        refine lv_aload_n C.1 C.2.1 dX5_addRowsOf_33 rfl (lv_at hl 1 rfl) ?_
        refine sh_geti C hw fl_X5_21 tbX_117 rfl dX5_addRowsOf_34 ?_
        refine lv_aload_n C.1 C.2.1 dX5_addRowsOf_37 rfl (lv_at hl 2 rfl) ?_
        refine sh_getr C hw fl_X5_37 tbX_4 rfl dX5_addRowsOf_38 ?_
        refine lv_iload C.1 C.2.1 dX5_addRowsOf_41 (lv_at hl 0 rfl) ?_
        refine sh_iald C hw hf tbX_13 dX5_addRowsOf_43 (fun hf => ?_)
        refine sh_iast C hw hf tbX_118 dX5_addRowsOf_44 (fun S2 H locs hw hf => ?_)
        refine lv_aload_n C.1 C.2.1 dX5_addRowsOf_45 rfl (lv_at hl 1 rfl) ?_
        refine sh_getr C hw fl_X5_15 tbX_117 rfl dX5_addRowsOf_46 ?_
        refine lv_aload_n C.1 C.2.1 dX5_addRowsOf_49 rfl (lv_at hl 1 rfl) ?_
        refine sh_geti C hw fl_X5_21 tbX_117 rfl dX5_addRowsOf_50 ?_
        refine lv_aload_n C.1 C.2.1 dX5_addRowsOf_53 rfl (lv_at hl 2 rfl) ?_
        refine sh_getr C hw fl_X5_40 tbX_4 rfl dX5_addRowsOf_54 ?_
        refine lv_iload C.1 C.2.1 dX5_addRowsOf_57 (lv_at hl 0 rfl) ?_
        refine sh_iald C hw hf tbX_11 dX5_addRowsOf_59 (fun hf => ?_)
        refine sh_iast C hw hf tbX_119 dX5_addRowsOf_60 (fun S3 H locs hw hf => ?_)
        refine lv_aload_n C.1 C.2.1 dX5_addRowsOf_61 rfl (lv_at hl 1 rfl) ?_
        refine sh_getr C hw fl_X5_18 tbX_117 rfl dX5_addRowsOf_62 ?_
        refine lv_aload_n C.1 C.2.1 dX5_addRowsOf_65 rfl (lv_at hl 1 rfl) ?_
        refine sh_geti C hw fl_X5_21 tbX_117 rfl dX5_addRowsOf_66 ?_
        refine lv_aload_n C.1 C.2.1 dX5_addRowsOf_69 rfl (lv_at hl 2 rfl) ?_
        refine sh_getr C hw fl_X5_41 tbX_4 rfl dX5_addRowsOf_70 ?_
        refine lv_iload C.1 C.2.1 dX5_addRowsOf_73 (lv_at hl 0 rfl) ?_
        refine sh_iald C hw hf tbX_12 dX5_addRowsOf_75 (fun hf => ?_)
        refine sh_iast C hw hf tbX_120 dX5_addRowsOf_76 (fun S4 H locs hw hf => ?_)
        refine lv_aload_n C.1 C.2.1 dX5_addRowsOf_77 rfl (lv_at hl 1 rfl) ?_
        refine lv_dup C.1 C.2.1 dX5_addRowsOf_78 rfl ?_
        refine sh_geti C hw fl_X5_21 tbX_117 rfl dX5_addRowsOf_79 ?_
        refine lv_iconst (v := 1) C.1 C.2.1 dX5_addRowsOf_82 (by decide) ?_
        refine lv_iadd C.1 C.2.1 dX5_addRowsOf_83 ?_
        refine sh_puti C hw fl_X5_21 fp_3_3 hf tbX_117 rfl dX5_addRowsOf_84 (fun S5 H locs hw hf => ?_)
        obtain ⟨y6, ey6, hf⟩ := sh_nm hf
        refine lv_iinc (v := y6) (lv' := [(3, .int y6), (4, .int y1), (0, .ref (G.2.1 117)), (1, .ref (G.2.1 4)), (2, .int v2)]) C.1 C.2.1 dX5_addRowsOf_87 hl (k := 4) rfl (by rw [← ey6]; rfl) (by decide) rfl (fun ls hl => ?_)
        refine lv_goto (tgt := 2) C.1 C.2.1 dX5_addRowsOf_90 (by decide) ?_
        exact hr2 S5 v2 y6 hf _ _ _ hw (lv_sub hl [2, 3, 4, 0] rfl)
def fX5_addRowsOf (S : sh_St) (v2 : Int32) : Option (Unit × sh_St) :=
    fX5_addRowsOf_2 sh_FU S v2 0
set_option maxRecDepth 100000 in
set_option maxHeartbeats 4000000 in
theorem kX5_addRowsOf (l : Launch) (v2 : Int32) : sh_Mv l yX5_addRowsOf cX5_addRowsOf 5 1 tbX (fun G => [.ref (G.2.1 117), .ref (G.2.1 4), .int v2]) (fun S => fX5_addRowsOf S v2) := by
  refine sh_mkv (by decide) (fun G => Nat.le_of_ble_eq_true rfl) ?_
  intro p e s m args below meth c G A S res ls hf C hr hw hl
  have C : sh_Cx p s m args meth c cX5_addRowsOf 5 RX5 G A := C
  have hl : lv_has ls 5 [(0, .ref (G.2.1 117)), (1, .ref (G.2.1 4)), (2, .int v2)] := hl
  replace hf : fX5_addRowsOf S v2 = some res := hf
  rw [fX5_addRowsOf] at hf
  refine lv_iconst (v := 0) C.1 C.2.1 dX5_addRowsOf_0 (by decide) ?_
  refine lv_istore_n (lv' := [(3, .int 0), (0, .ref (G.2.1 117)), (1, .ref (G.2.1 4)), (2, .int v2)]) C.1 C.2.1 dX5_addRowsOf_1 rfl hl (by decide) rfl (fun ls hl => ?_)
  exact wX5_addRowsOf_2 C hr _ S v2 0 hf _ _ _ hw (lv_sub hl [1, 2, 3, 0] rfl)
def fX6_markAt (S : sh_St) (v1 : Int32) : Option (Int32 × sh_St) :=
    if v1 ≤ 0 then (some (0, S))
    else (sh_g v1 240 (sh_g (v1 - 1) 240 (if (S.1 127 v1.toNatClampNeg) = (S.1 127 (v1 - 1).toNatClampNeg) then (some (1, S))
    else (some (0, S)))))
set_option maxRecDepth 100000 in
set_option maxHeartbeats 4000000 in
theorem kX6_markAt (l : Launch) (v1 : Int32) : sh_Mi l yX6_markAt cX6_markAt 2 .int 1 tbX (fun G => [.ref (G.2.1 124), .int v1]) (fun S => fX6_markAt S v1) := by
  refine sh_mki (by decide) (fun G => Nat.le_of_ble_eq_true rfl) ?_
  intro p e s m args below meth c G A S res ls hf C hr hw hl
  have C : sh_Cx p s m args meth c cX6_markAt 2 RX6 G A := C
  have hl : lv_has ls 2 [(0, .ref (G.2.1 124)), (1, .int v1)] := hl
  replace hf : fX6_markAt S v1 = some res := hf
  rw [fX6_markAt] at hf
  refine lv_iload_n C.1 C.2.1 dX6_markAt_0 rfl (lv_at hl 1 rfl) ?_
  refine sh_if_le (tgt := 25) C hf dX6_markAt_1 (by decide) (fun hf => ?_) (fun hf => ?_)
  · refine lv_iconst (v := 0) C.1 C.2.1 dX6_markAt_25 (by decide) ?_
    exact sh_ri C hw hr hf dX6_markAt_26
  · refine lv_aload_n C.1 C.2.1 dX6_markAt_4 rfl (lv_at hl 0 rfl) ?_
    refine sh_getr C hw fl_X6_19 tbX_124 rfl dX6_markAt_5 ?_
    refine lv_iload_n C.1 C.2.1 dX6_markAt_8 rfl (lv_at hl 1 rfl) ?_
    refine sh_iald C hw hf tbX_127 dX6_markAt_9 (fun hf => ?_)
    refine lv_aload_n C.1 C.2.1 dX6_markAt_10 rfl (lv_at hl 0 rfl) ?_
    refine sh_getr C hw fl_X6_19 tbX_124 rfl dX6_markAt_11 ?_
    refine lv_iload_n C.1 C.2.1 dX6_markAt_14 rfl (lv_at hl 1 rfl) ?_
    refine lv_iconst (v := 1) C.1 C.2.1 dX6_markAt_15 (by decide) ?_
    refine lv_isub C.1 C.2.1 dX6_markAt_16 ?_
    refine sh_iald C hw hf tbX_127 dX6_markAt_17 (fun hf => ?_)
    refine sh_icmp_ne (tgt := 25) C hf dX6_markAt_18 (by decide) (fun hf => ?_) (fun hf => ?_)
    · refine lv_iconst (v := 0) C.1 C.2.1 dX6_markAt_25 (by decide) ?_
      exact sh_ri C hw hr hf dX6_markAt_26
    · refine lv_iconst (v := 1) C.1 C.2.1 dX6_markAt_21 (by decide) ?_
      refine lv_goto (tgt := 26) C.1 C.2.1 dX6_markAt_22 (by decide) ?_
      exact sh_ri C hw hr hf dX6_markAt_26
def fX6_isAhead_34 (S : sh_St) : Option (Int32 × sh_St) :=
    sh_b 1 (some (1, S))
set_option maxRecDepth 100000 in
set_option maxHeartbeats 4000000 in
theorem wX6_isAhead_34 {p : Program} {l : Launch} {e : Env} {s : State} {m : MethodId} {args : Array Value} {below : List Frame} {meth : Method} {c : Code} {G : sh_Ev} {A : Nat → Prop} {res : Int32 × sh_St} (C : sh_Cx p s m args meth c cX6_isAhead 5 RX6 G A) (hr : meth.sig.returnType = some .boolean) : ∀ (S : sh_St), fX6_isAhead_34 S = some res → ∀ (H : Heap) (locs : List Loc) (ls : Array Slot), sh_Wx G tbX A s H locs S → lv_has ls 5 [] → W p l e (sh_rm 1) s m args below meth c H locs 0 0 (sh_Qi below args s G tbX A res) (F0 m 34 ls []) := by
  intro S hf H locs ls hw hl
  rw [fX6_isAhead_34] at hf
  refine lv_iconst (v := 1) C.1 C.2.1 dX6_isAhead_34 (by decide) ?_
  refine lv_goto (tgt := 39) C.1 C.2.1 dX6_isAhead_35 (by decide) ?_
  exact sh_rz C hw hr hf dX6_isAhead_39
def fX6_isAhead (S : sh_St) (v1 : Int32) (v2 : Int64) (v4 : Int32) : Option (Int32 × sh_St) :=
    sh_g v4 240 (if v1 < (S.1 127 v4.toNatClampNeg) then (fX6_isAhead_34 S)
    else (sh_g v4 240 (if v1 = (S.1 127 v4.toNatClampNeg) then (sh_g v4 240 (if (S.2 125 v4.toNatClampNeg) ≤ v2 then (sh_b 0 (some (0, S)))
    else (fX6_isAhead_34 S)))
    else (sh_b 0 (some (0, S))))))
set_option maxRecDepth 100000 in
set_option maxHeartbeats 4000000 in
theorem kX6_isAhead (l : Launch) (v1 : Int32) (v2 : Int64) (v4 : Int32) : sh_Mi l yX6_isAhead cX6_isAhead 5 .boolean 1 tbX (fun G => [.ref (G.2.1 124), .int v1, .long v2, .int v4]) (fun S => fX6_isAhead S v1 v2 v4) := by
  refine sh_mki (by decide) (fun G => Nat.le_of_ble_eq_true rfl) ?_
  intro p e s m args below meth c G A S res ls hf C hr hw hl
  have C : sh_Cx p s m args meth c cX6_isAhead 5 RX6 G A := C
  have hl : lv_has ls 5 [(0, .ref (G.2.1 124)), (1, .int v1), (2, .long v2), (4, .int v4)] := hl
  replace hf : fX6_isAhead S v1 v2 v4 = some res := hf
  rw [fX6_isAhead] at hf
  refine lv_iload_n C.1 C.2.1 dX6_isAhead_0 rfl (lv_at hl 1 rfl) ?_
  refine lv_aload_n C.1 C.2.1 dX6_isAhead_1 rfl (lv_at hl 0 rfl) ?_
  refine sh_getr C hw fl_X6_19 tbX_124 rfl dX6_isAhead_2 ?_
  refine lv_iload C.1 C.2.1 dX6_isAhead_5 (lv_at hl 3 rfl) ?_
  refine sh_iald C hw hf tbX_127 dX6_isAhead_7 (fun hf => ?_)
  refine sh_icmp_lt (tgt := 34) C hf dX6_isAhead_8 (by decide) (fun hf => ?_) (fun hf => ?_)
  · exact wX6_isAhead_34 C hr S  hf _ _ _ hw (lv_sub hl [] rfl)
  · refine lv_iload_n C.1 C.2.1 dX6_isAhead_11 rfl (lv_at hl 1 rfl) ?_
    refine lv_aload_n C.1 C.2.1 dX6_isAhead_12 rfl (lv_at hl 0 rfl) ?_
    refine sh_getr C hw fl_X6_19 tbX_124 rfl dX6_isAhead_13 ?_
    refine lv_iload C.1 C.2.1 dX6_isAhead_16 (lv_at hl 3 rfl) ?_
    refine sh_iald C hw hf tbX_127 dX6_isAhead_18 (fun hf => ?_)
    refine sh_icmp_ne (tgt := 38) C hf dX6_isAhead_19 (by decide) (fun hf => ?_) (fun hf => ?_)
    · refine lv_iconst (v := 0) C.1 C.2.1 dX6_isAhead_38 (by decide) ?_
      exact sh_rz C hw hr hf dX6_isAhead_39
    · refine lv_lload_n C.1 C.2.1 dX6_isAhead_22 rfl (lv_at hl 2 rfl) ?_
      refine lv_aload_n C.1 C.2.1 dX6_isAhead_23 rfl (lv_at hl 0 rfl) ?_
      refine sh_getr C hw fl_X6_9 tbX_124 rfl dX6_isAhead_24 ?_
      refine lv_iload C.1 C.2.1 dX6_isAhead_27 (lv_at hl 3 rfl) ?_
      refine sh_lald C hw hf tbX_125 dX6_isAhead_29 (fun hf => ?_)
      refine sh_lcmp_ge (tgt := 38) C hf dX6_isAhead_30 dX6_isAhead_31 (by decide) (fun hf => ?_) (fun hf => ?_)
      · refine lv_iconst (v := 0) C.1 C.2.1 dX6_isAhead_38 (by decide) ?_
        exact sh_rz C hw hr hf dX6_isAhead_39
      · exact wX6_isAhead_34 C hr S  hf _ _ _ hw (lv_sub hl [] rfl)
def fX7_entriesIn_29 (rk4 : sh_St → Int32 → Int32 → Int32 → Option (Int32 × sh_St)) (S : sh_St) (v1 : Int32) (v2 : Int32) (v3 : Int32) : Option (Int32 × sh_St) :=
    sh_t (v3 + 1) fun y1 =>
    rk4 S v1 v2 y1
set_option maxRecDepth 100000 in
set_option maxHeartbeats 4000000 in
theorem wX7_entriesIn_29 {p : Program} {l : Launch} {e : Env} {s : State} {m : MethodId} {args : Array Value} {below : List Frame} {meth : Method} {c : Code} {G : sh_Ev} {A : Nat → Prop} {res : Int32 × sh_St} (C : sh_Cx p s m args meth c cX7_entriesIn 4 RX7 G A) (hr : meth.sig.returnType = some .int) (rk4 : sh_St → Int32 → Int32 → Int32 → Option (Int32 × sh_St)) (hr4 : ∀ (S : sh_St) (v1 : Int32) (v2 : Int32) (v3 : Int32), rk4 S v1 v2 v3 = some res → ∀ (H : Heap) (locs : List Loc) (ls : Array Slot), sh_Wx G tbX A s H locs S → lv_has ls 4 [(0, .ref (G.2.1 4)), (1, .int v1), (2, .int v2), (3, .int v3)] → W p l e (sh_rm 1) s m args below meth c H locs 0 0 (sh_Qi below args s G tbX A res) (F0 m 4 ls [])) : ∀ (S : sh_St) (v1 : Int32) (v2 : Int32) (v3 : Int32), fX7_entriesIn_29 rk4 S v1 v2 v3 = some res → ∀ (H : Heap) (locs : List Loc) (ls : Array Slot), sh_Wx G tbX A s H locs S → lv_has ls 4 [(0, .ref (G.2.1 4)), (1, .int v1), (2, .int v2), (3, .int v3)] → W p l e (sh_rm 1) s m args below meth c H locs 0 0 (sh_Qi below args s G tbX A res) (F0 m 29 ls []) := by
  intro S v1 v2 v3 hf H locs ls hw hl
  rw [fX7_entriesIn_29] at hf
  obtain ⟨y1, ey1, hf⟩ := sh_nm hf
  refine lv_iinc (v := y1) (lv' := [(3, .int y1), (0, .ref (G.2.1 4)), (1, .int v1), (2, .int v2)]) C.1 C.2.1 dX7_entriesIn_29 hl (k := 3) rfl (by rw [← ey1]; rfl) (by decide) rfl (fun ls hl => ?_)
  refine lv_goto (tgt := 4) C.1 C.2.1 dX7_entriesIn_32 (by decide) ?_
  exact hr4 S v1 v2 y1 hf _ _ _ hw (lv_sub hl [1, 2, 3, 0] rfl)
def fX7_entriesIn_4 : Nat → sh_St → Int32 → Int32 → Int32 → Option (Int32 × sh_St)
  | 0, _, _, _, _ => none
  | n + 1, S, v1, v2, v3 =>
    if 6 ≤ v3 then (some (v2, S))
    else (sh_g ((v1 * 6) + v3) 240 (if (S.2 8 ((v1 * 6) + v3).toNatClampNeg) = 0 then (fX7_entriesIn_29 (fX7_entriesIn_4 n) S v1 v2 v3)
    else (sh_t (v2 + 1) fun y2 =>
    fX7_entriesIn_29 (fX7_entriesIn_4 n) S v1 y2 v3)))
set_option maxRecDepth 100000 in
set_option maxHeartbeats 4000000 in
theorem wX7_entriesIn_4 {p : Program} {l : Launch} {e : Env} {s : State} {m : MethodId} {args : Array Value} {below : List Frame} {meth : Method} {c : Code} {G : sh_Ev} {A : Nat → Prop} {res : Int32 × sh_St} (C : sh_Cx p s m args meth c cX7_entriesIn 4 RX7 G A) (hr : meth.sig.returnType = some .int) : ∀ (n : Nat) (S : sh_St) (v1 : Int32) (v2 : Int32) (v3 : Int32), fX7_entriesIn_4 n S v1 v2 v3 = some res → ∀ (H : Heap) (locs : List Loc) (ls : Array Slot), sh_Wx G tbX A s H locs S → lv_has ls 4 [(0, .ref (G.2.1 4)), (1, .int v1), (2, .int v2), (3, .int v3)] → W p l e (sh_rm 1) s m args below meth c H locs 0 0 (sh_Qi below args s G tbX A res) (F0 m 4 ls []) := by
  intro n
  induction n with
  | zero => intro S v1 v2 v3 hf; exact nomatch (show (none : Option (Int32 × sh_St)) = some res from hf)
  | succ n ih =>
    intro S v1 v2 v3 hf H locs ls hw hl
    have hr4 := ih
    rw [fX7_entriesIn_4] at hf
    refine lv_iload_n C.1 C.2.1 dX7_entriesIn_4 rfl (lv_at hl 3 rfl) ?_
    refine lv_bipush (v := 6) C.1 C.2.1 dX7_entriesIn_5 (by decide) ?_
    refine sh_icmp_ge (tgt := 35) C hf dX7_entriesIn_7 (by decide) (fun hf => ?_) (fun hf => ?_)
    · refine lv_iload_n C.1 C.2.1 dX7_entriesIn_35 rfl (lv_at hl 2 rfl) ?_
      exact sh_ri C hw hr hf dX7_entriesIn_36
    · refine lv_aload_n C.1 C.2.1 dX7_entriesIn_10 rfl (lv_at hl 0 rfl) ?_
      refine sh_getr C hw fl_X7_35 tbX_4 rfl dX7_entriesIn_11 ?_
      refine lv_iload_n C.1 C.2.1 dX7_entriesIn_14 rfl (lv_at hl 1 rfl) ?_
      refine lv_bipush (v := 6) C.1 C.2.1 dX7_entriesIn_15 (by decide) ?_
      refine lv_imul C.1 C.2.1 dX7_entriesIn_17 ?_
      refine lv_iload_n C.1 C.2.1 dX7_entriesIn_18 rfl (lv_at hl 3 rfl) ?_
      refine lv_iadd C.1 C.2.1 dX7_entriesIn_19 ?_
      refine sh_lald C hw hf tbX_8 dX7_entriesIn_20 (fun hf => ?_)
      refine lv_lconst (v := 0) C.1 C.2.1 dX7_entriesIn_21 (by decide) ?_
      refine sh_lcmp_eq (tgt := 29) C hf dX7_entriesIn_22 dX7_entriesIn_23 (by decide) (fun hf => ?_) (fun hf => ?_)
      · exact wX7_entriesIn_29 C hr (fX7_entriesIn_4 n) hr4 S v1 v2 v3 hf _ _ _ hw (lv_sub hl [0, 1, 2, 3] rfl)
      · obtain ⟨y2, ey2, hf⟩ := sh_nm hf
        refine lv_iinc (v := y2) (lv' := [(2, .int y2), (0, .ref (G.2.1 4)), (1, .int v1), (3, .int v3)]) C.1 C.2.1 dX7_entriesIn_26 hl (k := 2) rfl (by rw [← ey2]; rfl) (by decide) rfl (fun ls hl => ?_)
        exact wX7_entriesIn_29 C hr (fX7_entriesIn_4 n) hr4 S v1 y2 v3 hf _ _ _ hw (lv_sub hl [1, 2, 0, 3] rfl)
def fX7_entriesIn (S : sh_St) (v1 : Int32) : Option (Int32 × sh_St) :=
    fX7_entriesIn_4 sh_FU S v1 0 0
set_option maxRecDepth 100000 in
set_option maxHeartbeats 4000000 in
theorem kX7_entriesIn (l : Launch) (v1 : Int32) : sh_Mi l yX7_entriesIn cX7_entriesIn 4 .int 1 tbX (fun G => [.ref (G.2.1 4), .int v1]) (fun S => fX7_entriesIn S v1) := by
  refine sh_mki (by decide) (fun G => Nat.le_of_ble_eq_true rfl) ?_
  intro p e s m args below meth c G A S res ls hf C hr hw hl
  have C : sh_Cx p s m args meth c cX7_entriesIn 4 RX7 G A := C
  have hl : lv_has ls 4 [(0, .ref (G.2.1 4)), (1, .int v1)] := hl
  replace hf : fX7_entriesIn S v1 = some res := hf
  rw [fX7_entriesIn] at hf
  refine lv_iconst (v := 0) C.1 C.2.1 dX7_entriesIn_0 (by decide) ?_
  refine lv_istore_n (lv' := [(2, .int 0), (0, .ref (G.2.1 4)), (1, .int v1)]) C.1 C.2.1 dX7_entriesIn_1 rfl hl (by decide) rfl (fun ls hl => ?_)
  refine lv_iconst (v := 0) C.1 C.2.1 dX7_entriesIn_2 (by decide) ?_
  refine lv_istore_n (lv' := [(3, .int 0), (2, .int 0), (0, .ref (G.2.1 4)), (1, .int v1)]) C.1 C.2.1 dX7_entriesIn_3 rfl hl (by decide) rfl (fun ls hl => ?_)
  exact wX7_entriesIn_4 C hr _ S v1 0 0 hf _ _ _ hw (lv_sub hl [2, 3, 1, 0] rfl)
def fX7_entriesInAll_25 (rk4 : sh_St → Int32 → Int32 → Option (Int32 × sh_St)) (S : sh_St) (v1 : Int32) (v2 : Int32) : Option (Int32 × sh_St) :=
    sh_t (v2 + 1) fun y1 =>
    rk4 S v1 y1
set_option maxRecDepth 100000 in
set_option maxHeartbeats 4000000 in
theorem wX7_entriesInAll_25 {p : Program} {l : Launch} {e : Env} {s : State} {m : MethodId} {args : Array Value} {below : List Frame} {meth : Method} {c : Code} {G : sh_Ev} {A : Nat → Prop} {res : Int32 × sh_St} (C : sh_Cx p s m args meth c cX7_entriesInAll 3 RX7 G A) (hr : meth.sig.returnType = some .int) (rk4 : sh_St → Int32 → Int32 → Option (Int32 × sh_St)) (hr4 : ∀ (S : sh_St) (v1 : Int32) (v2 : Int32), rk4 S v1 v2 = some res → ∀ (H : Heap) (locs : List Loc) (ls : Array Slot), sh_Wx G tbX A s H locs S → lv_has ls 3 [(0, .ref (G.2.1 4)), (1, .int v1), (2, .int v2)] → W p l e (sh_rm 1) s m args below meth c H locs 0 0 (sh_Qi below args s G tbX A res) (F0 m 4 ls [])) : ∀ (S : sh_St) (v1 : Int32) (v2 : Int32), fX7_entriesInAll_25 rk4 S v1 v2 = some res → ∀ (H : Heap) (locs : List Loc) (ls : Array Slot), sh_Wx G tbX A s H locs S → lv_has ls 3 [(0, .ref (G.2.1 4)), (1, .int v1), (2, .int v2)] → W p l e (sh_rm 1) s m args below meth c H locs 0 0 (sh_Qi below args s G tbX A res) (F0 m 25 ls []) := by
  intro S v1 v2 hf H locs ls hw hl
  rw [fX7_entriesInAll_25] at hf
  obtain ⟨y1, ey1, hf⟩ := sh_nm hf
  refine lv_iinc (v := y1) (lv' := [(2, .int y1), (0, .ref (G.2.1 4)), (1, .int v1)]) C.1 C.2.1 dX7_entriesInAll_25 hl (k := 2) rfl (by rw [← ey1]; rfl) (by decide) rfl (fun ls hl => ?_)
  refine lv_goto (tgt := 4) C.1 C.2.1 dX7_entriesInAll_28 (by decide) ?_
  exact hr4 S v1 y1 hf _ _ _ hw (lv_sub hl [1, 2, 0] rfl)
def fX7_entriesInAll_4 : Nat → sh_St → Int32 → Int32 → Option (Int32 × sh_St)
  | 0, _, _, _ => none
  | n + 1, S, v1, v2 =>
    if 240 ≤ v2 then (some (v1, S))
    else (sh_g v2 240 (if (S.2 8 v2.toNatClampNeg) = 0 then (fX7_entriesInAll_25 (fX7_entriesInAll_4 n) S v1 v2)
    else (sh_t (v1 + 1) fun y2 =>
    fX7_entriesInAll_25 (fX7_entriesInAll_4 n) S y2 v2)))
set_option maxRecDepth 100000 in
set_option maxHeartbeats 4000000 in
theorem wX7_entriesInAll_4 {p : Program} {l : Launch} {e : Env} {s : State} {m : MethodId} {args : Array Value} {below : List Frame} {meth : Method} {c : Code} {G : sh_Ev} {A : Nat → Prop} {res : Int32 × sh_St} (C : sh_Cx p s m args meth c cX7_entriesInAll 3 RX7 G A) (hr : meth.sig.returnType = some .int) : ∀ (n : Nat) (S : sh_St) (v1 : Int32) (v2 : Int32), fX7_entriesInAll_4 n S v1 v2 = some res → ∀ (H : Heap) (locs : List Loc) (ls : Array Slot), sh_Wx G tbX A s H locs S → lv_has ls 3 [(0, .ref (G.2.1 4)), (1, .int v1), (2, .int v2)] → W p l e (sh_rm 1) s m args below meth c H locs 0 0 (sh_Qi below args s G tbX A res) (F0 m 4 ls []) := by
  intro n
  induction n with
  | zero => intro S v1 v2 hf; exact nomatch (show (none : Option (Int32 × sh_St)) = some res from hf)
  | succ n ih =>
    intro S v1 v2 hf H locs ls hw hl
    have hr4 := ih
    rw [fX7_entriesInAll_4] at hf
    refine lv_iload_n C.1 C.2.1 dX7_entriesInAll_4 rfl (lv_at hl 2 rfl) ?_
    refine lv_sipush (v := 240) C.1 C.2.1 dX7_entriesInAll_5 (by decide) ?_
    refine sh_icmp_ge (tgt := 31) C hf dX7_entriesInAll_8 (by decide) (fun hf => ?_) (fun hf => ?_)
    · refine lv_iload_n C.1 C.2.1 dX7_entriesInAll_31 rfl (lv_at hl 1 rfl) ?_
      exact sh_ri C hw hr hf dX7_entriesInAll_32
    · refine lv_aload_n C.1 C.2.1 dX7_entriesInAll_11 rfl (lv_at hl 0 rfl) ?_
      refine sh_getr C hw fl_X7_35 tbX_4 rfl dX7_entriesInAll_12 ?_
      refine lv_iload_n C.1 C.2.1 dX7_entriesInAll_15 rfl (lv_at hl 2 rfl) ?_
      refine sh_lald C hw hf tbX_8 dX7_entriesInAll_16 (fun hf => ?_)
      refine lv_lconst (v := 0) C.1 C.2.1 dX7_entriesInAll_17 (by decide) ?_
      refine sh_lcmp_eq (tgt := 25) C hf dX7_entriesInAll_18 dX7_entriesInAll_19 (by decide) (fun hf => ?_) (fun hf => ?_)
      · exact wX7_entriesInAll_25 C hr (fX7_entriesInAll_4 n) hr4 S v1 v2 hf _ _ _ hw (lv_sub hl [0, 1, 2] rfl)
      · obtain ⟨y2, ey2, hf⟩ := sh_nm hf
        refine lv_iinc (v := y2) (lv' := [(1, .int y2), (0, .ref (G.2.1 4)), (2, .int v2)]) C.1 C.2.1 dX7_entriesInAll_22 hl (k := 1) rfl (by rw [← ey2]; rfl) (by decide) rfl (fun ls hl => ?_)
        exact wX7_entriesInAll_25 C hr (fX7_entriesInAll_4 n) hr4 S y2 v2 hf _ _ _ hw (lv_sub hl [1, 0, 2] rfl)
def fX7_entriesInAll (S : sh_St) : Option (Int32 × sh_St) :=
    fX7_entriesInAll_4 sh_FU S 0 0
set_option maxRecDepth 100000 in
set_option maxHeartbeats 4000000 in
theorem kX7_entriesInAll (l : Launch) : sh_Mi l yX7_entriesInAll cX7_entriesInAll 3 .int 1 tbX (fun G => [.ref (G.2.1 4)]) (fun S => fX7_entriesInAll S) := by
  refine sh_mki (by decide) (fun G => Nat.le_of_ble_eq_true rfl) ?_
  intro p e s m args below meth c G A S res ls hf C hr hw hl
  have C : sh_Cx p s m args meth c cX7_entriesInAll 3 RX7 G A := C
  have hl : lv_has ls 3 [(0, .ref (G.2.1 4))] := hl
  replace hf : fX7_entriesInAll S = some res := hf
  rw [fX7_entriesInAll] at hf
  refine lv_iconst (v := 0) C.1 C.2.1 dX7_entriesInAll_0 (by decide) ?_
  refine lv_istore_n (lv' := [(1, .int 0), (0, .ref (G.2.1 4))]) C.1 C.2.1 dX7_entriesInAll_1 rfl hl (by decide) rfl (fun ls hl => ?_)
  refine lv_iconst (v := 0) C.1 C.2.1 dX7_entriesInAll_2 (by decide) ?_
  refine lv_istore_n (lv' := [(2, .int 0), (1, .int 0), (0, .ref (G.2.1 4))]) C.1 C.2.1 dX7_entriesInAll_3 rfl hl (by decide) rfl (fun ls hl => ?_)
  exact wX7_entriesInAll_4 C hr _ S 0 0 hf _ _ _ hw (lv_sub hl [2, 1, 0] rfl)
def fX7_entriesOfHash_35 (rk4 : sh_St → Int32 → Int32 → Int32 → Option (Int32 × sh_St)) (S : sh_St) (v1 : Int32) (v2 : Int32) (v3 : Int32) : Option (Int32 × sh_St) :=
    sh_t (v3 + 1) fun y1 =>
    rk4 S v1 v2 y1
set_option maxRecDepth 100000 in
set_option maxHeartbeats 4000000 in
theorem wX7_entriesOfHash_35 {p : Program} {l : Launch} {e : Env} {s : State} {m : MethodId} {args : Array Value} {below : List Frame} {meth : Method} {c : Code} {G : sh_Ev} {A : Nat → Prop} {res : Int32 × sh_St} (C : sh_Cx p s m args meth c cX7_entriesOfHash 4 RX7 G A) (hr : meth.sig.returnType = some .int) (rk4 : sh_St → Int32 → Int32 → Int32 → Option (Int32 × sh_St)) (hr4 : ∀ (S : sh_St) (v1 : Int32) (v2 : Int32) (v3 : Int32), rk4 S v1 v2 v3 = some res → ∀ (H : Heap) (locs : List Loc) (ls : Array Slot), sh_Wx G tbX A s H locs S → lv_has ls 4 [(0, .ref (G.2.1 4)), (1, .int v1), (2, .int v2), (3, .int v3)] → W p l e (sh_rm 1) s m args below meth c H locs 0 0 (sh_Qi below args s G tbX A res) (F0 m 4 ls [])) : ∀ (S : sh_St) (v1 : Int32) (v2 : Int32) (v3 : Int32), fX7_entriesOfHash_35 rk4 S v1 v2 v3 = some res → ∀ (H : Heap) (locs : List Loc) (ls : Array Slot), sh_Wx G tbX A s H locs S → lv_has ls 4 [(0, .ref (G.2.1 4)), (1, .int v1), (2, .int v2), (3, .int v3)] → W p l e (sh_rm 1) s m args below meth c H locs 0 0 (sh_Qi below args s G tbX A res) (F0 m 35 ls []) := by
  intro S v1 v2 v3 hf H locs ls hw hl
  rw [fX7_entriesOfHash_35] at hf
  obtain ⟨y1, ey1, hf⟩ := sh_nm hf
  refine lv_iinc (v := y1) (lv' := [(3, .int y1), (0, .ref (G.2.1 4)), (1, .int v1), (2, .int v2)]) C.1 C.2.1 dX7_entriesOfHash_35 hl (k := 3) rfl (by rw [← ey1]; rfl) (by decide) rfl (fun ls hl => ?_)
  refine lv_goto (tgt := 4) C.1 C.2.1 dX7_entriesOfHash_38 (by decide) ?_
  exact hr4 S v1 v2 y1 hf _ _ _ hw (lv_sub hl [1, 2, 3, 0] rfl)
def fX7_entriesOfHash_4 : Nat → sh_St → Int32 → Int32 → Int32 → Option (Int32 × sh_St)
  | 0, _, _, _, _ => none
  | n + 1, S, v1, v2, v3 =>
    if 240 ≤ v3 then (some (v2, S))
    else (sh_g v3 240 (if (S.2 8 v3.toNatClampNeg) = 0 then (fX7_entriesOfHash_35 (fX7_entriesOfHash_4 n) S v1 v2 v3)
    else (sh_g v3 240 (if (S.1 10 v3.toNatClampNeg) = v1 then (sh_t (v2 + 1) fun y2 =>
    fX7_entriesOfHash_35 (fX7_entriesOfHash_4 n) S v1 y2 v3)
    else (fX7_entriesOfHash_35 (fX7_entriesOfHash_4 n) S v1 v2 v3)))))
set_option maxRecDepth 100000 in
set_option maxHeartbeats 4000000 in
theorem wX7_entriesOfHash_4 {p : Program} {l : Launch} {e : Env} {s : State} {m : MethodId} {args : Array Value} {below : List Frame} {meth : Method} {c : Code} {G : sh_Ev} {A : Nat → Prop} {res : Int32 × sh_St} (C : sh_Cx p s m args meth c cX7_entriesOfHash 4 RX7 G A) (hr : meth.sig.returnType = some .int) : ∀ (n : Nat) (S : sh_St) (v1 : Int32) (v2 : Int32) (v3 : Int32), fX7_entriesOfHash_4 n S v1 v2 v3 = some res → ∀ (H : Heap) (locs : List Loc) (ls : Array Slot), sh_Wx G tbX A s H locs S → lv_has ls 4 [(0, .ref (G.2.1 4)), (1, .int v1), (2, .int v2), (3, .int v3)] → W p l e (sh_rm 1) s m args below meth c H locs 0 0 (sh_Qi below args s G tbX A res) (F0 m 4 ls []) := by
  intro n
  induction n with
  | zero => intro S v1 v2 v3 hf; exact nomatch (show (none : Option (Int32 × sh_St)) = some res from hf)
  | succ n ih =>
    intro S v1 v2 v3 hf H locs ls hw hl
    have hr4 := ih
    rw [fX7_entriesOfHash_4] at hf
    refine lv_iload_n C.1 C.2.1 dX7_entriesOfHash_4 rfl (lv_at hl 3 rfl) ?_
    refine lv_sipush (v := 240) C.1 C.2.1 dX7_entriesOfHash_5 (by decide) ?_
    refine sh_icmp_ge (tgt := 41) C hf dX7_entriesOfHash_8 (by decide) (fun hf => ?_) (fun hf => ?_)
    · refine lv_iload_n C.1 C.2.1 dX7_entriesOfHash_41 rfl (lv_at hl 2 rfl) ?_
      exact sh_ri C hw hr hf dX7_entriesOfHash_42
    · refine lv_aload_n C.1 C.2.1 dX7_entriesOfHash_11 rfl (lv_at hl 0 rfl) ?_
      refine sh_getr C hw fl_X7_35 tbX_4 rfl dX7_entriesOfHash_12 ?_
      refine lv_iload_n C.1 C.2.1 dX7_entriesOfHash_15 rfl (lv_at hl 3 rfl) ?_
      refine sh_lald C hw hf tbX_8 dX7_entriesOfHash_16 (fun hf => ?_)
      refine lv_lconst (v := 0) C.1 C.2.1 dX7_entriesOfHash_17 (by decide) ?_
      refine sh_lcmp_eq (tgt := 35) C hf dX7_entriesOfHash_18 dX7_entriesOfHash_19 (by decide) (fun hf => ?_) (fun hf => ?_)
      · exact wX7_entriesOfHash_35 C hr (fX7_entriesOfHash_4 n) hr4 S v1 v2 v3 hf _ _ _ hw (lv_sub hl [0, 1, 2, 3] rfl)
      · refine lv_aload_n C.1 C.2.1 dX7_entriesOfHash_22 rfl (lv_at hl 0 rfl) ?_
        refine sh_getr C hw fl_X7_42 tbX_4 rfl dX7_entriesOfHash_23 ?_
        refine lv_iload_n C.1 C.2.1 dX7_entriesOfHash_26 rfl (lv_at hl 3 rfl) ?_
        refine sh_iald C hw hf tbX_10 dX7_entriesOfHash_27 (fun hf => ?_)
        refine lv_iload_n C.1 C.2.1 dX7_entriesOfHash_28 rfl (lv_at hl 1 rfl) ?_
        refine sh_icmp_ne (tgt := 35) C hf dX7_entriesOfHash_29 (by decide) (fun hf => ?_) (fun hf => ?_)
        · exact wX7_entriesOfHash_35 C hr (fX7_entriesOfHash_4 n) hr4 S v1 v2 v3 hf _ _ _ hw (lv_sub hl [0, 1, 2, 3] rfl)
        · obtain ⟨y2, ey2, hf⟩ := sh_nm hf
          refine lv_iinc (v := y2) (lv' := [(2, .int y2), (0, .ref (G.2.1 4)), (1, .int v1), (3, .int v3)]) C.1 C.2.1 dX7_entriesOfHash_32 hl (k := 2) rfl (by rw [← ey2]; rfl) (by decide) rfl (fun ls hl => ?_)
          exact wX7_entriesOfHash_35 C hr (fX7_entriesOfHash_4 n) hr4 S v1 y2 v3 hf _ _ _ hw (lv_sub hl [1, 2, 0, 3] rfl)
def fX7_entriesOfHash (S : sh_St) (v1 : Int32) : Option (Int32 × sh_St) :=
    fX7_entriesOfHash_4 sh_FU S v1 0 0
set_option maxRecDepth 100000 in
set_option maxHeartbeats 4000000 in
theorem kX7_entriesOfHash (l : Launch) (v1 : Int32) : sh_Mi l yX7_entriesOfHash cX7_entriesOfHash 4 .int 1 tbX (fun G => [.ref (G.2.1 4), .int v1]) (fun S => fX7_entriesOfHash S v1) := by
  refine sh_mki (by decide) (fun G => Nat.le_of_ble_eq_true rfl) ?_
  intro p e s m args below meth c G A S res ls hf C hr hw hl
  have C : sh_Cx p s m args meth c cX7_entriesOfHash 4 RX7 G A := C
  have hl : lv_has ls 4 [(0, .ref (G.2.1 4)), (1, .int v1)] := hl
  replace hf : fX7_entriesOfHash S v1 = some res := hf
  rw [fX7_entriesOfHash] at hf
  refine lv_iconst (v := 0) C.1 C.2.1 dX7_entriesOfHash_0 (by decide) ?_
  refine lv_istore_n (lv' := [(2, .int 0), (0, .ref (G.2.1 4)), (1, .int v1)]) C.1 C.2.1 dX7_entriesOfHash_1 rfl hl (by decide) rfl (fun ls hl => ?_)
  refine lv_iconst (v := 0) C.1 C.2.1 dX7_entriesOfHash_2 (by decide) ?_
  refine lv_istore_n (lv' := [(3, .int 0), (2, .int 0), (0, .ref (G.2.1 4)), (1, .int v1)]) C.1 C.2.1 dX7_entriesOfHash_3 rfl hl (by decide) rfl (fun ls hl => ?_)
  exact wX7_entriesOfHash_4 C hr _ S v1 0 0 hf _ _ _ hw (lv_sub hl [2, 3, 1, 0] rfl)
def fX7_leastHashFrom_66 (rk4 : sh_St → Int32 → Int32 → Int32 → Option (Int32 × sh_St)) (S : sh_St) (v1 : Int32) (v2 : Int32) (v3 : Int32) : Option (Int32 × sh_St) :=
    sh_t (v3 + 1) fun y1 =>
    rk4 S v1 v2 y1
set_option maxRecDepth 100000 in
set_option maxHeartbeats 4000000 in
theorem wX7_leastHashFrom_66 {p : Program} {l : Launch} {e : Env} {s : State} {m : MethodId} {args : Array Value} {below : List Frame} {meth : Method} {c : Code} {G : sh_Ev} {A : Nat → Prop} {res : Int32 × sh_St} (C : sh_Cx p s m args meth c cX7_leastHashFrom 5 RX7 G A) (hr : meth.sig.returnType = some .int) (rk4 : sh_St → Int32 → Int32 → Int32 → Option (Int32 × sh_St)) (hr4 : ∀ (S : sh_St) (v1 : Int32) (v2 : Int32) (v3 : Int32), rk4 S v1 v2 v3 = some res → ∀ (H : Heap) (locs : List Loc) (ls : Array Slot), sh_Wx G tbX A s H locs S → lv_has ls 5 [(0, .ref (G.2.1 4)), (1, .int v1), (2, .int v2), (3, .int v3)] → W p l e (sh_rm 1) s m args below meth c H locs 0 0 (sh_Qi below args s G tbX A res) (F0 m 4 ls [])) : ∀ (S : sh_St) (v1 : Int32) (v2 : Int32) (v3 : Int32), fX7_leastHashFrom_66 rk4 S v1 v2 v3 = some res → ∀ (H : Heap) (locs : List Loc) (ls : Array Slot), sh_Wx G tbX A s H locs S → lv_has ls 5 [(0, .ref (G.2.1 4)), (1, .int v1), (2, .int v2), (3, .int v3)] → W p l e (sh_rm 1) s m args below meth c H locs 0 0 (sh_Qi below args s G tbX A res) (F0 m 66 ls []) := by
  intro S v1 v2 v3 hf H locs ls hw hl
  rw [fX7_leastHashFrom_66] at hf
  obtain ⟨y1, ey1, hf⟩ := sh_nm hf
  refine lv_iinc (v := y1) (lv' := [(3, .int y1), (0, .ref (G.2.1 4)), (1, .int v1), (2, .int v2)]) C.1 C.2.1 dX7_leastHashFrom_66 hl (k := 3) rfl (by rw [← ey1]; rfl) (by decide) rfl (fun ls hl => ?_)
  refine lv_goto (tgt := 4) C.1 C.2.1 dX7_leastHashFrom_69 (by decide) ?_
  exact hr4 S v1 v2 y1 hf _ _ _ hw (lv_sub hl [1, 2, 3, 0] rfl)
def fX7_leastHashFrom_59 (rk4 : sh_St → Int32 → Int32 → Int32 → Option (Int32 × sh_St)) (S : sh_St) (v1 : Int32) (v3 : Int32) : Option (Int32 × sh_St) :=
    sh_g v3 240 (sh_t (S.1 10 v3.toNatClampNeg) fun y2 =>
    fX7_leastHashFrom_66 rk4 S v1 y2 v3)
set_option maxRecDepth 100000 in
set_option maxHeartbeats 4000000 in
theorem wX7_leastHashFrom_59 {p : Program} {l : Launch} {e : Env} {s : State} {m : MethodId} {args : Array Value} {below : List Frame} {meth : Method} {c : Code} {G : sh_Ev} {A : Nat → Prop} {res : Int32 × sh_St} (C : sh_Cx p s m args meth c cX7_leastHashFrom 5 RX7 G A) (hr : meth.sig.returnType = some .int) (rk4 : sh_St → Int32 → Int32 → Int32 → Option (Int32 × sh_St)) (hr4 : ∀ (S : sh_St) (v1 : Int32) (v2 : Int32) (v3 : Int32), rk4 S v1 v2 v3 = some res → ∀ (H : Heap) (locs : List Loc) (ls : Array Slot), sh_Wx G tbX A s H locs S → lv_has ls 5 [(0, .ref (G.2.1 4)), (1, .int v1), (2, .int v2), (3, .int v3)] → W p l e (sh_rm 1) s m args below meth c H locs 0 0 (sh_Qi below args s G tbX A res) (F0 m 4 ls [])) : ∀ (S : sh_St) (v1 : Int32) (v3 : Int32), fX7_leastHashFrom_59 rk4 S v1 v3 = some res → ∀ (H : Heap) (locs : List Loc) (ls : Array Slot), sh_Wx G tbX A s H locs S → lv_has ls 5 [(0, .ref (G.2.1 4)), (1, .int v1), (3, .int v3)] → W p l e (sh_rm 1) s m args below meth c H locs 0 0 (sh_Qi below args s G tbX A res) (F0 m 59 ls []) := by
  intro S v1 v3 hf H locs ls hw hl
  rw [fX7_leastHashFrom_59] at hf
  refine lv_aload_n C.1 C.2.1 dX7_leastHashFrom_59 rfl (lv_at hl 0 rfl) ?_
  refine sh_getr C hw fl_X7_42 tbX_4 rfl dX7_leastHashFrom_60 ?_
  refine lv_iload_n C.1 C.2.1 dX7_leastHashFrom_63 rfl (lv_at hl 2 rfl) ?_
  refine sh_iald C hw hf tbX_10 dX7_leastHashFrom_64 (fun hf => ?_)
  refine sh_ni hf (fun y2 hf => ?_)
  refine lv_istore_n (lv' := [(2, .int y2), (0, .ref (G.2.1 4)), (1, .int v1), (3, .int v3)]) C.1 C.2.1 dX7_leastHashFrom_65 rfl hl (by decide) rfl (fun ls hl => ?_)
  exact wX7_leastHashFrom_66 C hr rk4 hr4 S v1 y2 v3 hf _ _ _ hw (lv_sub hl [1, 2, 0, 3] rfl)
def fX7_leastHashFrom_37 (rk4 : sh_St → Int32 → Int32 → Int32 → Option (Int32 × sh_St)) (S : sh_St) (v1 : Int32) (v2 : Int32) (v3 : Int32) (t0 : Int32) : Option (Int32 × sh_St) :=
    if t0 = 0 then (fX7_leastHashFrom_66 rk4 S v1 v2 v3)
    else (if v2 = (-1) then (fX7_leastHashFrom_59 rk4 S v1 v3)
    else (sh_g v3 240 (if v2 ≤ (S.1 10 v3.toNatClampNeg) then (fX7_leastHashFrom_66 rk4 S v1 v2 v3)
    else (fX7_leastHashFrom_59 rk4 S v1 v3))))
set_option maxRecDepth 100000 in
set_option maxHeartbeats 4000000 in
theorem wX7_leastHashFrom_37 {p : Program} {l : Launch} {e : Env} {s : State} {m : MethodId} {args : Array Value} {below : List Frame} {meth : Method} {c : Code} {G : sh_Ev} {A : Nat → Prop} {res : Int32 × sh_St} (C : sh_Cx p s m args meth c cX7_leastHashFrom 5 RX7 G A) (hr : meth.sig.returnType = some .int) (rk4 : sh_St → Int32 → Int32 → Int32 → Option (Int32 × sh_St)) (hr4 : ∀ (S : sh_St) (v1 : Int32) (v2 : Int32) (v3 : Int32), rk4 S v1 v2 v3 = some res → ∀ (H : Heap) (locs : List Loc) (ls : Array Slot), sh_Wx G tbX A s H locs S → lv_has ls 5 [(0, .ref (G.2.1 4)), (1, .int v1), (2, .int v2), (3, .int v3)] → W p l e (sh_rm 1) s m args below meth c H locs 0 0 (sh_Qi below args s G tbX A res) (F0 m 4 ls [])) : ∀ (S : sh_St) (v1 : Int32) (v2 : Int32) (v3 : Int32) (t0 : Int32), fX7_leastHashFrom_37 rk4 S v1 v2 v3 t0 = some res → ∀ (H : Heap) (locs : List Loc) (ls : Array Slot), sh_Wx G tbX A s H locs S → lv_has ls 5 [(0, .ref (G.2.1 4)), (1, .int v1), (2, .int v2), (3, .int v3)] → W p l e (sh_rm 1) s m args below meth c H locs 0 0 (sh_Qi below args s G tbX A res) (F0 m 37 ls [.int t0]) := by
  intro S v1 v2 v3 t0 hf H locs ls hw hl
  rw [fX7_leastHashFrom_37] at hf
  refine lv_istore (lv' := [(4, .int t0), (0, .ref (G.2.1 4)), (1, .int v1), (2, .int v2), (3, .int v3)]) C.1 C.2.1 dX7_leastHashFrom_37 hl (by decide) rfl (fun ls hl => ?_)
  refine lv_iload C.1 C.2.1 dX7_leastHashFrom_39 (lv_at hl 0 rfl) ?_
  refine sh_if_eq (tgt := 66) C hf dX7_leastHashFrom_41 (by decide) (fun hf => ?_) (fun hf => ?_)
  · exact wX7_leastHashFrom_66 C hr rk4 hr4 S v1 v2 v3 hf _ _ _ hw (lv_sub hl [1, 2, 3, 4] rfl)
  · refine lv_iload_n C.1 C.2.1 dX7_leastHashFrom_44 rfl (lv_at hl 3 rfl) ?_
    refine lv_iconst (v := -1) C.1 C.2.1 dX7_leastHashFrom_45 (by decide) ?_
    refine sh_icmp_eq (tgt := 59) C hf dX7_leastHashFrom_46 (by decide) (fun hf => ?_) (fun hf => ?_)
    · exact wX7_leastHashFrom_59 C hr rk4 hr4 S v1 v3 hf _ _ _ hw (lv_sub hl [1, 2, 4] rfl)
    · refine lv_aload_n C.1 C.2.1 dX7_leastHashFrom_49 rfl (lv_at hl 1 rfl) ?_
      refine sh_getr C hw fl_X7_42 tbX_4 rfl dX7_leastHashFrom_50 ?_
      refine lv_iload_n C.1 C.2.1 dX7_leastHashFrom_53 rfl (lv_at hl 4 rfl) ?_
      refine sh_iald C hw hf tbX_10 dX7_leastHashFrom_54 (fun hf => ?_)
      refine lv_iload_n C.1 C.2.1 dX7_leastHashFrom_55 rfl (lv_at hl 3 rfl) ?_
      refine sh_icmp_ge (tgt := 66) C hf dX7_leastHashFrom_56 (by decide) (fun hf => ?_) (fun hf => ?_)
      · exact wX7_leastHashFrom_66 C hr rk4 hr4 S v1 v2 v3 hf _ _ _ hw (lv_sub hl [1, 2, 3, 4] rfl)
      · exact wX7_leastHashFrom_59 C hr rk4 hr4 S v1 v3 hf _ _ _ hw (lv_sub hl [1, 2, 4] rfl)
def fX7_leastHashFrom_36 (rk4 : sh_St → Int32 → Int32 → Int32 → Option (Int32 × sh_St)) (S : sh_St) (v1 : Int32) (v2 : Int32) (v3 : Int32) : Option (Int32 × sh_St) :=
    fX7_leastHashFrom_37 rk4 S v1 v2 v3 0
set_option maxRecDepth 100000 in
set_option maxHeartbeats 4000000 in
theorem wX7_leastHashFrom_36 {p : Program} {l : Launch} {e : Env} {s : State} {m : MethodId} {args : Array Value} {below : List Frame} {meth : Method} {c : Code} {G : sh_Ev} {A : Nat → Prop} {res : Int32 × sh_St} (C : sh_Cx p s m args meth c cX7_leastHashFrom 5 RX7 G A) (hr : meth.sig.returnType = some .int) (rk4 : sh_St → Int32 → Int32 → Int32 → Option (Int32 × sh_St)) (hr4 : ∀ (S : sh_St) (v1 : Int32) (v2 : Int32) (v3 : Int32), rk4 S v1 v2 v3 = some res → ∀ (H : Heap) (locs : List Loc) (ls : Array Slot), sh_Wx G tbX A s H locs S → lv_has ls 5 [(0, .ref (G.2.1 4)), (1, .int v1), (2, .int v2), (3, .int v3)] → W p l e (sh_rm 1) s m args below meth c H locs 0 0 (sh_Qi below args s G tbX A res) (F0 m 4 ls [])) : ∀ (S : sh_St) (v1 : Int32) (v2 : Int32) (v3 : Int32), fX7_leastHashFrom_36 rk4 S v1 v2 v3 = some res → ∀ (H : Heap) (locs : List Loc) (ls : Array Slot), sh_Wx G tbX A s H locs S → lv_has ls 5 [(0, .ref (G.2.1 4)), (1, .int v1), (2, .int v2), (3, .int v3)] → W p l e (sh_rm 1) s m args below meth c H locs 0 0 (sh_Qi below args s G tbX A res) (F0 m 36 ls []) := by
  intro S v1 v2 v3 hf H locs ls hw hl
  rw [fX7_leastHashFrom_36] at hf
  refine lv_iconst (v := 0) C.1 C.2.1 dX7_leastHashFrom_36 (by decide) ?_
  exact wX7_leastHashFrom_37 C hr rk4 hr4 S v1 v2 v3 0 hf _ _ _ hw (lv_sub hl [0, 1, 2, 3] rfl)
def fX7_leastHashFrom_4 : Nat → sh_St → Int32 → Int32 → Int32 → Option (Int32 × sh_St)
  | 0, _, _, _, _ => none
  | n + 1, S, v1, v2, v3 =>
    if 240 ≤ v3 then (some (v2, S))
    else (sh_g v3 240 (if (S.2 8 v3.toNatClampNeg) = 0 then (fX7_leastHashFrom_36 (fX7_leastHashFrom_4 n) S v1 v2 v3)
    else (sh_g v3 240 (if (S.1 10 v3.toNatClampNeg) < v1 then (fX7_leastHashFrom_36 (fX7_leastHashFrom_4 n) S v1 v2 v3)
    else (fX7_leastHashFrom_37 (fX7_leastHashFrom_4 n) S v1 v2 v3 1)))))
set_option maxRecDepth 100000 in
set_option maxHeartbeats 4000000 in
theorem wX7_leastHashFrom_4 {p : Program} {l : Launch} {e : Env} {s : State} {m : MethodId} {args : Array Value} {below : List Frame} {meth : Method} {c : Code} {G : sh_Ev} {A : Nat → Prop} {res : Int32 × sh_St} (C : sh_Cx p s m args meth c cX7_leastHashFrom 5 RX7 G A) (hr : meth.sig.returnType = some .int) : ∀ (n : Nat) (S : sh_St) (v1 : Int32) (v2 : Int32) (v3 : Int32), fX7_leastHashFrom_4 n S v1 v2 v3 = some res → ∀ (H : Heap) (locs : List Loc) (ls : Array Slot), sh_Wx G tbX A s H locs S → lv_has ls 5 [(0, .ref (G.2.1 4)), (1, .int v1), (2, .int v2), (3, .int v3)] → W p l e (sh_rm 1) s m args below meth c H locs 0 0 (sh_Qi below args s G tbX A res) (F0 m 4 ls []) := by
  intro n
  induction n with
  | zero => intro S v1 v2 v3 hf; exact nomatch (show (none : Option (Int32 × sh_St)) = some res from hf)
  | succ n ih =>
    intro S v1 v2 v3 hf H locs ls hw hl
    have hr4 := ih
    rw [fX7_leastHashFrom_4] at hf
    refine lv_iload_n C.1 C.2.1 dX7_leastHashFrom_4 rfl (lv_at hl 3 rfl) ?_
    refine lv_sipush (v := 240) C.1 C.2.1 dX7_leastHashFrom_5 (by decide) ?_
    refine sh_icmp_ge (tgt := 72) C hf dX7_leastHashFrom_8 (by decide) (fun hf => ?_) (fun hf => ?_)
    · refine lv_iload_n C.1 C.2.1 dX7_leastHashFrom_72 rfl (lv_at hl 2 rfl) ?_
      exact sh_ri C hw hr hf dX7_leastHashFrom_73
    · refine lv_aload_n C.1 C.2.1 dX7_leastHashFrom_11 rfl (lv_at hl 0 rfl) ?_
      refine sh_getr C hw fl_X7_35 tbX_4 rfl dX7_leastHashFrom_12 ?_
      refine lv_iload_n C.1 C.2.1 dX7_leastHashFrom_15 rfl (lv_at hl 3 rfl) ?_
      refine sh_lald C hw hf tbX_8 dX7_leastHashFrom_16 (fun hf => ?_)
      refine lv_lconst (v := 0) C.1 C.2.1 dX7_leastHashFrom_17 (by decide) ?_
      refine sh_lcmp_eq (tgt := 36) C hf dX7_leastHashFrom_18 dX7_leastHashFrom_19 (by decide) (fun hf => ?_) (fun hf => ?_)
      · exact wX7_leastHashFrom_36 C hr (fX7_leastHashFrom_4 n) hr4 S v1 v2 v3 hf _ _ _ hw (lv_sub hl [0, 1, 2, 3] rfl)
      · refine lv_aload_n C.1 C.2.1 dX7_leastHashFrom_22 rfl (lv_at hl 0 rfl) ?_
        refine sh_getr C hw fl_X7_42 tbX_4 rfl dX7_leastHashFrom_23 ?_
        refine lv_iload_n C.1 C.2.1 dX7_leastHashFrom_26 rfl (lv_at hl 3 rfl) ?_
        refine sh_iald C hw hf tbX_10 dX7_leastHashFrom_27 (fun hf => ?_)
        refine lv_iload_n C.1 C.2.1 dX7_leastHashFrom_28 rfl (lv_at hl 1 rfl) ?_
        refine sh_icmp_lt (tgt := 36) C hf dX7_leastHashFrom_29 (by decide) (fun hf => ?_) (fun hf => ?_)
        · exact wX7_leastHashFrom_36 C hr (fX7_leastHashFrom_4 n) hr4 S v1 v2 v3 hf _ _ _ hw (lv_sub hl [0, 1, 2, 3] rfl)
        · refine lv_iconst (v := 1) C.1 C.2.1 dX7_leastHashFrom_32 (by decide) ?_
          refine lv_goto (tgt := 37) C.1 C.2.1 dX7_leastHashFrom_33 (by decide) ?_
          exact wX7_leastHashFrom_37 C hr (fX7_leastHashFrom_4 n) hr4 S v1 v2 v3 1 hf _ _ _ hw (lv_sub hl [0, 1, 2, 3] rfl)
def fX7_leastHashFrom (S : sh_St) (v1 : Int32) : Option (Int32 × sh_St) :=
    fX7_leastHashFrom_4 sh_FU S v1 (-1) 0
set_option maxRecDepth 100000 in
set_option maxHeartbeats 4000000 in
theorem kX7_leastHashFrom (l : Launch) (v1 : Int32) : sh_Mi l yX7_leastHashFrom cX7_leastHashFrom 5 .int 1 tbX (fun G => [.ref (G.2.1 4), .int v1]) (fun S => fX7_leastHashFrom S v1) := by
  refine sh_mki (by decide) (fun G => Nat.le_of_ble_eq_true rfl) ?_
  intro p e s m args below meth c G A S res ls hf C hr hw hl
  have C : sh_Cx p s m args meth c cX7_leastHashFrom 5 RX7 G A := C
  have hl : lv_has ls 5 [(0, .ref (G.2.1 4)), (1, .int v1)] := hl
  replace hf : fX7_leastHashFrom S v1 = some res := hf
  rw [fX7_leastHashFrom] at hf
  refine lv_iconst (v := -1) C.1 C.2.1 dX7_leastHashFrom_0 (by decide) ?_
  refine lv_istore_n (lv' := [(2, .int (-1)), (0, .ref (G.2.1 4)), (1, .int v1)]) C.1 C.2.1 dX7_leastHashFrom_1 rfl hl (by decide) rfl (fun ls hl => ?_)
  refine lv_iconst (v := 0) C.1 C.2.1 dX7_leastHashFrom_2 (by decide) ?_
  refine lv_istore_n (lv' := [(3, .int 0), (2, .int (-1)), (0, .ref (G.2.1 4)), (1, .int v1)]) C.1 C.2.1 dX7_leastHashFrom_3 rfl hl (by decide) rfl (fun ls hl => ?_)
  exact wX7_leastHashFrom_4 C hr _ S v1 (-1) 0 hf _ _ _ hw (lv_sub hl [2, 3, 1, 0] rfl)
def fX7_blocksOfKind_23 (rk4 : sh_St → Int32 → Int32 → Int32 → Option (Int32 × sh_St)) (S : sh_St) (v1 : Int32) (v2 : Int32) (v3 : Int32) : Option (Int32 × sh_St) :=
    sh_t (v3 + 1) fun y1 =>
    rk4 S v1 v2 y1
set_option maxRecDepth 100000 in
set_option maxHeartbeats 4000000 in
theorem wX7_blocksOfKind_23 {p : Program} {l : Launch} {e : Env} {s : State} {m : MethodId} {args : Array Value} {below : List Frame} {meth : Method} {c : Code} {G : sh_Ev} {A : Nat → Prop} {res : Int32 × sh_St} (C : sh_Cx p s m args meth c cX7_blocksOfKind 4 RX7 G A) (hr : meth.sig.returnType = some .int) (rk4 : sh_St → Int32 → Int32 → Int32 → Option (Int32 × sh_St)) (hr4 : ∀ (S : sh_St) (v1 : Int32) (v2 : Int32) (v3 : Int32), rk4 S v1 v2 v3 = some res → ∀ (H : Heap) (locs : List Loc) (ls : Array Slot), sh_Wx G tbX A s H locs S → lv_has ls 4 [(0, .ref (G.2.1 4)), (1, .int v1), (2, .int v2), (3, .int v3)] → W p l e (sh_rm 1) s m args below meth c H locs 0 0 (sh_Qi below args s G tbX A res) (F0 m 4 ls [])) : ∀ (S : sh_St) (v1 : Int32) (v2 : Int32) (v3 : Int32), fX7_blocksOfKind_23 rk4 S v1 v2 v3 = some res → ∀ (H : Heap) (locs : List Loc) (ls : Array Slot), sh_Wx G tbX A s H locs S → lv_has ls 4 [(0, .ref (G.2.1 4)), (1, .int v1), (2, .int v2), (3, .int v3)] → W p l e (sh_rm 1) s m args below meth c H locs 0 0 (sh_Qi below args s G tbX A res) (F0 m 23 ls []) := by
  intro S v1 v2 v3 hf H locs ls hw hl
  rw [fX7_blocksOfKind_23] at hf
  obtain ⟨y1, ey1, hf⟩ := sh_nm hf
  refine lv_iinc (v := y1) (lv' := [(3, .int y1), (0, .ref (G.2.1 4)), (1, .int v1), (2, .int v2)]) C.1 C.2.1 dX7_blocksOfKind_23 hl (k := 3) rfl (by rw [← ey1]; rfl) (by decide) rfl (fun ls hl => ?_)
  refine lv_goto (tgt := 4) C.1 C.2.1 dX7_blocksOfKind_26 (by decide) ?_
  exact hr4 S v1 v2 y1 hf _ _ _ hw (lv_sub hl [1, 2, 3, 0] rfl)
def fX7_blocksOfKind_4 : Nat → sh_St → Int32 → Int32 → Int32 → Option (Int32 × sh_St)
  | 0, _, _, _, _ => none
  | n + 1, S, v1, v2, v3 =>
    if 40 ≤ v3 then (some (v2, S))
    else (sh_g v3 40 (if (S.1 5 v3.toNatClampNeg) = v1 then (sh_t (v2 + 1) fun y2 =>
    fX7_blocksOfKind_23 (fX7_blocksOfKind_4 n) S v1 y2 v3)
    else (fX7_blocksOfKind_23 (fX7_blocksOfKind_4 n) S v1 v2 v3)))
set_option maxRecDepth 100000 in
set_option maxHeartbeats 4000000 in
theorem wX7_blocksOfKind_4 {p : Program} {l : Launch} {e : Env} {s : State} {m : MethodId} {args : Array Value} {below : List Frame} {meth : Method} {c : Code} {G : sh_Ev} {A : Nat → Prop} {res : Int32 × sh_St} (C : sh_Cx p s m args meth c cX7_blocksOfKind 4 RX7 G A) (hr : meth.sig.returnType = some .int) : ∀ (n : Nat) (S : sh_St) (v1 : Int32) (v2 : Int32) (v3 : Int32), fX7_blocksOfKind_4 n S v1 v2 v3 = some res → ∀ (H : Heap) (locs : List Loc) (ls : Array Slot), sh_Wx G tbX A s H locs S → lv_has ls 4 [(0, .ref (G.2.1 4)), (1, .int v1), (2, .int v2), (3, .int v3)] → W p l e (sh_rm 1) s m args below meth c H locs 0 0 (sh_Qi below args s G tbX A res) (F0 m 4 ls []) := by
  intro n
  induction n with
  | zero => intro S v1 v2 v3 hf; exact nomatch (show (none : Option (Int32 × sh_St)) = some res from hf)
  | succ n ih =>
    intro S v1 v2 v3 hf H locs ls hw hl
    have hr4 := ih
    rw [fX7_blocksOfKind_4] at hf
    refine lv_iload_n C.1 C.2.1 dX7_blocksOfKind_4 rfl (lv_at hl 3 rfl) ?_
    refine lv_bipush (v := 40) C.1 C.2.1 dX7_blocksOfKind_5 (by decide) ?_
    refine sh_icmp_ge (tgt := 29) C hf dX7_blocksOfKind_7 (by decide) (fun hf => ?_) (fun hf => ?_)
    · refine lv_iload_n C.1 C.2.1 dX7_blocksOfKind_29 rfl (lv_at hl 2 rfl) ?_
      exact sh_ri C hw hr hf dX7_blocksOfKind_30
    · refine lv_aload_n C.1 C.2.1 dX7_blocksOfKind_10 rfl (lv_at hl 0 rfl) ?_
      refine sh_getr C hw fl_X7_25 tbX_4 rfl dX7_blocksOfKind_11 ?_
      refine lv_iload_n C.1 C.2.1 dX7_blocksOfKind_14 rfl (lv_at hl 3 rfl) ?_
      refine sh_iald C hw hf tbX_5 dX7_blocksOfKind_15 (fun hf => ?_)
      refine lv_iload_n C.1 C.2.1 dX7_blocksOfKind_16 rfl (lv_at hl 1 rfl) ?_
      refine sh_icmp_ne (tgt := 23) C hf dX7_blocksOfKind_17 (by decide) (fun hf => ?_) (fun hf => ?_)
      · exact wX7_blocksOfKind_23 C hr (fX7_blocksOfKind_4 n) hr4 S v1 v2 v3 hf _ _ _ hw (lv_sub hl [0, 1, 2, 3] rfl)
      · obtain ⟨y2, ey2, hf⟩ := sh_nm hf
        refine lv_iinc (v := y2) (lv' := [(2, .int y2), (0, .ref (G.2.1 4)), (1, .int v1), (3, .int v3)]) C.1 C.2.1 dX7_blocksOfKind_20 hl (k := 2) rfl (by rw [← ey2]; rfl) (by decide) rfl (fun ls hl => ?_)
        exact wX7_blocksOfKind_23 C hr (fX7_blocksOfKind_4 n) hr4 S v1 y2 v3 hf _ _ _ hw (lv_sub hl [1, 2, 0, 3] rfl)
def fX7_blocksOfKind (S : sh_St) (v1 : Int32) : Option (Int32 × sh_St) :=
    fX7_blocksOfKind_4 sh_FU S v1 0 0
set_option maxRecDepth 100000 in
set_option maxHeartbeats 4000000 in
theorem kX7_blocksOfKind (l : Launch) (v1 : Int32) : sh_Mi l yX7_blocksOfKind cX7_blocksOfKind 4 .int 1 tbX (fun G => [.ref (G.2.1 4), .int v1]) (fun S => fX7_blocksOfKind S v1) := by
  refine sh_mki (by decide) (fun G => Nat.le_of_ble_eq_true rfl) ?_
  intro p e s m args below meth c G A S res ls hf C hr hw hl
  have C : sh_Cx p s m args meth c cX7_blocksOfKind 4 RX7 G A := C
  have hl : lv_has ls 4 [(0, .ref (G.2.1 4)), (1, .int v1)] := hl
  replace hf : fX7_blocksOfKind S v1 = some res := hf
  rw [fX7_blocksOfKind] at hf
  refine lv_iconst (v := 0) C.1 C.2.1 dX7_blocksOfKind_0 (by decide) ?_
  refine lv_istore_n (lv' := [(2, .int 0), (0, .ref (G.2.1 4)), (1, .int v1)]) C.1 C.2.1 dX7_blocksOfKind_1 rfl hl (by decide) rfl (fun ls hl => ?_)
  refine lv_iconst (v := 0) C.1 C.2.1 dX7_blocksOfKind_2 (by decide) ?_
  refine lv_istore_n (lv' := [(3, .int 0), (2, .int 0), (0, .ref (G.2.1 4)), (1, .int v1)]) C.1 C.2.1 dX7_blocksOfKind_3 rfl hl (by decide) rfl (fun ls hl => ?_)
  exact wX7_blocksOfKind_4 C hr _ S v1 0 0 hf _ _ _ hw (lv_sub hl [2, 3, 1, 0] rfl)
def fX7_tornIndexes_4 : Nat → sh_St → Int32 → Int32 → Option (Int32 × sh_St)
  | 0, _, _, _ => none
  | n + 1, S, v1, v2 =>
    if 40 ≤ v2 then (some (v1, S))
    else (sh_g v2 40 (sh_t (v1 + (S.1 7 v2.toNatClampNeg)) fun y1 =>
    sh_t (v2 + 1) fun y2 =>
    (fX7_tornIndexes_4 n) S y1 y2))
set_option maxRecDepth 100000 in
set_option maxHeartbeats 4000000 in
theorem wX7_tornIndexes_4 {p : Program} {l : Launch} {e : Env} {s : State} {m : MethodId} {args : Array Value} {below : List Frame} {meth : Method} {c : Code} {G : sh_Ev} {A : Nat → Prop} {res : Int32 × sh_St} (C : sh_Cx p s m args meth c cX7_tornIndexes 3 RX7 G A) (hr : meth.sig.returnType = some .int) : ∀ (n : Nat) (S : sh_St) (v1 : Int32) (v2 : Int32), fX7_tornIndexes_4 n S v1 v2 = some res → ∀ (H : Heap) (locs : List Loc) (ls : Array Slot), sh_Wx G tbX A s H locs S → lv_has ls 3 [(0, .ref (G.2.1 4)), (1, .int v1), (2, .int v2)] → W p l e (sh_rm 1) s m args below meth c H locs 0 0 (sh_Qi below args s G tbX A res) (F0 m 4 ls []) := by
  intro n
  induction n with
  | zero => intro S v1 v2 hf; exact nomatch (show (none : Option (Int32 × sh_St)) = some res from hf)
  | succ n ih =>
    intro S v1 v2 hf H locs ls hw hl
    have hr4 := ih
    rw [fX7_tornIndexes_4] at hf
    refine lv_iload_n C.1 C.2.1 dX7_tornIndexes_4 rfl (lv_at hl 2 rfl) ?_
    refine lv_bipush (v := 40) C.1 C.2.1 dX7_tornIndexes_5 (by decide) ?_
    refine sh_icmp_ge (tgt := 25) C hf dX7_tornIndexes_7 (by decide) (fun hf => ?_) (fun hf => ?_)
    · refine lv_iload_n C.1 C.2.1 dX7_tornIndexes_25 rfl (lv_at hl 1 rfl) ?_
      exact sh_ri C hw hr hf dX7_tornIndexes_26
    · refine lv_iload_n C.1 C.2.1 dX7_tornIndexes_10 rfl (lv_at hl 1 rfl) ?_
      refine lv_aload_n C.1 C.2.1 dX7_tornIndexes_11 rfl (lv_at hl 0 rfl) ?_
      refine sh_getr C hw fl_X7_32 tbX_4 rfl dX7_tornIndexes_12 ?_
      refine lv_iload_n C.1 C.2.1 dX7_tornIndexes_15 rfl (lv_at hl 2 rfl) ?_
      refine sh_iald C hw hf tbX_7 dX7_tornIndexes_16 (fun hf => ?_)
      refine lv_iadd C.1 C.2.1 dX7_tornIndexes_17 ?_
      refine sh_ni hf (fun y1 hf => ?_)
      refine lv_istore_n (lv' := [(1, .int y1), (0, .ref (G.2.1 4)), (2, .int v2)]) C.1 C.2.1 dX7_tornIndexes_18 rfl hl (by decide) rfl (fun ls hl => ?_)
      obtain ⟨y2, ey2, hf⟩ := sh_nm hf
      refine lv_iinc (v := y2) (lv' := [(2, .int y2), (1, .int y1), (0, .ref (G.2.1 4))]) C.1 C.2.1 dX7_tornIndexes_19 hl (k := 2) rfl (by rw [← ey2]; rfl) (by decide) rfl (fun ls hl => ?_)
      refine lv_goto (tgt := 4) C.1 C.2.1 dX7_tornIndexes_22 (by decide) ?_
      exact hr4 S y1 y2 hf _ _ _ hw (lv_sub hl [2, 1, 0] rfl)
def fX7_tornIndexes (S : sh_St) : Option (Int32 × sh_St) :=
    fX7_tornIndexes_4 sh_FU S 0 0
set_option maxRecDepth 100000 in
set_option maxHeartbeats 4000000 in
theorem kX7_tornIndexes (l : Launch) : sh_Mi l yX7_tornIndexes cX7_tornIndexes 3 .int 1 tbX (fun G => [.ref (G.2.1 4)]) (fun S => fX7_tornIndexes S) := by
  refine sh_mki (by decide) (fun G => Nat.le_of_ble_eq_true rfl) ?_
  intro p e s m args below meth c G A S res ls hf C hr hw hl
  have C : sh_Cx p s m args meth c cX7_tornIndexes 3 RX7 G A := C
  have hl : lv_has ls 3 [(0, .ref (G.2.1 4))] := hl
  replace hf : fX7_tornIndexes S = some res := hf
  rw [fX7_tornIndexes] at hf
  refine lv_iconst (v := 0) C.1 C.2.1 dX7_tornIndexes_0 (by decide) ?_
  refine lv_istore_n (lv' := [(1, .int 0), (0, .ref (G.2.1 4))]) C.1 C.2.1 dX7_tornIndexes_1 rfl hl (by decide) rfl (fun ls hl => ?_)
  refine lv_iconst (v := 0) C.1 C.2.1 dX7_tornIndexes_2 (by decide) ?_
  refine lv_istore_n (lv' := [(2, .int 0), (1, .int 0), (0, .ref (G.2.1 4))]) C.1 C.2.1 dX7_tornIndexes_3 rfl hl (by decide) rfl (fun ls hl => ?_)
  exact wX7_tornIndexes_4 C hr _ S 0 0 hf _ _ _ hw (lv_sub hl [2, 1, 0] rfl)
def fX7_emptySlotOf_2 : Nat → sh_St → Int32 → Int32 → Option (Int32 × sh_St)
  | 0, _, _, _ => none
  | n + 1, S, v1, v2 =>
    if 6 ≤ v2 then (some ((-1), S))
    else (sh_g ((v1 * 6) + v2) 240 (if (S.2 8 ((v1 * 6) + v2).toNatClampNeg) = 0 then (some (v2, S))
    else (sh_t (v2 + 1) fun y1 =>
    (fX7_emptySlotOf_2 n) S v1 y1)))
set_option maxRecDepth 100000 in
set_option maxHeartbeats 4000000 in
theorem wX7_emptySlotOf_2 {p : Program} {l : Launch} {e : Env} {s : State} {m : MethodId} {args : Array Value} {below : List Frame} {meth : Method} {c : Code} {G : sh_Ev} {A : Nat → Prop} {res : Int32 × sh_St} (C : sh_Cx p s m args meth c cX7_emptySlotOf 3 RX7 G A) (hr : meth.sig.returnType = some .int) : ∀ (n : Nat) (S : sh_St) (v1 : Int32) (v2 : Int32), fX7_emptySlotOf_2 n S v1 v2 = some res → ∀ (H : Heap) (locs : List Loc) (ls : Array Slot), sh_Wx G tbX A s H locs S → lv_has ls 3 [(0, .ref (G.2.1 4)), (1, .int v1), (2, .int v2)] → W p l e (sh_rm 1) s m args below meth c H locs 0 0 (sh_Qi below args s G tbX A res) (F0 m 2 ls []) := by
  intro n
  induction n with
  | zero => intro S v1 v2 hf; exact nomatch (show (none : Option (Int32 × sh_St)) = some res from hf)
  | succ n ih =>
    intro S v1 v2 hf H locs ls hw hl
    have hr2 := ih
    rw [fX7_emptySlotOf_2] at hf
    refine lv_iload_n C.1 C.2.1 dX7_emptySlotOf_2 rfl (lv_at hl 2 rfl) ?_
    refine lv_bipush (v := 6) C.1 C.2.1 dX7_emptySlotOf_3 (by decide) ?_
    refine sh_icmp_ge (tgt := 32) C hf dX7_emptySlotOf_5 (by decide) (fun hf => ?_) (fun hf => ?_)
    · refine lv_iconst (v := -1) C.1 C.2.1 dX7_emptySlotOf_32 (by decide) ?_
      exact sh_ri C hw hr hf dX7_emptySlotOf_33
    · refine lv_aload_n C.1 C.2.1 dX7_emptySlotOf_8 rfl (lv_at hl 0 rfl) ?_
      refine sh_getr C hw fl_X7_35 tbX_4 rfl dX7_emptySlotOf_9 ?_
      refine lv_iload_n C.1 C.2.1 dX7_emptySlotOf_12 rfl (lv_at hl 1 rfl) ?_
      refine lv_bipush (v := 6) C.1 C.2.1 dX7_emptySlotOf_13 (by decide) ?_
      refine lv_imul C.1 C.2.1 dX7_emptySlotOf_15 ?_
      refine lv_iload_n C.1 C.2.1 dX7_emptySlotOf_16 rfl (lv_at hl 2 rfl) ?_
      refine lv_iadd C.1 C.2.1 dX7_emptySlotOf_17 ?_
      refine sh_lald C hw hf tbX_8 dX7_emptySlotOf_18 (fun hf => ?_)
      refine lv_lconst (v := 0) C.1 C.2.1 dX7_emptySlotOf_19 (by decide) ?_
      refine sh_lcmp_ne (tgt := 26) C hf dX7_emptySlotOf_20 dX7_emptySlotOf_21 (by decide) (fun hf => ?_) (fun hf => ?_)
      · obtain ⟨y1, ey1, hf⟩ := sh_nm hf
        refine lv_iinc (v := y1) (lv' := [(2, .int y1), (0, .ref (G.2.1 4)), (1, .int v1)]) C.1 C.2.1 dX7_emptySlotOf_26 hl (k := 2) rfl (by rw [← ey1]; rfl) (by decide) rfl (fun ls hl => ?_)
        refine lv_goto (tgt := 2) C.1 C.2.1 dX7_emptySlotOf_29 (by decide) ?_
        exact hr2 S v1 y1 hf _ _ _ hw (lv_sub hl [1, 2, 0] rfl)
      · refine lv_iload_n C.1 C.2.1 dX7_emptySlotOf_24 rfl (lv_at hl 2 rfl) ?_
        exact sh_ri C hw hr hf dX7_emptySlotOf_25
def fX7_emptySlotOf (S : sh_St) (v1 : Int32) : Option (Int32 × sh_St) :=
    fX7_emptySlotOf_2 sh_FU S v1 0
set_option maxRecDepth 100000 in
set_option maxHeartbeats 4000000 in
theorem kX7_emptySlotOf (l : Launch) (v1 : Int32) : sh_Mi l yX7_emptySlotOf cX7_emptySlotOf 3 .int 1 tbX (fun G => [.ref (G.2.1 4), .int v1]) (fun S => fX7_emptySlotOf S v1) := by
  refine sh_mki (by decide) (fun G => Nat.le_of_ble_eq_true rfl) ?_
  intro p e s m args below meth c G A S res ls hf C hr hw hl
  have C : sh_Cx p s m args meth c cX7_emptySlotOf 3 RX7 G A := C
  have hl : lv_has ls 3 [(0, .ref (G.2.1 4)), (1, .int v1)] := hl
  replace hf : fX7_emptySlotOf S v1 = some res := hf
  rw [fX7_emptySlotOf] at hf
  refine lv_iconst (v := 0) C.1 C.2.1 dX7_emptySlotOf_0 (by decide) ?_
  refine lv_istore_n (lv' := [(2, .int 0), (0, .ref (G.2.1 4)), (1, .int v1)]) C.1 C.2.1 dX7_emptySlotOf_1 rfl hl (by decide) rfl (fun ls hl => ?_)
  exact wX7_emptySlotOf_2 C hr _ S v1 0 hf _ _ _ hw (lv_sub hl [1, 2, 0] rfl)
def fX7_setEntry (S : sh_St) (v1 : Int32) (v2 : Int64) (v4 : Int32) (v5 : Int32) : Option (Unit × sh_St) :=
    sh_g v1 240 (sh_t (sh_L S 8 v1.toNatClampNeg v2) fun S1 =>
    sh_g v1 240 (sh_t (sh_I S1 9 v1.toNatClampNeg v4) fun S2 =>
    sh_g v1 240 (sh_t (sh_I S2 10 v1.toNatClampNeg v5) fun S3 =>
    some ((), S3))))
set_option maxRecDepth 100000 in
set_option maxHeartbeats 4000000 in
theorem kX7_setEntry (l : Launch) (v1 : Int32) (v2 : Int64) (v4 : Int32) (v5 : Int32) : sh_Mv l yX7_setEntry cX7_setEntry 6 1 tbX (fun G => [.ref (G.2.1 4), .int v1, .long v2, .int v4, .int v5]) (fun S => fX7_setEntry S v1 v2 v4 v5) := by
  refine sh_mkv (by decide) (fun G => Nat.le_of_ble_eq_true rfl) ?_
  intro p e s m args below meth c G A S res ls hf C hr hw hl
  have C : sh_Cx p s m args meth c cX7_setEntry 6 RX7 G A := C
  have hl : lv_has ls 6 [(0, .ref (G.2.1 4)), (1, .int v1), (2, .long v2), (4, .int v4), (5, .int v5)] := hl
  replace hf : fX7_setEntry S v1 v2 v4 v5 = some res := hf
  rw [fX7_setEntry] at hf
  refine lv_aload_n C.1 C.2.1 dX7_setEntry_0 rfl (lv_at hl 0 rfl) ?_
  refine sh_getr C hw fl_X7_35 tbX_4 rfl dX7_setEntry_1 ?_
  refine lv_iload_n C.1 C.2.1 dX7_setEntry_4 rfl (lv_at hl 1 rfl) ?_
  refine lv_lload_n C.1 C.2.1 dX7_setEntry_5 rfl (lv_at hl 2 rfl) ?_
  refine sh_last C hw hf tbX_8 dX7_setEntry_6 (fun S1 H locs hw hf => ?_)
  refine lv_aload_n C.1 C.2.1 dX7_setEntry_7 rfl (lv_at hl 0 rfl) ?_
  refine sh_getr C hw fl_X7_39 tbX_4 rfl dX7_setEntry_8 ?_
  refine lv_iload_n C.1 C.2.1 dX7_setEntry_11 rfl (lv_at hl 1 rfl) ?_
  refine lv_iload C.1 C.2.1 dX7_setEntry_12 (lv_at hl 3 rfl) ?_
  refine sh_iast C hw hf tbX_9 dX7_setEntry_14 (fun S2 H locs hw hf => ?_)
  refine lv_aload_n C.1 C.2.1 dX7_setEntry_15 rfl (lv_at hl 0 rfl) ?_
  refine sh_getr C hw fl_X7_42 tbX_4 rfl dX7_setEntry_16 ?_
  refine lv_iload_n C.1 C.2.1 dX7_setEntry_19 rfl (lv_at hl 1 rfl) ?_
  refine lv_iload C.1 C.2.1 dX7_setEntry_20 (lv_at hl 4 rfl) ?_
  refine sh_iast C hw hf tbX_10 dX7_setEntry_22 (fun S3 H locs hw hf => ?_)
  exact sh_rv C hw hr hf dX7_setEntry_23
def fX7_takeLeastFree_21 (rk6 : sh_St → Int32 → Int32 → Int32 → Option (Int32 × sh_St)) (S : sh_St) (v1 : Int32) (v2 : Int32) (v3 : Int32) : Option (Int32 × sh_St) :=
    sh_t (v3 + (-1)) fun y2 =>
    rk6 S v1 v2 y2
set_option maxRecDepth 100000 in
set_option maxHeartbeats 4000000 in
theorem wX7_takeLeastFree_21 {p : Program} {l : Launch} {e : Env} {s : State} {m : MethodId} {args : Array Value} {below : List Frame} {meth : Method} {c : Code} {G : sh_Ev} {A : Nat → Prop} {res : Int32 × sh_St} (C : sh_Cx p s m args meth c cX7_takeLeastFree 4 RX7 G A) (hr : meth.sig.returnType = some .int) (rk6 : sh_St → Int32 → Int32 → Int32 → Option (Int32 × sh_St)) (hr6 : ∀ (S : sh_St) (v1 : Int32) (v2 : Int32) (v3 : Int32), rk6 S v1 v2 v3 = some res → ∀ (H : Heap) (locs : List Loc) (ls : Array Slot), sh_Wx G tbX A s H locs S → lv_has ls 4 [(0, .ref (G.2.1 4)), (1, .int v1), (2, .int v2), (3, .int v3)] → W p l e (sh_rm 1) s m args below meth c H locs 0 0 (sh_Qi below args s G tbX A res) (F0 m 6 ls [])) : ∀ (S : sh_St) (v1 : Int32) (v2 : Int32) (v3 : Int32), fX7_takeLeastFree_21 rk6 S v1 v2 v3 = some res → ∀ (H : Heap) (locs : List Loc) (ls : Array Slot), sh_Wx G tbX A s H locs S → lv_has ls 4 [(0, .ref (G.2.1 4)), (1, .int v1), (2, .int v2), (3, .int v3)] → W p l e (sh_rm 1) s m args below meth c H locs 0 0 (sh_Qi below args s G tbX A res) (F0 m 21 ls []) := by
  intro S v1 v2 v3 hf H locs ls hw hl
  rw [fX7_takeLeastFree_21] at hf
  obtain ⟨y2, ey2, hf⟩ := sh_nm hf
  refine lv_iinc (v := y2) (lv' := [(3, .int y2), (0, .ref (G.2.1 4)), (1, .int v1), (2, .int v2)]) C.1 C.2.1 dX7_takeLeastFree_21 hl (k := 3) rfl (by rw [← ey2]; rfl) (by decide) rfl (fun ls hl => ?_)
  refine lv_goto (tgt := 6) C.1 C.2.1 dX7_takeLeastFree_24 (by decide) ?_
  exact hr6 S v1 v2 y2 hf _ _ _ hw (lv_sub hl [1, 2, 3, 0] rfl)
def fX7_takeLeastFree_6 : Nat → sh_St → Int32 → Int32 → Int32 → Option (Int32 × sh_St)
  | 0, _, _, _, _ => none
  | n + 1, S, v1, v2, v3 =>
    if v3 ≤ 0 then (sh_g v2 40 (sh_t (sh_I S 5 v2.toNatClampNeg v1) fun S1 =>
    some (v2, S1)))
    else (sh_g v3 40 (if (S.1 5 v3.toNatClampNeg) = 0 then (fX7_takeLeastFree_21 (fX7_takeLeastFree_6 n) S v1 v3 v3)
    else (fX7_takeLeastFree_21 (fX7_takeLeastFree_6 n) S v1 v2 v3)))
set_option maxRecDepth 100000 in
set_option maxHeartbeats 4000000 in
theorem wX7_takeLeastFree_6 {p : Program} {l : Launch} {e : Env} {s : State} {m : MethodId} {args : Array Value} {below : List Frame} {meth : Method} {c : Code} {G : sh_Ev} {A : Nat → Prop} {res : Int32 × sh_St} (C : sh_Cx p s m args meth c cX7_takeLeastFree 4 RX7 G A) (hr : meth.sig.returnType = some .int) : ∀ (n : Nat) (S : sh_St) (v1 : Int32) (v2 : Int32) (v3 : Int32), fX7_takeLeastFree_6 n S v1 v2 v3 = some res → ∀ (H : Heap) (locs : List Loc) (ls : Array Slot), sh_Wx G tbX A s H locs S → lv_has ls 4 [(0, .ref (G.2.1 4)), (1, .int v1), (2, .int v2), (3, .int v3)] → W p l e (sh_rm 1) s m args below meth c H locs 0 0 (sh_Qi below args s G tbX A res) (F0 m 6 ls []) := by
  intro n
  induction n with
  | zero => intro S v1 v2 v3 hf; exact nomatch (show (none : Option (Int32 × sh_St)) = some res from hf)
  | succ n ih =>
    intro S v1 v2 v3 hf H locs ls hw hl
    have hr6 := ih
    rw [fX7_takeLeastFree_6] at hf
    refine lv_iload_n C.1 C.2.1 dX7_takeLeastFree_6 rfl (lv_at hl 3 rfl) ?_
    refine sh_if_le (tgt := 27) C hf dX7_takeLeastFree_7 (by decide) (fun hf => ?_) (fun hf => ?_)
    · refine lv_aload_n C.1 C.2.1 dX7_takeLeastFree_27 rfl (lv_at hl 0 rfl) ?_
      refine sh_getr C hw fl_X7_25 tbX_4 rfl dX7_takeLeastFree_28 ?_
      refine lv_iload_n C.1 C.2.1 dX7_takeLeastFree_31 rfl (lv_at hl 2 rfl) ?_
      refine lv_iload_n C.1 C.2.1 dX7_takeLeastFree_32 rfl (lv_at hl 1 rfl) ?_
      refine sh_iast C hw hf tbX_5 dX7_takeLeastFree_33 (fun S1 H locs hw hf => ?_)
      refine lv_iload_n C.1 C.2.1 dX7_takeLeastFree_34 rfl (lv_at hl 2 rfl) ?_
      exact sh_ri C hw hr hf dX7_takeLeastFree_35
    · refine lv_aload_n C.1 C.2.1 dX7_takeLeastFree_10 rfl (lv_at hl 0 rfl) ?_
      refine sh_getr C hw fl_X7_25 tbX_4 rfl dX7_takeLeastFree_11 ?_
      refine lv_iload_n C.1 C.2.1 dX7_takeLeastFree_14 rfl (lv_at hl 3 rfl) ?_
      refine sh_iald C hw hf tbX_5 dX7_takeLeastFree_15 (fun hf => ?_)
      refine sh_if_ne (tgt := 21) C hf dX7_takeLeastFree_16 (by decide) (fun hf => ?_) (fun hf => ?_)
      · exact wX7_takeLeastFree_21 C hr (fX7_takeLeastFree_6 n) hr6 S v1 v2 v3 hf _ _ _ hw (lv_sub hl [0, 1, 2, 3] rfl)
      · refine lv_iload_n C.1 C.2.1 dX7_takeLeastFree_19 rfl (lv_at hl 3 rfl) ?_
        refine lv_istore_n (lv' := [(2, .int v3), (0, .ref (G.2.1 4)), (1, .int v1), (3, .int v3)]) C.1 C.2.1 dX7_takeLeastFree_20 rfl hl (by decide) rfl (fun ls hl => ?_)
        exact wX7_takeLeastFree_21 C hr (fX7_takeLeastFree_6 n) hr6 S v1 v3 v3 hf _ _ _ hw (lv_sub hl [1, 2, 0, 3] rfl)
def fX7_takeLeastFree (S : sh_St) (v1 : Int32) : Option (Int32 × sh_St) :=
    fX7_takeLeastFree_6 sh_FU S v1 39 39
set_option maxRecDepth 100000 in
set_option maxHeartbeats 4000000 in
theorem kX7_takeLeastFree (l : Launch) (v1 : Int32) : sh_Mi l yX7_takeLeastFree cX7_takeLeastFree 4 .int 1 tbX (fun G => [.ref (G.2.1 4), .int v1]) (fun S => fX7_takeLeastFree S v1) := by
  refine sh_mki (by decide) (fun G => Nat.le_of_ble_eq_true rfl) ?_
  intro p e s m args below meth c G A S res ls hf C hr hw hl
  have C : sh_Cx p s m args meth c cX7_takeLeastFree 4 RX7 G A := C
  have hl : lv_has ls 4 [(0, .ref (G.2.1 4)), (1, .int v1)] := hl
  replace hf : fX7_takeLeastFree S v1 = some res := hf
  rw [fX7_takeLeastFree] at hf
  refine lv_bipush (v := 39) C.1 C.2.1 dX7_takeLeastFree_0 (by decide) ?_
  refine lv_istore_n (lv' := [(2, .int 39), (0, .ref (G.2.1 4)), (1, .int v1)]) C.1 C.2.1 dX7_takeLeastFree_2 rfl hl (by decide) rfl (fun ls hl => ?_)
  refine lv_bipush (v := 39) C.1 C.2.1 dX7_takeLeastFree_3 (by decide) ?_
  refine lv_istore_n (lv' := [(3, .int 39), (2, .int 39), (0, .ref (G.2.1 4)), (1, .int v1)]) C.1 C.2.1 dX7_takeLeastFree_5 rfl hl (by decide) rfl (fun ls hl => ?_)
  exact wX7_takeLeastFree_6 C hr _ S v1 39 39 hf _ _ _ hw (lv_sub hl [2, 3, 1, 0] rfl)
def fX7_freeAll_37 : Nat → sh_St → Int32 → Option (Unit × sh_St)
  | 0, _, _ => none
  | n + 1, S, v1 =>
    if 240 ≤ v1 then (some ((), S))
    else (sh_g v1 240 (sh_t (sh_L S 8 v1.toNatClampNeg 0) fun S1 =>
    sh_t (v1 + 1) fun y2 =>
    (fX7_freeAll_37 n) S1 y2))
set_option maxRecDepth 100000 in
set_option maxHeartbeats 4000000 in
theorem wX7_freeAll_37 {p : Program} {l : Launch} {e : Env} {s : State} {m : MethodId} {args : Array Value} {below : List Frame} {meth : Method} {c : Code} {G : sh_Ev} {A : Nat → Prop} {res : Unit × sh_St} (C : sh_Cx p s m args meth c cX7_freeAll 2 RX7 G A) (hr : meth.sig.returnType = none) : ∀ (n : Nat) (S : sh_St) (v1 : Int32), fX7_freeAll_37 n S v1 = some res → ∀ (H : Heap) (locs : List Loc) (ls : Array Slot), sh_Wx G tbX A s H locs S → lv_has ls 2 [(0, .ref (G.2.1 4)), (1, .int v1)] → W p l e (sh_rm 1) s m args below meth c H locs 0 0 (sh_Qv below args s G tbX A res) (F0 m 37 ls []) := by
  intro n
  induction n with
  | zero => intro S v1 hf; exact nomatch (show (none : Option (Unit × sh_St)) = some res from hf)
  | succ n ih =>
    intro S v1 hf H locs ls hw hl
    have hr37 := ih
    rw [fX7_freeAll_37] at hf
    refine lv_iload_n C.1 C.2.1 dX7_freeAll_37 rfl (lv_at hl 1 rfl) ?_
    refine lv_sipush (v := 240) C.1 C.2.1 dX7_freeAll_38 (by decide) ?_
    refine sh_icmp_ge (tgt := 57) C hf dX7_freeAll_41 (by decide) (fun hf => ?_) (fun hf => ?_)
    · exact sh_rv C hw hr hf dX7_freeAll_57
    · refine lv_aload_n C.1 C.2.1 dX7_freeAll_44 rfl (lv_at hl 0 rfl) ?_
      refine sh_getr C hw fl_X7_35 tbX_4 rfl dX7_freeAll_45 ?_
      refine lv_iload_n C.1 C.2.1 dX7_freeAll_48 rfl (lv_at hl 1 rfl) ?_
      refine lv_lconst (v := 0) C.1 C.2.1 dX7_freeAll_49 (by decide) ?_
      refine sh_last C hw hf tbX_8 dX7_freeAll_50 (fun S1 H locs hw hf => ?_)
      obtain ⟨y2, ey2, hf⟩ := sh_nm hf
      refine lv_iinc (v := y2) (lv' := [(1, .int y2), (0, .ref (G.2.1 4))]) C.1 C.2.1 dX7_freeAll_51 hl (k := 1) rfl (by rw [← ey2]; rfl) (by decide) rfl (fun ls hl => ?_)
      refine lv_goto (tgt := 37) C.1 C.2.1 dX7_freeAll_54 (by decide) ?_
      exact hr37 S1 y2 hf _ _ _ hw (lv_sub hl [1, 0] rfl)
def fX7_freeAll_2 : Nat → sh_St → Int32 → Option (Unit × sh_St)
  | 0, _, _ => none
  | n + 1, S, v1 =>
    if 40 ≤ v1 then (fX7_freeAll_37 sh_FU S 0)
    else (sh_g v1 40 (sh_t (sh_I S 5 v1.toNatClampNeg 0) fun S3 =>
    sh_g v1 40 (sh_t (sh_I S3 6 v1.toNatClampNeg 0) fun S4 =>
    sh_g v1 40 (sh_t (sh_I S4 7 v1.toNatClampNeg 0) fun S5 =>
    sh_t (v1 + 1) fun y6 =>
    (fX7_freeAll_2 n) S5 y6))))
set_option maxRecDepth 100000 in
set_option maxHeartbeats 4000000 in
theorem wX7_freeAll_2 {p : Program} {l : Launch} {e : Env} {s : State} {m : MethodId} {args : Array Value} {below : List Frame} {meth : Method} {c : Code} {G : sh_Ev} {A : Nat → Prop} {res : Unit × sh_St} (C : sh_Cx p s m args meth c cX7_freeAll 2 RX7 G A) (hr : meth.sig.returnType = none) : ∀ (n : Nat) (S : sh_St) (v1 : Int32), fX7_freeAll_2 n S v1 = some res → ∀ (H : Heap) (locs : List Loc) (ls : Array Slot), sh_Wx G tbX A s H locs S → lv_has ls 2 [(0, .ref (G.2.1 4)), (1, .int v1)] → W p l e (sh_rm 1) s m args below meth c H locs 0 0 (sh_Qv below args s G tbX A res) (F0 m 2 ls []) := by
  intro n
  induction n with
  | zero => intro S v1 hf; exact nomatch (show (none : Option (Unit × sh_St)) = some res from hf)
  | succ n ih =>
    intro S v1 hf H locs ls hw hl
    have hr2 := ih
    rw [fX7_freeAll_2] at hf
    refine lv_iload_n C.1 C.2.1 dX7_freeAll_2 rfl (lv_at hl 1 rfl) ?_
    refine lv_bipush (v := 40) C.1 C.2.1 dX7_freeAll_3 (by decide) ?_
    refine sh_icmp_ge (tgt := 35) C hf dX7_freeAll_5 (by decide) (fun hf => ?_) (fun hf => ?_)
    · refine lv_iconst (v := 0) C.1 C.2.1 dX7_freeAll_35 (by decide) ?_
      refine lv_istore_n (lv' := [(1, .int 0), (0, .ref (G.2.1 4))]) C.1 C.2.1 dX7_freeAll_36 rfl hl (by decide) rfl (fun ls hl => ?_)
      exact wX7_freeAll_37 C hr _ S 0 hf _ _ _ hw (lv_sub hl [1, 0] rfl)
    · refine lv_aload_n C.1 C.2.1 dX7_freeAll_8 rfl (lv_at hl 0 rfl) ?_
      refine sh_getr C hw fl_X7_25 tbX_4 rfl dX7_freeAll_9 ?_
      refine lv_iload_n C.1 C.2.1 dX7_freeAll_12 rfl (lv_at hl 1 rfl) ?_
      refine lv_iconst (v := 0) C.1 C.2.1 dX7_freeAll_13 (by decide) ?_
      refine sh_iast C hw hf tbX_5 dX7_freeAll_14 (fun S3 H locs hw hf => ?_)
      refine lv_aload_n C.1 C.2.1 dX7_freeAll_15 rfl (lv_at hl 0 rfl) ?_
      refine sh_getr C hw fl_X7_29 tbX_4 rfl dX7_freeAll_16 ?_
      refine lv_iload_n C.1 C.2.1 dX7_freeAll_19 rfl (lv_at hl 1 rfl) ?_
      refine lv_iconst (v := 0) C.1 C.2.1 dX7_freeAll_20 (by decide) ?_
      refine sh_iast C hw hf tbX_6 dX7_freeAll_21 (fun S4 H locs hw hf => ?_)
      refine lv_aload_n C.1 C.2.1 dX7_freeAll_22 rfl (lv_at hl 0 rfl) ?_
      refine sh_getr C hw fl_X7_32 tbX_4 rfl dX7_freeAll_23 ?_
      refine lv_iload_n C.1 C.2.1 dX7_freeAll_26 rfl (lv_at hl 1 rfl) ?_
      refine lv_iconst (v := 0) C.1 C.2.1 dX7_freeAll_27 (by decide) ?_
      refine sh_iast C hw hf tbX_7 dX7_freeAll_28 (fun S5 H locs hw hf => ?_)
      obtain ⟨y6, ey6, hf⟩ := sh_nm hf
      refine lv_iinc (v := y6) (lv' := [(1, .int y6), (0, .ref (G.2.1 4))]) C.1 C.2.1 dX7_freeAll_29 hl (k := 1) rfl (by rw [← ey6]; rfl) (by decide) rfl (fun ls hl => ?_)
      refine lv_goto (tgt := 2) C.1 C.2.1 dX7_freeAll_32 (by decide) ?_
      exact hr2 S5 y6 hf _ _ _ hw (lv_sub hl [1, 0] rfl)
def fX7_freeAll (S : sh_St) : Option (Unit × sh_St) :=
    fX7_freeAll_2 sh_FU S 0
set_option maxRecDepth 100000 in
set_option maxHeartbeats 4000000 in
theorem kX7_freeAll (l : Launch) : sh_Mv l yX7_freeAll cX7_freeAll 2 1 tbX (fun G => [.ref (G.2.1 4)]) (fun S => fX7_freeAll S) := by
  refine sh_mkv (by decide) (fun G => Nat.le_of_ble_eq_true rfl) ?_
  intro p e s m args below meth c G A S res ls hf C hr hw hl
  have C : sh_Cx p s m args meth c cX7_freeAll 2 RX7 G A := C
  have hl : lv_has ls 2 [(0, .ref (G.2.1 4))] := hl
  replace hf : fX7_freeAll S = some res := hf
  rw [fX7_freeAll] at hf
  refine lv_iconst (v := 0) C.1 C.2.1 dX7_freeAll_0 (by decide) ?_
  refine lv_istore_n (lv' := [(1, .int 0), (0, .ref (G.2.1 4))]) C.1 C.2.1 dX7_freeAll_1 rfl hl (by decide) rfl (fun ls hl => ?_)
  exact wX7_freeAll_2 C hr _ S 0 hf _ _ _ hw (lv_sub hl [1, 0] rfl)
def fX7_layLeaf_87 (rk10 : sh_St → Int32 → Int32 → Int32 → Int32 → Option (Unit × sh_St)) (S : sh_St) (v1 : Int32) (v3 : Int32) (v4 : Int32) (v5 : Int32) : Option (Unit × sh_St) :=
    sh_t (v5 + 1) fun y4 =>
    rk10 S v1 v3 v4 y4
set_option maxRecDepth 100000 in
set_option maxHeartbeats 4000000 in
theorem wX7_layLeaf_87 {p : Program} {l : Launch} {e : Env} {s : State} {m : MethodId} {args : Array Value} {below : List Frame} {meth : Method} {c : Code} {G : sh_Ev} {A : Nat → Prop} {res : Unit × sh_St} (C : sh_Cx p s m args meth c cX7_layLeaf 7 RX7 G A) (hr : meth.sig.returnType = none) (rk10 : sh_St → Int32 → Int32 → Int32 → Int32 → Option (Unit × sh_St)) (hr10 : ∀ (S : sh_St) (v1 : Int32) (v3 : Int32) (v4 : Int32) (v5 : Int32), rk10 S v1 v3 v4 v5 = some res → ∀ (H : Heap) (locs : List Loc) (ls : Array Slot), sh_Wx G tbX A s H locs S → lv_has ls 7 [(0, .ref (G.2.1 4)), (1, .int v1), (2, .ref (G.2.1 124)), (3, .int v3), (4, .int v4), (5, .int v5)] → W p l e (sh_rm 2) s m args below meth c H locs 0 0 (sh_Qv below args s G tbX A res) (F0 m 10 ls [])) : ∀ (S : sh_St) (v1 : Int32) (v3 : Int32) (v4 : Int32) (v5 : Int32), fX7_layLeaf_87 rk10 S v1 v3 v4 v5 = some res → ∀ (H : Heap) (locs : List Loc) (ls : Array Slot), sh_Wx G tbX A s H locs S → lv_has ls 7 [(0, .ref (G.2.1 4)), (1, .int v1), (2, .ref (G.2.1 124)), (3, .int v3), (4, .int v4), (5, .int v5)] → W p l e (sh_rm 2) s m args below meth c H locs 0 0 (sh_Qv below args s G tbX A res) (F0 m 87 ls []) := by
  intro S v1 v3 v4 v5 hf H locs ls hw hl
  rw [fX7_layLeaf_87] at hf
  obtain ⟨y4, ey4, hf⟩ := sh_nm hf
  refine lv_iinc (v := y4) (lv' := [(5, .int y4), (0, .ref (G.2.1 4)), (1, .int v1), (2, .ref (G.2.1 124)), (3, .int v3), (4, .int v4)]) C.1 C.2.1 dX7_layLeaf_87 hl (k := 5) rfl (by rw [← ey4]; rfl) (by decide) rfl (fun ls hl => ?_)
  refine lv_goto (tgt := 10) C.1 C.2.1 dX7_layLeaf_90 (by decide) ?_
  exact hr10 S v1 v3 v4 y4 hf _ _ _ hw (lv_sub hl [1, 2, 3, 4, 5, 0] rfl)
def fX7_layLeaf_74 (rk10 : sh_St → Int32 → Int32 → Int32 → Int32 → Option (Unit × sh_St)) (S : sh_St) (v1 : Int32) (v3 : Int32) (v4 : Int32) (v5 : Int32) : Option (Unit × sh_St) :=
    sh_g ((v1 * 6) + v5) 240 (sh_t (sh_L S 8 ((v1 * 6) + v5).toNatClampNeg 0) fun S3 =>
    fX7_layLeaf_87 rk10 S3 v1 v3 v4 v5)
set_option maxRecDepth 100000 in
set_option maxHeartbeats 4000000 in
theorem wX7_layLeaf_74 {p : Program} {l : Launch} {e : Env} {s : State} {m : MethodId} {args : Array Value} {below : List Frame} {meth : Method} {c : Code} {G : sh_Ev} {A : Nat → Prop} {res : Unit × sh_St} (C : sh_Cx p s m args meth c cX7_layLeaf 7 RX7 G A) (hr : meth.sig.returnType = none) (rk10 : sh_St → Int32 → Int32 → Int32 → Int32 → Option (Unit × sh_St)) (hr10 : ∀ (S : sh_St) (v1 : Int32) (v3 : Int32) (v4 : Int32) (v5 : Int32), rk10 S v1 v3 v4 v5 = some res → ∀ (H : Heap) (locs : List Loc) (ls : Array Slot), sh_Wx G tbX A s H locs S → lv_has ls 7 [(0, .ref (G.2.1 4)), (1, .int v1), (2, .ref (G.2.1 124)), (3, .int v3), (4, .int v4), (5, .int v5)] → W p l e (sh_rm 2) s m args below meth c H locs 0 0 (sh_Qv below args s G tbX A res) (F0 m 10 ls [])) : ∀ (S : sh_St) (v1 : Int32) (v3 : Int32) (v4 : Int32) (v5 : Int32), fX7_layLeaf_74 rk10 S v1 v3 v4 v5 = some res → ∀ (H : Heap) (locs : List Loc) (ls : Array Slot), sh_Wx G tbX A s H locs S → lv_has ls 7 [(0, .ref (G.2.1 4)), (1, .int v1), (2, .ref (G.2.1 124)), (3, .int v3), (4, .int v4), (5, .int v5)] → W p l e (sh_rm 2) s m args below meth c H locs 0 0 (sh_Qv below args s G tbX A res) (F0 m 74 ls []) := by
  intro S v1 v3 v4 v5 hf H locs ls hw hl
  rw [fX7_layLeaf_74] at hf
  refine lv_aload_n C.1 C.2.1 dX7_layLeaf_74 rfl (lv_at hl 0 rfl) ?_
  refine sh_getr C hw fl_X7_35 tbX_4 rfl dX7_layLeaf_75 ?_
  refine lv_iload_n C.1 C.2.1 dX7_layLeaf_78 rfl (lv_at hl 1 rfl) ?_
  refine lv_bipush (v := 6) C.1 C.2.1 dX7_layLeaf_79 (by decide) ?_
  refine lv_imul C.1 C.2.1 dX7_layLeaf_81 ?_
  refine lv_iload C.1 C.2.1 dX7_layLeaf_82 (lv_at hl 5 rfl) ?_
  refine lv_iadd C.1 C.2.1 dX7_layLeaf_84 ?_
  refine lv_lconst (v := 0) C.1 C.2.1 dX7_layLeaf_85 (by decide) ?_
  refine sh_last C hw hf tbX_8 dX7_layLeaf_86 (fun S3 H locs hw hf => ?_)
  exact wX7_layLeaf_87 C hr rk10 hr10 S3 v1 v3 v4 v5 hf _ _ _ hw (lv_sub hl [0, 1, 2, 3, 4, 5] rfl)
def fX7_layLeaf_10 : Nat → sh_St → Int32 → Int32 → Int32 → Int32 → Option (Unit × sh_St)
  | 0, _, _, _, _, _ => none
  | n + 1, S, v1, v3, v4, v5 =>
    if 6 ≤ v5 then (some ((), S))
    else (sh_t (v3 + v5) fun y2 =>
    if v4 ≤ y2 then (fX7_layLeaf_74 (fX7_layLeaf_10 n) S v1 v3 v4 v5)
    else (if (S.1 124 3) ≤ y2 then (fX7_layLeaf_74 (fX7_layLeaf_10 n) S v1 v3 v4 v5)
    else (sh_g y2 240 (sh_g y2 240 (sh_g y2 240 (sh_c (fX7_setEntry S ((v1 * 6) + v5) (S.2 125 y2.toNatClampNeg) (S.1 126 y2.toNatClampNeg) (S.1 127 y2.toNatClampNeg)) fun _ S5 =>
    fX7_layLeaf_87 (fX7_layLeaf_10 n) S5 v1 v3 v4 v5))))))
set_option maxRecDepth 100000 in
set_option maxHeartbeats 4000000 in
theorem wX7_layLeaf_10 {p : Program} {l : Launch} {e : Env} {s : State} {m : MethodId} {args : Array Value} {below : List Frame} {meth : Method} {c : Code} {G : sh_Ev} {A : Nat → Prop} {res : Unit × sh_St} (C : sh_Cx p s m args meth c cX7_layLeaf 7 RX7 G A) (hr : meth.sig.returnType = none) : ∀ (n : Nat) (S : sh_St) (v1 : Int32) (v3 : Int32) (v4 : Int32) (v5 : Int32), fX7_layLeaf_10 n S v1 v3 v4 v5 = some res → ∀ (H : Heap) (locs : List Loc) (ls : Array Slot), sh_Wx G tbX A s H locs S → lv_has ls 7 [(0, .ref (G.2.1 4)), (1, .int v1), (2, .ref (G.2.1 124)), (3, .int v3), (4, .int v4), (5, .int v5)] → W p l e (sh_rm 2) s m args below meth c H locs 0 0 (sh_Qv below args s G tbX A res) (F0 m 10 ls []) := by
  intro n
  induction n with
  | zero => intro S v1 v3 v4 v5 hf; exact nomatch (show (none : Option (Unit × sh_St)) = some res from hf)
  | succ n ih =>
    intro S v1 v3 v4 v5 hf H locs ls hw hl
    have hr10 := ih
    rw [fX7_layLeaf_10] at hf
    refine lv_iload C.1 C.2.1 dX7_layLeaf_10 (lv_at hl 5 rfl) ?_
    refine lv_bipush (v := 6) C.1 C.2.1 dX7_layLeaf_12 (by decide) ?_
    refine sh_icmp_ge (tgt := 93) C hf dX7_layLeaf_14 (by decide) (fun hf => ?_) (fun hf => ?_)
    · exact sh_rv C hw hr hf dX7_layLeaf_93
    · refine lv_iload_n C.1 C.2.1 dX7_layLeaf_17 rfl (lv_at hl 3 rfl) ?_
      refine lv_iload C.1 C.2.1 dX7_layLeaf_18 (lv_at hl 5 rfl) ?_
      refine lv_iadd C.1 C.2.1 dX7_layLeaf_20 ?_
      refine sh_ni hf (fun y2 hf => ?_)
      refine lv_istore (lv' := [(6, .int y2), (0, .ref (G.2.1 4)), (1, .int v1), (2, .ref (G.2.1 124)), (3, .int v3), (4, .int v4), (5, .int v5)]) C.1 C.2.1 dX7_layLeaf_21 hl (by decide) rfl (fun ls hl => ?_)
      refine lv_iload C.1 C.2.1 dX7_layLeaf_23 (lv_at hl 0 rfl) ?_
      refine lv_iload C.1 C.2.1 dX7_layLeaf_25 (lv_at hl 5 rfl) ?_
      refine sh_icmp_ge (tgt := 74) C hf dX7_layLeaf_27 (by decide) (fun hf => ?_) (fun hf => ?_)
      · exact wX7_layLeaf_74 C hr (fX7_layLeaf_10 n) hr10 S v1 v3 v4 v5 hf _ _ _ hw (lv_sub hl [1, 2, 3, 4, 5, 6] rfl)
      · refine lv_iload C.1 C.2.1 dX7_layLeaf_30 (lv_at hl 0 rfl) ?_
        refine lv_aload_n C.1 C.2.1 dX7_layLeaf_32 rfl (lv_at hl 3 rfl) ?_
        refine sh_geti C hw fl_X7_64 tbX_124 rfl dX7_layLeaf_33 ?_
        refine sh_icmp_ge (tgt := 74) C hf dX7_layLeaf_36 (by decide) (fun hf => ?_) (fun hf => ?_)
        · exact wX7_layLeaf_74 C hr (fX7_layLeaf_10 n) hr10 S v1 v3 v4 v5 hf _ _ _ hw (lv_sub hl [1, 2, 3, 4, 5, 6] rfl)
        · refine lv_aload_n C.1 C.2.1 dX7_layLeaf_39 rfl (lv_at hl 1 rfl) ?_
          refine lv_iload_n C.1 C.2.1 dX7_layLeaf_40 rfl (lv_at hl 2 rfl) ?_
          refine lv_bipush (v := 6) C.1 C.2.1 dX7_layLeaf_41 (by decide) ?_
          refine lv_imul C.1 C.2.1 dX7_layLeaf_43 ?_
          refine lv_iload C.1 C.2.1 dX7_layLeaf_44 (lv_at hl 6 rfl) ?_
          refine lv_iadd C.1 C.2.1 dX7_layLeaf_46 ?_
          refine lv_aload_n C.1 C.2.1 dX7_layLeaf_47 rfl (lv_at hl 3 rfl) ?_
          refine sh_getr C hw fl_X7_69 tbX_124 rfl dX7_layLeaf_48 ?_
          refine lv_iload C.1 C.2.1 dX7_layLeaf_51 (lv_at hl 0 rfl) ?_
          refine sh_lald C hw hf tbX_125 dX7_layLeaf_53 (fun hf => ?_)
          refine lv_aload_n C.1 C.2.1 dX7_layLeaf_54 rfl (lv_at hl 3 rfl) ?_
          refine sh_getr C hw fl_X7_70 tbX_124 rfl dX7_layLeaf_55 ?_
          refine lv_iload C.1 C.2.1 dX7_layLeaf_58 (lv_at hl 0 rfl) ?_
          refine sh_iald C hw hf tbX_126 dX7_layLeaf_60 (fun hf => ?_)
          refine lv_aload_n C.1 C.2.1 dX7_layLeaf_61 rfl (lv_at hl 3 rfl) ?_
          refine sh_getr C hw fl_X7_71 tbX_124 rfl dX7_layLeaf_62 ?_
          refine lv_iload C.1 C.2.1 dX7_layLeaf_65 (lv_at hl 0 rfl) ?_
          refine sh_iald C hw hf tbX_127 dX7_layLeaf_67 (fun hf => ?_)
          refine sh_Vv (As := [.int ((v1 * 6) + v5), .long (S.2 125 y2.toNatClampNeg), .int (S.1 126 y2.toNatClampNeg), .int (S.1 127 y2.toNatClampNeg)]) (rest := []) C hw (kX7_setEntry l ((v1 * 6) + v5) (S.2 125 y2.toNatClampNeg) (S.1 126 y2.toNatClampNeg) (S.1 127 y2.toNatClampNeg)) yy_X7_setEntry yv_X7_setEntry ml_X7_72 hf tbX_4 rfl rfl rfl rfl (Nat.le_of_ble_eq_true rfl) (by decide) hl.1 dX7_layLeaf_68 (fun S5 H locs hw hf => ?_)
          refine lv_goto (tgt := 87) C.1 C.2.1 dX7_layLeaf_71 (by decide) ?_
          exact wX7_layLeaf_87 C hr (fX7_layLeaf_10 n) hr10 S5 v1 v3 v4 v5 hf _ _ _ hw (lv_sub hl [1, 2, 3, 4, 5, 6] rfl)
def fX7_layLeaf (S : sh_St) (v1 : Int32) (v3 : Int32) (v4 : Int32) : Option (Unit × sh_St) :=
    sh_g v1 40 (sh_t (sh_I S 5 v1.toNatClampNeg 1) fun S1 =>
    fX7_layLeaf_10 sh_FU S1 v1 v3 v4 0)
set_option maxRecDepth 100000 in
set_option maxHeartbeats 4000000 in
theorem kX7_layLeaf (l : Launch) (v1 : Int32) (v3 : Int32) (v4 : Int32) : sh_Mv l yX7_layLeaf cX7_layLeaf 7 2 tbX (fun G => [.ref (G.2.1 4), .int v1, .ref (G.2.1 124), .int v3, .int v4]) (fun S => fX7_layLeaf S v1 v3 v4) := by
  refine sh_mkv (by decide) (fun G => Nat.le_of_ble_eq_true rfl) ?_
  intro p e s m args below meth c G A S res ls hf C hr hw hl
  have C : sh_Cx p s m args meth c cX7_layLeaf 7 RX7 G A := C
  have hl : lv_has ls 7 [(0, .ref (G.2.1 4)), (1, .int v1), (2, .ref (G.2.1 124)), (3, .int v3), (4, .int v4)] := hl
  replace hf : fX7_layLeaf S v1 v3 v4 = some res := hf
  rw [fX7_layLeaf] at hf
  refine lv_aload_n C.1 C.2.1 dX7_layLeaf_0 rfl (lv_at hl 0 rfl) ?_
  refine sh_getr C hw fl_X7_25 tbX_4 rfl dX7_layLeaf_1 ?_
  refine lv_iload_n C.1 C.2.1 dX7_layLeaf_4 rfl (lv_at hl 1 rfl) ?_
  refine lv_iconst (v := 1) C.1 C.2.1 dX7_layLeaf_5 (by decide) ?_
  refine sh_iast C hw hf tbX_5 dX7_layLeaf_6 (fun S1 H locs hw hf => ?_)
  refine lv_iconst (v := 0) C.1 C.2.1 dX7_layLeaf_7 (by decide) ?_
  refine lv_istore (lv' := [(5, .int 0), (0, .ref (G.2.1 4)), (1, .int v1), (2, .ref (G.2.1 124)), (3, .int v3), (4, .int v4)]) C.1 C.2.1 dX7_layLeaf_8 hl (by decide) rfl (fun ls hl => ?_)
  exact wX7_layLeaf_10 C hr _ S1 v1 v3 v4 0 hf _ _ _ hw (lv_sub hl [1, 2, 3, 4, 5, 0] rfl)
def fX7_copyRow (S : sh_St) (v1 : Int32) (v2 : Int32) : Option (Unit × sh_St) :=
    sh_g v1 240 (sh_g v2 240 (sh_t (sh_I S 11 v2.toNatClampNeg (S.1 11 v1.toNatClampNeg)) fun S1 =>
    sh_g v1 240 (sh_g v2 240 (sh_t (sh_I S1 12 v2.toNatClampNeg (S1.1 12 v1.toNatClampNeg)) fun S2 =>
    sh_g v1 240 (sh_g v2 240 (sh_t (sh_I S2 13 v2.toNatClampNeg (S2.1 13 v1.toNatClampNeg)) fun S3 =>
    some ((), S3)))))))
set_option maxRecDepth 100000 in
set_option maxHeartbeats 4000000 in
theorem kX7_copyRow (l : Launch) (v1 : Int32) (v2 : Int32) : sh_Mv l yX7_copyRow cX7_copyRow 3 1 tbX (fun G => [.ref (G.2.1 4), .int v1, .int v2]) (fun S => fX7_copyRow S v1 v2) := by
  refine sh_mkv (by decide) (fun G => Nat.le_of_ble_eq_true rfl) ?_
  intro p e s m args below meth c G A S res ls hf C hr hw hl
  have C : sh_Cx p s m args meth c cX7_copyRow 3 RX7 G A := C
  have hl : lv_has ls 3 [(0, .ref (G.2.1 4)), (1, .int v1), (2, .int v2)] := hl
  replace hf : fX7_copyRow S v1 v2 = some res := hf
  rw [fX7_copyRow] at hf
  refine lv_aload_n C.1 C.2.1 dX7_copyRow_0 rfl (lv_at hl 0 rfl) ?_
  refine sh_getr C hw fl_X7_45 tbX_4 rfl dX7_copyRow_1 ?_
  refine lv_iload_n C.1 C.2.1 dX7_copyRow_4 rfl (lv_at hl 2 rfl) ?_
  refine lv_aload_n C.1 C.2.1 dX7_copyRow_5 rfl (lv_at hl 0 rfl) ?_
  refine sh_getr C hw fl_X7_45 tbX_4 rfl dX7_copyRow_6 ?_
  refine lv_iload_n C.1 C.2.1 dX7_copyRow_9 rfl (lv_at hl 1 rfl) ?_
  refine sh_iald C hw hf tbX_11 dX7_copyRow_10 (fun hf => ?_)
  refine sh_iast C hw hf tbX_11 dX7_copyRow_11 (fun S1 H locs hw hf => ?_)
  refine lv_aload_n C.1 C.2.1 dX7_copyRow_12 rfl (lv_at hl 0 rfl) ?_
  refine sh_getr C hw fl_X7_48 tbX_4 rfl dX7_copyRow_13 ?_
  refine lv_iload_n C.1 C.2.1 dX7_copyRow_16 rfl (lv_at hl 2 rfl) ?_
  refine lv_aload_n C.1 C.2.1 dX7_copyRow_17 rfl (lv_at hl 0 rfl) ?_
  refine sh_getr C hw fl_X7_48 tbX_4 rfl dX7_copyRow_18 ?_
  refine lv_iload_n C.1 C.2.1 dX7_copyRow_21 rfl (lv_at hl 1 rfl) ?_
  refine sh_iald C hw hf tbX_12 dX7_copyRow_22 (fun hf => ?_)
  refine sh_iast C hw hf tbX_12 dX7_copyRow_23 (fun S2 H locs hw hf => ?_)
  refine lv_aload_n C.1 C.2.1 dX7_copyRow_24 rfl (lv_at hl 0 rfl) ?_
  refine sh_getr C hw fl_X7_51 tbX_4 rfl dX7_copyRow_25 ?_
  refine lv_iload_n C.1 C.2.1 dX7_copyRow_28 rfl (lv_at hl 2 rfl) ?_
  refine lv_aload_n C.1 C.2.1 dX7_copyRow_29 rfl (lv_at hl 0 rfl) ?_
  refine sh_getr C hw fl_X7_51 tbX_4 rfl dX7_copyRow_30 ?_
  refine lv_iload_n C.1 C.2.1 dX7_copyRow_33 rfl (lv_at hl 1 rfl) ?_
  refine sh_iald C hw hf tbX_13 dX7_copyRow_34 (fun hf => ?_)
  refine sh_iast C hw hf tbX_13 dX7_copyRow_35 (fun S3 H locs hw hf => ?_)
  exact sh_rv C hw hr hf dX7_copyRow_36
def fX7_copyRows_3 : Nat → sh_St → Int32 → Int32 → Int32 → Int32 → Int32 → Option (Unit × sh_St)
  | 0, _, _, _, _, _, _ => none
  | n + 1, S, v1, v2, v3, v4, v5 =>
    if v3 ≤ v5 then (sh_g v4 40 (sh_t (sh_I S 6 v4.toNatClampNeg (v3 - v2)) fun S1 =>
    some ((), S1)))
    else (sh_c (fX7_copyRow S ((v1 * 6) + v5) (((v4 * 6) + v5) - v2)) fun _ S2 =>
    sh_t (v5 + 1) fun y4 =>
    (fX7_copyRows_3 n) S2 v1 v2 v3 v4 y4)
set_option maxRecDepth 100000 in
set_option maxHeartbeats 4000000 in
theorem wX7_copyRows_3 {p : Program} {l : Launch} {e : Env} {s : State} {m : MethodId} {args : Array Value} {below : List Frame} {meth : Method} {c : Code} {G : sh_Ev} {A : Nat → Prop} {res : Unit × sh_St} (C : sh_Cx p s m args meth c cX7_copyRows 6 RX7 G A) (hr : meth.sig.returnType = none) : ∀ (n : Nat) (S : sh_St) (v1 : Int32) (v2 : Int32) (v3 : Int32) (v4 : Int32) (v5 : Int32), fX7_copyRows_3 n S v1 v2 v3 v4 v5 = some res → ∀ (H : Heap) (locs : List Loc) (ls : Array Slot), sh_Wx G tbX A s H locs S → lv_has ls 6 [(0, .ref (G.2.1 4)), (1, .int v1), (2, .int v2), (3, .int v3), (4, .int v4), (5, .int v5)] → W p l e (sh_rm 2) s m args below meth c H locs 0 0 (sh_Qv below args s G tbX A res) (F0 m 3 ls []) := by
  intro n
  induction n with
  | zero => intro S v1 v2 v3 v4 v5 hf; exact nomatch (show (none : Option (Unit × sh_St)) = some res from hf)
  | succ n ih =>
    intro S v1 v2 v3 v4 v5 hf H locs ls hw hl
    have hr3 := ih
    rw [fX7_copyRows_3] at hf
    refine lv_iload C.1 C.2.1 dX7_copyRows_3 (lv_at hl 5 rfl) ?_
    refine lv_iload_n C.1 C.2.1 dX7_copyRows_5 rfl (lv_at hl 3 rfl) ?_
    refine sh_icmp_ge (tgt := 36) C hf dX7_copyRows_6 (by decide) (fun hf => ?_) (fun hf => ?_)
    · refine lv_aload_n C.1 C.2.1 dX7_copyRows_36 rfl (lv_at hl 0 rfl) ?_
      refine sh_getr C hw fl_X7_29 tbX_4 rfl dX7_copyRows_37 ?_
      refine lv_iload C.1 C.2.1 dX7_copyRows_40 (lv_at hl 4 rfl) ?_
      refine lv_iload_n C.1 C.2.1 dX7_copyRows_42 rfl (lv_at hl 3 rfl) ?_
      refine lv_iload_n C.1 C.2.1 dX7_copyRows_43 rfl (lv_at hl 2 rfl) ?_
      refine lv_isub C.1 C.2.1 dX7_copyRows_44 ?_
      refine sh_iast C hw hf tbX_6 dX7_copyRows_45 (fun S1 H locs hw hf => ?_)
      exact sh_rv C hw hr hf dX7_copyRows_46
    · refine lv_aload_n C.1 C.2.1 dX7_copyRows_9 rfl (lv_at hl 0 rfl) ?_
      refine lv_iload_n C.1 C.2.1 dX7_copyRows_10 rfl (lv_at hl 1 rfl) ?_
      refine lv_bipush (v := 6) C.1 C.2.1 dX7_copyRows_11 (by decide) ?_
      refine lv_imul C.1 C.2.1 dX7_copyRows_13 ?_
      refine lv_iload C.1 C.2.1 dX7_copyRows_14 (lv_at hl 5 rfl) ?_
      refine lv_iadd C.1 C.2.1 dX7_copyRows_16 ?_
      refine lv_iload C.1 C.2.1 dX7_copyRows_17 (lv_at hl 4 rfl) ?_
      refine lv_bipush (v := 6) C.1 C.2.1 dX7_copyRows_19 (by decide) ?_
      refine lv_imul C.1 C.2.1 dX7_copyRows_21 ?_
      refine lv_iload C.1 C.2.1 dX7_copyRows_22 (lv_at hl 5 rfl) ?_
      refine lv_iadd C.1 C.2.1 dX7_copyRows_24 ?_
      refine lv_iload_n C.1 C.2.1 dX7_copyRows_25 rfl (lv_at hl 2 rfl) ?_
      refine lv_isub C.1 C.2.1 dX7_copyRows_26 ?_
      refine sh_Vv (As := [.int ((v1 * 6) + v5), .int (((v4 * 6) + v5) - v2)]) (rest := []) C hw (kX7_copyRow l ((v1 * 6) + v5) (((v4 * 6) + v5) - v2)) yy_X7_copyRow yv_X7_copyRow ml_X7_82 hf tbX_4 rfl rfl rfl rfl (Nat.le_of_ble_eq_true rfl) (by decide) hl.1 dX7_copyRows_27 (fun S2 H locs hw hf => ?_)
      obtain ⟨y4, ey4, hf⟩ := sh_nm hf
      refine lv_iinc (v := y4) (lv' := [(5, .int y4), (0, .ref (G.2.1 4)), (1, .int v1), (2, .int v2), (3, .int v3), (4, .int v4)]) C.1 C.2.1 dX7_copyRows_30 hl (k := 5) rfl (by rw [← ey4]; rfl) (by decide) rfl (fun ls hl => ?_)
      refine lv_goto (tgt := 3) C.1 C.2.1 dX7_copyRows_33 (by decide) ?_
      exact hr3 S2 v1 v2 v3 v4 y4 hf _ _ _ hw (lv_sub hl [1, 2, 3, 4, 5, 0] rfl)
def fX7_copyRows (S : sh_St) (v1 : Int32) (v2 : Int32) (v3 : Int32) (v4 : Int32) : Option (Unit × sh_St) :=
    fX7_copyRows_3 sh_FU S v1 v2 v3 v4 v2
set_option maxRecDepth 100000 in
set_option maxHeartbeats 4000000 in
theorem kX7_copyRows (l : Launch) (v1 : Int32) (v2 : Int32) (v3 : Int32) (v4 : Int32) : sh_Mv l yX7_copyRows cX7_copyRows 6 2 tbX (fun G => [.ref (G.2.1 4), .int v1, .int v2, .int v3, .int v4]) (fun S => fX7_copyRows S v1 v2 v3 v4) := by
  refine sh_mkv (by decide) (fun G => Nat.le_of_ble_eq_true rfl) ?_
  intro p e s m args below meth c G A S res ls hf C hr hw hl
  have C : sh_Cx p s m args meth c cX7_copyRows 6 RX7 G A := C
  have hl : lv_has ls 6 [(0, .ref (G.2.1 4)), (1, .int v1), (2, .int v2), (3, .int v3), (4, .int v4)] := hl
  replace hf : fX7_copyRows S v1 v2 v3 v4 = some res := hf
  rw [fX7_copyRows] at hf
  refine lv_iload_n C.1 C.2.1 dX7_copyRows_0 rfl (lv_at hl 2 rfl) ?_
  refine lv_istore (lv' := [(5, .int v2), (0, .ref (G.2.1 4)), (1, .int v1), (2, .int v2), (3, .int v3), (4, .int v4)]) C.1 C.2.1 dX7_copyRows_1 hl (by decide) rfl (fun ls hl => ?_)
  exact wX7_copyRows_3 C hr _ S v1 v2 v3 v4 v2 hf _ _ _ hw (lv_sub hl [1, 2, 3, 4, 5, 0] rfl)
def fX8_twoLetters (S : sh_St) (v0 : Int32) (v1 : Int32) : Option (Int64 × sh_St) :=
    some (((Int32.toInt64 v0) <<< ((Int32.toInt64 56) &&& 63)) ||| ((Int32.toInt64 v1) <<< ((Int32.toInt64 48) &&& 63)), S)
set_option maxRecDepth 100000 in
set_option maxHeartbeats 4000000 in
theorem kX8_twoLetters (l : Launch) (v0 : Int32) (v1 : Int32) : sh_Ml l yX8_twoLetters cX8_twoLetters 2 1 tbX (fun G => [.int v0, .int v1]) (fun S => fX8_twoLetters S v0 v1) := by
  refine sh_mkl (by decide) (fun G => Nat.le_of_ble_eq_true rfl) ?_
  intro p e s m args below meth c G A S res ls hf C hr hw hl
  have C : sh_Cx p s m args meth c cX8_twoLetters 2 RX8 G A := C
  have hl : lv_has ls 2 [(0, .int v0), (1, .int v1)] := hl
  replace hf : fX8_twoLetters S v0 v1 = some res := hf
  rw [fX8_twoLetters] at hf
  refine lv_iload_n C.1 C.2.1 dX8_twoLetters_0 rfl (lv_at hl 0 rfl) ?_
  refine lv_i2l C.1 C.2.1 dX8_twoLetters_1 rfl ?_
  refine lv_bipush (v := 56) C.1 C.2.1 dX8_twoLetters_2 (by decide) ?_
  refine lv_lshl C.1 C.2.1 dX8_twoLetters_4 rfl ?_
  refine lv_iload_n C.1 C.2.1 dX8_twoLetters_5 rfl (lv_at hl 1 rfl) ?_
  refine lv_i2l C.1 C.2.1 dX8_twoLetters_6 rfl ?_
  refine lv_bipush (v := 48) C.1 C.2.1 dX8_twoLetters_7 (by decide) ?_
  refine lv_lshl C.1 C.2.1 dX8_twoLetters_9 rfl ?_
  refine lv_lor C.1 C.2.1 dX8_twoLetters_10 ?_
  exact sh_rl C hw hr hf dX8_twoLetters_11
def fX8_fewestInLeaf_5 : Nat → sh_St → Int32 → Int32 → Option (Int32 × sh_St)
  | 0, _, _, _ => none
  | n + 1, S, v1, v2 =>
    if (S.1 117 3) ≤ v2 then (some (v1, S))
    else (sh_g v2 40 (sh_c (fX7_entriesIn S (S.1 118 v2.toNatClampNeg)) fun r2 S1 =>
    sh_t (if r2 < v1 then r2 else v1) fun y3 =>
    sh_t (v2 + 1) fun y4 =>
    (fX8_fewestInLeaf_5 n) S1 y3 y4))
set_option maxRecDepth 100000 in
set_option maxHeartbeats 4000000 in
theorem wX8_fewestInLeaf_5 {p : Program} {l : Launch} {e : Env} {s : State} {m : MethodId} {args : Array Value} {below : List Frame} {meth : Method} {c : Code} {G : sh_Ev} {A : Nat → Prop} {res : Int32 × sh_St} (C : sh_Cx p s m args meth c cX8_fewestInLeaf 3 RX8 G A) (hr : meth.sig.returnType = some .int) : ∀ (n : Nat) (S : sh_St) (v1 : Int32) (v2 : Int32), fX8_fewestInLeaf_5 n S v1 v2 = some res → ∀ (H : Heap) (locs : List Loc) (ls : Array Slot), sh_Wx G tbX A s H locs S → lv_has ls 3 [(0, .ref (G.2.1 128)), (1, .int v1), (2, .int v2)] → W p l e (sh_rm 2) s m args below meth c H locs 0 0 (sh_Qi below args s G tbX A res) (F0 m 5 ls []) := by
  intro n
  induction n with
  | zero => intro S v1 v2 hf; exact nomatch (show (none : Option (Int32 × sh_St)) = some res from hf)
  | succ n ih =>
    intro S v1 v2 hf H locs ls hw hl
    have hr5 := ih
    rw [fX8_fewestInLeaf_5] at hf
    refine lv_iload_n C.1 C.2.1 dX8_fewestInLeaf_5 rfl (lv_at hl 2 rfl) ?_
    refine lv_aload_n C.1 C.2.1 dX8_fewestInLeaf_6 rfl (lv_at hl 0 rfl) ?_
    refine sh_getr C hw fl_X8_26 tbX_128 rfl dX8_fewestInLeaf_7 ?_
    refine sh_getr C hw fl_X8_54 tbX_116 rfl dX8_fewestInLeaf_10 ?_
    refine sh_geti C hw fl_X8_161 tbX_117 rfl dX8_fewestInLeaf_13 ?_
    refine sh_icmp_ge (tgt := 49) C hf dX8_fewestInLeaf_16 (by decide) (fun hf => ?_) (fun hf => ?_)
    · refine lv_iload_n C.1 C.2.1 dX8_fewestInLeaf_49 rfl (lv_at hl 1 rfl) ?_
      exact sh_ri C hw hr hf dX8_fewestInLeaf_50
    · refine lv_iload_n C.1 C.2.1 dX8_fewestInLeaf_19 rfl (lv_at hl 1 rfl) ?_
      refine lv_aload_n C.1 C.2.1 dX8_fewestInLeaf_20 rfl (lv_at hl 0 rfl) ?_
      refine sh_getr C hw fl_X8_22 tbX_128 rfl dX8_fewestInLeaf_21 ?_
      refine lv_aload_n C.1 C.2.1 dX8_fewestInLeaf_24 rfl (lv_at hl 0 rfl) ?_
      refine sh_getr C hw fl_X8_26 tbX_128 rfl dX8_fewestInLeaf_25 ?_
      refine sh_getr C hw fl_X8_54 tbX_116 rfl dX8_fewestInLeaf_28 ?_
      refine sh_getr C hw fl_X8_89 tbX_117 rfl dX8_fewestInLeaf_31 ?_
      refine lv_iload_n C.1 C.2.1 dX8_fewestInLeaf_34 rfl (lv_at hl 2 rfl) ?_
      refine sh_iald C hw hf tbX_118 dX8_fewestInLeaf_35 (fun hf => ?_)
      refine sh_Vi (As := [.int (S.1 118 v2.toNatClampNeg)]) (rest := [.int v1]) C hw (kX7_entriesIn l (S.1 118 v2.toNatClampNeg)) yy_X7_entriesIn yv_X7_entriesIn ml_X8_95 hf tbX_4 rfl rfl rfl rfl (Nat.le_of_ble_eq_true rfl) (by decide) hl.1 dX8_fewestInLeaf_36 (fun r2 S1 H locs hw hf => ?_)
      refine sh_min C ml_X8_162 mb_min (by decide) hl.1 (Nat.le_of_ble_eq_true rfl) dX8_fewestInLeaf_39 ?_
      refine sh_ni hf (fun y3 hf => ?_)
      refine lv_istore_n (lv' := [(1, .int y3), (0, .ref (G.2.1 128)), (2, .int v2)]) C.1 C.2.1 dX8_fewestInLeaf_42 rfl hl (by decide) rfl (fun ls hl => ?_)
      obtain ⟨y4, ey4, hf⟩ := sh_nm hf
      refine lv_iinc (v := y4) (lv' := [(2, .int y4), (1, .int y3), (0, .ref (G.2.1 128))]) C.1 C.2.1 dX8_fewestInLeaf_43 hl (k := 2) rfl (by rw [← ey4]; rfl) (by decide) rfl (fun ls hl => ?_)
      refine lv_goto (tgt := 5) C.1 C.2.1 dX8_fewestInLeaf_46 (by decide) ?_
      exact hr5 S1 y3 y4 hf _ _ _ hw (lv_sub hl [2, 1, 0] rfl)
def fX8_fewestInLeaf (S : sh_St) : Option (Int32 × sh_St) :=
    fX8_fewestInLeaf_5 sh_FU S 6 0
set_option maxRecDepth 100000 in
set_option maxHeartbeats 4000000 in
theorem kX8_fewestInLeaf (l : Launch) : sh_Mi l yX8_fewestInLeaf cX8_fewestInLeaf 3 .int 2 tbX (fun G => [.ref (G.2.1 128)]) (fun S => fX8_fewestInLeaf S) := by
  refine sh_mki (by decide) (fun G => Nat.le_of_ble_eq_true rfl) ?_
  intro p e s m args below meth c G A S res ls hf C hr hw hl
  have C : sh_Cx p s m args meth c cX8_fewestInLeaf 3 RX8 G A := C
  have hl : lv_has ls 3 [(0, .ref (G.2.1 128))] := hl
  replace hf : fX8_fewestInLeaf S = some res := hf
  rw [fX8_fewestInLeaf] at hf
  refine lv_bipush (v := 6) C.1 C.2.1 dX8_fewestInLeaf_0 (by decide) ?_
  refine lv_istore_n (lv' := [(1, .int 6), (0, .ref (G.2.1 128))]) C.1 C.2.1 dX8_fewestInLeaf_2 rfl hl (by decide) rfl (fun ls hl => ?_)
  refine lv_iconst (v := 0) C.1 C.2.1 dX8_fewestInLeaf_3 (by decide) ?_
  refine lv_istore_n (lv' := [(2, .int 0), (1, .int 6), (0, .ref (G.2.1 128))]) C.1 C.2.1 dX8_fewestInLeaf_4 rfl hl (by decide) rfl (fun ls hl => ?_)
  exact wX8_fewestInLeaf_5 C hr _ S 6 0 hf _ _ _ hw (lv_sub hl [2, 1, 0] rfl)
def fX8_fullestPlace_52 (rk6 : sh_St → Int32 → Int32 → Int32 → Option (Int32 × sh_St)) (S : sh_St) (v1 : Int32) (v2 : Int32) (v3 : Int32) : Option (Int32 × sh_St) :=
    sh_t (v3 + 1) fun y3 =>
    rk6 S v1 v2 y3
set_option maxRecDepth 100000 in
set_option maxHeartbeats 4000000 in
theorem wX8_fullestPlace_52 {p : Program} {l : Launch} {e : Env} {s : State} {m : MethodId} {args : Array Value} {below : List Frame} {meth : Method} {c : Code} {G : sh_Ev} {A : Nat → Prop} {res : Int32 × sh_St} (C : sh_Cx p s m args meth c cX8_fullestPlace 5 RX8 G A) (hr : meth.sig.returnType = some .int) (rk6 : sh_St → Int32 → Int32 → Int32 → Option (Int32 × sh_St)) (hr6 : ∀ (S : sh_St) (v1 : Int32) (v2 : Int32) (v3 : Int32), rk6 S v1 v2 v3 = some res → ∀ (H : Heap) (locs : List Loc) (ls : Array Slot), sh_Wx G tbX A s H locs S → lv_has ls 5 [(0, .ref (G.2.1 128)), (1, .int v1), (2, .int v2), (3, .int v3)] → W p l e (sh_rm 2) s m args below meth c H locs 0 0 (sh_Qi below args s G tbX A res) (F0 m 6 ls [])) : ∀ (S : sh_St) (v1 : Int32) (v2 : Int32) (v3 : Int32), fX8_fullestPlace_52 rk6 S v1 v2 v3 = some res → ∀ (H : Heap) (locs : List Loc) (ls : Array Slot), sh_Wx G tbX A s H locs S → lv_has ls 5 [(0, .ref (G.2.1 128)), (1, .int v1), (2, .int v2), (3, .int v3)] → W p l e (sh_rm 2) s m args below meth c H locs 0 0 (sh_Qi below args s G tbX A res) (F0 m 52 ls []) := by
  intro S v1 v2 v3 hf H locs ls hw hl
  rw [fX8_fullestPlace_52] at hf
  obtain ⟨y3, ey3, hf⟩ := sh_nm hf
  refine lv_iinc (v := y3) (lv' := [(3, .int y3), (0, .ref (G.2.1 128)), (1, .int v1), (2, .int v2)]) C.1 C.2.1 dX8_fullestPlace_52 hl (k := 3) rfl (by rw [← ey3]; rfl) (by decide) rfl (fun ls hl => ?_)
  refine lv_goto (tgt := 6) C.1 C.2.1 dX8_fullestPlace_55 (by decide) ?_
  exact hr6 S v1 v2 y3 hf _ _ _ hw (lv_sub hl [1, 2, 3, 0] rfl)
def fX8_fullestPlace_6 : Nat → sh_St → Int32 → Int32 → Int32 → Option (Int32 × sh_St)
  | 0, _, _, _, _ => none
  | n + 1, S, v1, v2, v3 =>
    if (S.1 117 3) ≤ v3 then (some (v1, S))
    else (sh_g v3 40 (sh_c (fX7_entriesIn S (S.1 118 v3.toNatClampNeg)) fun r2 S1 =>
    if r2 ≤ v2 then (fX8_fullestPlace_52 (fX8_fullestPlace_6 n) S1 v1 v2 v3)
    else (fX8_fullestPlace_52 (fX8_fullestPlace_6 n) S1 v3 r2 v3)))
set_option maxRecDepth 100000 in
set_option maxHeartbeats 4000000 in
theorem wX8_fullestPlace_6 {p : Program} {l : Launch} {e : Env} {s : State} {m : MethodId} {args : Array Value} {below : List Frame} {meth : Method} {c : Code} {G : sh_Ev} {A : Nat → Prop} {res : Int32 × sh_St} (C : sh_Cx p s m args meth c cX8_fullestPlace 5 RX8 G A) (hr : meth.sig.returnType = some .int) : ∀ (n : Nat) (S : sh_St) (v1 : Int32) (v2 : Int32) (v3 : Int32), fX8_fullestPlace_6 n S v1 v2 v3 = some res → ∀ (H : Heap) (locs : List Loc) (ls : Array Slot), sh_Wx G tbX A s H locs S → lv_has ls 5 [(0, .ref (G.2.1 128)), (1, .int v1), (2, .int v2), (3, .int v3)] → W p l e (sh_rm 2) s m args below meth c H locs 0 0 (sh_Qi below args s G tbX A res) (F0 m 6 ls []) := by
  intro n
  induction n with
  | zero => intro S v1 v2 v3 hf; exact nomatch (show (none : Option (Int32 × sh_St)) = some res from hf)
  | succ n ih =>
    intro S v1 v2 v3 hf H locs ls hw hl
    have hr6 := ih
    rw [fX8_fullestPlace_6] at hf
    refine lv_iload_n C.1 C.2.1 dX8_fullestPlace_6 rfl (lv_at hl 3 rfl) ?_
    refine lv_aload_n C.1 C.2.1 dX8_fullestPlace_7 rfl (lv_at hl 0 rfl) ?_
    refine sh_getr C hw fl_X8_26 tbX_128 rfl dX8_fullestPlace_8 ?_
    refine sh_getr C hw fl_X8_54 tbX_116 rfl dX8_fullestPlace_11 ?_
    refine sh_geti C hw fl_X8_161 tbX_117 rfl dX8_fullestPlace_14 ?_
    refine sh_icmp_ge (tgt := 58) C hf dX8_fullestPlace_17 (by decide) (fun hf => ?_) (fun hf => ?_)
    · refine lv_iload_n C.1 C.2.1 dX8_fullestPlace_58 rfl (lv_at hl 1 rfl) ?_
      exact sh_ri C hw hr hf dX8_fullestPlace_59
    · refine lv_aload_n C.1 C.2.1 dX8_fullestPlace_20 rfl (lv_at hl 0 rfl) ?_
      refine sh_getr C hw fl_X8_22 tbX_128 rfl dX8_fullestPlace_21 ?_
      refine lv_aload_n C.1 C.2.1 dX8_fullestPlace_24 rfl (lv_at hl 0 rfl) ?_
      refine sh_getr C hw fl_X8_26 tbX_128 rfl dX8_fullestPlace_25 ?_
      refine sh_getr C hw fl_X8_54 tbX_116 rfl dX8_fullestPlace_28 ?_
      refine sh_getr C hw fl_X8_89 tbX_117 rfl dX8_fullestPlace_31 ?_
      refine lv_iload_n C.1 C.2.1 dX8_fullestPlace_34 rfl (lv_at hl 3 rfl) ?_
      refine sh_iald C hw hf tbX_118 dX8_fullestPlace_35 (fun hf => ?_)
      refine sh_Vi (As := [.int (S.1 118 v3.toNatClampNeg)]) (rest := []) C hw (kX7_entriesIn l (S.1 118 v3.toNatClampNeg)) yy_X7_entriesIn yv_X7_entriesIn ml_X8_95 hf tbX_4 rfl rfl rfl rfl (Nat.le_of_ble_eq_true rfl) (by decide) hl.1 dX8_fullestPlace_36 (fun r2 S1 H locs hw hf => ?_)
      refine lv_istore (lv' := [(4, .int r2), (0, .ref (G.2.1 128)), (1, .int v1), (2, .int v2), (3, .int v3)]) C.1 C.2.1 dX8_fullestPlace_39 hl (by decide) rfl (fun ls hl => ?_)
      refine lv_iload C.1 C.2.1 dX8_fullestPlace_41 (lv_at hl 0 rfl) ?_
      refine lv_iload_n C.1 C.2.1 dX8_fullestPlace_43 rfl (lv_at hl 3 rfl) ?_
      refine sh_icmp_le (tgt := 52) C hf dX8_fullestPlace_44 (by decide) (fun hf => ?_) (fun hf => ?_)
      · exact wX8_fullestPlace_52 C hr (fX8_fullestPlace_6 n) hr6 S1 v1 v2 v3 hf _ _ _ hw (lv_sub hl [1, 2, 3, 4] rfl)
      · refine lv_iload C.1 C.2.1 dX8_fullestPlace_47 (lv_at hl 0 rfl) ?_
        refine lv_istore_n (lv' := [(2, .int r2), (4, .int r2), (0, .ref (G.2.1 128)), (1, .int v1), (3, .int v3)]) C.1 C.2.1 dX8_fullestPlace_49 rfl hl (by decide) rfl (fun ls hl => ?_)
        refine lv_iload_n C.1 C.2.1 dX8_fullestPlace_50 rfl (lv_at hl 4 rfl) ?_
        refine lv_istore_n (lv' := [(1, .int v3), (2, .int r2), (4, .int r2), (0, .ref (G.2.1 128)), (3, .int v3)]) C.1 C.2.1 dX8_fullestPlace_51 rfl hl (by decide) rfl (fun ls hl => ?_)
        exact wX8_fullestPlace_52 C hr (fX8_fullestPlace_6 n) hr6 S1 v3 r2 v3 hf _ _ _ hw (lv_sub hl [3, 0, 1, 4] rfl)
def fX8_fullestPlace (S : sh_St) : Option (Int32 × sh_St) :=
    fX8_fullestPlace_6 sh_FU S 0 (-1) 0
set_option maxRecDepth 100000 in
set_option maxHeartbeats 4000000 in
theorem kX8_fullestPlace (l : Launch) : sh_Mi l yX8_fullestPlace cX8_fullestPlace 5 .int 2 tbX (fun G => [.ref (G.2.1 128)]) (fun S => fX8_fullestPlace S) := by
  refine sh_mki (by decide) (fun G => Nat.le_of_ble_eq_true rfl) ?_
  intro p e s m args below meth c G A S res ls hf C hr hw hl
  have C : sh_Cx p s m args meth c cX8_fullestPlace 5 RX8 G A := C
  have hl : lv_has ls 5 [(0, .ref (G.2.1 128))] := hl
  replace hf : fX8_fullestPlace S = some res := hf
  rw [fX8_fullestPlace] at hf
  refine lv_iconst (v := 0) C.1 C.2.1 dX8_fullestPlace_0 (by decide) ?_
  refine lv_istore_n (lv' := [(1, .int 0), (0, .ref (G.2.1 128))]) C.1 C.2.1 dX8_fullestPlace_1 rfl hl (by decide) rfl (fun ls hl => ?_)
  refine lv_iconst (v := -1) C.1 C.2.1 dX8_fullestPlace_2 (by decide) ?_
  refine lv_istore_n (lv' := [(2, .int (-1)), (1, .int 0), (0, .ref (G.2.1 128))]) C.1 C.2.1 dX8_fullestPlace_3 rfl hl (by decide) rfl (fun ls hl => ?_)
  refine lv_iconst (v := 0) C.1 C.2.1 dX8_fullestPlace_4 (by decide) ?_
  refine lv_istore_n (lv' := [(3, .int 0), (2, .int (-1)), (1, .int 0), (0, .ref (G.2.1 128))]) C.1 C.2.1 dX8_fullestPlace_5 rfl hl (by decide) rfl (fun ls hl => ?_)
  exact wX8_fullestPlace_6 C hr _ S 0 (-1) 0 hf _ _ _ hw (lv_sub hl [3, 2, 1, 0] rfl)
def fX8_widestIndex_37 (rk6 : sh_St → Int32 → Int32 → Int32 → Option (Int32 × sh_St)) (S : sh_St) (v1 : Int32) (v2 : Int32) (v3 : Int32) : Option (Int32 × sh_St) :=
    sh_t (v3 + 1) fun y1 =>
    rk6 S v1 v2 y1
set_option maxRecDepth 100000 in
set_option maxHeartbeats 4000000 in
theorem wX8_widestIndex_37 {p : Program} {l : Launch} {e : Env} {s : State} {m : MethodId} {args : Array Value} {below : List Frame} {meth : Method} {c : Code} {G : sh_Ev} {A : Nat → Prop} {res : Int32 × sh_St} (C : sh_Cx p s m args meth c cX8_widestIndex 4 RX8 G A) (hr : meth.sig.returnType = some .int) (rk6 : sh_St → Int32 → Int32 → Int32 → Option (Int32 × sh_St)) (hr6 : ∀ (S : sh_St) (v1 : Int32) (v2 : Int32) (v3 : Int32), rk6 S v1 v2 v3 = some res → ∀ (H : Heap) (locs : List Loc) (ls : Array Slot), sh_Wx G tbX A s H locs S → lv_has ls 4 [(0, .ref (G.2.1 128)), (1, .int v1), (2, .int v2), (3, .int v3)] → W p l e (sh_rm 1) s m args below meth c H locs 0 0 (sh_Qi below args s G tbX A res) (F0 m 6 ls [])) : ∀ (S : sh_St) (v1 : Int32) (v2 : Int32) (v3 : Int32), fX8_widestIndex_37 rk6 S v1 v2 v3 = some res → ∀ (H : Heap) (locs : List Loc) (ls : Array Slot), sh_Wx G tbX A s H locs S → lv_has ls 4 [(0, .ref (G.2.1 128)), (1, .int v1), (2, .int v2), (3, .int v3)] → W p l e (sh_rm 1) s m args below meth c H locs 0 0 (sh_Qi below args s G tbX A res) (F0 m 37 ls []) := by
  intro S v1 v2 v3 hf H locs ls hw hl
  rw [fX8_widestIndex_37] at hf
  obtain ⟨y1, ey1, hf⟩ := sh_nm hf
  refine lv_iinc (v := y1) (lv' := [(3, .int y1), (0, .ref (G.2.1 128)), (1, .int v1), (2, .int v2)]) C.1 C.2.1 dX8_widestIndex_37 hl (k := 3) rfl (by rw [← ey1]; rfl) (by decide) rfl (fun ls hl => ?_)
  refine lv_goto (tgt := 6) C.1 C.2.1 dX8_widestIndex_40 (by decide) ?_
  exact hr6 S v1 v2 y1 hf _ _ _ hw (lv_sub hl [1, 2, 3, 0] rfl)
def fX8_widestIndex_6 : Nat → sh_St → Int32 → Int32 → Int32 → Option (Int32 × sh_St)
  | 0, _, _, _, _ => none
  | n + 1, S, v1, v2, v3 =>
    if 40 ≤ v3 then (some (v1, S))
    else (sh_g v3 40 (if (S.1 6 v3.toNatClampNeg) ≤ v2 then (fX8_widestIndex_37 (fX8_widestIndex_6 n) S v1 v2 v3)
    else (sh_g v3 40 (sh_t (S.1 6 v3.toNatClampNeg) fun y2 =>
    fX8_widestIndex_37 (fX8_widestIndex_6 n) S v3 y2 v3))))
set_option maxRecDepth 100000 in
set_option maxHeartbeats 4000000 in
theorem wX8_widestIndex_6 {p : Program} {l : Launch} {e : Env} {s : State} {m : MethodId} {args : Array Value} {below : List Frame} {meth : Method} {c : Code} {G : sh_Ev} {A : Nat → Prop} {res : Int32 × sh_St} (C : sh_Cx p s m args meth c cX8_widestIndex 4 RX8 G A) (hr : meth.sig.returnType = some .int) : ∀ (n : Nat) (S : sh_St) (v1 : Int32) (v2 : Int32) (v3 : Int32), fX8_widestIndex_6 n S v1 v2 v3 = some res → ∀ (H : Heap) (locs : List Loc) (ls : Array Slot), sh_Wx G tbX A s H locs S → lv_has ls 4 [(0, .ref (G.2.1 128)), (1, .int v1), (2, .int v2), (3, .int v3)] → W p l e (sh_rm 1) s m args below meth c H locs 0 0 (sh_Qi below args s G tbX A res) (F0 m 6 ls []) := by
  intro n
  induction n with
  | zero => intro S v1 v2 v3 hf; exact nomatch (show (none : Option (Int32 × sh_St)) = some res from hf)
  | succ n ih =>
    intro S v1 v2 v3 hf H locs ls hw hl
    have hr6 := ih
    rw [fX8_widestIndex_6] at hf
    refine lv_iload_n C.1 C.2.1 dX8_widestIndex_6 rfl (lv_at hl 3 rfl) ?_
    refine lv_bipush (v := 40) C.1 C.2.1 dX8_widestIndex_7 (by decide) ?_
    refine sh_icmp_ge (tgt := 43) C hf dX8_widestIndex_9 (by decide) (fun hf => ?_) (fun hf => ?_)
    · refine lv_iload_n C.1 C.2.1 dX8_widestIndex_43 rfl (lv_at hl 1 rfl) ?_
      exact sh_ri C hw hr hf dX8_widestIndex_44
    · refine lv_aload_n C.1 C.2.1 dX8_widestIndex_12 rfl (lv_at hl 0 rfl) ?_
      refine sh_getr C hw fl_X8_22 tbX_128 rfl dX8_widestIndex_13 ?_
      refine sh_getr C hw fl_X8_168 tbX_4 rfl dX8_widestIndex_16 ?_
      refine lv_iload_n C.1 C.2.1 dX8_widestIndex_19 rfl (lv_at hl 3 rfl) ?_
      refine sh_iald C hw hf tbX_6 dX8_widestIndex_20 (fun hf => ?_)
      refine lv_iload_n C.1 C.2.1 dX8_widestIndex_21 rfl (lv_at hl 2 rfl) ?_
      refine sh_icmp_le (tgt := 37) C hf dX8_widestIndex_22 (by decide) (fun hf => ?_) (fun hf => ?_)
      · exact wX8_widestIndex_37 C hr (fX8_widestIndex_6 n) hr6 S v1 v2 v3 hf _ _ _ hw (lv_sub hl [0, 1, 2, 3] rfl)
      · refine lv_aload_n C.1 C.2.1 dX8_widestIndex_25 rfl (lv_at hl 0 rfl) ?_
        refine sh_getr C hw fl_X8_22 tbX_128 rfl dX8_widestIndex_26 ?_
        refine sh_getr C hw fl_X8_168 tbX_4 rfl dX8_widestIndex_29 ?_
        refine lv_iload_n C.1 C.2.1 dX8_widestIndex_32 rfl (lv_at hl 3 rfl) ?_
        refine sh_iald C hw hf tbX_6 dX8_widestIndex_33 (fun hf => ?_)
        refine sh_ni hf (fun y2 hf => ?_)
        refine lv_istore_n (lv' := [(2, .int y2), (0, .ref (G.2.1 128)), (1, .int v1), (3, .int v3)]) C.1 C.2.1 dX8_widestIndex_34 rfl hl (by decide) rfl (fun ls hl => ?_)
        refine lv_iload_n C.1 C.2.1 dX8_widestIndex_35 rfl (lv_at hl 3 rfl) ?_
        refine lv_istore_n (lv' := [(1, .int v3), (2, .int y2), (0, .ref (G.2.1 128)), (3, .int v3)]) C.1 C.2.1 dX8_widestIndex_36 rfl hl (by decide) rfl (fun ls hl => ?_)
        exact wX8_widestIndex_37 C hr (fX8_widestIndex_6 n) hr6 S v3 y2 v3 hf _ _ _ hw (lv_sub hl [2, 0, 1, 3] rfl)
def fX8_widestIndex (S : sh_St) : Option (Int32 × sh_St) :=
    fX8_widestIndex_6 sh_FU S (-1) 0 0
set_option maxRecDepth 100000 in
set_option maxHeartbeats 4000000 in
theorem kX8_widestIndex (l : Launch) : sh_Mi l yX8_widestIndex cX8_widestIndex 4 .int 1 tbX (fun G => [.ref (G.2.1 128)]) (fun S => fX8_widestIndex S) := by
  refine sh_mki (by decide) (fun G => Nat.le_of_ble_eq_true rfl) ?_
  intro p e s m args below meth c G A S res ls hf C hr hw hl
  have C : sh_Cx p s m args meth c cX8_widestIndex 4 RX8 G A := C
  have hl : lv_has ls 4 [(0, .ref (G.2.1 128))] := hl
  replace hf : fX8_widestIndex S = some res := hf
  rw [fX8_widestIndex] at hf
  refine lv_iconst (v := -1) C.1 C.2.1 dX8_widestIndex_0 (by decide) ?_
  refine lv_istore_n (lv' := [(1, .int (-1)), (0, .ref (G.2.1 128))]) C.1 C.2.1 dX8_widestIndex_1 rfl hl (by decide) rfl (fun ls hl => ?_)
  refine lv_iconst (v := 0) C.1 C.2.1 dX8_widestIndex_2 (by decide) ?_
  refine lv_istore_n (lv' := [(2, .int 0), (1, .int (-1)), (0, .ref (G.2.1 128))]) C.1 C.2.1 dX8_widestIndex_3 rfl hl (by decide) rfl (fun ls hl => ?_)
  refine lv_iconst (v := 0) C.1 C.2.1 dX8_widestIndex_4 (by decide) ?_
  refine lv_istore_n (lv' := [(3, .int 0), (2, .int 0), (1, .int (-1)), (0, .ref (G.2.1 128))]) C.1 C.2.1 dX8_widestIndex_5 rfl hl (by decide) rfl (fun ls hl => ?_)
  exact wX8_widestIndex_6 C hr _ S (-1) 0 0 hf _ _ _ hw (lv_sub hl [3, 2, 1, 0] rfl)
def fX9_append_43 (rk3 : sh_St → Int32 → Int32 → Option (Unit × sh_St)) (S : sh_St) (v1 : Int32) (v2 : Int32) : Option (Unit × sh_St) :=
    sh_t (v2 + (-8)) fun y1 =>
    rk3 S v1 y1
set_option maxRecDepth 100000 in
set_option maxHeartbeats 4000000 in
theorem wX9_append_43 {p : Program} {l : Launch} {e : Env} {s : State} {m : MethodId} {args : Array Value} {below : List Frame} {meth : Method} {c : Code} {G : sh_Ev} {A : Nat → Prop} {res : Unit × sh_St} (C : sh_Cx p s m args meth c cX9_append 3 RX9 G A) (hr : meth.sig.returnType = none) (rk3 : sh_St → Int32 → Int32 → Option (Unit × sh_St)) (hr3 : ∀ (S : sh_St) (v1 : Int32) (v2 : Int32), rk3 S v1 v2 = some res → ∀ (H : Heap) (locs : List Loc) (ls : Array Slot), sh_Wx G tbX A s H locs S → lv_has ls 3 [(0, .ref (G.2.1 1)), (1, .int v1), (2, .int v2)] → W p l e (sh_rm 1) s m args below meth c H locs 0 0 (sh_Qv below args s G tbX A res) (F0 m 3 ls [])) : ∀ (S : sh_St) (v1 : Int32) (v2 : Int32), fX9_append_43 rk3 S v1 v2 = some res → ∀ (H : Heap) (locs : List Loc) (ls : Array Slot), sh_Wx G tbX A s H locs S → lv_has ls 3 [(0, .ref (G.2.1 1)), (1, .int v1), (2, .int v2)] → W p l e (sh_rm 1) s m args below meth c H locs 0 0 (sh_Qv below args s G tbX A res) (F0 m 43 ls []) := by
  intro S v1 v2 hf H locs ls hw hl
  rw [fX9_append_43] at hf
  obtain ⟨y1, ey1, hf⟩ := sh_nm hf
  refine lv_iinc (v := y1) (lv' := [(2, .int y1), (0, .ref (G.2.1 1)), (1, .int v1)]) C.1 C.2.1 dX9_append_43 hl (k := 2) rfl (by rw [← ey1]; rfl) (by decide) rfl (fun ls hl => ?_)
  refine lv_goto (tgt := 3) C.1 C.2.1 dX9_append_46 (by decide) ?_
  exact hr3 S v1 y1 hf _ _ _ hw (lv_sub hl [1, 2, 0] rfl)
def fX9_append_3 : Nat → sh_St → Int32 → Int32 → Option (Unit × sh_St)
  | 0, _, _, _ => none
  | n + 1, S, v1, v2 =>
    if v2 < 0 then (some ((), S))
    else (if 400 ≤ (S.1 1 1) then (fX9_append_43 (fX9_append_3 n) S v1 v2)
    else (sh_g (S.1 1 1) 400 (sh_t (sh_I S 2 (S.1 1 1).toNatClampNeg (((v1.toUInt32 >>> (Int32.toUInt32 v2 &&& Int32.toUInt32 31)).toInt32) &&& 255)) fun S2 =>
    sh_t (sh_I S2 1 1 ((S2.1 1 1) + 1)) fun S3 =>
    fX9_append_43 (fX9_append_3 n) S3 v1 v2)))
set_option maxRecDepth 100000 in
set_option maxHeartbeats 4000000 in
theorem wX9_append_3 {p : Program} {l : Launch} {e : Env} {s : State} {m : MethodId} {args : Array Value} {below : List Frame} {meth : Method} {c : Code} {G : sh_Ev} {A : Nat → Prop} {res : Unit × sh_St} (C : sh_Cx p s m args meth c cX9_append 3 RX9 G A) (hr : meth.sig.returnType = none) : ∀ (n : Nat) (S : sh_St) (v1 : Int32) (v2 : Int32), fX9_append_3 n S v1 v2 = some res → ∀ (H : Heap) (locs : List Loc) (ls : Array Slot), sh_Wx G tbX A s H locs S → lv_has ls 3 [(0, .ref (G.2.1 1)), (1, .int v1), (2, .int v2)] → W p l e (sh_rm 1) s m args below meth c H locs 0 0 (sh_Qv below args s G tbX A res) (F0 m 3 ls []) := by
  intro n
  induction n with
  | zero => intro S v1 v2 hf; exact nomatch (show (none : Option (Unit × sh_St)) = some res from hf)
  | succ n ih =>
    intro S v1 v2 hf H locs ls hw hl
    have hr3 := ih
    rw [fX9_append_3] at hf
    refine lv_iload_n C.1 C.2.1 dX9_append_3 rfl (lv_at hl 2 rfl) ?_
    refine sh_if_lt (tgt := 49) C hf dX9_append_4 (by decide) (fun hf => ?_) (fun hf => ?_)
    · exact sh_rv C hw hr hf dX9_append_49
    · refine lv_aload_n C.1 C.2.1 dX9_append_7 rfl (lv_at hl 0 rfl) ?_
      refine sh_geti C hw fl_X9_15 tbX_1 rfl dX9_append_8 ?_
      refine lv_sipush (v := 400) C.1 C.2.1 dX9_append_11 (by decide) ?_
      refine sh_icmp_ge (tgt := 43) C hf dX9_append_14 (by decide) (fun hf => ?_) (fun hf => ?_)
      · exact wX9_append_43 C hr (fX9_append_3 n) hr3 S v1 v2 hf _ _ _ hw (lv_sub hl [0, 1, 2] rfl)
      · refine lv_aload_n C.1 C.2.1 dX9_append_17 rfl (lv_at hl 0 rfl) ?_
        refine sh_getr C hw fl_X9_9 tbX_1 rfl dX9_append_18 ?_
        refine lv_aload_n C.1 C.2.1 dX9_append_21 rfl (lv_at hl 0 rfl) ?_
        refine sh_geti C hw fl_X9_15 tbX_1 rfl dX9_append_22 ?_
        refine lv_iload_n C.1 C.2.1 dX9_append_25 rfl (lv_at hl 1 rfl) ?_
        refine lv_iload_n C.1 C.2.1 dX9_append_26 rfl (lv_at hl 2 rfl) ?_
        refine lv_iushr C.1 C.2.1 dX9_append_27 rfl ?_
        refine lv_sipush (v := 255) C.1 C.2.1 dX9_append_28 (by decide) ?_
        refine lv_iand C.1 C.2.1 dX9_append_31 ?_
        refine sh_iast C hw hf tbX_2 dX9_append_32 (fun S2 H locs hw hf => ?_)
        refine lv_aload_n C.1 C.2.1 dX9_append_33 rfl (lv_at hl 0 rfl) ?_
        refine lv_dup C.1 C.2.1 dX9_append_34 rfl ?_
        refine sh_geti C hw fl_X9_15 tbX_1 rfl dX9_append_35 ?_
        refine lv_iconst (v := 1) C.1 C.2.1 dX9_append_38 (by decide) ?_
        refine lv_iadd C.1 C.2.1 dX9_append_39 ?_
        refine sh_puti C hw fl_X9_15 fp_7_1 hf tbX_1 rfl dX9_append_40 (fun S3 H locs hw hf => ?_)
        exact wX9_append_43 C hr (fX9_append_3 n) hr3 S3 v1 v2 hf _ _ _ hw (lv_sub hl [0, 1, 2] rfl)
def fX9_append (S : sh_St) (v1 : Int32) : Option (Unit × sh_St) :=
    fX9_append_3 sh_FU S v1 24
set_option maxRecDepth 100000 in
set_option maxHeartbeats 4000000 in
theorem kX9_append (l : Launch) (v1 : Int32) : sh_Mv l yX9_append cX9_append 3 1 tbX (fun G => [.ref (G.2.1 1), .int v1]) (fun S => fX9_append S v1) := by
  refine sh_mkv (by decide) (fun G => Nat.le_of_ble_eq_true rfl) ?_
  intro p e s m args below meth c G A S res ls hf C hr hw hl
  have C : sh_Cx p s m args meth c cX9_append 3 RX9 G A := C
  have hl : lv_has ls 3 [(0, .ref (G.2.1 1)), (1, .int v1)] := hl
  replace hf : fX9_append S v1 = some res := hf
  rw [fX9_append] at hf
  refine lv_bipush (v := 24) C.1 C.2.1 dX9_append_0 (by decide) ?_
  refine lv_istore_n (lv' := [(2, .int 24), (0, .ref (G.2.1 1)), (1, .int v1)]) C.1 C.2.1 dX9_append_2 rfl hl (by decide) rfl (fun ls hl => ?_)
  exact wX9_append_3 C hr _ S v1 24 hf _ _ _ hw (lv_sub hl [1, 2, 0] rfl)
def fX9_useUp (S : sh_St) : Option (Int32 × sh_St) :=
    sh_t (S.1 1 1) fun y1 =>
    sh_t (sh_I S 1 1 0) fun S2 =>
    some (y1, S2)
set_option maxRecDepth 100000 in
set_option maxHeartbeats 4000000 in
theorem kX9_useUp (l : Launch) : sh_Mi l yX9_useUp cX9_useUp 2 .int 1 tbX (fun G => [.ref (G.2.1 1)]) (fun S => fX9_useUp S) := by
  refine sh_mki (by decide) (fun G => Nat.le_of_ble_eq_true rfl) ?_
  intro p e s m args below meth c G A S res ls hf C hr hw hl
  have C : sh_Cx p s m args meth c cX9_useUp 2 RX9 G A := C
  have hl : lv_has ls 2 [(0, .ref (G.2.1 1))] := hl
  replace hf : fX9_useUp S = some res := hf
  rw [fX9_useUp] at hf
  refine lv_aload_n C.1 C.2.1 dX9_useUp_0 rfl (lv_at hl 0 rfl) ?_
  refine sh_geti C hw fl_X9_15 tbX_1 rfl dX9_useUp_1 ?_
  refine sh_ni hf (fun y1 hf => ?_)
  refine lv_istore_n (lv' := [(1, .int y1), (0, .ref (G.2.1 1))]) C.1 C.2.1 dX9_useUp_4 rfl hl (by decide) rfl (fun ls hl => ?_)
  refine lv_aload_n C.1 C.2.1 dX9_useUp_5 rfl (lv_at hl 1 rfl) ?_
  refine lv_iconst (v := 0) C.1 C.2.1 dX9_useUp_6 (by decide) ?_
  refine sh_puti C hw fl_X9_15 fp_7_1 hf tbX_1 rfl dX9_useUp_7 (fun S2 H locs hw hf => ?_)
  refine lv_iload_n C.1 C.2.1 dX9_useUp_10 rfl (lv_at hl 0 rfl) ?_
  exact sh_ri C hw hr hf dX9_useUp_11
def fX10_begin (S : sh_St) (v1 : Int32) : Option (Unit × sh_St) :=
    sh_t (sh_I S 3 1 v1) fun S1 =>
    sh_t (sh_I S1 3 2 0) fun S2 =>
    sh_t (sh_I S2 3 3 (-1)) fun S3 =>
    some ((), S3)
set_option maxRecDepth 100000 in
set_option maxHeartbeats 4000000 in
theorem kX10_begin (l : Launch) (v1 : Int32) : sh_Mv l yX10_begin cX10_begin 2 1 tbX (fun G => [.ref (G.2.1 3), .int v1]) (fun S => fX10_begin S v1) := by
  refine sh_mkv (by decide) (fun G => Nat.le_of_ble_eq_true rfl) ?_
  intro p e s m args below meth c G A S res ls hf C hr hw hl
  have C : sh_Cx p s m args meth c cX10_begin 2 RX10 G A := C
  have hl : lv_has ls 2 [(0, .ref (G.2.1 3)), (1, .int v1)] := hl
  replace hf : fX10_begin S v1 = some res := hf
  rw [fX10_begin] at hf
  refine lv_aload_n C.1 C.2.1 dX10_begin_0 rfl (lv_at hl 0 rfl) ?_
  refine lv_iload_n C.1 C.2.1 dX10_begin_1 rfl (lv_at hl 1 rfl) ?_
  refine sh_puti C hw fl_X10_9 fp_8_1 hf tbX_3 rfl dX10_begin_2 (fun S1 H locs hw hf => ?_)
  refine lv_aload_n C.1 C.2.1 dX10_begin_5 rfl (lv_at hl 0 rfl) ?_
  refine lv_iconst (v := 0) C.1 C.2.1 dX10_begin_6 (by decide) ?_
  refine sh_puti C hw fl_X10_15 fp_8_2 hf tbX_3 rfl dX10_begin_7 (fun S2 H locs hw hf => ?_)
  refine lv_aload_n C.1 C.2.1 dX10_begin_10 rfl (lv_at hl 0 rfl) ?_
  refine lv_iconst (v := -1) C.1 C.2.1 dX10_begin_11 (by decide) ?_
  refine sh_puti C hw fl_X10_18 fp_8_3 hf tbX_3 rfl dX10_begin_12 (fun S3 H locs hw hf => ?_)
  exact sh_rv C hw hr hf dX10_begin_15
def fX10_markWrong (S : sh_St) (v1 : Int32) : Option (Unit × sh_St) :=
    if (S.1 3 3) = (-1) then (sh_t (sh_I S 3 3 v1) fun S1 =>
    some ((), S1))
    else (some ((), S))
set_option maxRecDepth 100000 in
set_option maxHeartbeats 4000000 in
theorem kX10_markWrong (l : Launch) (v1 : Int32) : sh_Mv l yX10_markWrong cX10_markWrong 2 1 tbX (fun G => [.ref (G.2.1 3), .int v1]) (fun S => fX10_markWrong S v1) := by
  refine sh_mkv (by decide) (fun G => Nat.le_of_ble_eq_true rfl) ?_
  intro p e s m args below meth c G A S res ls hf C hr hw hl
  have C : sh_Cx p s m args meth c cX10_markWrong 2 RX10 G A := C
  have hl : lv_has ls 2 [(0, .ref (G.2.1 3)), (1, .int v1)] := hl
  replace hf : fX10_markWrong S v1 = some res := hf
  rw [fX10_markWrong] at hf
  refine lv_aload_n C.1 C.2.1 dX10_markWrong_0 rfl (lv_at hl 0 rfl) ?_
  refine sh_geti C hw fl_X10_18 tbX_3 rfl dX10_markWrong_1 ?_
  refine lv_iconst (v := -1) C.1 C.2.1 dX10_markWrong_4 (by decide) ?_
  refine sh_icmp_ne (tgt := 13) C hf dX10_markWrong_5 (by decide) (fun hf => ?_) (fun hf => ?_)
  · exact sh_rv C hw hr hf dX10_markWrong_13
  · refine lv_aload_n C.1 C.2.1 dX10_markWrong_8 rfl (lv_at hl 0 rfl) ?_
    refine lv_iload_n C.1 C.2.1 dX10_markWrong_9 rfl (lv_at hl 1 rfl) ?_
    refine sh_puti C hw fl_X10_18 fp_8_3 hf tbX_3 rfl dX10_markWrong_10 (fun S1 H locs hw hf => ?_)
    exact sh_rv C hw hr hf dX10_markWrong_13
def fX10_byteAt (S : sh_St) (v1 : Int32) : Option (Int32 × sh_St) :=
    if v1 < 0 then (some (0, S))
    else (if 400 ≤ v1 then (some (0, S))
    else (sh_g v1 400 (some (S.1 2 v1.toNatClampNeg, S))))
set_option maxRecDepth 100000 in
set_option maxHeartbeats 4000000 in
theorem kX10_byteAt (l : Launch) (v1 : Int32) : sh_Mi l yX10_byteAt cX10_byteAt 2 .int 1 tbX (fun G => [.ref (G.2.1 3), .int v1]) (fun S => fX10_byteAt S v1) := by
  refine sh_mki (by decide) (fun G => Nat.le_of_ble_eq_true rfl) ?_
  intro p e s m args below meth c G A S res ls hf C hr hw hl
  have C : sh_Cx p s m args meth c cX10_byteAt 2 RX10 G A := C
  have hl : lv_has ls 2 [(0, .ref (G.2.1 3)), (1, .int v1)] := hl
  replace hf : fX10_byteAt S v1 = some res := hf
  rw [fX10_byteAt] at hf
  refine lv_iload_n C.1 C.2.1 dX10_byteAt_0 rfl (lv_at hl 1 rfl) ?_
  refine sh_if_lt (tgt := 23) C hf dX10_byteAt_1 (by decide) (fun hf => ?_) (fun hf => ?_)
  · refine lv_iconst (v := 0) C.1 C.2.1 dX10_byteAt_23 (by decide) ?_
    exact sh_ri C hw hr hf dX10_byteAt_24
  · refine lv_iload_n C.1 C.2.1 dX10_byteAt_4 rfl (lv_at hl 1 rfl) ?_
    refine lv_sipush (v := 400) C.1 C.2.1 dX10_byteAt_5 (by decide) ?_
    refine sh_icmp_ge (tgt := 23) C hf dX10_byteAt_8 (by decide) (fun hf => ?_) (fun hf => ?_)
    · refine lv_iconst (v := 0) C.1 C.2.1 dX10_byteAt_23 (by decide) ?_
      exact sh_ri C hw hr hf dX10_byteAt_24
    · refine lv_aload_n C.1 C.2.1 dX10_byteAt_11 rfl (lv_at hl 0 rfl) ?_
      refine sh_getr C hw fl_X10_43 tbX_3 rfl dX10_byteAt_12 ?_
      refine sh_getr C hw fl_X10_119 tbX_1 rfl dX10_byteAt_15 ?_
      refine lv_iload_n C.1 C.2.1 dX10_byteAt_18 rfl (lv_at hl 1 rfl) ?_
      refine sh_iald C hw hf tbX_2 dX10_byteAt_19 (fun hf => ?_)
      refine lv_goto (tgt := 24) C.1 C.2.1 dX10_byteAt_20 (by decide) ?_
      exact sh_ri C hw hr hf dX10_byteAt_24
def fX10_isLetter_24 (S : sh_St) : Option (Int32 × sh_St) :=
    sh_b 1 (some (1, S))
set_option maxRecDepth 100000 in
set_option maxHeartbeats 4000000 in
theorem wX10_isLetter_24 {p : Program} {l : Launch} {e : Env} {s : State} {m : MethodId} {args : Array Value} {below : List Frame} {meth : Method} {c : Code} {G : sh_Ev} {A : Nat → Prop} {res : Int32 × sh_St} (C : sh_Cx p s m args meth c cX10_isLetter 1 RX10 G A) (hr : meth.sig.returnType = some .boolean) : ∀ (S : sh_St), fX10_isLetter_24 S = some res → ∀ (H : Heap) (locs : List Loc) (ls : Array Slot), sh_Wx G tbX A s H locs S → lv_has ls 1 [] → W p l e (sh_rm 1) s m args below meth c H locs 0 0 (sh_Qi below args s G tbX A res) (F0 m 24 ls []) := by
  intro S hf H locs ls hw hl
  rw [fX10_isLetter_24] at hf
  refine lv_iconst (v := 1) C.1 C.2.1 dX10_isLetter_24 (by decide) ?_
  refine lv_goto (tgt := 29) C.1 C.2.1 dX10_isLetter_25 (by decide) ?_
  exact sh_rz C hw hr hf dX10_isLetter_29
def fX10_isLetter_12 (S : sh_St) (v0 : Int32) : Option (Int32 × sh_St) :=
    if v0 < 97 then (sh_b 0 (some (0, S)))
    else (if 122 < v0 then (sh_b 0 (some (0, S)))
    else (fX10_isLetter_24 S))
set_option maxRecDepth 100000 in
set_option maxHeartbeats 4000000 in
theorem wX10_isLetter_12 {p : Program} {l : Launch} {e : Env} {s : State} {m : MethodId} {args : Array Value} {below : List Frame} {meth : Method} {c : Code} {G : sh_Ev} {A : Nat → Prop} {res : Int32 × sh_St} (C : sh_Cx p s m args meth c cX10_isLetter 1 RX10 G A) (hr : meth.sig.returnType = some .boolean) : ∀ (S : sh_St) (v0 : Int32), fX10_isLetter_12 S v0 = some res → ∀ (H : Heap) (locs : List Loc) (ls : Array Slot), sh_Wx G tbX A s H locs S → lv_has ls 1 [(0, .int v0)] → W p l e (sh_rm 1) s m args below meth c H locs 0 0 (sh_Qi below args s G tbX A res) (F0 m 12 ls []) := by
  intro S v0 hf H locs ls hw hl
  rw [fX10_isLetter_12] at hf
  refine lv_iload_n C.1 C.2.1 dX10_isLetter_12 rfl (lv_at hl 0 rfl) ?_
  refine lv_bipush (v := 97) C.1 C.2.1 dX10_isLetter_13 (by decide) ?_
  refine sh_icmp_lt (tgt := 28) C hf dX10_isLetter_15 (by decide) (fun hf => ?_) (fun hf => ?_)
  · refine lv_iconst (v := 0) C.1 C.2.1 dX10_isLetter_28 (by decide) ?_
    exact sh_rz C hw hr hf dX10_isLetter_29
  · refine lv_iload_n C.1 C.2.1 dX10_isLetter_18 rfl (lv_at hl 0 rfl) ?_
    refine lv_bipush (v := 122) C.1 C.2.1 dX10_isLetter_19 (by decide) ?_
    refine sh_icmp_gt (tgt := 28) C hf dX10_isLetter_21 (by decide) (fun hf => ?_) (fun hf => ?_)
    · refine lv_iconst (v := 0) C.1 C.2.1 dX10_isLetter_28 (by decide) ?_
      exact sh_rz C hw hr hf dX10_isLetter_29
    · exact wX10_isLetter_24 C hr S  hf _ _ _ hw (lv_sub hl [] rfl)
def fX10_isLetter (S : sh_St) (v0 : Int32) : Option (Int32 × sh_St) :=
    if v0 < 65 then (fX10_isLetter_12 S v0)
    else (if v0 ≤ 90 then (fX10_isLetter_24 S)
    else (fX10_isLetter_12 S v0))
set_option maxRecDepth 100000 in
set_option maxHeartbeats 4000000 in
theorem kX10_isLetter (l : Launch) (v0 : Int32) : sh_Mi l yX10_isLetter cX10_isLetter 1 .boolean 1 tbX (fun G => [.int v0]) (fun S => fX10_isLetter S v0) := by
  refine sh_mki (by decide) (fun G => Nat.le_of_ble_eq_true rfl) ?_
  intro p e s m args below meth c G A S res ls hf C hr hw hl
  have C : sh_Cx p s m args meth c cX10_isLetter 1 RX10 G A := C
  have hl : lv_has ls 1 [(0, .int v0)] := hl
  replace hf : fX10_isLetter S v0 = some res := hf
  rw [fX10_isLetter] at hf
  refine lv_iload_n C.1 C.2.1 dX10_isLetter_0 rfl (lv_at hl 0 rfl) ?_
  refine lv_bipush (v := 65) C.1 C.2.1 dX10_isLetter_1 (by decide) ?_
  refine sh_icmp_lt (tgt := 12) C hf dX10_isLetter_3 (by decide) (fun hf => ?_) (fun hf => ?_)
  · exact wX10_isLetter_12 C hr S v0 hf _ _ _ hw (lv_sub hl [0] rfl)
  · refine lv_iload_n C.1 C.2.1 dX10_isLetter_6 rfl (lv_at hl 0 rfl) ?_
    refine lv_bipush (v := 90) C.1 C.2.1 dX10_isLetter_7 (by decide) ?_
    refine sh_icmp_le (tgt := 24) C hf dX10_isLetter_9 (by decide) (fun hf => ?_) (fun hf => ?_)
    · exact wX10_isLetter_24 C hr S  hf _ _ _ hw (lv_sub hl [] rfl)
    · exact wX10_isLetter_12 C hr S v0 hf _ _ _ hw (lv_sub hl [0] rfl)
def fX10_isDigit (S : sh_St) (v0 : Int32) : Option (Int32 × sh_St) :=
    if v0 < 48 then (sh_b 0 (some (0, S)))
    else (if 57 < v0 then (sh_b 0 (some (0, S)))
    else (sh_b 1 (some (1, S))))
set_option maxRecDepth 100000 in
set_option maxHeartbeats 4000000 in
theorem kX10_isDigit (l : Launch) (v0 : Int32) : sh_Mi l yX10_isDigit cX10_isDigit 1 .boolean 1 tbX (fun G => [.int v0]) (fun S => fX10_isDigit S v0) := by
  refine sh_mki (by decide) (fun G => Nat.le_of_ble_eq_true rfl) ?_
  intro p e s m args below meth c G A S res ls hf C hr hw hl
  have C : sh_Cx p s m args meth c cX10_isDigit 1 RX10 G A := C
  have hl : lv_has ls 1 [(0, .int v0)] := hl
  replace hf : fX10_isDigit S v0 = some res := hf
  rw [fX10_isDigit] at hf
  refine lv_iload_n C.1 C.2.1 dX10_isDigit_0 rfl (lv_at hl 0 rfl) ?_
  refine lv_bipush (v := 48) C.1 C.2.1 dX10_isDigit_1 (by decide) ?_
  refine sh_icmp_lt (tgt := 16) C hf dX10_isDigit_3 (by decide) (fun hf => ?_) (fun hf => ?_)
  · refine lv_iconst (v := 0) C.1 C.2.1 dX10_isDigit_16 (by decide) ?_
    exact sh_rz C hw hr hf dX10_isDigit_17
  · refine lv_iload_n C.1 C.2.1 dX10_isDigit_6 rfl (lv_at hl 0 rfl) ?_
    refine lv_bipush (v := 57) C.1 C.2.1 dX10_isDigit_7 (by decide) ?_
    refine sh_icmp_gt (tgt := 16) C hf dX10_isDigit_9 (by decide) (fun hf => ?_) (fun hf => ?_)
    · refine lv_iconst (v := 0) C.1 C.2.1 dX10_isDigit_16 (by decide) ?_
      exact sh_rz C hw hr hf dX10_isDigit_17
    · refine lv_iconst (v := 1) C.1 C.2.1 dX10_isDigit_12 (by decide) ?_
      refine lv_goto (tgt := 17) C.1 C.2.1 dX10_isDigit_13 (by decide) ?_
      exact sh_rz C hw hr hf dX10_isDigit_17
def fX11_firstLeaf (S : sh_St) : Option (Int32 × sh_St) :=
    sh_g (S.1 121 2) 42 (some (S.1 122 (S.1 121 2).toNatClampNeg, S))
set_option maxRecDepth 100000 in
set_option maxHeartbeats 4000000 in
theorem kX11_firstLeaf (l : Launch) : sh_Mi l yX11_firstLeaf cX11_firstLeaf 1 .int 1 tbX (fun G => [.ref (G.2.1 121)]) (fun S => fX11_firstLeaf S) := by
  refine sh_mki (by decide) (fun G => Nat.le_of_ble_eq_true rfl) ?_
  intro p e s m args below meth c G A S res ls hf C hr hw hl
  have C : sh_Cx p s m args meth c cX11_firstLeaf 1 RX11 G A := C
  have hl : lv_has ls 1 [(0, .ref (G.2.1 121))] := hl
  replace hf : fX11_firstLeaf S = some res := hf
  rw [fX11_firstLeaf] at hf
  refine lv_aload_n C.1 C.2.1 dX11_firstLeaf_0 rfl (lv_at hl 0 rfl) ?_
  refine sh_getr C hw fl_X11_9 tbX_121 rfl dX11_firstLeaf_1 ?_
  refine lv_aload_n C.1 C.2.1 dX11_firstLeaf_4 rfl (lv_at hl 0 rfl) ?_
  refine sh_geti C hw fl_X11_18 tbX_121 rfl dX11_firstLeaf_5 ?_
  refine sh_iald C hw hf tbX_122 dX11_firstLeaf_8 (fun hf => ?_)
  exact sh_ri C hw hr hf dX11_firstLeaf_9
def fX11_lowestIndex (S : sh_St) : Option (Int32 × sh_St) :=
    if (S.1 121 2) ≤ 0 then (some (0, S))
    else (sh_g ((S.1 121 2) - 1) 42 (some (S.1 122 ((S.1 121 2) - 1).toNatClampNeg, S)))
set_option maxRecDepth 100000 in
set_option maxHeartbeats 4000000 in
theorem kX11_lowestIndex (l : Launch) : sh_Mi l yX11_lowestIndex cX11_lowestIndex 1 .int 1 tbX (fun G => [.ref (G.2.1 121)]) (fun S => fX11_lowestIndex S) := by
  refine sh_mki (by decide) (fun G => Nat.le_of_ble_eq_true rfl) ?_
  intro p e s m args below meth c G A S res ls hf C hr hw hl
  have C : sh_Cx p s m args meth c cX11_lowestIndex 1 RX11 G A := C
  have hl : lv_has ls 1 [(0, .ref (G.2.1 121))] := hl
  replace hf : fX11_lowestIndex S = some res := hf
  rw [fX11_lowestIndex] at hf
  refine lv_aload_n C.1 C.2.1 dX11_lowestIndex_0 rfl (lv_at hl 0 rfl) ?_
  refine sh_geti C hw fl_X11_18 tbX_121 rfl dX11_lowestIndex_1 ?_
  refine sh_if_le (tgt := 21) C hf dX11_lowestIndex_4 (by decide) (fun hf => ?_) (fun hf => ?_)
  · refine lv_iconst (v := 0) C.1 C.2.1 dX11_lowestIndex_21 (by decide) ?_
    exact sh_ri C hw hr hf dX11_lowestIndex_22
  · refine lv_aload_n C.1 C.2.1 dX11_lowestIndex_7 rfl (lv_at hl 0 rfl) ?_
    refine sh_getr C hw fl_X11_9 tbX_121 rfl dX11_lowestIndex_8 ?_
    refine lv_aload_n C.1 C.2.1 dX11_lowestIndex_11 rfl (lv_at hl 0 rfl) ?_
    refine sh_geti C hw fl_X11_18 tbX_121 rfl dX11_lowestIndex_12 ?_
    refine lv_iconst (v := 1) C.1 C.2.1 dX11_lowestIndex_15 (by decide) ?_
    refine lv_isub C.1 C.2.1 dX11_lowestIndex_16 ?_
    refine sh_iald C hw hf tbX_122 dX11_lowestIndex_17 (fun hf => ?_)
    refine lv_goto (tgt := 22) C.1 C.2.1 dX11_lowestIndex_18 (by decide) ?_
    exact sh_ri C hw hr hf dX11_lowestIndex_22
def fX11_blockAt (S : sh_St) (v1 : Int32) : Option (Int32 × sh_St) :=
    if v1 < 0 then (some ((-1), S))
    else (if (S.1 121 3) ≤ v1 then (some ((-1), S))
    else (sh_g v1 42 (some (S.1 122 v1.toNatClampNeg, S))))
set_option maxRecDepth 100000 in
set_option maxHeartbeats 4000000 in
theorem kX11_blockAt (l : Launch) (v1 : Int32) : sh_Mi l yX11_blockAt cX11_blockAt 2 .int 1 tbX (fun G => [.ref (G.2.1 121), .int v1]) (fun S => fX11_blockAt S v1) := by
  refine sh_mki (by decide) (fun G => Nat.le_of_ble_eq_true rfl) ?_
  intro p e s m args below meth c G A S res ls hf C hr hw hl
  have C : sh_Cx p s m args meth c cX11_blockAt 2 RX11 G A := C
  have hl : lv_has ls 2 [(0, .ref (G.2.1 121)), (1, .int v1)] := hl
  replace hf : fX11_blockAt S v1 = some res := hf
  rw [fX11_blockAt] at hf
  refine lv_iload_n C.1 C.2.1 dX11_blockAt_0 rfl (lv_at hl 1 rfl) ?_
  refine sh_if_lt (tgt := 21) C hf dX11_blockAt_1 (by decide) (fun hf => ?_) (fun hf => ?_)
  · refine lv_iconst (v := -1) C.1 C.2.1 dX11_blockAt_21 (by decide) ?_
    exact sh_ri C hw hr hf dX11_blockAt_22
  · refine lv_iload_n C.1 C.2.1 dX11_blockAt_4 rfl (lv_at hl 1 rfl) ?_
    refine lv_aload_n C.1 C.2.1 dX11_blockAt_5 rfl (lv_at hl 0 rfl) ?_
    refine sh_geti C hw fl_X11_22 tbX_121 rfl dX11_blockAt_6 ?_
    refine sh_icmp_ge (tgt := 21) C hf dX11_blockAt_9 (by decide) (fun hf => ?_) (fun hf => ?_)
    · refine lv_iconst (v := -1) C.1 C.2.1 dX11_blockAt_21 (by decide) ?_
      exact sh_ri C hw hr hf dX11_blockAt_22
    · refine lv_aload_n C.1 C.2.1 dX11_blockAt_12 rfl (lv_at hl 0 rfl) ?_
      refine sh_getr C hw fl_X11_9 tbX_121 rfl dX11_blockAt_13 ?_
      refine lv_iload_n C.1 C.2.1 dX11_blockAt_16 rfl (lv_at hl 1 rfl) ?_
      refine sh_iald C hw hf tbX_122 dX11_blockAt_17 (fun hf => ?_)
      refine lv_goto (tgt := 22) C.1 C.2.1 dX11_blockAt_18 (by decide) ?_
      exact sh_ri C hw hr hf dX11_blockAt_22
def fX11_goesOn (S : sh_St) (v1 : Int32) (v2 : Int32) : Option (Int32 × sh_St) :=
    sh_g v1 40 (if (S.1 119 v1.toNatClampNeg) = v2 then (sh_g v1 40 (if (S.1 120 v1.toNatClampNeg) = 1 then (sh_b 1 (some (1, S)))
    else (sh_b 0 (some (0, S)))))
    else (sh_b 0 (some (0, S))))
set_option maxRecDepth 100000 in
set_option maxHeartbeats 4000000 in
theorem kX11_goesOn (l : Launch) (v1 : Int32) (v2 : Int32) : sh_Mi l yX11_goesOn cX11_goesOn 3 .boolean 1 tbX (fun G => [.ref (G.2.1 117), .int v1, .int v2]) (fun S => fX11_goesOn S v1 v2) := by
  refine sh_mki (by decide) (fun G => Nat.le_of_ble_eq_true rfl) ?_
  intro p e s m args below meth c G A S res ls hf C hr hw hl
  have C : sh_Cx p s m args meth c cX11_goesOn 3 RX11 G A := C
  have hl : lv_has ls 3 [(0, .ref (G.2.1 117)), (1, .int v1), (2, .int v2)] := hl
  replace hf : fX11_goesOn S v1 v2 = some res := hf
  rw [fX11_goesOn] at hf
  refine lv_aload_n C.1 C.2.1 dX11_goesOn_0 rfl (lv_at hl 0 rfl) ?_
  refine sh_getr C hw fl_X11_57 tbX_117 rfl dX11_goesOn_1 ?_
  refine lv_iload_n C.1 C.2.1 dX11_goesOn_4 rfl (lv_at hl 1 rfl) ?_
  refine sh_iald C hw hf tbX_119 dX11_goesOn_5 (fun hf => ?_)
  refine lv_iload_n C.1 C.2.1 dX11_goesOn_6 rfl (lv_at hl 2 rfl) ?_
  refine sh_icmp_ne (tgt := 24) C hf dX11_goesOn_7 (by decide) (fun hf => ?_) (fun hf => ?_)
  · refine lv_iconst (v := 0) C.1 C.2.1 dX11_goesOn_24 (by decide) ?_
    exact sh_rz C hw hr hf dX11_goesOn_25
  · refine lv_aload_n C.1 C.2.1 dX11_goesOn_10 rfl (lv_at hl 0 rfl) ?_
    refine sh_getr C hw fl_X11_60 tbX_117 rfl dX11_goesOn_11 ?_
    refine lv_iload_n C.1 C.2.1 dX11_goesOn_14 rfl (lv_at hl 1 rfl) ?_
    refine sh_iald C hw hf tbX_120 dX11_goesOn_15 (fun hf => ?_)
    refine lv_iconst (v := 1) C.1 C.2.1 dX11_goesOn_16 (by decide) ?_
    refine sh_icmp_ne (tgt := 24) C hf dX11_goesOn_17 (by decide) (fun hf => ?_) (fun hf => ?_)
    · refine lv_iconst (v := 0) C.1 C.2.1 dX11_goesOn_24 (by decide) ?_
      exact sh_rz C hw hr hf dX11_goesOn_25
    · refine lv_iconst (v := 1) C.1 C.2.1 dX11_goesOn_20 (by decide) ?_
      refine lv_goto (tgt := 25) C.1 C.2.1 dX11_goesOn_21 (by decide) ?_
      exact sh_rz C hw hr hf dX11_goesOn_25
def fX11_rowFor_59 (rk5 : sh_St → Int32 → Int32 → Int32 → Int32 → Option (Int32 × sh_St)) (S : sh_St) (v1 : Int32) (v2 : Int32) (v3 : Int32) (v4 : Int32) : Option (Int32 × sh_St) :=
    sh_t (v4 + 1) fun y3 =>
    rk5 S v1 v2 v3 y3
set_option maxRecDepth 100000 in
set_option maxHeartbeats 4000000 in
theorem wX11_rowFor_59 {p : Program} {l : Launch} {e : Env} {s : State} {m : MethodId} {args : Array Value} {below : List Frame} {meth : Method} {c : Code} {G : sh_Ev} {A : Nat → Prop} {res : Int32 × sh_St} (C : sh_Cx p s m args meth c cX11_rowFor 7 RX11 G A) (hr : meth.sig.returnType = some .int) (rk5 : sh_St → Int32 → Int32 → Int32 → Int32 → Option (Int32 × sh_St)) (hr5 : ∀ (S : sh_St) (v1 : Int32) (v2 : Int32) (v3 : Int32) (v4 : Int32), rk5 S v1 v2 v3 v4 = some res → ∀ (H : Heap) (locs : List Loc) (ls : Array Slot), sh_Wx G tbX A s H locs S → lv_has ls 7 [(0, .ref (G.2.1 4)), (1, .int v1), (2, .int v2), (3, .int v3), (4, .int v4)] → W p l e (sh_rm 1) s m args below meth c H locs 0 0 (sh_Qi below args s G tbX A res) (F0 m 5 ls [])) : ∀ (S : sh_St) (v1 : Int32) (v2 : Int32) (v3 : Int32) (v4 : Int32), fX11_rowFor_59 rk5 S v1 v2 v3 v4 = some res → ∀ (H : Heap) (locs : List Loc) (ls : Array Slot), sh_Wx G tbX A s H locs S → lv_has ls 7 [(0, .ref (G.2.1 4)), (1, .int v1), (2, .int v2), (3, .int v3), (4, .int v4)] → W p l e (sh_rm 1) s m args below meth c H locs 0 0 (sh_Qi below args s G tbX A res) (F0 m 59 ls []) := by
  intro S v1 v2 v3 v4 hf H locs ls hw hl
  rw [fX11_rowFor_59] at hf
  obtain ⟨y3, ey3, hf⟩ := sh_nm hf
  refine lv_iinc (v := y3) (lv' := [(4, .int y3), (0, .ref (G.2.1 4)), (1, .int v1), (2, .int v2), (3, .int v3)]) C.1 C.2.1 dX11_rowFor_59 hl (k := 4) rfl (by rw [← ey3]; rfl) (by decide) rfl (fun ls hl => ?_)
  refine lv_goto (tgt := 5) C.1 C.2.1 dX11_rowFor_62 (by decide) ?_
  exact hr5 S v1 v2 v3 y3 hf _ _ _ hw (lv_sub hl [1, 2, 3, 4, 0] rfl)
def fX11_rowFor_56 (rk5 : sh_St → Int32 → Int32 → Int32 → Int32 → Option (Int32 × sh_St)) (S : sh_St) (v1 : Int32) (v2 : Int32) (v4 : Int32) : Option (Int32 × sh_St) :=
    fX11_rowFor_59 rk5 S v1 v2 v4 v4
set_option maxRecDepth 100000 in
set_option maxHeartbeats 4000000 in
theorem wX11_rowFor_56 {p : Program} {l : Launch} {e : Env} {s : State} {m : MethodId} {args : Array Value} {below : List Frame} {meth : Method} {c : Code} {G : sh_Ev} {A : Nat → Prop} {res : Int32 × sh_St} (C : sh_Cx p s m args meth c cX11_rowFor 7 RX11 G A) (hr : meth.sig.returnType = some .int) (rk5 : sh_St → Int32 → Int32 → Int32 → Int32 → Option (Int32 × sh_St)) (hr5 : ∀ (S : sh_St) (v1 : Int32) (v2 : Int32) (v3 : Int32) (v4 : Int32), rk5 S v1 v2 v3 v4 = some res → ∀ (H : Heap) (locs : List Loc) (ls : Array Slot), sh_Wx G tbX A s H locs S → lv_has ls 7 [(0, .ref (G.2.1 4)), (1, .int v1), (2, .int v2), (3, .int v3), (4, .int v4)] → W p l e (sh_rm 1) s m args below meth c H locs 0 0 (sh_Qi below args s G tbX A res) (F0 m 5 ls [])) : ∀ (S : sh_St) (v1 : Int32) (v2 : Int32) (v4 : Int32), fX11_rowFor_56 rk5 S v1 v2 v4 = some res → ∀ (H : Heap) (locs : List Loc) (ls : Array Slot), sh_Wx G tbX A s H locs S → lv_has ls 7 [(0, .ref (G.2.1 4)), (1, .int v1), (2, .int v2), (4, .int v4)] → W p l e (sh_rm 1) s m args below meth c H locs 0 0 (sh_Qi below args s G tbX A res) (F0 m 56 ls []) := by
  intro S v1 v2 v4 hf H locs ls hw hl
  rw [fX11_rowFor_56] at hf
  refine lv_iload C.1 C.2.1 dX11_rowFor_56 (lv_at hl 3 rfl) ?_
  refine lv_istore_n (lv' := [(3, .int v4), (0, .ref (G.2.1 4)), (1, .int v1), (2, .int v2), (4, .int v4)]) C.1 C.2.1 dX11_rowFor_58 rfl hl (by decide) rfl (fun ls hl => ?_)
  exact wX11_rowFor_59 C hr rk5 hr5 S v1 v2 v4 v4 hf _ _ _ hw (lv_sub hl [1, 2, 3, 0, 4] rfl)
def fX11_rowFor_5 : Nat → sh_St → Int32 → Int32 → Int32 → Int32 → Option (Int32 × sh_St)
  | 0, _, _, _, _, _ => none
  | n + 1, S, v1, v2, v3, v4 =>
    sh_g v1 40 (if (S.1 6 v1.toNatClampNeg) ≤ v4 then (some (v3, S))
    else (sh_t ((v1 * 6) + v4) fun y1 =>
    sh_g y1 240 (sh_t (S.1 11 y1.toNatClampNeg) fun y2 =>
    if y2 < v2 then (fX11_rowFor_56 (fX11_rowFor_5 n) S v1 v2 v4)
    else (if y2 = v2 then (sh_g y1 240 (if (S.1 12 y1.toNatClampNeg) = 0 then (fX11_rowFor_56 (fX11_rowFor_5 n) S v1 v2 v4)
    else (fX11_rowFor_59 (fX11_rowFor_5 n) S v1 v2 v3 v4)))
    else (fX11_rowFor_59 (fX11_rowFor_5 n) S v1 v2 v3 v4)))))
set_option maxRecDepth 100000 in
set_option maxHeartbeats 4000000 in
theorem wX11_rowFor_5 {p : Program} {l : Launch} {e : Env} {s : State} {m : MethodId} {args : Array Value} {below : List Frame} {meth : Method} {c : Code} {G : sh_Ev} {A : Nat → Prop} {res : Int32 × sh_St} (C : sh_Cx p s m args meth c cX11_rowFor 7 RX11 G A) (hr : meth.sig.returnType = some .int) : ∀ (n : Nat) (S : sh_St) (v1 : Int32) (v2 : Int32) (v3 : Int32) (v4 : Int32), fX11_rowFor_5 n S v1 v2 v3 v4 = some res → ∀ (H : Heap) (locs : List Loc) (ls : Array Slot), sh_Wx G tbX A s H locs S → lv_has ls 7 [(0, .ref (G.2.1 4)), (1, .int v1), (2, .int v2), (3, .int v3), (4, .int v4)] → W p l e (sh_rm 1) s m args below meth c H locs 0 0 (sh_Qi below args s G tbX A res) (F0 m 5 ls []) := by
  intro n
  induction n with
  | zero => intro S v1 v2 v3 v4 hf; exact nomatch (show (none : Option (Int32 × sh_St)) = some res from hf)
  | succ n ih =>
    intro S v1 v2 v3 v4 hf H locs ls hw hl
    have hr5 := ih
    rw [fX11_rowFor_5] at hf
    refine lv_iload C.1 C.2.1 dX11_rowFor_5 (lv_at hl 4 rfl) ?_
    refine lv_aload_n C.1 C.2.1 dX11_rowFor_7 rfl (lv_at hl 0 rfl) ?_
    refine sh_getr C hw fl_X11_63 tbX_4 rfl dX11_rowFor_8 ?_
    refine lv_iload_n C.1 C.2.1 dX11_rowFor_11 rfl (lv_at hl 1 rfl) ?_
    refine sh_iald C hw hf tbX_6 dX11_rowFor_12 (fun hf => ?_)
    refine sh_icmp_ge (tgt := 65) C hf dX11_rowFor_13 (by decide) (fun hf => ?_) (fun hf => ?_)
    · refine lv_iload_n C.1 C.2.1 dX11_rowFor_65 rfl (lv_at hl 3 rfl) ?_
      exact sh_ri C hw hr hf dX11_rowFor_66
    · refine lv_iload_n C.1 C.2.1 dX11_rowFor_16 rfl (lv_at hl 1 rfl) ?_
      refine lv_bipush (v := 6) C.1 C.2.1 dX11_rowFor_17 (by decide) ?_
      refine lv_imul C.1 C.2.1 dX11_rowFor_19 ?_
      refine lv_iload C.1 C.2.1 dX11_rowFor_20 (lv_at hl 4 rfl) ?_
      refine lv_iadd C.1 C.2.1 dX11_rowFor_22 ?_
      refine sh_ni hf (fun y1 hf => ?_)
      refine lv_istore (lv' := [(5, .int y1), (0, .ref (G.2.1 4)), (1, .int v1), (2, .int v2), (3, .int v3), (4, .int v4)]) C.1 C.2.1 dX11_rowFor_23 hl (by decide) rfl (fun ls hl => ?_)
      refine lv_aload_n C.1 C.2.1 dX11_rowFor_25 rfl (lv_at hl 1 rfl) ?_
      refine sh_getr C hw fl_X11_66 tbX_4 rfl dX11_rowFor_26 ?_
      refine lv_iload C.1 C.2.1 dX11_rowFor_29 (lv_at hl 0 rfl) ?_
      refine sh_iald C hw hf tbX_11 dX11_rowFor_31 (fun hf => ?_)
      refine sh_ni hf (fun y2 hf => ?_)
      refine lv_istore (lv' := [(6, .int y2), (5, .int y1), (0, .ref (G.2.1 4)), (1, .int v1), (2, .int v2), (3, .int v3), (4, .int v4)]) C.1 C.2.1 dX11_rowFor_32 hl (by decide) rfl (fun ls hl => ?_)
      refine lv_iload C.1 C.2.1 dX11_rowFor_34 (lv_at hl 0 rfl) ?_
      refine lv_iload_n C.1 C.2.1 dX11_rowFor_36 rfl (lv_at hl 4 rfl) ?_
      refine sh_icmp_lt (tgt := 56) C hf dX11_rowFor_37 (by decide) (fun hf => ?_) (fun hf => ?_)
      · exact wX11_rowFor_56 C hr (fX11_rowFor_5 n) hr5 S v1 v2 v4 hf _ _ _ hw (lv_sub hl [2, 3, 4, 6] rfl)
      · refine lv_iload C.1 C.2.1 dX11_rowFor_40 (lv_at hl 0 rfl) ?_
        refine lv_iload_n C.1 C.2.1 dX11_rowFor_42 rfl (lv_at hl 4 rfl) ?_
        refine sh_icmp_ne (tgt := 59) C hf dX11_rowFor_43 (by decide) (fun hf => ?_) (fun hf => ?_)
        · exact wX11_rowFor_59 C hr (fX11_rowFor_5 n) hr5 S v1 v2 v3 v4 hf _ _ _ hw (lv_sub hl [2, 3, 4, 5, 6] rfl)
        · refine lv_aload_n C.1 C.2.1 dX11_rowFor_46 rfl (lv_at hl 2 rfl) ?_
          refine sh_getr C hw fl_X11_67 tbX_4 rfl dX11_rowFor_47 ?_
          refine lv_iload C.1 C.2.1 dX11_rowFor_50 (lv_at hl 1 rfl) ?_
          refine sh_iald C hw hf tbX_12 dX11_rowFor_52 (fun hf => ?_)
          refine sh_if_ne (tgt := 59) C hf dX11_rowFor_53 (by decide) (fun hf => ?_) (fun hf => ?_)
          · exact wX11_rowFor_59 C hr (fX11_rowFor_5 n) hr5 S v1 v2 v3 v4 hf _ _ _ hw (lv_sub hl [2, 3, 4, 5, 6] rfl)
          · exact wX11_rowFor_56 C hr (fX11_rowFor_5 n) hr5 S v1 v2 v4 hf _ _ _ hw (lv_sub hl [2, 3, 4, 6] rfl)
def fX11_rowFor (S : sh_St) (v1 : Int32) (v2 : Int32) : Option (Int32 × sh_St) :=
    fX11_rowFor_5 sh_FU S v1 v2 0 0
set_option maxRecDepth 100000 in
set_option maxHeartbeats 4000000 in
theorem kX11_rowFor (l : Launch) (v1 : Int32) (v2 : Int32) : sh_Mi l yX11_rowFor cX11_rowFor 7 .int 1 tbX (fun G => [.ref (G.2.1 4), .int v1, .int v2]) (fun S => fX11_rowFor S v1 v2) := by
  refine sh_mki (by decide) (fun G => Nat.le_of_ble_eq_true rfl) ?_
  intro p e s m args below meth c G A S res ls hf C hr hw hl
  have C : sh_Cx p s m args meth c cX11_rowFor 7 RX11 G A := C
  have hl : lv_has ls 7 [(0, .ref (G.2.1 4)), (1, .int v1), (2, .int v2)] := hl
  replace hf : fX11_rowFor S v1 v2 = some res := hf
  rw [fX11_rowFor] at hf
  refine lv_iconst (v := 0) C.1 C.2.1 dX11_rowFor_0 (by decide) ?_
  refine lv_istore_n (lv' := [(3, .int 0), (0, .ref (G.2.1 4)), (1, .int v1), (2, .int v2)]) C.1 C.2.1 dX11_rowFor_1 rfl hl (by decide) rfl (fun ls hl => ?_)
  refine lv_iconst (v := 0) C.1 C.2.1 dX11_rowFor_2 (by decide) ?_
  refine lv_istore (lv' := [(4, .int 0), (3, .int 0), (0, .ref (G.2.1 4)), (1, .int v1), (2, .int v2)]) C.1 C.2.1 dX11_rowFor_3 hl (by decide) rfl (fun ls hl => ?_)
  exact wX11_rowFor_5 C hr _ S v1 v2 0 0 hf _ _ _ hw (lv_sub hl [2, 3, 4, 1, 0] rfl)
def fX12_feed (S : sh_St) (v1 : Int32) (v2 : Int32) (v3 : Int32) (v4 : Int32) (v5 : Int32) : Option (Int32 × sh_St) :=
    if ((S.1 1 1) + 20) ≤ 400 then (sh_c (fX9_append S v1) fun _ S1 =>
    sh_c (fX9_append S1 v2) fun _ S3 =>
    sh_c (fX9_append S3 v3) fun _ S5 =>
    sh_c (fX9_append S5 v4) fun _ S7 =>
    sh_c (fX9_append S7 v5) fun _ S9 =>
    some (S9.1 1 1, S9))
    else (some ((-1), S))
set_option maxRecDepth 100000 in
set_option maxHeartbeats 4000000 in
theorem kX12_feed (l : Launch) (v1 : Int32) (v2 : Int32) (v3 : Int32) (v4 : Int32) (v5 : Int32) : sh_Mi l yX12_feed cX12_feed 6 .int 2 tbX (fun G => [.ref (G.2.1 0), .int v1, .int v2, .int v3, .int v4, .int v5]) (fun S => fX12_feed S v1 v2 v3 v4 v5) := by
  refine sh_mki (by decide) (fun G => Nat.le_of_ble_eq_true rfl) ?_
  intro p e s m args below meth c G A S res ls hf C hr hw hl
  have C : sh_Cx p s m args meth c cX12_feed 6 RX12 G A := C
  have hl : lv_has ls 6 [(0, .ref (G.2.1 0)), (1, .int v1), (2, .int v2), (3, .int v3), (4, .int v4), (5, .int v5)] := hl
  replace hf : fX12_feed S v1 v2 v3 v4 v5 = some res := hf
  rw [fX12_feed] at hf
  refine lv_aload_n C.1 C.2.1 dX12_feed_0 rfl (lv_at hl 0 rfl) ?_
  refine sh_getr C hw fl_X12_12 tbX_0 rfl dX12_feed_1 ?_
  refine sh_geti C hw fl_X12_78 tbX_1 rfl dX12_feed_4 ?_
  refine lv_bipush (v := 20) C.1 C.2.1 dX12_feed_7 (by decide) ?_
  refine lv_iadd C.1 C.2.1 dX12_feed_9 ?_
  refine lv_sipush (v := 400) C.1 C.2.1 dX12_feed_10 (by decide) ?_
  refine sh_icmp_le (tgt := 18) C hf dX12_feed_13 (by decide) (fun hf => ?_) (fun hf => ?_)
  · refine lv_aload_n C.1 C.2.1 dX12_feed_18 rfl (lv_at hl 0 rfl) ?_
    refine sh_getr C hw fl_X12_12 tbX_0 rfl dX12_feed_19 ?_
    refine lv_iload_n C.1 C.2.1 dX12_feed_22 rfl (lv_at hl 1 rfl) ?_
    refine sh_Vv (As := [.int v1]) (rest := []) C hw (kX9_append l v1) yy_X9_append yv_X9_append ml_X12_81 hf tbX_1 rfl rfl rfl rfl (Nat.le_of_ble_eq_true rfl) (by decide) hl.1 dX12_feed_23 (fun S1 H locs hw hf => ?_)
    refine lv_aload_n C.1 C.2.1 dX12_feed_26 rfl (lv_at hl 0 rfl) ?_
    refine sh_getr C hw fl_X12_12 tbX_0 rfl dX12_feed_27 ?_
    refine lv_iload_n C.1 C.2.1 dX12_feed_30 rfl (lv_at hl 2 rfl) ?_
    refine sh_Vv (As := [.int v2]) (rest := []) C hw (kX9_append l v2) yy_X9_append yv_X9_append ml_X12_81 hf tbX_1 rfl rfl rfl rfl (Nat.le_of_ble_eq_true rfl) (by decide) hl.1 dX12_feed_31 (fun S3 H locs hw hf => ?_)
    refine lv_aload_n C.1 C.2.1 dX12_feed_34 rfl (lv_at hl 0 rfl) ?_
    refine sh_getr C hw fl_X12_12 tbX_0 rfl dX12_feed_35 ?_
    refine lv_iload_n C.1 C.2.1 dX12_feed_38 rfl (lv_at hl 3 rfl) ?_
    refine sh_Vv (As := [.int v3]) (rest := []) C hw (kX9_append l v3) yy_X9_append yv_X9_append ml_X12_81 hf tbX_1 rfl rfl rfl rfl (Nat.le_of_ble_eq_true rfl) (by decide) hl.1 dX12_feed_39 (fun S5 H locs hw hf => ?_)
    refine lv_aload_n C.1 C.2.1 dX12_feed_42 rfl (lv_at hl 0 rfl) ?_
    refine sh_getr C hw fl_X12_12 tbX_0 rfl dX12_feed_43 ?_
    refine lv_iload C.1 C.2.1 dX12_feed_46 (lv_at hl 4 rfl) ?_
    refine sh_Vv (As := [.int v4]) (rest := []) C hw (kX9_append l v4) yy_X9_append yv_X9_append ml_X12_81 hf tbX_1 rfl rfl rfl rfl (Nat.le_of_ble_eq_true rfl) (by decide) hl.1 dX12_feed_48 (fun S7 H locs hw hf => ?_)
    refine lv_aload_n C.1 C.2.1 dX12_feed_51 rfl (lv_at hl 0 rfl) ?_
    refine sh_getr C hw fl_X12_12 tbX_0 rfl dX12_feed_52 ?_
    refine lv_iload C.1 C.2.1 dX12_feed_55 (lv_at hl 5 rfl) ?_
    refine sh_Vv (As := [.int v5]) (rest := []) C hw (kX9_append l v5) yy_X9_append yv_X9_append ml_X12_81 hf tbX_1 rfl rfl rfl rfl (Nat.le_of_ble_eq_true rfl) (by decide) hl.1 dX12_feed_57 (fun S9 H locs hw hf => ?_)
    refine lv_aload_n C.1 C.2.1 dX12_feed_60 rfl (lv_at hl 0 rfl) ?_
    refine sh_getr C hw fl_X12_12 tbX_0 rfl dX12_feed_61 ?_
    refine sh_geti C hw fl_X12_78 tbX_1 rfl dX12_feed_64 ?_
    exact sh_ri C hw hr hf dX12_feed_67
  · refine lv_iconst (v := -1) C.1 C.2.1 dX12_feed_16 (by decide) ?_
    exact sh_ri C hw hr hf dX12_feed_17
def fX12_end (S : sh_St) (v1 : Int32) : Option (Int32 × sh_St) :=
    if v1 < 0 then (sh_b 0 (some (0, S)))
    else (if v1 ≤ (S.1 1 1) then (sh_t (sh_I S 1 1 v1) fun S1 =>
    sh_b 1 (some (1, S1)))
    else (sh_b 0 (some (0, S))))
set_option maxRecDepth 100000 in
set_option maxHeartbeats 4000000 in
theorem kX12_end (l : Launch) (v1 : Int32) : sh_Mi l yX12_end cX12_end 2 .boolean 1 tbX (fun G => [.ref (G.2.1 0), .int v1]) (fun S => fX12_end S v1) := by
  refine sh_mki (by decide) (fun G => Nat.le_of_ble_eq_true rfl) ?_
  intro p e s m args below meth c G A S res ls hf C hr hw hl
  have C : sh_Cx p s m args meth c cX12_end 2 RX12 G A := C
  have hl : lv_has ls 2 [(0, .ref (G.2.1 0)), (1, .int v1)] := hl
  replace hf : fX12_end S v1 = some res := hf
  rw [fX12_end] at hf
  refine lv_iload_n C.1 C.2.1 dX12_end_0 rfl (lv_at hl 1 rfl) ?_
  refine sh_if_lt (tgt := 15) C hf dX12_end_1 (by decide) (fun hf => ?_) (fun hf => ?_)
  · refine lv_iconst (v := 0) C.1 C.2.1 dX12_end_15 (by decide) ?_
    exact sh_rz C hw hr hf dX12_end_16
  · refine lv_iload_n C.1 C.2.1 dX12_end_4 rfl (lv_at hl 1 rfl) ?_
    refine lv_aload_n C.1 C.2.1 dX12_end_5 rfl (lv_at hl 0 rfl) ?_
    refine sh_getr C hw fl_X12_12 tbX_0 rfl dX12_end_6 ?_
    refine sh_geti C hw fl_X12_78 tbX_1 rfl dX12_end_9 ?_
    refine sh_icmp_le (tgt := 17) C hf dX12_end_12 (by decide) (fun hf => ?_) (fun hf => ?_)
    · refine lv_aload_n C.1 C.2.1 dX12_end_17 rfl (lv_at hl 0 rfl) ?_
      refine sh_getr C hw fl_X12_12 tbX_0 rfl dX12_end_18 ?_
      refine lv_iload_n C.1 C.2.1 dX12_end_21 rfl (lv_at hl 1 rfl) ?_
      refine sh_puti C hw fl_X12_78 fp_7_1 hf tbX_1 rfl dX12_end_22 (fun S1 H locs hw hf => ?_)
      refine lv_iconst (v := 1) C.1 C.2.1 dX12_end_25 (by decide) ?_
      exact sh_rz C hw hr hf dX12_end_26
    · refine lv_iconst (v := 0) C.1 C.2.1 dX12_end_15 (by decide) ?_
      exact sh_rz C hw hr hf dX12_end_16
def fX12_fault (S : sh_St) : Option (Int32 × sh_St) :=
    some (S.1 3 3, S)
set_option maxRecDepth 100000 in
set_option maxHeartbeats 4000000 in
theorem kX12_fault (l : Launch) : sh_Mi l yX12_fault cX12_fault 1 .int 1 tbX (fun G => [.ref (G.2.1 0)]) (fun S => fX12_fault S) := by
  refine sh_mki (by decide) (fun G => Nat.le_of_ble_eq_true rfl) ?_
  intro p e s m args below meth c G A S res ls hf C hr hw hl
  have C : sh_Cx p s m args meth c cX12_fault 1 RX12 G A := C
  have hl : lv_has ls 1 [(0, .ref (G.2.1 0))] := hl
  replace hf : fX12_fault S = some res := hf
  rw [fX12_fault] at hf
  refine lv_aload_n C.1 C.2.1 dX12_fault_0 rfl (lv_at hl 0 rfl) ?_
  refine sh_getr C hw fl_X12_21 tbX_0 rfl dX12_fault_1 ?_
  refine sh_geti C hw fl_X12_108 tbX_3 rfl dX12_fault_4 ?_
  exact sh_ri C hw hr hf dX12_fault_7
def fX12_why (S : sh_St) : Option (Int32 × sh_St) :=
    some (S.1 0 10, S)
set_option maxRecDepth 100000 in
set_option maxHeartbeats 4000000 in
theorem kX12_why (l : Launch) : sh_Mi l yX12_why cX12_why 1 .int 1 tbX (fun G => [.ref (G.2.1 0)]) (fun S => fX12_why S) := by
  refine sh_mki (by decide) (fun G => Nat.le_of_ble_eq_true rfl) ?_
  intro p e s m args below meth c G A S res ls hf C hr hw hl
  have C : sh_Cx p s m args meth c cX12_why 1 RX12 G A := C
  have hl : lv_has ls 1 [(0, .ref (G.2.1 0))] := hl
  replace hf : fX12_why S = some res := hf
  rw [fX12_why] at hf
  refine lv_aload_n C.1 C.2.1 dX12_why_0 rfl (lv_at hl 0 rfl) ?_
  refine sh_geti C hw fl_X12_73 tbX_0 rfl dX12_why_1 ?_
  exact sh_ri C hw hr hf dX12_why_4
def fX12_isBlock (S : sh_St) (v0 : Int32) : Option (Int32 × sh_St) :=
    if v0 < 0 then (sh_b 0 (some (0, S)))
    else (if 40 ≤ v0 then (sh_b 0 (some (0, S)))
    else (sh_b 1 (some (1, S))))
set_option maxRecDepth 100000 in
set_option maxHeartbeats 4000000 in
theorem kX12_isBlock (l : Launch) (v0 : Int32) : sh_Mi l yX12_isBlock cX12_isBlock 1 .boolean 1 tbX (fun G => [.int v0]) (fun S => fX12_isBlock S v0) := by
  refine sh_mki (by decide) (fun G => Nat.le_of_ble_eq_true rfl) ?_
  intro p e s m args below meth c G A S res ls hf C hr hw hl
  have C : sh_Cx p s m args meth c cX12_isBlock 1 RX12 G A := C
  have hl : lv_has ls 1 [(0, .int v0)] := hl
  replace hf : fX12_isBlock S v0 = some res := hf
  rw [fX12_isBlock] at hf
  refine lv_iload_n C.1 C.2.1 dX12_isBlock_0 rfl (lv_at hl 0 rfl) ?_
  refine sh_if_lt (tgt := 14) C hf dX12_isBlock_1 (by decide) (fun hf => ?_) (fun hf => ?_)
  · refine lv_iconst (v := 0) C.1 C.2.1 dX12_isBlock_14 (by decide) ?_
    exact sh_rz C hw hr hf dX12_isBlock_15
  · refine lv_iload_n C.1 C.2.1 dX12_isBlock_4 rfl (lv_at hl 0 rfl) ?_
    refine lv_bipush (v := 40) C.1 C.2.1 dX12_isBlock_5 (by decide) ?_
    refine sh_icmp_ge (tgt := 14) C hf dX12_isBlock_7 (by decide) (fun hf => ?_) (fun hf => ?_)
    · refine lv_iconst (v := 0) C.1 C.2.1 dX12_isBlock_14 (by decide) ?_
      exact sh_rz C hw hr hf dX12_isBlock_15
    · refine lv_iconst (v := 1) C.1 C.2.1 dX12_isBlock_10 (by decide) ?_
      refine lv_goto (tgt := 15) C.1 C.2.1 dX12_isBlock_11 (by decide) ?_
      exact sh_rz C hw hr hf dX12_isBlock_15
def fX12_isSlot (S : sh_St) (v0 : Int32) : Option (Int32 × sh_St) :=
    if v0 < 0 then (sh_b 0 (some (0, S)))
    else (if 6 ≤ v0 then (sh_b 0 (some (0, S)))
    else (sh_b 1 (some (1, S))))
set_option maxRecDepth 100000 in
set_option maxHeartbeats 4000000 in
theorem kX12_isSlot (l : Launch) (v0 : Int32) : sh_Mi l yX12_isSlot cX12_isSlot 1 .boolean 1 tbX (fun G => [.int v0]) (fun S => fX12_isSlot S v0) := by
  refine sh_mki (by decide) (fun G => Nat.le_of_ble_eq_true rfl) ?_
  intro p e s m args below meth c G A S res ls hf C hr hw hl
  have C : sh_Cx p s m args meth c cX12_isSlot 1 RX12 G A := C
  have hl : lv_has ls 1 [(0, .int v0)] := hl
  replace hf : fX12_isSlot S v0 = some res := hf
  rw [fX12_isSlot] at hf
  refine lv_iload_n C.1 C.2.1 dX12_isSlot_0 rfl (lv_at hl 0 rfl) ?_
  refine sh_if_lt (tgt := 14) C hf dX12_isSlot_1 (by decide) (fun hf => ?_) (fun hf => ?_)
  · refine lv_iconst (v := 0) C.1 C.2.1 dX12_isSlot_14 (by decide) ?_
    exact sh_rz C hw hr hf dX12_isSlot_15
  · refine lv_iload_n C.1 C.2.1 dX12_isSlot_4 rfl (lv_at hl 0 rfl) ?_
    refine lv_bipush (v := 6) C.1 C.2.1 dX12_isSlot_5 (by decide) ?_
    refine sh_icmp_ge (tgt := 14) C hf dX12_isSlot_7 (by decide) (fun hf => ?_) (fun hf => ?_)
    · refine lv_iconst (v := 0) C.1 C.2.1 dX12_isSlot_14 (by decide) ?_
      exact sh_rz C hw hr hf dX12_isSlot_15
    · refine lv_iconst (v := 1) C.1 C.2.1 dX12_isSlot_10 (by decide) ?_
      refine lv_goto (tgt := 15) C.1 C.2.1 dX12_isSlot_11 (by decide) ?_
      exact sh_rz C hw hr hf dX12_isSlot_15
def fX12_isReader (S : sh_St) (v0 : Int32) : Option (Int32 × sh_St) :=
    if v0 < 0 then (sh_b 0 (some (0, S)))
    else (if 4 ≤ v0 then (sh_b 0 (some (0, S)))
    else (sh_b 1 (some (1, S))))
set_option maxRecDepth 100000 in
set_option maxHeartbeats 4000000 in
theorem kX12_isReader (l : Launch) (v0 : Int32) : sh_Mi l yX12_isReader cX12_isReader 1 .boolean 1 tbX (fun G => [.int v0]) (fun S => fX12_isReader S v0) := by
  refine sh_mki (by decide) (fun G => Nat.le_of_ble_eq_true rfl) ?_
  intro p e s m args below meth c G A S res ls hf C hr hw hl
  have C : sh_Cx p s m args meth c cX12_isReader 1 RX12 G A := C
  have hl : lv_has ls 1 [(0, .int v0)] := hl
  replace hf : fX12_isReader S v0 = some res := hf
  rw [fX12_isReader] at hf
  refine lv_iload_n C.1 C.2.1 dX12_isReader_0 rfl (lv_at hl 0 rfl) ?_
  refine sh_if_lt (tgt := 13) C hf dX12_isReader_1 (by decide) (fun hf => ?_) (fun hf => ?_)
  · refine lv_iconst (v := 0) C.1 C.2.1 dX12_isReader_13 (by decide) ?_
    exact sh_rz C hw hr hf dX12_isReader_14
  · refine lv_iload_n C.1 C.2.1 dX12_isReader_4 rfl (lv_at hl 0 rfl) ?_
    refine lv_iconst (v := 4) C.1 C.2.1 dX12_isReader_5 (by decide) ?_
    refine sh_icmp_ge (tgt := 13) C hf dX12_isReader_6 (by decide) (fun hf => ?_) (fun hf => ?_)
    · refine lv_iconst (v := 0) C.1 C.2.1 dX12_isReader_13 (by decide) ?_
      exact sh_rz C hw hr hf dX12_isReader_14
    · refine lv_iconst (v := 1) C.1 C.2.1 dX12_isReader_9 (by decide) ?_
      refine lv_goto (tgt := 14) C.1 C.2.1 dX12_isReader_10 (by decide) ?_
      exact sh_rz C hw hr hf dX12_isReader_14
def fX12_isKey (S : sh_St) (v0 : Int32) : Option (Int32 × sh_St) :=
    if v0 < 0 then (sh_b 0 (some (0, S)))
    else (if 65535 < v0 then (sh_b 0 (some (0, S)))
    else (sh_b 1 (some (1, S))))
set_option maxRecDepth 100000 in
set_option maxHeartbeats 4000000 in
theorem kX12_isKey (l : Launch) (v0 : Int32) : sh_Mi l yX12_isKey cX12_isKey 1 .boolean 1 tbX (fun G => [.int v0]) (fun S => fX12_isKey S v0) := by
  refine sh_mki (by decide) (fun G => Nat.le_of_ble_eq_true rfl) ?_
  intro p e s m args below meth c G A S res ls hf C hr hw hl
  have C : sh_Cx p s m args meth c cX12_isKey 1 RX12 G A := C
  have hl : lv_has ls 1 [(0, .int v0)] := hl
  replace hf : fX12_isKey S v0 = some res := hf
  rw [fX12_isKey] at hf
  refine lv_iload_n C.1 C.2.1 dX12_isKey_0 rfl (lv_at hl 0 rfl) ?_
  refine sh_if_lt (tgt := 15) C hf dX12_isKey_1 (by decide) (fun hf => ?_) (fun hf => ?_)
  · refine lv_iconst (v := 0) C.1 C.2.1 dX12_isKey_15 (by decide) ?_
    exact sh_rz C hw hr hf dX12_isKey_16
  · refine lv_iload_n C.1 C.2.1 dX12_isKey_4 rfl (lv_at hl 0 rfl) ?_
    refine lv_ldcw C.1 C.2.1 C.2.2.2.1 (C.2.2.2.2.1 _ kc_X12_358) dX12_isKey_5 ?_
    refine sh_icmp_gt (tgt := 15) C hf dX12_isKey_8 (by decide) (fun hf => ?_) (fun hf => ?_)
    · refine lv_iconst (v := 0) C.1 C.2.1 dX12_isKey_15 (by decide) ?_
      exact sh_rz C hw hr hf dX12_isKey_16
    · refine lv_iconst (v := 1) C.1 C.2.1 dX12_isKey_11 (by decide) ?_
      refine lv_goto (tgt := 16) C.1 C.2.1 dX12_isKey_12 (by decide) ?_
      exact sh_rz C hw hr hf dX12_isKey_16
def fX12_codeAt (S : sh_St) (v0 : Int64) (v2 : Int32) : Option (Int32 × sh_St) :=
    some ((Int64.toInt32 ((Int64.toUInt64 v0 >>> ((Int32.toInt64 (8 * (7 - v2))).toUInt64 &&& Int64.toUInt64 63)).toInt64)) &&& 255, S)
set_option maxRecDepth 100000 in
set_option maxHeartbeats 4000000 in
theorem kX12_codeAt (l : Launch) (v0 : Int64) (v2 : Int32) : sh_Mi l yX12_codeAt cX12_codeAt 3 .int 1 tbX (fun G => [.long v0, .int v2]) (fun S => fX12_codeAt S v0 v2) := by
  refine sh_mki (by decide) (fun G => Nat.le_of_ble_eq_true rfl) ?_
  intro p e s m args below meth c G A S res ls hf C hr hw hl
  have C : sh_Cx p s m args meth c cX12_codeAt 3 RX12 G A := C
  have hl : lv_has ls 3 [(0, .long v0), (2, .int v2)] := hl
  replace hf : fX12_codeAt S v0 v2 = some res := hf
  rw [fX12_codeAt] at hf
  refine lv_lload_n C.1 C.2.1 dX12_codeAt_0 rfl (lv_at hl 0 rfl) ?_
  refine lv_bipush (v := 8) C.1 C.2.1 dX12_codeAt_1 (by decide) ?_
  refine lv_bipush (v := 7) C.1 C.2.1 dX12_codeAt_3 (by decide) ?_
  refine lv_iload_n C.1 C.2.1 dX12_codeAt_5 rfl (lv_at hl 1 rfl) ?_
  refine lv_isub C.1 C.2.1 dX12_codeAt_6 ?_
  refine lv_imul C.1 C.2.1 dX12_codeAt_7 ?_
  refine lv_lushr C.1 C.2.1 dX12_codeAt_8 rfl ?_
  refine lv_l2i C.1 C.2.1 dX12_codeAt_9 rfl ?_
  refine lv_sipush (v := 255) C.1 C.2.1 dX12_codeAt_10 (by decide) ?_
  refine lv_iand C.1 C.2.1 dX12_codeAt_13 ?_
  exact sh_ri C hw hr hf dX12_codeAt_14
def fX12_lettersOf_21 (rk4 : sh_St → Int64 → Int32 → Int32 → Option (Int32 × sh_St)) (S : sh_St) (v0 : Int64) (v2 : Int32) (v3 : Int32) : Option (Int32 × sh_St) :=
    sh_t (v3 + 1) fun y3 =>
    rk4 S v0 v2 y3
set_option maxRecDepth 100000 in
set_option maxHeartbeats 4000000 in
theorem wX12_lettersOf_21 {p : Program} {l : Launch} {e : Env} {s : State} {m : MethodId} {args : Array Value} {below : List Frame} {meth : Method} {c : Code} {G : sh_Ev} {A : Nat → Prop} {res : Int32 × sh_St} (C : sh_Cx p s m args meth c cX12_lettersOf 4 RX12 G A) (hr : meth.sig.returnType = some .int) (rk4 : sh_St → Int64 → Int32 → Int32 → Option (Int32 × sh_St)) (hr4 : ∀ (S : sh_St) (v0 : Int64) (v2 : Int32) (v3 : Int32), rk4 S v0 v2 v3 = some res → ∀ (H : Heap) (locs : List Loc) (ls : Array Slot), sh_Wx G tbX A s H locs S → lv_has ls 4 [(0, .long v0), (2, .int v2), (3, .int v3)] → W p l e (sh_rm 2) s m args below meth c H locs 0 0 (sh_Qi below args s G tbX A res) (F0 m 4 ls [])) : ∀ (S : sh_St) (v0 : Int64) (v2 : Int32) (v3 : Int32), fX12_lettersOf_21 rk4 S v0 v2 v3 = some res → ∀ (H : Heap) (locs : List Loc) (ls : Array Slot), sh_Wx G tbX A s H locs S → lv_has ls 4 [(0, .long v0), (2, .int v2), (3, .int v3)] → W p l e (sh_rm 2) s m args below meth c H locs 0 0 (sh_Qi below args s G tbX A res) (F0 m 21 ls []) := by
  intro S v0 v2 v3 hf H locs ls hw hl
  rw [fX12_lettersOf_21] at hf
  obtain ⟨y3, ey3, hf⟩ := sh_nm hf
  refine lv_iinc (v := y3) (lv' := [(3, .int y3), (0, .long v0), (2, .int v2)]) C.1 C.2.1 dX12_lettersOf_21 hl (k := 2) rfl (by rw [← ey3]; rfl) (by decide) rfl (fun ls hl => ?_)
  refine lv_goto (tgt := 4) C.1 C.2.1 dX12_lettersOf_24 (by decide) ?_
  exact hr4 S v0 v2 y3 hf _ _ _ hw (lv_sub hl [1, 2, 0] rfl)
def fX12_lettersOf_4 : Nat → sh_St → Int64 → Int32 → Int32 → Option (Int32 × sh_St)
  | 0, _, _, _, _ => none
  | n + 1, S, v0, v2, v3 =>
    if 8 ≤ v3 then (some (v2, S))
    else (sh_c (fX12_codeAt S v0 v3) fun r2 S1 =>
    if r2 = 0 then (fX12_lettersOf_21 (fX12_lettersOf_4 n) S1 v0 v2 v3)
    else (sh_t (v2 + 1) fun y4 =>
    fX12_lettersOf_21 (fX12_lettersOf_4 n) S1 v0 y4 v3))
set_option maxRecDepth 100000 in
set_option maxHeartbeats 4000000 in
theorem wX12_lettersOf_4 {p : Program} {l : Launch} {e : Env} {s : State} {m : MethodId} {args : Array Value} {below : List Frame} {meth : Method} {c : Code} {G : sh_Ev} {A : Nat → Prop} {res : Int32 × sh_St} (C : sh_Cx p s m args meth c cX12_lettersOf 4 RX12 G A) (hr : meth.sig.returnType = some .int) : ∀ (n : Nat) (S : sh_St) (v0 : Int64) (v2 : Int32) (v3 : Int32), fX12_lettersOf_4 n S v0 v2 v3 = some res → ∀ (H : Heap) (locs : List Loc) (ls : Array Slot), sh_Wx G tbX A s H locs S → lv_has ls 4 [(0, .long v0), (2, .int v2), (3, .int v3)] → W p l e (sh_rm 2) s m args below meth c H locs 0 0 (sh_Qi below args s G tbX A res) (F0 m 4 ls []) := by
  intro n
  induction n with
  | zero => intro S v0 v2 v3 hf; exact nomatch (show (none : Option (Int32 × sh_St)) = some res from hf)
  | succ n ih =>
    intro S v0 v2 v3 hf H locs ls hw hl
    have hr4 := ih
    rw [fX12_lettersOf_4] at hf
    refine lv_iload_n C.1 C.2.1 dX12_lettersOf_4 rfl (lv_at hl 2 rfl) ?_
    refine lv_bipush (v := 8) C.1 C.2.1 dX12_lettersOf_5 (by decide) ?_
    refine sh_icmp_ge (tgt := 27) C hf dX12_lettersOf_7 (by decide) (fun hf => ?_) (fun hf => ?_)
    · refine lv_iload_n C.1 C.2.1 dX12_lettersOf_27 rfl (lv_at hl 1 rfl) ?_
      exact sh_ri C hw hr hf dX12_lettersOf_28
    · refine lv_lload_n C.1 C.2.1 dX12_lettersOf_10 rfl (lv_at hl 0 rfl) ?_
      refine lv_iload_n C.1 C.2.1 dX12_lettersOf_11 rfl (lv_at hl 2 rfl) ?_
      refine sh_Si (As := [.long v0, .int v3]) (rest := []) C hw (kX12_codeAt l v0 v3) yy_X12_codeAt ys_X12_codeAt ml_X12_252 rfl hf rfl rfl rfl (Nat.le_of_ble_eq_true rfl) (by decide) hl.1 dX12_lettersOf_12 (fun r2 S1 H locs hw hf => ?_)
      refine sh_if_eq (tgt := 21) C hf dX12_lettersOf_15 (by decide) (fun hf => ?_) (fun hf => ?_)
      · exact wX12_lettersOf_21 C hr (fX12_lettersOf_4 n) hr4 S1 v0 v2 v3 hf _ _ _ hw (lv_sub hl [0, 1, 2] rfl)
      · obtain ⟨y4, ey4, hf⟩ := sh_nm hf
        refine lv_iinc (v := y4) (lv' := [(2, .int y4), (0, .long v0), (3, .int v3)]) C.1 C.2.1 dX12_lettersOf_18 hl (k := 1) rfl (by rw [← ey4]; rfl) (by decide) rfl (fun ls hl => ?_)
        exact wX12_lettersOf_21 C hr (fX12_lettersOf_4 n) hr4 S1 v0 y4 v3 hf _ _ _ hw (lv_sub hl [1, 0, 2] rfl)
def fX12_lettersOf (S : sh_St) (v0 : Int64) : Option (Int32 × sh_St) :=
    fX12_lettersOf_4 sh_FU S v0 0 0
set_option maxRecDepth 100000 in
set_option maxHeartbeats 4000000 in
theorem kX12_lettersOf (l : Launch) (v0 : Int64) : sh_Mi l yX12_lettersOf cX12_lettersOf 4 .int 2 tbX (fun G => [.long v0]) (fun S => fX12_lettersOf S v0) := by
  refine sh_mki (by decide) (fun G => Nat.le_of_ble_eq_true rfl) ?_
  intro p e s m args below meth c G A S res ls hf C hr hw hl
  have C : sh_Cx p s m args meth c cX12_lettersOf 4 RX12 G A := C
  have hl : lv_has ls 4 [(0, .long v0)] := hl
  replace hf : fX12_lettersOf S v0 = some res := hf
  rw [fX12_lettersOf] at hf
  refine lv_iconst (v := 0) C.1 C.2.1 dX12_lettersOf_0 (by decide) ?_
  refine lv_istore_n (lv' := [(2, .int 0), (0, .long v0)]) C.1 C.2.1 dX12_lettersOf_1 rfl hl (by decide) rfl (fun ls hl => ?_)
  refine lv_iconst (v := 0) C.1 C.2.1 dX12_lettersOf_2 (by decide) ?_
  refine lv_istore_n (lv' := [(3, .int 0), (2, .int 0), (0, .long v0)]) C.1 C.2.1 dX12_lettersOf_3 rfl hl (by decide) rfl (fun ls hl => ?_)
  exact wX12_lettersOf_4 C hr _ S v0 0 0 hf _ _ _ hw (lv_sub hl [2, 1, 0] rfl)
def fX12_stirred (S : sh_St) (v0 : Int32) (v1 : Int32) : Option (Int32 × sh_St) :=
    sh_t (((31 * v0) + v1) &&& 65535) fun y1 =>
    some (y1 ^^^ (y1 >>> (7 &&& 31)), S)
set_option maxRecDepth 100000 in
set_option maxHeartbeats 4000000 in
theorem kX12_stirred (l : Launch) (v0 : Int32) (v1 : Int32) : sh_Mi l yX12_stirred cX12_stirred 3 .int 1 tbX (fun G => [.int v0, .int v1]) (fun S => fX12_stirred S v0 v1) := by
  refine sh_mki (by decide) (fun G => Nat.le_of_ble_eq_true rfl) ?_
  intro p e s m args below meth c G A S res ls hf C hr hw hl
  have C : sh_Cx p s m args meth c cX12_stirred 3 RX12 G A := C
  have hl : lv_has ls 3 [(0, .int v0), (1, .int v1)] := hl
  replace hf : fX12_stirred S v0 v1 = some res := hf
  rw [fX12_stirred] at hf
  refine lv_bipush (v := 31) C.1 C.2.1 dX12_stirred_0 (by decide) ?_
  refine lv_iload_n C.1 C.2.1 dX12_stirred_2 rfl (lv_at hl 0 rfl) ?_
  refine lv_imul C.1 C.2.1 dX12_stirred_3 ?_
  refine lv_iload_n C.1 C.2.1 dX12_stirred_4 rfl (lv_at hl 1 rfl) ?_
  refine lv_iadd C.1 C.2.1 dX12_stirred_5 ?_
  refine lv_ldcw C.1 C.2.1 C.2.2.2.1 (C.2.2.2.2.1 _ kc_X12_358) dX12_stirred_6 ?_
  refine lv_iand C.1 C.2.1 dX12_stirred_9 ?_
  refine sh_ni hf (fun y1 hf => ?_)
  refine lv_istore_n (lv' := [(2, .int y1), (0, .int v0), (1, .int v1)]) C.1 C.2.1 dX12_stirred_10 rfl hl (by decide) rfl (fun ls hl => ?_)
  refine lv_iload_n C.1 C.2.1 dX12_stirred_11 rfl (lv_at hl 0 rfl) ?_
  refine lv_iload_n C.1 C.2.1 dX12_stirred_12 rfl (lv_at hl 0 rfl) ?_
  refine lv_bipush (v := 7) C.1 C.2.1 dX12_stirred_13 (by decide) ?_
  refine lv_ishr C.1 C.2.1 dX12_stirred_15 ?_
  refine lv_ixor C.1 C.2.1 dX12_stirred_16 ?_
  exact sh_ri C hw hr hf dX12_stirred_17
def fX12_hashBy_57 (S : sh_St) (v3 : Int32) (v5 : Int32) : Option (Int32 × sh_St) :=
    some (v5 &&& ((1 <<< (v3 &&& 31)) - 1), S)
set_option maxRecDepth 100000 in
set_option maxHeartbeats 4000000 in
theorem wX12_hashBy_57 {p : Program} {l : Launch} {e : Env} {s : State} {m : MethodId} {args : Array Value} {below : List Frame} {meth : Method} {c : Code} {G : sh_Ev} {A : Nat → Prop} {res : Int32 × sh_St} (C : sh_Cx p s m args meth c cX12_hashBy 8 RX12 G A) (hr : meth.sig.returnType = some .int) : ∀ (S : sh_St) (v3 : Int32) (v5 : Int32), fX12_hashBy_57 S v3 v5 = some res → ∀ (H : Heap) (locs : List Loc) (ls : Array Slot), sh_Wx G tbX A s H locs S → lv_has ls 8 [(3, .int v3), (5, .int v5)] → W p l e (sh_rm 2) s m args below meth c H locs 0 0 (sh_Qi below args s G tbX A res) (F0 m 57 ls []) := by
  intro S v3 v5 hf H locs ls hw hl
  rw [fX12_hashBy_57] at hf
  refine lv_iload C.1 C.2.1 dX12_hashBy_57 (lv_at hl 1 rfl) ?_
  refine lv_iconst (v := 1) C.1 C.2.1 dX12_hashBy_59 (by decide) ?_
  refine lv_iload_n C.1 C.2.1 dX12_hashBy_60 rfl (lv_at hl 0 rfl) ?_
  refine lv_ishl C.1 C.2.1 dX12_hashBy_61 ?_
  refine lv_iconst (v := 1) C.1 C.2.1 dX12_hashBy_62 (by decide) ?_
  refine lv_isub C.1 C.2.1 dX12_hashBy_63 ?_
  refine lv_iand C.1 C.2.1 dX12_hashBy_64 ?_
  exact sh_ri C hw hr hf dX12_hashBy_65
def fX12_hashBy_46 (rk6 : sh_St → Int64 → Int32 → Int32 → Int32 → Int32 → Option (Int32 × sh_St)) (S : sh_St) (v0 : Int64) (v3 : Int32) (v4 : Int32) (v6 : Int32) (t0 : Int32) (t1 : Int32) : Option (Int32 × sh_St) :=
    sh_c (fX12_stirred S t1 t0) fun r4 S3 =>
    sh_t (v6 + 1) fun y5 =>
    rk6 S3 v0 v3 v4 r4 y5
set_option maxRecDepth 100000 in
set_option maxHeartbeats 4000000 in
theorem wX12_hashBy_46 {p : Program} {l : Launch} {e : Env} {s : State} {m : MethodId} {args : Array Value} {below : List Frame} {meth : Method} {c : Code} {G : sh_Ev} {A : Nat → Prop} {res : Int32 × sh_St} (C : sh_Cx p s m args meth c cX12_hashBy 8 RX12 G A) (hr : meth.sig.returnType = some .int) (rk6 : sh_St → Int64 → Int32 → Int32 → Int32 → Int32 → Option (Int32 × sh_St)) (hr6 : ∀ (S : sh_St) (v0 : Int64) (v3 : Int32) (v4 : Int32) (v5 : Int32) (v6 : Int32), rk6 S v0 v3 v4 v5 v6 = some res → ∀ (H : Heap) (locs : List Loc) (ls : Array Slot), sh_Wx G tbX A s H locs S → lv_has ls 8 [(0, .long v0), (3, .int v3), (4, .int v4), (5, .int v5), (6, .int v6)] → W p l e (sh_rm 2) s m args below meth c H locs 0 0 (sh_Qi below args s G tbX A res) (F0 m 6 ls [])) : ∀ (S : sh_St) (v0 : Int64) (v3 : Int32) (v4 : Int32) (v6 : Int32) (t0 : Int32) (t1 : Int32), fX12_hashBy_46 rk6 S v0 v3 v4 v6 t0 t1 = some res → ∀ (H : Heap) (locs : List Loc) (ls : Array Slot), sh_Wx G tbX A s H locs S → lv_has ls 8 [(0, .long v0), (3, .int v3), (4, .int v4), (6, .int v6)] → W p l e (sh_rm 2) s m args below meth c H locs 0 0 (sh_Qi below args s G tbX A res) (F0 m 46 ls [.int t0, .int t1]) := by
  intro S v0 v3 v4 v6 t0 t1 hf H locs ls hw hl
  rw [fX12_hashBy_46] at hf
  refine sh_Si (As := [.int t1, .int t0]) (rest := []) C hw (kX12_stirred l t1 t0) yy_X12_stirred ys_X12_stirred ml_X12_359 rfl hf rfl rfl rfl (Nat.le_of_ble_eq_true rfl) (by decide) hl.1 dX12_hashBy_46 (fun r4 S3 H locs hw hf => ?_)
  refine lv_istore (lv' := [(5, .int r4), (0, .long v0), (3, .int v3), (4, .int v4), (6, .int v6)]) C.1 C.2.1 dX12_hashBy_49 hl (by decide) rfl (fun ls hl => ?_)
  obtain ⟨y5, ey5, hf⟩ := sh_nm hf
  refine lv_iinc (v := y5) (lv' := [(6, .int y5), (5, .int r4), (0, .long v0), (3, .int v3), (4, .int v4)]) C.1 C.2.1 dX12_hashBy_51 hl (k := 4) rfl (by rw [← ey5]; rfl) (by decide) rfl (fun ls hl => ?_)
  refine lv_goto (tgt := 6) C.1 C.2.1 dX12_hashBy_54 (by decide) ?_
  exact hr6 S3 v0 v3 v4 r4 y5 hf _ _ _ hw (lv_sub hl [2, 3, 4, 1, 0] rfl)
def fX12_hashBy_6 : Nat → sh_St → Int64 → Int32 → Int32 → Int32 → Int32 → Option (Int32 × sh_St)
  | 0, _, _, _, _, _, _ => none
  | n + 1, S, v0, v3, v4, v5, v6 =>
    if 8 ≤ v6 then (fX12_hashBy_57 S v3 v5)
    else (sh_c (fX12_codeAt S v0 v6) fun r2 S1 =>
    if r2 = 0 then (fX12_hashBy_57 S1 v3 v5)
    else (if v4 = 0 then (fX12_hashBy_46 (fX12_hashBy_6 n) S1 v0 v3 v4 v6 r2 v5)
    else (fX12_hashBy_46 (fX12_hashBy_6 n) S1 v0 v3 v4 v6 (r2 ||| 32) v5)))
set_option maxRecDepth 100000 in
set_option maxHeartbeats 4000000 in
theorem wX12_hashBy_6 {p : Program} {l : Launch} {e : Env} {s : State} {m : MethodId} {args : Array Value} {below : List Frame} {meth : Method} {c : Code} {G : sh_Ev} {A : Nat → Prop} {res : Int32 × sh_St} (C : sh_Cx p s m args meth c cX12_hashBy 8 RX12 G A) (hr : meth.sig.returnType = some .int) : ∀ (n : Nat) (S : sh_St) (v0 : Int64) (v3 : Int32) (v4 : Int32) (v5 : Int32) (v6 : Int32), fX12_hashBy_6 n S v0 v3 v4 v5 v6 = some res → ∀ (H : Heap) (locs : List Loc) (ls : Array Slot), sh_Wx G tbX A s H locs S → lv_has ls 8 [(0, .long v0), (3, .int v3), (4, .int v4), (5, .int v5), (6, .int v6)] → W p l e (sh_rm 2) s m args below meth c H locs 0 0 (sh_Qi below args s G tbX A res) (F0 m 6 ls []) := by
  intro n
  induction n with
  | zero => intro S v0 v3 v4 v5 v6 hf; exact nomatch (show (none : Option (Int32 × sh_St)) = some res from hf)
  | succ n ih =>
    intro S v0 v3 v4 v5 v6 hf H locs ls hw hl
    have hr6 := ih
    rw [fX12_hashBy_6] at hf
    refine lv_iload C.1 C.2.1 dX12_hashBy_6 (lv_at hl 4 rfl) ?_
    refine lv_bipush (v := 8) C.1 C.2.1 dX12_hashBy_8 (by decide) ?_
    refine sh_icmp_ge (tgt := 57) C hf dX12_hashBy_10 (by decide) (fun hf => ?_) (fun hf => ?_)
    · exact wX12_hashBy_57 C hr S v3 v5 hf _ _ _ hw (lv_sub hl [1, 3] rfl)
    · refine lv_lload_n C.1 C.2.1 dX12_hashBy_13 rfl (lv_at hl 0 rfl) ?_
      refine lv_iload C.1 C.2.1 dX12_hashBy_14 (lv_at hl 4 rfl) ?_
      refine sh_Si (As := [.long v0, .int v6]) (rest := []) C hw (kX12_codeAt l v0 v6) yy_X12_codeAt ys_X12_codeAt ml_X12_252 rfl hf rfl rfl rfl (Nat.le_of_ble_eq_true rfl) (by decide) hl.1 dX12_hashBy_16 (fun r2 S1 H locs hw hf => ?_)
      refine lv_istore (lv' := [(7, .int r2), (0, .long v0), (3, .int v3), (4, .int v4), (5, .int v5), (6, .int v6)]) C.1 C.2.1 dX12_hashBy_19 hl (by decide) rfl (fun ls hl => ?_)
      refine lv_iload C.1 C.2.1 dX12_hashBy_21 (lv_at hl 0 rfl) ?_
      refine sh_if_ne (tgt := 29) C hf dX12_hashBy_23 (by decide) (fun hf => ?_) (fun hf => ?_)
      · refine lv_iload C.1 C.2.1 dX12_hashBy_29 (lv_at hl 4 rfl) ?_
        refine lv_iload C.1 C.2.1 dX12_hashBy_31 (lv_at hl 3 rfl) ?_
        refine sh_if_eq (tgt := 44) C hf dX12_hashBy_33 (by decide) (fun hf => ?_) (fun hf => ?_)
        · refine lv_iload C.1 C.2.1 dX12_hashBy_44 (lv_at hl 0 rfl) ?_
          exact wX12_hashBy_46 C hr (fX12_hashBy_6 n) hr6 S1 v0 v3 v4 v6 r2 v5 hf _ _ _ hw (lv_sub hl [1, 2, 3, 5] rfl)
        · refine lv_iload C.1 C.2.1 dX12_hashBy_36 (lv_at hl 0 rfl) ?_
          refine lv_bipush (v := 32) C.1 C.2.1 dX12_hashBy_38 (by decide) ?_
          refine lv_ior C.1 C.2.1 dX12_hashBy_40 ?_
          refine lv_goto (tgt := 46) C.1 C.2.1 dX12_hashBy_41 (by decide) ?_
          exact wX12_hashBy_46 C hr (fX12_hashBy_6 n) hr6 S1 v0 v3 v4 v6 (r2 ||| 32) v5 hf _ _ _ hw (lv_sub hl [1, 2, 3, 5] rfl)
      · refine lv_goto (tgt := 57) C.1 C.2.1 dX12_hashBy_26 (by decide) ?_
        exact wX12_hashBy_57 C hr S1 v3 v5 hf _ _ _ hw (lv_sub hl [2, 4] rfl)
def fX12_hashBy (S : sh_St) (v0 : Int64) (v2 : Int32) (v3 : Int32) (v4 : Int32) : Option (Int32 × sh_St) :=
    fX12_hashBy_6 sh_FU S v0 v3 v4 v2 0
set_option maxRecDepth 100000 in
set_option maxHeartbeats 4000000 in
theorem kX12_hashBy (l : Launch) (v0 : Int64) (v2 : Int32) (v3 : Int32) (v4 : Int32) : sh_Mi l yX12_hashBy cX12_hashBy 8 .int 2 tbX (fun G => [.long v0, .int v2, .int v3, .int v4]) (fun S => fX12_hashBy S v0 v2 v3 v4) := by
  refine sh_mki (by decide) (fun G => Nat.le_of_ble_eq_true rfl) ?_
  intro p e s m args below meth c G A S res ls hf C hr hw hl
  have C : sh_Cx p s m args meth c cX12_hashBy 8 RX12 G A := C
  have hl : lv_has ls 8 [(0, .long v0), (2, .int v2), (3, .int v3), (4, .int v4)] := hl
  replace hf : fX12_hashBy S v0 v2 v3 v4 = some res := hf
  rw [fX12_hashBy] at hf
  refine lv_iload_n C.1 C.2.1 dX12_hashBy_0 rfl (lv_at hl 1 rfl) ?_
  refine lv_istore (lv' := [(5, .int v2), (0, .long v0), (2, .int v2), (3, .int v3), (4, .int v4)]) C.1 C.2.1 dX12_hashBy_1 hl (by decide) rfl (fun ls hl => ?_)
  refine lv_iconst (v := 0) C.1 C.2.1 dX12_hashBy_3 (by decide) ?_
  refine lv_istore (lv' := [(6, .int 0), (5, .int v2), (0, .long v0), (2, .int v2), (3, .int v3), (4, .int v4)]) C.1 C.2.1 dX12_hashBy_4 hl (by decide) rfl (fun ls hl => ?_)
  exact wX12_hashBy_6 C hr _ S v0 v3 v4 v2 0 hf _ _ _ hw (lv_sub hl [2, 4, 5, 1, 0] rfl)
def fX12_areOne (S : sh_St) (v0 : Int64) (v2 : Int64) (v4 : Int32) : Option (Int32 × sh_St) :=
    if v4 = 0 then (if v0 = v2 then (sh_b 1 (some (1, S)))
    else (sh_b 0 (some (0, S))))
    else (if (v0 ||| 2314885530818453536) = (v2 ||| 2314885530818453536) then (sh_b 1 (some (1, S)))
    else (sh_b 0 (some (0, S))))
set_option maxRecDepth 100000 in
set_option maxHeartbeats 4000000 in
theorem kX12_areOne (l : Launch) (v0 : Int64) (v2 : Int64) (v4 : Int32) : sh_Mi l yX12_areOne cX12_areOne 5 .boolean 1 tbX (fun G => [.long v0, .long v2, .int v4]) (fun S => fX12_areOne S v0 v2 v4) := by
  refine sh_mki (by decide) (fun G => Nat.le_of_ble_eq_true rfl) ?_
  intro p e s m args below meth c G A S res ls hf C hr hw hl
  have C : sh_Cx p s m args meth c cX12_areOne 5 RX12 G A := C
  have hl : lv_has ls 5 [(0, .long v0), (2, .long v2), (4, .int v4)] := hl
  replace hf : fX12_areOne S v0 v2 v4 = some res := hf
  rw [fX12_areOne] at hf
  refine lv_iload C.1 C.2.1 dX12_areOne_0 (lv_at hl 2 rfl) ?_
  refine sh_if_eq (tgt := 27) C hf dX12_areOne_2 (by decide) (fun hf => ?_) (fun hf => ?_)
  · refine lv_lload_n C.1 C.2.1 dX12_areOne_27 rfl (lv_at hl 0 rfl) ?_
    refine lv_lload_n C.1 C.2.1 dX12_areOne_28 rfl (lv_at hl 1 rfl) ?_
    refine sh_lcmp_ne (tgt := 37) C hf dX12_areOne_29 dX12_areOne_30 (by decide) (fun hf => ?_) (fun hf => ?_)
    · refine lv_iconst (v := 0) C.1 C.2.1 dX12_areOne_37 (by decide) ?_
      exact sh_rz C hw hr hf dX12_areOne_38
    · refine lv_iconst (v := 1) C.1 C.2.1 dX12_areOne_33 (by decide) ?_
      refine lv_goto (tgt := 38) C.1 C.2.1 dX12_areOne_34 (by decide) ?_
      exact sh_rz C hw hr hf dX12_areOne_38
  · refine lv_lload_n C.1 C.2.1 dX12_areOne_5 rfl (lv_at hl 0 rfl) ?_
    refine lv_ldc2 C.1 C.2.1 C.2.2.2.1 (C.2.2.2.2.1 _ kc_X12_362) dX12_areOne_6 ?_
    refine lv_lor C.1 C.2.1 dX12_areOne_9 ?_
    refine lv_lload_n C.1 C.2.1 dX12_areOne_10 rfl (lv_at hl 1 rfl) ?_
    refine lv_ldc2 C.1 C.2.1 C.2.2.2.1 (C.2.2.2.2.1 _ kc_X12_362) dX12_areOne_11 ?_
    refine lv_lor C.1 C.2.1 dX12_areOne_14 ?_
    refine sh_lcmp_ne (tgt := 23) C hf dX12_areOne_15 dX12_areOne_16 (by decide) (fun hf => ?_) (fun hf => ?_)
    · refine lv_iconst (v := 0) C.1 C.2.1 dX12_areOne_23 (by decide) ?_
      refine lv_goto (tgt := 38) C.1 C.2.1 dX12_areOne_24 (by decide) ?_
      exact sh_rz C hw hr hf dX12_areOne_38
    · refine lv_iconst (v := 1) C.1 C.2.1 dX12_areOne_19 (by decide) ?_
      refine lv_goto (tgt := 38) C.1 C.2.1 dX12_areOne_20 (by decide) ?_
      exact sh_rz C hw hr hf dX12_areOne_38
def fX12_groupsOf (S : sh_St) (v0 : Int32) : Option (Int32 × sh_St) :=
    some (((v0 + 4) - 1) / 4, S)
set_option maxRecDepth 100000 in
set_option maxHeartbeats 4000000 in
theorem kX12_groupsOf (l : Launch) (v0 : Int32) : sh_Mi l yX12_groupsOf cX12_groupsOf 1 .int 1 tbX (fun G => [.int v0]) (fun S => fX12_groupsOf S v0) := by
  refine sh_mki (by decide) (fun G => Nat.le_of_ble_eq_true rfl) ?_
  intro p e s m args below meth c G A S res ls hf C hr hw hl
  have C : sh_Cx p s m args meth c cX12_groupsOf 1 RX12 G A := C
  have hl : lv_has ls 1 [(0, .int v0)] := hl
  replace hf : fX12_groupsOf S v0 = some res := hf
  rw [fX12_groupsOf] at hf
  refine lv_iload_n C.1 C.2.1 dX12_groupsOf_0 rfl (lv_at hl 0 rfl) ?_
  refine lv_iconst (v := 4) C.1 C.2.1 dX12_groupsOf_1 (by decide) ?_
  refine lv_iadd C.1 C.2.1 dX12_groupsOf_2 ?_
  refine lv_iconst (v := 1) C.1 C.2.1 dX12_groupsOf_3 (by decide) ?_
  refine lv_isub C.1 C.2.1 dX12_groupsOf_4 ?_
  refine lv_iconst (v := 4) C.1 C.2.1 dX12_groupsOf_5 (by decide) ?_
  refine lv_idiv C.1 C.2.1 dX12_groupsOf_6 (by decide) ?_
  exact sh_ri C hw hr hf dX12_groupsOf_7
def fX13_thrown (S : sh_St) : Option (Int32 × sh_St) :=
    some (S.1 0 0, S)
set_option maxRecDepth 100000 in
set_option maxHeartbeats 4000000 in
theorem kX13_thrown (l : Launch) : sh_Mi l yX13_thrown cX13_thrown 1 .int 1 tbM (fun G => [.ref (G.2.1 0)]) (fun S => fX13_thrown S) := by
  refine sh_mki (by decide) (fun G => Nat.le_of_ble_eq_true rfl) ?_
  intro p e s m args below meth c G A S res ls hf C hr hw hl
  have C : sh_Cx p s m args meth c cX13_thrown 1 RX13 G A := C
  have hl : lv_has ls 1 [(0, .ref (G.2.1 0))] := hl
  replace hf : fX13_thrown S = some res := hf
  rw [fX13_thrown] at hf
  refine lv_aload_n C.1 C.2.1 dX13_thrown_0 rfl (lv_at hl 0 rfl) ?_
  refine sh_geti C hw fl_X13_79 tbM_0 rfl dX13_thrown_1 ?_
  exact sh_ri C hw hr hf dX13_thrown_4
