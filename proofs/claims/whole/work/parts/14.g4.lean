def fX5_gather_60 : Nat → sh_St → Int32 → Option (Unit × sh_St)
  | 0, _, _ => none
  | n + 1, S, v2 =>
    sh_g 0 40 (if (S.1 6 (0 : Int32).toNatClampNeg) ≤ v2 then (some ((), S))
    else (sh_g (0 + v2) 240 (sh_c (fX5_addRowsOf S (S.1 13 (0 + v2).toNatClampNeg)) fun _ S2 =>
    sh_t (v2 + 1) fun y4 =>
    (fX5_gather_60 n) S2 y4)))
set_option maxRecDepth 100000 in
set_option maxHeartbeats 4000000 in
theorem wX5_gather_60 {p : Program} {l : Launch} {e : Env} {s : State} {m : MethodId} {args : Array Value} {below : List Frame} {meth : Method} {c : Code} {G : sh_Ev} {A : Nat → Prop} {res : Unit × sh_St} (C : sh_Cx p s m args meth c cX5_gather 3 RX5 G A) (hr : meth.sig.returnType = none) : ∀ (n : Nat) (S : sh_St) (v2 : Int32), fX5_gather_60 n S v2 = some res → ∀ (H : Heap) (locs : List Loc) (ls : Array Slot), sh_Wx G tbX A s H locs S → lv_has ls 3 [(0, .ref (G.2.1 117)), (1, .ref (G.2.1 4)), (2, .int v2)] → W p l e (sh_rm 2) s m args below meth c H locs 0 0 (sh_Qv below args s G tbX A res) (F0 m 60 ls []) := by
  intro n
  induction n with
  | zero => intro S v2 hf; exact nomatch (show (none : Option (Unit × sh_St)) = some res from hf)
  | succ n ih =>
    intro S v2 hf H locs ls hw hl
    have hr60 := ih
    rw [fX5_gather_60] at hf
    refine lv_iload_n C.1 C.2.1 dX5_gather_60 rfl (lv_at hl 2 rfl) ?_
    refine lv_aload_n C.1 C.2.1 dX5_gather_61 rfl (lv_at hl 1 rfl) ?_
    refine sh_getr C hw fl_X5_34 tbX_4 rfl dX5_gather_62 ?_
    refine lv_iconst (v := 0) C.1 C.2.1 dX5_gather_65 (by decide) ?_
    refine sh_iald C hw hf tbX_6 dX5_gather_66 (fun hf => ?_)
    refine sh_icmp_ge (tgt := 89) C hf dX5_gather_67 (by decide) (fun hf => ?_) (fun hf => ?_)
    · exact sh_rv C hw hr hf dX5_gather_89
    · refine lv_aload_n C.1 C.2.1 dX5_gather_70 rfl (lv_at hl 0 rfl) ?_
      refine lv_aload_n C.1 C.2.1 dX5_gather_71 rfl (lv_at hl 1 rfl) ?_
      refine lv_aload_n C.1 C.2.1 dX5_gather_72 rfl (lv_at hl 1 rfl) ?_
      refine sh_getr C hw fl_X5_37 tbX_4 rfl dX5_gather_73 ?_
      refine lv_iconst (v := 0) C.1 C.2.1 dX5_gather_76 (by decide) ?_
      refine lv_iload_n C.1 C.2.1 dX5_gather_77 rfl (lv_at hl 2 rfl) ?_
      refine lv_iadd C.1 C.2.1 dX5_gather_78 ?_
      refine sh_iald C hw hf tbX_13 dX5_gather_79 (fun hf => ?_)
      refine sh_Vv (As := [.ref (G.2.1 4), .int (S.1 13 (0 + v2).toNatClampNeg)]) (rest := []) C hw (kX5_addRowsOf l (S.1 13 (0 + v2).toNatClampNeg)) yy_X5_addRowsOf yv_X5_addRowsOf ml_X5_30 hf tbX_117 rfl rfl rfl rfl (Nat.le_of_ble_eq_true rfl) (by decide) hl.1 dX5_gather_80 (fun S2 H locs hw hf => ?_)
      obtain ⟨y4, ey4, hf⟩ := sh_nm hf
      refine lv_iinc (v := y4) (lv' := [(2, .int y4), (0, .ref (G.2.1 117)), (1, .ref (G.2.1 4))]) C.1 C.2.1 dX5_gather_83 hl (k := 2) rfl (by rw [← ey4]; rfl) (by decide) rfl (fun ls hl => ?_)
      refine lv_goto (tgt := 60) C.1 C.2.1 dX5_gather_86 (by decide) ?_
      exact hr60 S2 y4 hf _ _ _ hw (lv_sub hl [1, 2, 0] rfl)
def fX5_gather (S : sh_St) : Option (Unit × sh_St) :=
    sh_t (sh_I S 117 3 0) fun S1 =>
    if (S1.1 4 3) = 0 then (sh_g 0 40 (sh_t (sh_I S1 118 (0 : Int32).toNatClampNeg 0) fun S7 =>
    sh_g 0 40 (sh_t (sh_I S7 119 (0 : Int32).toNatClampNeg 0) fun S8 =>
    sh_g 0 40 (sh_t (sh_I S8 120 (0 : Int32).toNatClampNeg 0) fun S9 =>
    sh_t (sh_I S9 117 3 1) fun S10 =>
    some ((), S10)))))
    else (if (S1.1 4 3) = 1 then (sh_c (fX5_addRowsOf S1 0) fun _ S5 =>
    some ((), S5))
    else (fX5_gather_60 sh_FU S1 0))
set_option maxRecDepth 100000 in
set_option maxHeartbeats 4000000 in
theorem kX5_gather (l : Launch) : sh_Mv l yX5_gather cX5_gather 3 2 tbX (fun G => [.ref (G.2.1 117), .ref (G.2.1 4)]) (fun S => fX5_gather S) := by
  refine sh_mkv (by decide) (fun G => Nat.le_of_ble_eq_true rfl) ?_
  intro p e s m args below meth c G A S res ls hf C hr hw hl
  have C : sh_Cx p s m args meth c cX5_gather 3 RX5 G A := C
  have hl : lv_has ls 3 [(0, .ref (G.2.1 117)), (1, .ref (G.2.1 4))] := hl
  replace hf : fX5_gather S = some res := hf
  rw [fX5_gather] at hf
  refine lv_aload_n C.1 C.2.1 dX5_gather_0 rfl (lv_at hl 0 rfl) ?_
  refine lv_iconst (v := 0) C.1 C.2.1 dX5_gather_1 (by decide) ?_
  refine sh_puti C hw fl_X5_21 fp_3_3 hf tbX_117 rfl dX5_gather_2 (fun S1 H locs hw hf => ?_)
  refine lv_aload_n C.1 C.2.1 dX5_gather_5 rfl (lv_at hl 1 rfl) ?_
  refine sh_geti C hw fl_X5_25 tbX_4 rfl dX5_gather_6 ?_
  refine sh_if_ne (tgt := 41) C hf dX5_gather_9 (by decide) (fun hf => ?_) (fun hf => ?_)
  · refine lv_aload_n C.1 C.2.1 dX5_gather_41 rfl (lv_at hl 1 rfl) ?_
    refine sh_geti C hw fl_X5_25 tbX_4 rfl dX5_gather_42 ?_
    refine lv_iconst (v := 1) C.1 C.2.1 dX5_gather_45 (by decide) ?_
    refine sh_icmp_ne (tgt := 58) C hf dX5_gather_46 (by decide) (fun hf => ?_) (fun hf => ?_)
    · refine lv_iconst (v := 0) C.1 C.2.1 dX5_gather_58 (by decide) ?_
      refine lv_istore_n (lv' := [(2, .int 0), (0, .ref (G.2.1 117)), (1, .ref (G.2.1 4))]) C.1 C.2.1 dX5_gather_59 rfl hl (by decide) rfl (fun ls hl => ?_)
      exact wX5_gather_60 C hr _ S1 0 hf _ _ _ hw (lv_sub hl [1, 2, 0] rfl)
    · refine lv_aload_n C.1 C.2.1 dX5_gather_49 rfl (lv_at hl 0 rfl) ?_
      refine lv_aload_n C.1 C.2.1 dX5_gather_50 rfl (lv_at hl 1 rfl) ?_
      refine lv_iconst (v := 0) C.1 C.2.1 dX5_gather_51 (by decide) ?_
      refine sh_Vv (As := [.ref (G.2.1 4), .int 0]) (rest := []) C hw (kX5_addRowsOf l 0) yy_X5_addRowsOf yv_X5_addRowsOf ml_X5_30 hf tbX_117 rfl rfl rfl rfl (Nat.le_of_ble_eq_true rfl) (by decide) hl.1 dX5_gather_52 (fun S5 H locs hw hf => ?_)
      refine lv_goto (tgt := 89) C.1 C.2.1 dX5_gather_55 (by decide) ?_
      exact sh_rv C hw hr hf dX5_gather_89
  · refine lv_aload_n C.1 C.2.1 dX5_gather_12 rfl (lv_at hl 0 rfl) ?_
    refine sh_getr C hw fl_X5_9 tbX_117 rfl dX5_gather_13 ?_
    refine lv_iconst (v := 0) C.1 C.2.1 dX5_gather_16 (by decide) ?_
    refine lv_iconst (v := 0) C.1 C.2.1 dX5_gather_17 (by decide) ?_
    refine sh_iast C hw hf tbX_118 dX5_gather_18 (fun S7 H locs hw hf => ?_)
    refine lv_aload_n C.1 C.2.1 dX5_gather_19 rfl (lv_at hl 0 rfl) ?_
    refine sh_getr C hw fl_X5_15 tbX_117 rfl dX5_gather_20 ?_
    refine lv_iconst (v := 0) C.1 C.2.1 dX5_gather_23 (by decide) ?_
    refine lv_iconst (v := 0) C.1 C.2.1 dX5_gather_24 (by decide) ?_
    refine sh_iast C hw hf tbX_119 dX5_gather_25 (fun S8 H locs hw hf => ?_)
    refine lv_aload_n C.1 C.2.1 dX5_gather_26 rfl (lv_at hl 0 rfl) ?_
    refine sh_getr C hw fl_X5_18 tbX_117 rfl dX5_gather_27 ?_
    refine lv_iconst (v := 0) C.1 C.2.1 dX5_gather_30 (by decide) ?_
    refine lv_iconst (v := 0) C.1 C.2.1 dX5_gather_31 (by decide) ?_
    refine sh_iast C hw hf tbX_120 dX5_gather_32 (fun S9 H locs hw hf => ?_)
    refine lv_aload_n C.1 C.2.1 dX5_gather_33 rfl (lv_at hl 0 rfl) ?_
    refine lv_iconst (v := 1) C.1 C.2.1 dX5_gather_34 (by decide) ?_
    refine sh_puti C hw fl_X5_21 fp_3_3 hf tbX_117 rfl dX5_gather_35 (fun S10 H locs hw hf => ?_)
    refine lv_goto (tgt := 89) C.1 C.2.1 dX5_gather_38 (by decide) ?_
    exact sh_rv C hw hr hf dX5_gather_89
def fX6_add_100 (S : sh_St) (v1 : Int64) (v3 : Int32) (v4 : Int32) (v5 : Int32) : Option (Unit × sh_St) :=
    sh_g v5 240 (sh_t (sh_L S 125 v5.toNatClampNeg v1) fun S3 =>
    sh_g v5 240 (sh_t (sh_I S3 126 v5.toNatClampNeg v3) fun S4 =>
    sh_g v5 240 (sh_t (sh_I S4 127 v5.toNatClampNeg v4) fun S5 =>
    sh_t (sh_I S5 124 3 ((S5.1 124 3) + 1)) fun S6 =>
    some ((), S6))))
set_option maxRecDepth 100000 in
set_option maxHeartbeats 4000000 in
theorem wX6_add_100 {p : Program} {l : Launch} {e : Env} {s : State} {m : MethodId} {args : Array Value} {below : List Frame} {meth : Method} {c : Code} {G : sh_Ev} {A : Nat → Prop} {res : Unit × sh_St} (C : sh_Cx p s m args meth c cX6_add 7 RX6 G A) (hr : meth.sig.returnType = none) : ∀ (S : sh_St) (v1 : Int64) (v3 : Int32) (v4 : Int32) (v5 : Int32), fX6_add_100 S v1 v3 v4 v5 = some res → ∀ (H : Heap) (locs : List Loc) (ls : Array Slot), sh_Wx G tbX A s H locs S → lv_has ls 7 [(0, .ref (G.2.1 124)), (1, .long v1), (3, .int v3), (4, .int v4), (5, .int v5)] → W p l e (sh_rm 2) s m args below meth c H locs 0 0 (sh_Qv below args s G tbX A res) (F0 m 100 ls []) := by
  intro S v1 v3 v4 v5 hf H locs ls hw hl
  rw [fX6_add_100] at hf
  refine lv_aload_n C.1 C.2.1 dX6_add_100 rfl (lv_at hl 0 rfl) ?_
  refine sh_getr C hw fl_X6_9 tbX_124 rfl dX6_add_101 ?_
  refine lv_iload C.1 C.2.1 dX6_add_104 (lv_at hl 4 rfl) ?_
  refine lv_lload_n C.1 C.2.1 dX6_add_106 rfl (lv_at hl 1 rfl) ?_
  refine sh_last C hw hf tbX_125 dX6_add_107 (fun S3 H locs hw hf => ?_)
  refine lv_aload_n C.1 C.2.1 dX6_add_108 rfl (lv_at hl 0 rfl) ?_
  refine sh_getr C hw fl_X6_15 tbX_124 rfl dX6_add_109 ?_
  refine lv_iload C.1 C.2.1 dX6_add_112 (lv_at hl 4 rfl) ?_
  refine lv_iload_n C.1 C.2.1 dX6_add_114 rfl (lv_at hl 2 rfl) ?_
  refine sh_iast C hw hf tbX_126 dX6_add_115 (fun S4 H locs hw hf => ?_)
  refine lv_aload_n C.1 C.2.1 dX6_add_116 rfl (lv_at hl 0 rfl) ?_
  refine sh_getr C hw fl_X6_19 tbX_124 rfl dX6_add_117 ?_
  refine lv_iload C.1 C.2.1 dX6_add_120 (lv_at hl 4 rfl) ?_
  refine lv_iload C.1 C.2.1 dX6_add_122 (lv_at hl 3 rfl) ?_
  refine sh_iast C hw hf tbX_127 dX6_add_124 (fun S5 H locs hw hf => ?_)
  refine lv_aload_n C.1 C.2.1 dX6_add_125 rfl (lv_at hl 0 rfl) ?_
  refine lv_dup C.1 C.2.1 dX6_add_126 rfl ?_
  refine sh_geti C hw fl_X6_22 tbX_124 rfl dX6_add_127 ?_
  refine lv_iconst (v := 1) C.1 C.2.1 dX6_add_130 (by decide) ?_
  refine lv_iadd C.1 C.2.1 dX6_add_131 ?_
  refine sh_puti C hw fl_X6_22 fp_4_3 hf tbX_124 rfl dX6_add_132 (fun S6 H locs hw hf => ?_)
  exact sh_rv C hw hr hf dX6_add_135
def fX6_add_25 : Nat → sh_St → Int64 → Int32 → Int32 → Int32 → Int32 → Option (Unit × sh_St)
  | 0, _, _, _, _, _, _ => none
  | n + 1, S, v1, v3, v4, v5, v6 =>
    if v6 < 0 then (fX6_add_100 S v1 v3 v4 v5)
    else (sh_c (fX6_isAhead S v4 v1 v6) fun r8 S7 =>
    if r8 = 0 then (fX6_add_100 S7 v1 v3 v4 v5)
    else (sh_g v6 240 (sh_g (v6 + 1) 240 (sh_t (sh_L S7 125 (v6 + 1).toNatClampNeg (S7.2 125 v6.toNatClampNeg)) fun S9 =>
    sh_g v6 240 (sh_g (v6 + 1) 240 (sh_t (sh_I S9 126 (v6 + 1).toNatClampNeg (S9.1 126 v6.toNatClampNeg)) fun S10 =>
    sh_g v6 240 (sh_g (v6 + 1) 240 (sh_t (sh_I S10 127 (v6 + 1).toNatClampNeg (S10.1 127 v6.toNatClampNeg)) fun S11 =>
    sh_t (v6 + (-1)) fun y12 =>
    (fX6_add_25 n) S11 v1 v3 v4 v6 y12))))))))
set_option maxRecDepth 100000 in
set_option maxHeartbeats 4000000 in
theorem wX6_add_25 {p : Program} {l : Launch} {e : Env} {s : State} {m : MethodId} {args : Array Value} {below : List Frame} {meth : Method} {c : Code} {G : sh_Ev} {A : Nat → Prop} {res : Unit × sh_St} (C : sh_Cx p s m args meth c cX6_add 7 RX6 G A) (hr : meth.sig.returnType = none) : ∀ (n : Nat) (S : sh_St) (v1 : Int64) (v3 : Int32) (v4 : Int32) (v5 : Int32) (v6 : Int32), fX6_add_25 n S v1 v3 v4 v5 v6 = some res → ∀ (H : Heap) (locs : List Loc) (ls : Array Slot), sh_Wx G tbX A s H locs S → lv_has ls 7 [(0, .ref (G.2.1 124)), (1, .long v1), (3, .int v3), (4, .int v4), (5, .int v5), (6, .int v6)] → W p l e (sh_rm 2) s m args below meth c H locs 0 0 (sh_Qv below args s G tbX A res) (F0 m 25 ls []) := by
  intro n
  induction n with
  | zero => intro S v1 v3 v4 v5 v6 hf; exact nomatch (show (none : Option (Unit × sh_St)) = some res from hf)
  | succ n ih =>
    intro S v1 v3 v4 v5 v6 hf H locs ls hw hl
    have hr25 := ih
    rw [fX6_add_25] at hf
    refine lv_iload C.1 C.2.1 dX6_add_25 (lv_at hl 5 rfl) ?_
    refine sh_if_lt (tgt := 100) C hf dX6_add_27 (by decide) (fun hf => ?_) (fun hf => ?_)
    · exact wX6_add_100 C hr S v1 v3 v4 v5 hf _ _ _ hw (lv_sub hl [0, 1, 2, 3, 4] rfl)
    · refine lv_aload_n C.1 C.2.1 dX6_add_30 rfl (lv_at hl 0 rfl) ?_
      refine lv_iload C.1 C.2.1 dX6_add_31 (lv_at hl 3 rfl) ?_
      refine lv_lload_n C.1 C.2.1 dX6_add_33 rfl (lv_at hl 1 rfl) ?_
      refine lv_iload C.1 C.2.1 dX6_add_34 (lv_at hl 5 rfl) ?_
      refine sh_Vi (As := [.int v4, .long v1, .int v6]) (rest := []) C hw (kX6_isAhead l v4 v1 v6) yy_X6_isAhead yv_X6_isAhead ml_X6_26 hf tbX_124 rfl rfl rfl rfl (Nat.le_of_ble_eq_true rfl) (by decide) hl.1 dX6_add_36 (fun r8 S7 H locs hw hf => ?_)
      refine sh_if_eq (tgt := 100) C hf dX6_add_39 (by decide) (fun hf => ?_) (fun hf => ?_)
      · exact wX6_add_100 C hr S7 v1 v3 v4 v5 hf _ _ _ hw (lv_sub hl [0, 1, 2, 3, 4] rfl)
      · refine lv_aload_n C.1 C.2.1 dX6_add_42 rfl (lv_at hl 0 rfl) ?_
        refine sh_getr C hw fl_X6_9 tbX_124 rfl dX6_add_43 ?_
        refine lv_iload C.1 C.2.1 dX6_add_46 (lv_at hl 5 rfl) ?_
        refine lv_iconst (v := 1) C.1 C.2.1 dX6_add_48 (by decide) ?_
        refine lv_iadd C.1 C.2.1 dX6_add_49 ?_
        refine lv_aload_n C.1 C.2.1 dX6_add_50 rfl (lv_at hl 0 rfl) ?_
        refine sh_getr C hw fl_X6_9 tbX_124 rfl dX6_add_51 ?_
        refine lv_iload C.1 C.2.1 dX6_add_54 (lv_at hl 5 rfl) ?_
        refine sh_lald C hw hf tbX_125 dX6_add_56 (fun hf => ?_)
        refine sh_last C hw hf tbX_125 dX6_add_57 (fun S9 H locs hw hf => ?_)
        refine lv_aload_n C.1 C.2.1 dX6_add_58 rfl (lv_at hl 0 rfl) ?_
        refine sh_getr C hw fl_X6_15 tbX_124 rfl dX6_add_59 ?_
        refine lv_iload C.1 C.2.1 dX6_add_62 (lv_at hl 5 rfl) ?_
        refine lv_iconst (v := 1) C.1 C.2.1 dX6_add_64 (by decide) ?_
        refine lv_iadd C.1 C.2.1 dX6_add_65 ?_
        refine lv_aload_n C.1 C.2.1 dX6_add_66 rfl (lv_at hl 0 rfl) ?_
        refine sh_getr C hw fl_X6_15 tbX_124 rfl dX6_add_67 ?_
        refine lv_iload C.1 C.2.1 dX6_add_70 (lv_at hl 5 rfl) ?_
        refine sh_iald C hw hf tbX_126 dX6_add_72 (fun hf => ?_)
        refine sh_iast C hw hf tbX_126 dX6_add_73 (fun S10 H locs hw hf => ?_)
        refine lv_aload_n C.1 C.2.1 dX6_add_74 rfl (lv_at hl 0 rfl) ?_
        refine sh_getr C hw fl_X6_19 tbX_124 rfl dX6_add_75 ?_
        refine lv_iload C.1 C.2.1 dX6_add_78 (lv_at hl 5 rfl) ?_
        refine lv_iconst (v := 1) C.1 C.2.1 dX6_add_80 (by decide) ?_
        refine lv_iadd C.1 C.2.1 dX6_add_81 ?_
        refine lv_aload_n C.1 C.2.1 dX6_add_82 rfl (lv_at hl 0 rfl) ?_
        refine sh_getr C hw fl_X6_19 tbX_124 rfl dX6_add_83 ?_
        refine lv_iload C.1 C.2.1 dX6_add_86 (lv_at hl 5 rfl) ?_
        refine sh_iald C hw hf tbX_127 dX6_add_88 (fun hf => ?_)
        refine sh_iast C hw hf tbX_127 dX6_add_89 (fun S11 H locs hw hf => ?_)
        refine lv_iload C.1 C.2.1 dX6_add_90 (lv_at hl 5 rfl) ?_
        refine lv_istore (lv' := [(5, .int v6), (0, .ref (G.2.1 124)), (1, .long v1), (3, .int v3), (4, .int v4), (6, .int v6)]) C.1 C.2.1 dX6_add_92 hl (by decide) rfl (fun ls hl => ?_)
        obtain ⟨y12, ey12, hf⟩ := sh_nm hf
        refine lv_iinc (v := y12) (lv' := [(6, .int y12), (5, .int v6), (0, .ref (G.2.1 124)), (1, .long v1), (3, .int v3), (4, .int v4)]) C.1 C.2.1 dX6_add_94 hl (k := 5) rfl (by rw [← ey12]; rfl) (by decide) rfl (fun ls hl => ?_)
        refine lv_goto (tgt := 25) C.1 C.2.1 dX6_add_97 (by decide) ?_
        exact hr25 S11 v1 v3 v4 v6 y12 hf _ _ _ hw (lv_sub hl [2, 3, 4, 5, 1, 0] rfl)
def fX6_add (S : sh_St) (v1 : Int64) (v3 : Int32) (v4 : Int32) : Option (Unit × sh_St) :=
    if (S.1 124 3) < 240 then (sh_t (S.1 124 3) fun y1 =>
    sh_t ((S.1 124 3) - 1) fun y2 =>
    fX6_add_25 sh_FU S v1 v3 v4 y1 y2)
    else (some ((), S))
set_option maxRecDepth 100000 in
set_option maxHeartbeats 4000000 in
theorem kX6_add (l : Launch) (v1 : Int64) (v3 : Int32) (v4 : Int32) : sh_Mv l yX6_add cX6_add 7 2 tbX (fun G => [.ref (G.2.1 124), .long v1, .int v3, .int v4]) (fun S => fX6_add S v1 v3 v4) := by
  refine sh_mkv (by decide) (fun G => Nat.le_of_ble_eq_true rfl) ?_
  intro p e s m args below meth c G A S res ls hf C hr hw hl
  have C : sh_Cx p s m args meth c cX6_add 7 RX6 G A := C
  have hl : lv_has ls 7 [(0, .ref (G.2.1 124)), (1, .long v1), (3, .int v3), (4, .int v4)] := hl
  replace hf : fX6_add S v1 v3 v4 = some res := hf
  rw [fX6_add] at hf
  refine lv_aload_n C.1 C.2.1 dX6_add_0 rfl (lv_at hl 0 rfl) ?_
  refine sh_geti C hw fl_X6_22 tbX_124 rfl dX6_add_1 ?_
  refine lv_sipush (v := 240) C.1 C.2.1 dX6_add_4 (by decide) ?_
  refine sh_icmp_lt (tgt := 11) C hf dX6_add_7 (by decide) (fun hf => ?_) (fun hf => ?_)
  · refine lv_aload_n C.1 C.2.1 dX6_add_11 rfl (lv_at hl 0 rfl) ?_
    refine sh_geti C hw fl_X6_22 tbX_124 rfl dX6_add_12 ?_
    refine sh_ni hf (fun y1 hf => ?_)
    refine lv_istore (lv' := [(5, .int y1), (0, .ref (G.2.1 124)), (1, .long v1), (3, .int v3), (4, .int v4)]) C.1 C.2.1 dX6_add_15 hl (by decide) rfl (fun ls hl => ?_)
    refine lv_aload_n C.1 C.2.1 dX6_add_17 rfl (lv_at hl 1 rfl) ?_
    refine sh_geti C hw fl_X6_22 tbX_124 rfl dX6_add_18 ?_
    refine lv_iconst (v := 1) C.1 C.2.1 dX6_add_21 (by decide) ?_
    refine lv_isub C.1 C.2.1 dX6_add_22 ?_
    refine sh_ni hf (fun y2 hf => ?_)
    refine lv_istore (lv' := [(6, .int y2), (5, .int y1), (0, .ref (G.2.1 124)), (1, .long v1), (3, .int v3), (4, .int v4)]) C.1 C.2.1 dX6_add_23 hl (by decide) rfl (fun ls hl => ?_)
    exact wX6_add_25 C hr _ S v1 v3 v4 y1 y2 hf _ _ _ hw (lv_sub hl [2, 3, 4, 5, 1, 0] rfl)
  · exact sh_rv C hw hr hf dX6_add_10
def fX7_hashOf (S : sh_St) (v1 : Int64) : Option (Int32 × sh_St) :=
    sh_c (fX12_hashBy S v1 (S.1 4 1) (S.1 4 0) (S.1 4 2)) fun r2 S1 =>
    some (r2, S1)
set_option maxRecDepth 100000 in
set_option maxHeartbeats 4000000 in
theorem kX7_hashOf (l : Launch) (v1 : Int64) : sh_Mi l yX7_hashOf cX7_hashOf 3 .int 3 tbX (fun G => [.ref (G.2.1 4), .long v1]) (fun S => fX7_hashOf S v1) := by
  refine sh_mki (by decide) (fun G => Nat.le_of_ble_eq_true rfl) ?_
  intro p e s m args below meth c G A S res ls hf C hr hw hl
  have C : sh_Cx p s m args meth c cX7_hashOf 3 RX7 G A := C
  have hl : lv_has ls 3 [(0, .ref (G.2.1 4)), (1, .long v1)] := hl
  replace hf : fX7_hashOf S v1 = some res := hf
  rw [fX7_hashOf] at hf
  refine lv_lload_n C.1 C.2.1 dX7_hashOf_0 rfl (lv_at hl 1 rfl) ?_
  refine lv_aload_n C.1 C.2.1 dX7_hashOf_1 rfl (lv_at hl 0 rfl) ?_
  refine sh_geti C hw fl_X7_15 tbX_4 rfl dX7_hashOf_2 ?_
  refine lv_aload_n C.1 C.2.1 dX7_hashOf_5 rfl (lv_at hl 0 rfl) ?_
  refine sh_geti C hw fl_X7_9 tbX_4 rfl dX7_hashOf_6 ?_
  refine lv_aload_n C.1 C.2.1 dX7_hashOf_9 rfl (lv_at hl 0 rfl) ?_
  refine sh_geti C hw fl_X7_18 tbX_4 rfl dX7_hashOf_10 ?_
  refine sh_Ni (As := [.long v1, .int (S.1 4 1), .int (S.1 4 0), .int (S.1 4 2)]) (rest := []) C hw (kX12_hashBy l v1 (S.1 4 1) (S.1 4 0) (S.1 4 2)) yy_X12_hashBy ys_X12_hashBy nl_X7_60 hf rfl rfl rfl (Nat.le_of_ble_eq_true rfl) (by decide) hl.1 dX7_hashOf_13 (fun r2 S1 H locs hw hf => ?_)
  exact sh_ri C hw hr hf dX7_hashOf_16
def fX7_insertRow_18 : Nat → sh_St → Int32 → Int32 → Int32 → Int32 → Int32 → Int32 → Int32 → Option (Unit × sh_St)
  | 0, _, _, _, _, _, _, _, _ => none
  | n + 1, S, v1, v2, v3, v4, v5, v6, v7 =>
    if v7 ≤ v2 then (sh_g (v6 + v2) 240 (sh_t (sh_I S 11 (v6 + v2).toNatClampNeg v3) fun S3 =>
    sh_g (v6 + v2) 240 (sh_t (sh_I S3 12 (v6 + v2).toNatClampNeg v4) fun S4 =>
    sh_g (v6 + v2) 240 (sh_t (sh_I S4 13 (v6 + v2).toNatClampNeg v5) fun S5 =>
    sh_g v1 40 (sh_g v1 40 (sh_t (sh_I S5 6 v1.toNatClampNeg (if 6 < ((S5.1 6 v1.toNatClampNeg) + 1) then 6 else ((S5.1 6 v1.toNatClampNeg) + 1))) fun S6 =>
    some ((), S6)))))))
    else (sh_c (fX7_copyRow S ((v6 + v7) - 1) (v6 + v7)) fun _ S7 =>
    sh_t (v7 + (-1)) fun y9 =>
    (fX7_insertRow_18 n) S7 v1 v2 v3 v4 v5 v6 y9)
set_option maxRecDepth 100000 in
set_option maxHeartbeats 4000000 in
theorem wX7_insertRow_18 {p : Program} {l : Launch} {e : Env} {s : State} {m : MethodId} {args : Array Value} {below : List Frame} {meth : Method} {c : Code} {G : sh_Ev} {A : Nat → Prop} {res : Unit × sh_St} (C : sh_Cx p s m args meth c cX7_insertRow 8 RX7 G A) (hr : meth.sig.returnType = none) : ∀ (n : Nat) (S : sh_St) (v1 : Int32) (v2 : Int32) (v3 : Int32) (v4 : Int32) (v5 : Int32) (v6 : Int32) (v7 : Int32), fX7_insertRow_18 n S v1 v2 v3 v4 v5 v6 v7 = some res → ∀ (H : Heap) (locs : List Loc) (ls : Array Slot), sh_Wx G tbX A s H locs S → lv_has ls 8 [(0, .ref (G.2.1 4)), (1, .int v1), (2, .int v2), (3, .int v3), (4, .int v4), (5, .int v5), (6, .int v6), (7, .int v7)] → W p l e (sh_rm 2) s m args below meth c H locs 0 0 (sh_Qv below args s G tbX A res) (F0 m 18 ls []) := by
  intro n
  induction n with
  | zero => intro S v1 v2 v3 v4 v5 v6 v7 hf; exact nomatch (show (none : Option (Unit × sh_St)) = some res from hf)
  | succ n ih =>
    intro S v1 v2 v3 v4 v5 v6 v7 hf H locs ls hw hl
    have hr18 := ih
    rw [fX7_insertRow_18] at hf
    refine lv_iload C.1 C.2.1 dX7_insertRow_18 (lv_at hl 7 rfl) ?_
    refine lv_iload_n C.1 C.2.1 dX7_insertRow_20 rfl (lv_at hl 2 rfl) ?_
    refine sh_icmp_le (tgt := 46) C hf dX7_insertRow_21 (by decide) (fun hf => ?_) (fun hf => ?_)
    · refine lv_aload_n C.1 C.2.1 dX7_insertRow_46 rfl (lv_at hl 0 rfl) ?_
      refine sh_getr C hw fl_X7_45 tbX_4 rfl dX7_insertRow_47 ?_
      refine lv_iload C.1 C.2.1 dX7_insertRow_50 (lv_at hl 6 rfl) ?_
      refine lv_iload_n C.1 C.2.1 dX7_insertRow_52 rfl (lv_at hl 2 rfl) ?_
      refine lv_iadd C.1 C.2.1 dX7_insertRow_53 ?_
      refine lv_iload_n C.1 C.2.1 dX7_insertRow_54 rfl (lv_at hl 3 rfl) ?_
      refine sh_iast C hw hf tbX_11 dX7_insertRow_55 (fun S3 H locs hw hf => ?_)
      refine lv_aload_n C.1 C.2.1 dX7_insertRow_56 rfl (lv_at hl 0 rfl) ?_
      refine sh_getr C hw fl_X7_48 tbX_4 rfl dX7_insertRow_57 ?_
      refine lv_iload C.1 C.2.1 dX7_insertRow_60 (lv_at hl 6 rfl) ?_
      refine lv_iload_n C.1 C.2.1 dX7_insertRow_62 rfl (lv_at hl 2 rfl) ?_
      refine lv_iadd C.1 C.2.1 dX7_insertRow_63 ?_
      refine lv_iload C.1 C.2.1 dX7_insertRow_64 (lv_at hl 4 rfl) ?_
      refine sh_iast C hw hf tbX_12 dX7_insertRow_66 (fun S4 H locs hw hf => ?_)
      refine lv_aload_n C.1 C.2.1 dX7_insertRow_67 rfl (lv_at hl 0 rfl) ?_
      refine sh_getr C hw fl_X7_51 tbX_4 rfl dX7_insertRow_68 ?_
      refine lv_iload C.1 C.2.1 dX7_insertRow_71 (lv_at hl 6 rfl) ?_
      refine lv_iload_n C.1 C.2.1 dX7_insertRow_73 rfl (lv_at hl 2 rfl) ?_
      refine lv_iadd C.1 C.2.1 dX7_insertRow_74 ?_
      refine lv_iload C.1 C.2.1 dX7_insertRow_75 (lv_at hl 5 rfl) ?_
      refine sh_iast C hw hf tbX_13 dX7_insertRow_77 (fun S5 H locs hw hf => ?_)
      refine lv_aload_n C.1 C.2.1 dX7_insertRow_78 rfl (lv_at hl 0 rfl) ?_
      refine sh_getr C hw fl_X7_29 tbX_4 rfl dX7_insertRow_79 ?_
      refine lv_iload_n C.1 C.2.1 dX7_insertRow_82 rfl (lv_at hl 1 rfl) ?_
      refine lv_aload_n C.1 C.2.1 dX7_insertRow_83 rfl (lv_at hl 0 rfl) ?_
      refine sh_getr C hw fl_X7_29 tbX_4 rfl dX7_insertRow_84 ?_
      refine lv_iload_n C.1 C.2.1 dX7_insertRow_87 rfl (lv_at hl 1 rfl) ?_
      refine sh_iald C hw hf tbX_6 dX7_insertRow_88 (fun hf => ?_)
      refine lv_iconst (v := 1) C.1 C.2.1 dX7_insertRow_89 (by decide) ?_
      refine lv_iadd C.1 C.2.1 dX7_insertRow_90 ?_
      refine lv_bipush (v := 6) C.1 C.2.1 dX7_insertRow_91 (by decide) ?_
      refine sh_min C ml_X7_76 mb_min (by decide) hl.1 (Nat.le_of_ble_eq_true rfl) dX7_insertRow_93 ?_
      refine sh_iast C hw hf tbX_6 dX7_insertRow_96 (fun S6 H locs hw hf => ?_)
      exact sh_rv C hw hr hf dX7_insertRow_97
    · refine lv_aload_n C.1 C.2.1 dX7_insertRow_24 rfl (lv_at hl 0 rfl) ?_
      refine lv_iload C.1 C.2.1 dX7_insertRow_25 (lv_at hl 6 rfl) ?_
      refine lv_iload C.1 C.2.1 dX7_insertRow_27 (lv_at hl 7 rfl) ?_
      refine lv_iadd C.1 C.2.1 dX7_insertRow_29 ?_
      refine lv_iconst (v := 1) C.1 C.2.1 dX7_insertRow_30 (by decide) ?_
      refine lv_isub C.1 C.2.1 dX7_insertRow_31 ?_
      refine lv_iload C.1 C.2.1 dX7_insertRow_32 (lv_at hl 6 rfl) ?_
      refine lv_iload C.1 C.2.1 dX7_insertRow_34 (lv_at hl 7 rfl) ?_
      refine lv_iadd C.1 C.2.1 dX7_insertRow_36 ?_
      refine sh_Vv (As := [.int ((v6 + v7) - 1), .int (v6 + v7)]) (rest := []) C hw (kX7_copyRow l ((v6 + v7) - 1) (v6 + v7)) yy_X7_copyRow yv_X7_copyRow ml_X7_82 hf tbX_4 rfl rfl rfl rfl (Nat.le_of_ble_eq_true rfl) (by decide) hl.1 dX7_insertRow_37 (fun S7 H locs hw hf => ?_)
      obtain ⟨y9, ey9, hf⟩ := sh_nm hf
      refine lv_iinc (v := y9) (lv' := [(7, .int y9), (0, .ref (G.2.1 4)), (1, .int v1), (2, .int v2), (3, .int v3), (4, .int v4), (5, .int v5), (6, .int v6)]) C.1 C.2.1 dX7_insertRow_40 hl (k := 7) rfl (by rw [← ey9]; rfl) (by decide) rfl (fun ls hl => ?_)
      refine lv_goto (tgt := 18) C.1 C.2.1 dX7_insertRow_43 (by decide) ?_
      exact hr18 S7 v1 v2 v3 v4 v5 v6 y9 hf _ _ _ hw (lv_sub hl [1, 2, 3, 4, 5, 6, 7, 0] rfl)
def fX7_insertRow (S : sh_St) (v1 : Int32) (v2 : Int32) (v3 : Int32) (v4 : Int32) (v5 : Int32) : Option (Unit × sh_St) :=
    sh_t (v1 * 6) fun y1 =>
    sh_g v1 40 (sh_t (if 5 < (S.1 6 v1.toNatClampNeg) then 5 else (S.1 6 v1.toNatClampNeg)) fun y2 =>
    fX7_insertRow_18 sh_FU S v1 v2 v3 v4 v5 y1 y2)
set_option maxRecDepth 100000 in
set_option maxHeartbeats 4000000 in
theorem kX7_insertRow (l : Launch) (v1 : Int32) (v2 : Int32) (v3 : Int32) (v4 : Int32) (v5 : Int32) : sh_Mv l yX7_insertRow cX7_insertRow 8 2 tbX (fun G => [.ref (G.2.1 4), .int v1, .int v2, .int v3, .int v4, .int v5]) (fun S => fX7_insertRow S v1 v2 v3 v4 v5) := by
  refine sh_mkv (by decide) (fun G => Nat.le_of_ble_eq_true rfl) ?_
  intro p e s m args below meth c G A S res ls hf C hr hw hl
  have C : sh_Cx p s m args meth c cX7_insertRow 8 RX7 G A := C
  have hl : lv_has ls 8 [(0, .ref (G.2.1 4)), (1, .int v1), (2, .int v2), (3, .int v3), (4, .int v4), (5, .int v5)] := hl
  replace hf : fX7_insertRow S v1 v2 v3 v4 v5 = some res := hf
  rw [fX7_insertRow] at hf
  refine lv_iload_n C.1 C.2.1 dX7_insertRow_0 rfl (lv_at hl 1 rfl) ?_
  refine lv_bipush (v := 6) C.1 C.2.1 dX7_insertRow_1 (by decide) ?_
  refine lv_imul C.1 C.2.1 dX7_insertRow_3 ?_
  refine sh_ni hf (fun y1 hf => ?_)
  refine lv_istore (lv' := [(6, .int y1), (0, .ref (G.2.1 4)), (1, .int v1), (2, .int v2), (3, .int v3), (4, .int v4), (5, .int v5)]) C.1 C.2.1 dX7_insertRow_4 hl (by decide) rfl (fun ls hl => ?_)
  refine lv_aload_n C.1 C.2.1 dX7_insertRow_6 rfl (lv_at hl 1 rfl) ?_
  refine sh_getr C hw fl_X7_29 tbX_4 rfl dX7_insertRow_7 ?_
  refine lv_iload_n C.1 C.2.1 dX7_insertRow_10 rfl (lv_at hl 2 rfl) ?_
  refine sh_iald C hw hf tbX_6 dX7_insertRow_11 (fun hf => ?_)
  refine lv_iconst (v := 5) C.1 C.2.1 dX7_insertRow_12 (by decide) ?_
  refine sh_min C ml_X7_76 mb_min (by decide) hl.1 (Nat.le_of_ble_eq_true rfl) dX7_insertRow_13 ?_
  refine sh_ni hf (fun y2 hf => ?_)
  refine lv_istore (lv' := [(7, .int y2), (6, .int y1), (0, .ref (G.2.1 4)), (1, .int v1), (2, .int v2), (3, .int v3), (4, .int v4), (5, .int v5)]) C.1 C.2.1 dX7_insertRow_16 hl (by decide) rfl (fun ls hl => ?_)
  exact wX7_insertRow_18 C hr _ S v1 v2 v3 v4 v5 y1 y2 hf _ _ _ hw (lv_sub hl [2, 3, 4, 5, 6, 7, 1, 0] rfl)
def fX7_raiseRoot_3 : Nat → sh_St → Int32 → Int32 → Int32 → Int32 → Int32 → Option (Unit × sh_St)
  | 0, _, _, _, _, _, _ => none
  | n + 1, S, v1, v2, v3, v4, v5 =>
    if 6 ≤ v5 then (sh_g 0 40 (sh_t (sh_I S 5 (0 : Int32).toNatClampNeg 2) fun S1 =>
    sh_g 0 40 (sh_t (sh_I S1 6 (0 : Int32).toNatClampNeg 0) fun S2 =>
    sh_c (fX7_insertRow S2 0 0 0 0 v1) fun _ S3 =>
    sh_c (fX7_insertRow S3 0 1 v3 v4 v2) fun _ S5 =>
    sh_t (sh_I S5 4 3 ((S5.1 4 3) + 1)) fun S7 =>
    some ((), S7))))
    else (sh_g (0 + v5) 240 (sh_t (sh_L S 8 (0 + v5).toNatClampNeg 0) fun S8 =>
    sh_t (v5 + 1) fun y9 =>
    (fX7_raiseRoot_3 n) S8 v1 v2 v3 v4 y9))
set_option maxRecDepth 100000 in
set_option maxHeartbeats 4000000 in
theorem wX7_raiseRoot_3 {p : Program} {l : Launch} {e : Env} {s : State} {m : MethodId} {args : Array Value} {below : List Frame} {meth : Method} {c : Code} {G : sh_Ev} {A : Nat → Prop} {res : Unit × sh_St} (C : sh_Cx p s m args meth c cX7_raiseRoot 6 RX7 G A) (hr : meth.sig.returnType = none) : ∀ (n : Nat) (S : sh_St) (v1 : Int32) (v2 : Int32) (v3 : Int32) (v4 : Int32) (v5 : Int32), fX7_raiseRoot_3 n S v1 v2 v3 v4 v5 = some res → ∀ (H : Heap) (locs : List Loc) (ls : Array Slot), sh_Wx G tbX A s H locs S → lv_has ls 6 [(0, .ref (G.2.1 4)), (1, .int v1), (2, .int v2), (3, .int v3), (4, .int v4), (5, .int v5)] → W p l e (sh_rm 3) s m args below meth c H locs 0 0 (sh_Qv below args s G tbX A res) (F0 m 3 ls []) := by
  intro n
  induction n with
  | zero => intro S v1 v2 v3 v4 v5 hf; exact nomatch (show (none : Option (Unit × sh_St)) = some res from hf)
  | succ n ih =>
    intro S v1 v2 v3 v4 v5 hf H locs ls hw hl
    have hr3 := ih
    rw [fX7_raiseRoot_3] at hf
    refine lv_iload C.1 C.2.1 dX7_raiseRoot_3 (lv_at hl 5 rfl) ?_
    refine lv_bipush (v := 6) C.1 C.2.1 dX7_raiseRoot_5 (by decide) ?_
    refine sh_icmp_ge (tgt := 26) C hf dX7_raiseRoot_7 (by decide) (fun hf => ?_) (fun hf => ?_)
    · refine lv_aload_n C.1 C.2.1 dX7_raiseRoot_26 rfl (lv_at hl 0 rfl) ?_
      refine sh_getr C hw fl_X7_25 tbX_4 rfl dX7_raiseRoot_27 ?_
      refine lv_iconst (v := 0) C.1 C.2.1 dX7_raiseRoot_30 (by decide) ?_
      refine lv_iconst (v := 2) C.1 C.2.1 dX7_raiseRoot_31 (by decide) ?_
      refine sh_iast C hw hf tbX_5 dX7_raiseRoot_32 (fun S1 H locs hw hf => ?_)
      refine lv_aload_n C.1 C.2.1 dX7_raiseRoot_33 rfl (lv_at hl 0 rfl) ?_
      refine sh_getr C hw fl_X7_29 tbX_4 rfl dX7_raiseRoot_34 ?_
      refine lv_iconst (v := 0) C.1 C.2.1 dX7_raiseRoot_37 (by decide) ?_
      refine lv_iconst (v := 0) C.1 C.2.1 dX7_raiseRoot_38 (by decide) ?_
      refine sh_iast C hw hf tbX_6 dX7_raiseRoot_39 (fun S2 H locs hw hf => ?_)
      refine lv_aload_n C.1 C.2.1 dX7_raiseRoot_40 rfl (lv_at hl 0 rfl) ?_
      refine lv_iconst (v := 0) C.1 C.2.1 dX7_raiseRoot_41 (by decide) ?_
      refine lv_iconst (v := 0) C.1 C.2.1 dX7_raiseRoot_42 (by decide) ?_
      refine lv_iconst (v := 0) C.1 C.2.1 dX7_raiseRoot_43 (by decide) ?_
      refine lv_iconst (v := 0) C.1 C.2.1 dX7_raiseRoot_44 (by decide) ?_
      refine lv_iload_n C.1 C.2.1 dX7_raiseRoot_45 rfl (lv_at hl 1 rfl) ?_
      refine sh_Vv (As := [.int 0, .int 0, .int 0, .int 0, .int v1]) (rest := []) C hw (kX7_insertRow l 0 0 0 0 v1) yy_X7_insertRow yv_X7_insertRow ml_X7_86 hf tbX_4 rfl rfl rfl rfl (Nat.le_of_ble_eq_true rfl) (by decide) hl.1 dX7_raiseRoot_46 (fun S3 H locs hw hf => ?_)
      refine lv_aload_n C.1 C.2.1 dX7_raiseRoot_49 rfl (lv_at hl 0 rfl) ?_
      refine lv_iconst (v := 0) C.1 C.2.1 dX7_raiseRoot_50 (by decide) ?_
      refine lv_iconst (v := 1) C.1 C.2.1 dX7_raiseRoot_51 (by decide) ?_
      refine lv_iload_n C.1 C.2.1 dX7_raiseRoot_52 rfl (lv_at hl 3 rfl) ?_
      refine lv_iload C.1 C.2.1 dX7_raiseRoot_53 (lv_at hl 4 rfl) ?_
      refine lv_iload_n C.1 C.2.1 dX7_raiseRoot_55 rfl (lv_at hl 2 rfl) ?_
      refine sh_Vv (As := [.int 0, .int 1, .int v3, .int v4, .int v2]) (rest := []) C hw (kX7_insertRow l 0 1 v3 v4 v2) yy_X7_insertRow yv_X7_insertRow ml_X7_86 hf tbX_4 rfl rfl rfl rfl (Nat.le_of_ble_eq_true rfl) (by decide) hl.1 dX7_raiseRoot_56 (fun S5 H locs hw hf => ?_)
      refine lv_aload_n C.1 C.2.1 dX7_raiseRoot_59 rfl (lv_at hl 0 rfl) ?_
      refine lv_dup C.1 C.2.1 dX7_raiseRoot_60 rfl ?_
      refine sh_geti C hw fl_X7_22 tbX_4 rfl dX7_raiseRoot_61 ?_
      refine lv_iconst (v := 1) C.1 C.2.1 dX7_raiseRoot_64 (by decide) ?_
      refine lv_iadd C.1 C.2.1 dX7_raiseRoot_65 ?_
      refine sh_puti C hw fl_X7_22 fp_5_3 hf tbX_4 rfl dX7_raiseRoot_66 (fun S7 H locs hw hf => ?_)
      exact sh_rv C hw hr hf dX7_raiseRoot_69
    · refine lv_aload_n C.1 C.2.1 dX7_raiseRoot_10 rfl (lv_at hl 0 rfl) ?_
      refine sh_getr C hw fl_X7_35 tbX_4 rfl dX7_raiseRoot_11 ?_
      refine lv_iconst (v := 0) C.1 C.2.1 dX7_raiseRoot_14 (by decide) ?_
      refine lv_iload C.1 C.2.1 dX7_raiseRoot_15 (lv_at hl 5 rfl) ?_
      refine lv_iadd C.1 C.2.1 dX7_raiseRoot_17 ?_
      refine lv_lconst (v := 0) C.1 C.2.1 dX7_raiseRoot_18 (by decide) ?_
      refine sh_last C hw hf tbX_8 dX7_raiseRoot_19 (fun S8 H locs hw hf => ?_)
      obtain ⟨y9, ey9, hf⟩ := sh_nm hf
      refine lv_iinc (v := y9) (lv' := [(5, .int y9), (0, .ref (G.2.1 4)), (1, .int v1), (2, .int v2), (3, .int v3), (4, .int v4)]) C.1 C.2.1 dX7_raiseRoot_20 hl (k := 5) rfl (by rw [← ey9]; rfl) (by decide) rfl (fun ls hl => ?_)
      refine lv_goto (tgt := 3) C.1 C.2.1 dX7_raiseRoot_23 (by decide) ?_
      exact hr3 S8 v1 v2 v3 v4 y9 hf _ _ _ hw (lv_sub hl [1, 2, 3, 4, 5, 0] rfl)
def fX7_raiseRoot (S : sh_St) (v1 : Int32) (v2 : Int32) (v3 : Int32) (v4 : Int32) : Option (Unit × sh_St) :=
    fX7_raiseRoot_3 sh_FU S v1 v2 v3 v4 0
set_option maxRecDepth 100000 in
set_option maxHeartbeats 4000000 in
theorem kX7_raiseRoot (l : Launch) (v1 : Int32) (v2 : Int32) (v3 : Int32) (v4 : Int32) : sh_Mv l yX7_raiseRoot cX7_raiseRoot 6 3 tbX (fun G => [.ref (G.2.1 4), .int v1, .int v2, .int v3, .int v4]) (fun S => fX7_raiseRoot S v1 v2 v3 v4) := by
  refine sh_mkv (by decide) (fun G => Nat.le_of_ble_eq_true rfl) ?_
  intro p e s m args below meth c G A S res ls hf C hr hw hl
  have C : sh_Cx p s m args meth c cX7_raiseRoot 6 RX7 G A := C
  have hl : lv_has ls 6 [(0, .ref (G.2.1 4)), (1, .int v1), (2, .int v2), (3, .int v3), (4, .int v4)] := hl
  replace hf : fX7_raiseRoot S v1 v2 v3 v4 = some res := hf
  rw [fX7_raiseRoot] at hf
  refine lv_iconst (v := 0) C.1 C.2.1 dX7_raiseRoot_0 (by decide) ?_
  refine lv_istore (lv' := [(5, .int 0), (0, .ref (G.2.1 4)), (1, .int v1), (2, .int v2), (3, .int v3), (4, .int v4)]) C.1 C.2.1 dX7_raiseRoot_1 hl (by decide) rfl (fun ls hl => ?_)
  exact wX7_raiseRoot_3 C hr _ S v1 v2 v3 v4 0 hf _ _ _ hw (lv_sub hl [1, 2, 3, 4, 5, 0] rfl)
def fX8_tallyBy_114 (rk35 : sh_St → Int32 → Int32 → Option (Unit × sh_St)) (S : sh_St) (v1 : Int32) (v2 : Int32) : Option (Unit × sh_St) :=
    sh_t (v2 + 1) fun y2 =>
    rk35 S v1 y2
set_option maxRecDepth 100000 in
set_option maxHeartbeats 4000000 in
theorem wX8_tallyBy_114 {p : Program} {l : Launch} {e : Env} {s : State} {m : MethodId} {args : Array Value} {below : List Frame} {meth : Method} {c : Code} {G : sh_Ev} {A : Nat → Prop} {res : Unit × sh_St} (C : sh_Cx p s m args meth c cX8_tallyBy 4 RX8 G A) (hr : meth.sig.returnType = none) (rk35 : sh_St → Int32 → Int32 → Option (Unit × sh_St)) (hr35 : ∀ (S : sh_St) (v1 : Int32) (v2 : Int32), rk35 S v1 v2 = some res → ∀ (H : Heap) (locs : List Loc) (ls : Array Slot), sh_Wx G tbX A s H locs S → lv_has ls 4 [(0, .ref (G.2.1 128)), (1, .int v1), (2, .int v2)] → W p l e (sh_rm 3) s m args below meth c H locs 0 0 (sh_Qv below args s G tbX A res) (F0 m 35 ls [])) : ∀ (S : sh_St) (v1 : Int32) (v2 : Int32), fX8_tallyBy_114 rk35 S v1 v2 = some res → ∀ (H : Heap) (locs : List Loc) (ls : Array Slot), sh_Wx G tbX A s H locs S → lv_has ls 4 [(0, .ref (G.2.1 128)), (1, .int v1), (2, .int v2)] → W p l e (sh_rm 3) s m args below meth c H locs 0 0 (sh_Qv below args s G tbX A res) (F0 m 114 ls []) := by
  intro S v1 v2 hf H locs ls hw hl
  rw [fX8_tallyBy_114] at hf
  obtain ⟨y2, ey2, hf⟩ := sh_nm hf
  refine lv_iinc (v := y2) (lv' := [(2, .int y2), (0, .ref (G.2.1 128)), (1, .int v1)]) C.1 C.2.1 dX8_tallyBy_114 hl (k := 2) rfl (by rw [← ey2]; rfl) (by decide) rfl (fun ls hl => ?_)
  refine lv_goto (tgt := 35) C.1 C.2.1 dX8_tallyBy_117 (by decide) ?_
  exact hr35 S v1 y2 hf _ _ _ hw (lv_sub hl [1, 2, 0] rfl)
def fX8_tallyBy_35 : Nat → sh_St → Int32 → Int32 → Option (Unit × sh_St)
  | 0, _, _, _ => none
  | n + 1, S, v1, v2 =>
    if 240 ≤ v2 then (some ((), S))
    else (sh_g v2 240 (if (S.2 8 v2.toNatClampNeg) = 0 then (fX8_tallyBy_114 (fX8_tallyBy_35 n) S v1 v2)
    else (sh_g v2 240 (sh_c (fX12_hashBy S (S.2 8 v2.toNatClampNeg) v1 (S.1 4 0) (S.1 4 2)) fun r4 S3 =>
    sh_g r4 4096 (sh_g r4 4096 (sh_t (sh_I S3 129 r4.toNatClampNeg ((S3.1 129 r4.toNatClampNeg) + 1)) fun S5 =>
    sh_g (S5.1 128 4) 240 (sh_t (sh_I S5 130 (S5.1 128 4).toNatClampNeg r4) fun S6 =>
    sh_t (sh_I S6 128 4 ((S6.1 128 4) + 1)) fun S7 =>
    fX8_tallyBy_114 (fX8_tallyBy_35 n) S7 v1 v2)))))))
set_option maxRecDepth 100000 in
set_option maxHeartbeats 4000000 in
theorem wX8_tallyBy_35 {p : Program} {l : Launch} {e : Env} {s : State} {m : MethodId} {args : Array Value} {below : List Frame} {meth : Method} {c : Code} {G : sh_Ev} {A : Nat → Prop} {res : Unit × sh_St} (C : sh_Cx p s m args meth c cX8_tallyBy 4 RX8 G A) (hr : meth.sig.returnType = none) : ∀ (n : Nat) (S : sh_St) (v1 : Int32) (v2 : Int32), fX8_tallyBy_35 n S v1 v2 = some res → ∀ (H : Heap) (locs : List Loc) (ls : Array Slot), sh_Wx G tbX A s H locs S → lv_has ls 4 [(0, .ref (G.2.1 128)), (1, .int v1), (2, .int v2)] → W p l e (sh_rm 3) s m args below meth c H locs 0 0 (sh_Qv below args s G tbX A res) (F0 m 35 ls []) := by
  intro n
  induction n with
  | zero => intro S v1 v2 hf; exact nomatch (show (none : Option (Unit × sh_St)) = some res from hf)
  | succ n ih =>
    intro S v1 v2 hf H locs ls hw hl
    have hr35 := ih
    rw [fX8_tallyBy_35] at hf
    refine lv_iload_n C.1 C.2.1 dX8_tallyBy_35 rfl (lv_at hl 2 rfl) ?_
    refine lv_sipush (v := 240) C.1 C.2.1 dX8_tallyBy_36 (by decide) ?_
    refine sh_icmp_ge (tgt := 120) C hf dX8_tallyBy_39 (by decide) (fun hf => ?_) (fun hf => ?_)
    · exact sh_rv C hw hr hf dX8_tallyBy_120
    · refine lv_aload_n C.1 C.2.1 dX8_tallyBy_42 rfl (lv_at hl 0 rfl) ?_
      refine sh_getr C hw fl_X8_22 tbX_128 rfl dX8_tallyBy_43 ?_
      refine sh_getr C hw fl_X8_111 tbX_4 rfl dX8_tallyBy_46 ?_
      refine lv_iload_n C.1 C.2.1 dX8_tallyBy_49 rfl (lv_at hl 2 rfl) ?_
      refine sh_lald C hw hf tbX_8 dX8_tallyBy_50 (fun hf => ?_)
      refine lv_lconst (v := 0) C.1 C.2.1 dX8_tallyBy_51 (by decide) ?_
      refine sh_lcmp_eq (tgt := 114) C hf dX8_tallyBy_52 dX8_tallyBy_53 (by decide) (fun hf => ?_) (fun hf => ?_)
      · exact wX8_tallyBy_114 C hr (fX8_tallyBy_35 n) hr35 S v1 v2 hf _ _ _ hw (lv_sub hl [0, 1, 2] rfl)
      · refine lv_aload_n C.1 C.2.1 dX8_tallyBy_56 rfl (lv_at hl 0 rfl) ?_
        refine sh_getr C hw fl_X8_22 tbX_128 rfl dX8_tallyBy_57 ?_
        refine sh_getr C hw fl_X8_111 tbX_4 rfl dX8_tallyBy_60 ?_
        refine lv_iload_n C.1 C.2.1 dX8_tallyBy_63 rfl (lv_at hl 2 rfl) ?_
        refine sh_lald C hw hf tbX_8 dX8_tallyBy_64 (fun hf => ?_)
        refine lv_iload_n C.1 C.2.1 dX8_tallyBy_65 rfl (lv_at hl 1 rfl) ?_
        refine lv_aload_n C.1 C.2.1 dX8_tallyBy_66 rfl (lv_at hl 0 rfl) ?_
        refine sh_getr C hw fl_X8_22 tbX_128 rfl dX8_tallyBy_67 ?_
        refine sh_geti C hw fl_X8_115 tbX_4 rfl dX8_tallyBy_70 ?_
        refine lv_aload_n C.1 C.2.1 dX8_tallyBy_73 rfl (lv_at hl 0 rfl) ?_
        refine sh_getr C hw fl_X8_22 tbX_128 rfl dX8_tallyBy_74 ?_
        refine sh_geti C hw fl_X8_118 tbX_4 rfl dX8_tallyBy_77 ?_
        refine sh_Ni (As := [.long (S.2 8 v2.toNatClampNeg), .int v1, .int (S.1 4 0), .int (S.1 4 2)]) (rest := []) C hw (kX12_hashBy l (S.2 8 v2.toNatClampNeg) v1 (S.1 4 0) (S.1 4 2)) yy_X12_hashBy ys_X12_hashBy nl_X8_122 hf rfl rfl rfl (Nat.le_of_ble_eq_true rfl) (by decide) hl.1 dX8_tallyBy_80 (fun r4 S3 H locs hw hf => ?_)
        refine lv_istore_n (lv' := [(3, .int r4), (0, .ref (G.2.1 128)), (1, .int v1), (2, .int v2)]) C.1 C.2.1 dX8_tallyBy_83 rfl hl (by decide) rfl (fun ls hl => ?_)
        refine lv_aload_n C.1 C.2.1 dX8_tallyBy_84 rfl (lv_at hl 1 rfl) ?_
        refine sh_getr C hw fl_X8_9 tbX_128 rfl dX8_tallyBy_85 ?_
        refine lv_iload_n C.1 C.2.1 dX8_tallyBy_88 rfl (lv_at hl 0 rfl) ?_
        refine lv_dup2_11 C.1 C.2.1 dX8_tallyBy_89 rfl rfl ?_
        refine sh_iald C hw hf tbX_129 dX8_tallyBy_90 (fun hf => ?_)
        refine lv_iconst (v := 1) C.1 C.2.1 dX8_tallyBy_91 (by decide) ?_
        refine lv_iadd C.1 C.2.1 dX8_tallyBy_92 ?_
        refine sh_iast C hw hf tbX_129 dX8_tallyBy_93 (fun S5 H locs hw hf => ?_)
        refine lv_aload_n C.1 C.2.1 dX8_tallyBy_94 rfl (lv_at hl 1 rfl) ?_
        refine sh_getr C hw fl_X8_15 tbX_128 rfl dX8_tallyBy_95 ?_
        refine lv_aload_n C.1 C.2.1 dX8_tallyBy_98 rfl (lv_at hl 1 rfl) ?_
        refine sh_geti C hw fl_X8_18 tbX_128 rfl dX8_tallyBy_99 ?_
        refine lv_iload_n C.1 C.2.1 dX8_tallyBy_102 rfl (lv_at hl 0 rfl) ?_
        refine sh_iast C hw hf tbX_130 dX8_tallyBy_103 (fun S6 H locs hw hf => ?_)
        refine lv_aload_n C.1 C.2.1 dX8_tallyBy_104 rfl (lv_at hl 1 rfl) ?_
        refine lv_dup C.1 C.2.1 dX8_tallyBy_105 rfl ?_
        refine sh_geti C hw fl_X8_18 tbX_128 rfl dX8_tallyBy_106 ?_
        refine lv_iconst (v := 1) C.1 C.2.1 dX8_tallyBy_109 (by decide) ?_
        refine lv_iadd C.1 C.2.1 dX8_tallyBy_110 ?_
        refine sh_puti C hw fl_X8_18 fp_6_4 hf tbX_128 rfl dX8_tallyBy_111 (fun S7 H locs hw hf => ?_)
        exact wX8_tallyBy_114 C hr (fX8_tallyBy_35 n) hr35 S7 v1 v2 hf _ _ _ hw (lv_sub hl [1, 2, 3] rfl)
def fX8_tallyBy_2 : Nat → sh_St → Int32 → Int32 → Option (Unit × sh_St)
  | 0, _, _, _ => none
  | n + 1, S, v1, v2 =>
    if (S.1 128 4) ≤ v2 then (sh_t (sh_I S 128 4 0) fun S1 =>
    fX8_tallyBy_35 sh_FU S1 v1 0)
    else (sh_g v2 240 (sh_g (S.1 130 v2.toNatClampNeg) 4096 (sh_t (sh_I S 129 (S.1 130 v2.toNatClampNeg).toNatClampNeg 0) fun S8 =>
    sh_t (v2 + 1) fun y9 =>
    (fX8_tallyBy_2 n) S8 v1 y9)))
set_option maxRecDepth 100000 in
set_option maxHeartbeats 4000000 in
theorem wX8_tallyBy_2 {p : Program} {l : Launch} {e : Env} {s : State} {m : MethodId} {args : Array Value} {below : List Frame} {meth : Method} {c : Code} {G : sh_Ev} {A : Nat → Prop} {res : Unit × sh_St} (C : sh_Cx p s m args meth c cX8_tallyBy 4 RX8 G A) (hr : meth.sig.returnType = none) : ∀ (n : Nat) (S : sh_St) (v1 : Int32) (v2 : Int32), fX8_tallyBy_2 n S v1 v2 = some res → ∀ (H : Heap) (locs : List Loc) (ls : Array Slot), sh_Wx G tbX A s H locs S → lv_has ls 4 [(0, .ref (G.2.1 128)), (1, .int v1), (2, .int v2)] → W p l e (sh_rm 3) s m args below meth c H locs 0 0 (sh_Qv below args s G tbX A res) (F0 m 2 ls []) := by
  intro n
  induction n with
  | zero => intro S v1 v2 hf; exact nomatch (show (none : Option (Unit × sh_St)) = some res from hf)
  | succ n ih =>
    intro S v1 v2 hf H locs ls hw hl
    have hr2 := ih
    rw [fX8_tallyBy_2] at hf
    refine lv_iload_n C.1 C.2.1 dX8_tallyBy_2 rfl (lv_at hl 2 rfl) ?_
    refine lv_aload_n C.1 C.2.1 dX8_tallyBy_3 rfl (lv_at hl 0 rfl) ?_
    refine sh_geti C hw fl_X8_18 tbX_128 rfl dX8_tallyBy_4 ?_
    refine sh_icmp_ge (tgt := 28) C hf dX8_tallyBy_7 (by decide) (fun hf => ?_) (fun hf => ?_)
    · refine lv_aload_n C.1 C.2.1 dX8_tallyBy_28 rfl (lv_at hl 0 rfl) ?_
      refine lv_iconst (v := 0) C.1 C.2.1 dX8_tallyBy_29 (by decide) ?_
      refine sh_puti C hw fl_X8_18 fp_6_4 hf tbX_128 rfl dX8_tallyBy_30 (fun S1 H locs hw hf => ?_)
      refine lv_iconst (v := 0) C.1 C.2.1 dX8_tallyBy_33 (by decide) ?_
      refine lv_istore_n (lv' := [(2, .int 0), (0, .ref (G.2.1 128)), (1, .int v1)]) C.1 C.2.1 dX8_tallyBy_34 rfl hl (by decide) rfl (fun ls hl => ?_)
      exact wX8_tallyBy_35 C hr _ S1 v1 0 hf _ _ _ hw (lv_sub hl [1, 2, 0] rfl)
    · refine lv_aload_n C.1 C.2.1 dX8_tallyBy_10 rfl (lv_at hl 0 rfl) ?_
      refine sh_getr C hw fl_X8_9 tbX_128 rfl dX8_tallyBy_11 ?_
      refine lv_aload_n C.1 C.2.1 dX8_tallyBy_14 rfl (lv_at hl 0 rfl) ?_
      refine sh_getr C hw fl_X8_15 tbX_128 rfl dX8_tallyBy_15 ?_
      refine lv_iload_n C.1 C.2.1 dX8_tallyBy_18 rfl (lv_at hl 2 rfl) ?_
      refine sh_iald C hw hf tbX_130 dX8_tallyBy_19 (fun hf => ?_)
      refine lv_iconst (v := 0) C.1 C.2.1 dX8_tallyBy_20 (by decide) ?_
      refine sh_iast C hw hf tbX_129 dX8_tallyBy_21 (fun S8 H locs hw hf => ?_)
      obtain ⟨y9, ey9, hf⟩ := sh_nm hf
      refine lv_iinc (v := y9) (lv' := [(2, .int y9), (0, .ref (G.2.1 128)), (1, .int v1)]) C.1 C.2.1 dX8_tallyBy_22 hl (k := 2) rfl (by rw [← ey9]; rfl) (by decide) rfl (fun ls hl => ?_)
      refine lv_goto (tgt := 2) C.1 C.2.1 dX8_tallyBy_25 (by decide) ?_
      exact hr2 S8 v1 y9 hf _ _ _ hw (lv_sub hl [1, 2, 0] rfl)
def fX8_tallyBy (S : sh_St) (v1 : Int32) : Option (Unit × sh_St) :=
    fX8_tallyBy_2 sh_FU S v1 0
set_option maxRecDepth 100000 in
set_option maxHeartbeats 4000000 in
theorem kX8_tallyBy (l : Launch) (v1 : Int32) : sh_Mv l yX8_tallyBy cX8_tallyBy 4 3 tbX (fun G => [.ref (G.2.1 128), .int v1]) (fun S => fX8_tallyBy S v1) := by
  refine sh_mkv (by decide) (fun G => Nat.le_of_ble_eq_true rfl) ?_
  intro p e s m args below meth c G A S res ls hf C hr hw hl
  have C : sh_Cx p s m args meth c cX8_tallyBy 4 RX8 G A := C
  have hl : lv_has ls 4 [(0, .ref (G.2.1 128)), (1, .int v1)] := hl
  replace hf : fX8_tallyBy S v1 = some res := hf
  rw [fX8_tallyBy] at hf
  refine lv_iconst (v := 0) C.1 C.2.1 dX8_tallyBy_0 (by decide) ?_
  refine lv_istore_n (lv' := [(2, .int 0), (0, .ref (G.2.1 128)), (1, .int v1)]) C.1 C.2.1 dX8_tallyBy_1 rfl hl (by decide) rfl (fun ls hl => ?_)
  exact wX8_tallyBy_2 C hr _ S v1 0 hf _ _ _ hw (lv_sub hl [1, 2, 0] rfl)
def fX8_leastFreeHash_23 : Nat → sh_St → Int32 → Int32 → Option (Int32 × sh_St)
  | 0, _, _, _ => none
  | n + 1, S, v1, v2 =>
    if v1 ≤ v2 then (some ((-1), S))
    else (sh_g v2 4096 (if (S.1 129 v2.toNatClampNeg) = 0 then (some (v2, S))
    else (sh_t (v2 + 1) fun y4 =>
    (fX8_leastFreeHash_23 n) S v1 y4)))
set_option maxRecDepth 100000 in
set_option maxHeartbeats 4000000 in
theorem wX8_leastFreeHash_23 {p : Program} {l : Launch} {e : Env} {s : State} {m : MethodId} {args : Array Value} {below : List Frame} {meth : Method} {c : Code} {G : sh_Ev} {A : Nat → Prop} {res : Int32 × sh_St} (C : sh_Cx p s m args meth c cX8_leastFreeHash 3 RX8 G A) (hr : meth.sig.returnType = some .int) : ∀ (n : Nat) (S : sh_St) (v1 : Int32) (v2 : Int32), fX8_leastFreeHash_23 n S v1 v2 = some res → ∀ (H : Heap) (locs : List Loc) (ls : Array Slot), sh_Wx G tbX A s H locs S → lv_has ls 3 [(0, .ref (G.2.1 128)), (1, .int v1), (2, .int v2)] → W p l e (sh_rm 4) s m args below meth c H locs 0 0 (sh_Qi below args s G tbX A res) (F0 m 23 ls []) := by
  intro n
  induction n with
  | zero => intro S v1 v2 hf; exact nomatch (show (none : Option (Int32 × sh_St)) = some res from hf)
  | succ n ih =>
    intro S v1 v2 hf H locs ls hw hl
    have hr23 := ih
    rw [fX8_leastFreeHash_23] at hf
    refine lv_iload_n C.1 C.2.1 dX8_leastFreeHash_23 rfl (lv_at hl 2 rfl) ?_
    refine lv_iload_n C.1 C.2.1 dX8_leastFreeHash_24 rfl (lv_at hl 1 rfl) ?_
    refine sh_icmp_ge (tgt := 45) C hf dX8_leastFreeHash_25 (by decide) (fun hf => ?_) (fun hf => ?_)
    · refine lv_iconst (v := -1) C.1 C.2.1 dX8_leastFreeHash_45 (by decide) ?_
      exact sh_ri C hw hr hf dX8_leastFreeHash_46
    · refine lv_aload_n C.1 C.2.1 dX8_leastFreeHash_28 rfl (lv_at hl 0 rfl) ?_
      refine sh_getr C hw fl_X8_9 tbX_128 rfl dX8_leastFreeHash_29 ?_
      refine lv_iload_n C.1 C.2.1 dX8_leastFreeHash_32 rfl (lv_at hl 2 rfl) ?_
      refine sh_iald C hw hf tbX_129 dX8_leastFreeHash_33 (fun hf => ?_)
      refine sh_if_ne (tgt := 39) C hf dX8_leastFreeHash_34 (by decide) (fun hf => ?_) (fun hf => ?_)
      · obtain ⟨y4, ey4, hf⟩ := sh_nm hf
        refine lv_iinc (v := y4) (lv' := [(2, .int y4), (0, .ref (G.2.1 128)), (1, .int v1)]) C.1 C.2.1 dX8_leastFreeHash_39 hl (k := 2) rfl (by rw [← ey4]; rfl) (by decide) rfl (fun ls hl => ?_)
        refine lv_goto (tgt := 23) C.1 C.2.1 dX8_leastFreeHash_42 (by decide) ?_
        exact hr23 S v1 y4 hf _ _ _ hw (lv_sub hl [1, 2, 0] rfl)
      · refine lv_iload_n C.1 C.2.1 dX8_leastFreeHash_37 rfl (lv_at hl 2 rfl) ?_
        exact sh_ri C hw hr hf dX8_leastFreeHash_38
def fX8_leastFreeHash (S : sh_St) : Option (Int32 × sh_St) :=
    sh_c (fX8_tallyBy S (S.1 4 1)) fun _ S1 =>
    sh_t (1 <<< ((S1.1 4 0) &&& 31)) fun y3 =>
    fX8_leastFreeHash_23 sh_FU S1 y3 0
set_option maxRecDepth 100000 in
set_option maxHeartbeats 4000000 in
theorem kX8_leastFreeHash (l : Launch) : sh_Mi l yX8_leastFreeHash cX8_leastFreeHash 3 .int 4 tbX (fun G => [.ref (G.2.1 128)]) (fun S => fX8_leastFreeHash S) := by
  refine sh_mki (by decide) (fun G => Nat.le_of_ble_eq_true rfl) ?_
  intro p e s m args below meth c G A S res ls hf C hr hw hl
  have C : sh_Cx p s m args meth c cX8_leastFreeHash 3 RX8 G A := C
  have hl : lv_has ls 3 [(0, .ref (G.2.1 128))] := hl
  replace hf : fX8_leastFreeHash S = some res := hf
  rw [fX8_leastFreeHash] at hf
  refine lv_aload_n C.1 C.2.1 dX8_leastFreeHash_0 rfl (lv_at hl 0 rfl) ?_
  refine lv_aload_n C.1 C.2.1 dX8_leastFreeHash_1 rfl (lv_at hl 0 rfl) ?_
  refine sh_getr C hw fl_X8_22 tbX_128 rfl dX8_leastFreeHash_2 ?_
  refine sh_geti C hw fl_X8_64 tbX_4 rfl dX8_leastFreeHash_5 ?_
  refine sh_Vv (As := [.int (S.1 4 1)]) (rest := []) C hw (kX8_tallyBy l (S.1 4 1)) yy_X8_tallyBy yv_X8_tallyBy ml_X8_107 hf tbX_128 rfl rfl rfl rfl (Nat.le_of_ble_eq_true rfl) (by decide) hl.1 dX8_leastFreeHash_8 (fun S1 H locs hw hf => ?_)
  refine lv_iconst (v := 1) C.1 C.2.1 dX8_leastFreeHash_11 (by decide) ?_
  refine lv_aload_n C.1 C.2.1 dX8_leastFreeHash_12 rfl (lv_at hl 0 rfl) ?_
  refine sh_getr C hw fl_X8_22 tbX_128 rfl dX8_leastFreeHash_13 ?_
  refine sh_geti C hw fl_X8_115 tbX_4 rfl dX8_leastFreeHash_16 ?_
  refine lv_ishl C.1 C.2.1 dX8_leastFreeHash_19 ?_
  refine sh_ni hf (fun y3 hf => ?_)
  refine lv_istore_n (lv' := [(1, .int y3), (0, .ref (G.2.1 128))]) C.1 C.2.1 dX8_leastFreeHash_20 rfl hl (by decide) rfl (fun ls hl => ?_)
  refine lv_iconst (v := 0) C.1 C.2.1 dX8_leastFreeHash_21 (by decide) ?_
  refine lv_istore_n (lv' := [(2, .int 0), (1, .int y3), (0, .ref (G.2.1 128))]) C.1 C.2.1 dX8_leastFreeHash_22 rfl hl (by decide) rfl (fun ls hl => ?_)
  exact wX8_leastFreeHash_23 C hr _ S1 y3 0 hf _ _ _ hw (lv_sub hl [2, 1, 0] rfl)
def fX10_skipBlanks_7 : Nat → sh_St → Int32 → Option (Unit × sh_St)
  | 0, _, _ => none
  | n + 1, S, v2 =>
    if (S.1 3 1) ≤ v2 then (some ((), S))
    else (sh_c (fX10_byteAt S v2) fun r3 S2 =>
    if r3 = 32 then (sh_t (sh_I S2 3 2 (v2 + 1)) fun S4 =>
    sh_t (v2 + 1) fun y5 =>
    (fX10_skipBlanks_7 n) S4 y5)
    else (some ((), S2)))
set_option maxRecDepth 100000 in
set_option maxHeartbeats 4000000 in
theorem wX10_skipBlanks_7 {p : Program} {l : Launch} {e : Env} {s : State} {m : MethodId} {args : Array Value} {below : List Frame} {meth : Method} {c : Code} {G : sh_Ev} {A : Nat → Prop} {res : Unit × sh_St} (C : sh_Cx p s m args meth c cX10_skipBlanks 3 RX10 G A) (hr : meth.sig.returnType = none) : ∀ (n : Nat) (S : sh_St) (v2 : Int32), fX10_skipBlanks_7 n S v2 = some res → ∀ (H : Heap) (locs : List Loc) (ls : Array Slot), sh_Wx G tbX A s H locs S → lv_has ls 3 [(0, .ref (G.2.1 3)), (2, .int v2)] → W p l e (sh_rm 2) s m args below meth c H locs 0 0 (sh_Qv below args s G tbX A res) (F0 m 7 ls []) := by
  intro n
  induction n with
  | zero => intro S v2 hf; exact nomatch (show (none : Option (Unit × sh_St)) = some res from hf)
  | succ n ih =>
    intro S v2 hf H locs ls hw hl
    have hr7 := ih
    rw [fX10_skipBlanks_7] at hf
    refine lv_iload_n C.1 C.2.1 dX10_skipBlanks_7 rfl (lv_at hl 1 rfl) ?_
    refine lv_aload_n C.1 C.2.1 dX10_skipBlanks_8 rfl (lv_at hl 0 rfl) ?_
    refine sh_geti C hw fl_X10_9 tbX_3 rfl dX10_skipBlanks_9 ?_
    refine sh_icmp_ge (tgt := 38) C hf dX10_skipBlanks_12 (by decide) (fun hf => ?_) (fun hf => ?_)
    · exact sh_rv C hw hr hf dX10_skipBlanks_38
    · refine lv_aload_n C.1 C.2.1 dX10_skipBlanks_15 rfl (lv_at hl 0 rfl) ?_
      refine lv_iload_n C.1 C.2.1 dX10_skipBlanks_16 rfl (lv_at hl 1 rfl) ?_
      refine sh_Vi (As := [.int v2]) (rest := []) C hw (kX10_byteAt l v2) yy_X10_byteAt yv_X10_byteAt ml_X10_47 hf tbX_3 rfl rfl rfl rfl (Nat.le_of_ble_eq_true rfl) (by decide) hl.1 dX10_skipBlanks_17 (fun r3 S2 H locs hw hf => ?_)
      refine lv_bipush (v := 32) C.1 C.2.1 dX10_skipBlanks_20 (by decide) ?_
      refine sh_icmp_ne (tgt := 38) C hf dX10_skipBlanks_22 (by decide) (fun hf => ?_) (fun hf => ?_)
      · exact sh_rv C hw hr hf dX10_skipBlanks_38
      · refine lv_aload_n C.1 C.2.1 dX10_skipBlanks_25 rfl (lv_at hl 0 rfl) ?_
        refine lv_iload_n C.1 C.2.1 dX10_skipBlanks_26 rfl (lv_at hl 1 rfl) ?_
        refine lv_iconst (v := 1) C.1 C.2.1 dX10_skipBlanks_27 (by decide) ?_
        refine lv_iadd C.1 C.2.1 dX10_skipBlanks_28 ?_
        refine sh_puti C hw fl_X10_15 fp_8_2 hf tbX_3 rfl dX10_skipBlanks_29 (fun S4 H locs hw hf => ?_)
        obtain ⟨y5, ey5, hf⟩ := sh_nm hf
        refine lv_iinc (v := y5) (lv' := [(2, .int y5), (0, .ref (G.2.1 3))]) C.1 C.2.1 dX10_skipBlanks_32 hl (k := 1) rfl (by rw [← ey5]; rfl) (by decide) rfl (fun ls hl => ?_)
        refine lv_goto (tgt := 7) C.1 C.2.1 dX10_skipBlanks_35 (by decide) ?_
        exact hr7 S4 y5 hf _ _ _ hw (lv_sub hl [1, 0] rfl)
def fX10_skipBlanks (S : sh_St) : Option (Unit × sh_St) :=
    sh_t (S.1 3 2) fun y1 =>
    fX10_skipBlanks_7 sh_FU S y1
set_option maxRecDepth 100000 in
set_option maxHeartbeats 4000000 in
theorem kX10_skipBlanks (l : Launch) : sh_Mv l yX10_skipBlanks cX10_skipBlanks 3 2 tbX (fun G => [.ref (G.2.1 3)]) (fun S => fX10_skipBlanks S) := by
  refine sh_mkv (by decide) (fun G => Nat.le_of_ble_eq_true rfl) ?_
  intro p e s m args below meth c G A S res ls hf C hr hw hl
  have C : sh_Cx p s m args meth c cX10_skipBlanks 3 RX10 G A := C
  have hl : lv_has ls 3 [(0, .ref (G.2.1 3))] := hl
  replace hf : fX10_skipBlanks S = some res := hf
  rw [fX10_skipBlanks] at hf
  refine lv_aload_n C.1 C.2.1 dX10_skipBlanks_0 rfl (lv_at hl 0 rfl) ?_
  refine sh_geti C hw fl_X10_15 tbX_3 rfl dX10_skipBlanks_1 ?_
  refine sh_ni hf (fun y1 hf => ?_)
  refine lv_istore_n (lv' := [(1, .int y1), (0, .ref (G.2.1 3))]) C.1 C.2.1 dX10_skipBlanks_4 rfl hl (by decide) rfl (fun ls hl => ?_)
  refine lv_iload_n C.1 C.2.1 dX10_skipBlanks_5 rfl (lv_at hl 0 rfl) ?_
  refine lv_istore_n (lv' := [(2, .int y1), (1, .int y1), (0, .ref (G.2.1 3))]) C.1 C.2.1 dX10_skipBlanks_6 rfl hl (by decide) rfl (fun ls hl => ?_)
  exact wX10_skipBlanks_7 C hr _ S y1 hf _ _ _ hw (lv_sub hl [2, 0] rfl)
def fX10_isOver (S : sh_St) : Option (Int32 × sh_St) :=
    sh_c (fX10_skipBlanks S ) fun _ S1 =>
    if (S1.1 3 2) < (S1.1 3 1) then (sh_b 0 (some (0, S1)))
    else (sh_b 1 (some (1, S1)))
set_option maxRecDepth 100000 in
set_option maxHeartbeats 4000000 in
theorem kX10_isOver (l : Launch) : sh_Mi l yX10_isOver cX10_isOver 1 .boolean 3 tbX (fun G => [.ref (G.2.1 3)]) (fun S => fX10_isOver S) := by
  refine sh_mki (by decide) (fun G => Nat.le_of_ble_eq_true rfl) ?_
  intro p e s m args below meth c G A S res ls hf C hr hw hl
  have C : sh_Cx p s m args meth c cX10_isOver 1 RX10 G A := C
  have hl : lv_has ls 1 [(0, .ref (G.2.1 3))] := hl
  replace hf : fX10_isOver S = some res := hf
  rw [fX10_isOver] at hf
  refine lv_aload_n C.1 C.2.1 dX10_isOver_0 rfl (lv_at hl 0 rfl) ?_
  refine sh_Vv (As := []) (rest := []) C hw (kX10_skipBlanks l ) yy_X10_skipBlanks yv_X10_skipBlanks ml_X10_51 hf tbX_3 rfl rfl rfl rfl (Nat.le_of_ble_eq_true rfl) (by decide) hl.1 dX10_isOver_1 (fun S1 H locs hw hf => ?_)
  refine lv_aload_n C.1 C.2.1 dX10_isOver_4 rfl (lv_at hl 0 rfl) ?_
  refine sh_geti C hw fl_X10_15 tbX_3 rfl dX10_isOver_5 ?_
  refine lv_aload_n C.1 C.2.1 dX10_isOver_8 rfl (lv_at hl 0 rfl) ?_
  refine sh_geti C hw fl_X10_9 tbX_3 rfl dX10_isOver_9 ?_
  refine sh_icmp_lt (tgt := 19) C hf dX10_isOver_12 (by decide) (fun hf => ?_) (fun hf => ?_)
  · refine lv_iconst (v := 0) C.1 C.2.1 dX10_isOver_19 (by decide) ?_
    exact sh_rz C hw hr hf dX10_isOver_20
  · refine lv_iconst (v := 1) C.1 C.2.1 dX10_isOver_15 (by decide) ?_
    refine lv_goto (tgt := 20) C.1 C.2.1 dX10_isOver_16 (by decide) ?_
    exact sh_rz C hw hr hf dX10_isOver_20
def fX10_isRightlyOver_15 (S : sh_St) : Option (Int32 × sh_St) :=
    if (S.1 3 3) = (-1) then (sh_b 1 (some (1, S)))
    else (sh_b 0 (some (0, S)))
set_option maxRecDepth 100000 in
set_option maxHeartbeats 4000000 in
theorem wX10_isRightlyOver_15 {p : Program} {l : Launch} {e : Env} {s : State} {m : MethodId} {args : Array Value} {below : List Frame} {meth : Method} {c : Code} {G : sh_Ev} {A : Nat → Prop} {res : Int32 × sh_St} (C : sh_Cx p s m args meth c cX10_isRightlyOver 1 RX10 G A) (hr : meth.sig.returnType = some .boolean) : ∀ (S : sh_St), fX10_isRightlyOver_15 S = some res → ∀ (H : Heap) (locs : List Loc) (ls : Array Slot), sh_Wx G tbX A s H locs S → lv_has ls 1 [(0, .ref (G.2.1 3))] → W p l e (sh_rm 4) s m args below meth c H locs 0 0 (sh_Qi below args s G tbX A res) (F0 m 15 ls []) := by
  intro S hf H locs ls hw hl
  rw [fX10_isRightlyOver_15] at hf
  refine lv_aload_n C.1 C.2.1 dX10_isRightlyOver_15 rfl (lv_at hl 0 rfl) ?_
  refine sh_geti C hw fl_X10_18 tbX_3 rfl dX10_isRightlyOver_16 ?_
  refine lv_iconst (v := -1) C.1 C.2.1 dX10_isRightlyOver_19 (by decide) ?_
  refine sh_icmp_ne (tgt := 27) C hf dX10_isRightlyOver_20 (by decide) (fun hf => ?_) (fun hf => ?_)
  · refine lv_iconst (v := 0) C.1 C.2.1 dX10_isRightlyOver_27 (by decide) ?_
    exact sh_rz C hw hr hf dX10_isRightlyOver_28
  · refine lv_iconst (v := 1) C.1 C.2.1 dX10_isRightlyOver_23 (by decide) ?_
    refine lv_goto (tgt := 28) C.1 C.2.1 dX10_isRightlyOver_24 (by decide) ?_
    exact sh_rz C hw hr hf dX10_isRightlyOver_28
def fX10_isRightlyOver (S : sh_St) : Option (Int32 × sh_St) :=
    sh_c (fX10_isOver S ) fun r2 S1 =>
    if r2 = 0 then (sh_c (fX10_markWrong S1 (S1.1 3 2)) fun _ S3 =>
    fX10_isRightlyOver_15 S3)
    else (fX10_isRightlyOver_15 S1)
set_option maxRecDepth 100000 in
set_option maxHeartbeats 4000000 in
theorem kX10_isRightlyOver (l : Launch) : sh_Mi l yX10_isRightlyOver cX10_isRightlyOver 1 .boolean 4 tbX (fun G => [.ref (G.2.1 3)]) (fun S => fX10_isRightlyOver S) := by
  refine sh_mki (by decide) (fun G => Nat.le_of_ble_eq_true rfl) ?_
  intro p e s m args below meth c G A S res ls hf C hr hw hl
  have C : sh_Cx p s m args meth c cX10_isRightlyOver 1 RX10 G A := C
  have hl : lv_has ls 1 [(0, .ref (G.2.1 3))] := hl
  replace hf : fX10_isRightlyOver S = some res := hf
  rw [fX10_isRightlyOver] at hf
  refine lv_aload_n C.1 C.2.1 dX10_isRightlyOver_0 rfl (lv_at hl 0 rfl) ?_
  refine sh_Vi (As := []) (rest := []) C hw (kX10_isOver l ) yy_X10_isOver yv_X10_isOver ml_X10_54 hf tbX_3 rfl rfl rfl rfl (Nat.le_of_ble_eq_true rfl) (by decide) hl.1 dX10_isRightlyOver_1 (fun r2 S1 H locs hw hf => ?_)
  refine sh_if_ne (tgt := 15) C hf dX10_isRightlyOver_4 (by decide) (fun hf => ?_) (fun hf => ?_)
  · exact wX10_isRightlyOver_15 C hr S1  hf _ _ _ hw (lv_sub hl [0] rfl)
  · refine lv_aload_n C.1 C.2.1 dX10_isRightlyOver_7 rfl (lv_at hl 0 rfl) ?_
    refine lv_aload_n C.1 C.2.1 dX10_isRightlyOver_8 rfl (lv_at hl 0 rfl) ?_
    refine sh_geti C hw fl_X10_15 tbX_3 rfl dX10_isRightlyOver_9 ?_
    refine sh_Vv (As := [.int (S1.1 3 2)]) (rest := []) C hw (kX10_markWrong l (S1.1 3 2)) yy_X10_markWrong yv_X10_markWrong ml_X10_58 hf tbX_3 rfl rfl rfl rfl (Nat.le_of_ble_eq_true rfl) (by decide) hl.1 dX10_isRightlyOver_12 (fun S3 H locs hw hf => ?_)
    exact wX10_isRightlyOver_15 C hr S3  hf _ _ _ hw (lv_sub hl [0] rfl)
def fX10_passSemicolon (S : sh_St) : Option (Int32 × sh_St) :=
    sh_c (fX10_isOver S ) fun r2 S1 =>
    if r2 = 0 then (sh_c (fX10_byteAt S1 (S1.1 3 2)) fun r4 S3 =>
    if r4 = 59 then (sh_t (sh_I S3 3 2 ((S3.1 3 2) + 1)) fun S5 =>
    sh_b 1 (some (1, S5)))
    else (sh_b 0 (some (0, S3))))
    else (sh_b 0 (some (0, S1)))
set_option maxRecDepth 100000 in
set_option maxHeartbeats 4000000 in
theorem kX10_passSemicolon (l : Launch) : sh_Mi l yX10_passSemicolon cX10_passSemicolon 1 .boolean 4 tbX (fun G => [.ref (G.2.1 3)]) (fun S => fX10_passSemicolon S) := by
  refine sh_mki (by decide) (fun G => Nat.le_of_ble_eq_true rfl) ?_
  intro p e s m args below meth c G A S res ls hf C hr hw hl
  have C : sh_Cx p s m args meth c cX10_passSemicolon 1 RX10 G A := C
  have hl : lv_has ls 1 [(0, .ref (G.2.1 3))] := hl
  replace hf : fX10_passSemicolon S = some res := hf
  rw [fX10_passSemicolon] at hf
  refine lv_aload_n C.1 C.2.1 dX10_passSemicolon_0 rfl (lv_at hl 0 rfl) ?_
  refine sh_Vi (As := []) (rest := []) C hw (kX10_isOver l ) yy_X10_isOver yv_X10_isOver ml_X10_54 hf tbX_3 rfl rfl rfl rfl (Nat.le_of_ble_eq_true rfl) (by decide) hl.1 dX10_passSemicolon_1 (fun r2 S1 H locs hw hf => ?_)
  refine sh_if_ne (tgt := 20) C hf dX10_passSemicolon_4 (by decide) (fun hf => ?_) (fun hf => ?_)
  · refine lv_iconst (v := 0) C.1 C.2.1 dX10_passSemicolon_20 (by decide) ?_
    exact sh_rz C hw hr hf dX10_passSemicolon_21
  · refine lv_aload_n C.1 C.2.1 dX10_passSemicolon_7 rfl (lv_at hl 0 rfl) ?_
    refine lv_aload_n C.1 C.2.1 dX10_passSemicolon_8 rfl (lv_at hl 0 rfl) ?_
    refine sh_geti C hw fl_X10_15 tbX_3 rfl dX10_passSemicolon_9 ?_
    refine sh_Vi (As := [.int (S1.1 3 2)]) (rest := []) C hw (kX10_byteAt l (S1.1 3 2)) yy_X10_byteAt yv_X10_byteAt ml_X10_47 hf tbX_3 rfl rfl rfl rfl (Nat.le_of_ble_eq_true rfl) (by decide) hl.1 dX10_passSemicolon_12 (fun r4 S3 H locs hw hf => ?_)
    refine lv_bipush (v := 59) C.1 C.2.1 dX10_passSemicolon_15 (by decide) ?_
    refine sh_icmp_eq (tgt := 22) C hf dX10_passSemicolon_17 (by decide) (fun hf => ?_) (fun hf => ?_)
    · refine lv_aload_n C.1 C.2.1 dX10_passSemicolon_22 rfl (lv_at hl 0 rfl) ?_
      refine lv_dup C.1 C.2.1 dX10_passSemicolon_23 rfl ?_
      refine sh_geti C hw fl_X10_15 tbX_3 rfl dX10_passSemicolon_24 ?_
      refine lv_iconst (v := 1) C.1 C.2.1 dX10_passSemicolon_27 (by decide) ?_
      refine lv_iadd C.1 C.2.1 dX10_passSemicolon_28 ?_
      refine sh_puti C hw fl_X10_15 fp_8_2 hf tbX_3 rfl dX10_passSemicolon_29 (fun S5 H locs hw hf => ?_)
      refine lv_iconst (v := 1) C.1 C.2.1 dX10_passSemicolon_32 (by decide) ?_
      exact sh_rz C hw hr hf dX10_passSemicolon_33
    · refine lv_iconst (v := 0) C.1 C.2.1 dX10_passSemicolon_20 (by decide) ?_
      exact sh_rz C hw hr hf dX10_passSemicolon_21
def fX10_passLetters_7 : Nat → sh_St → Int32 → Int32 → Option (Int32 × sh_St)
  | 0, _, _, _ => none
  | n + 1, S, v1, v2 =>
    if (S.1 3 1) ≤ v2 then (some ((S.1 3 2) - v1, S))
    else (sh_c (fX10_byteAt S v2) fun r3 S2 =>
    sh_c (fX10_isLetter S2 r3) fun r5 S4 =>
    if r5 = 0 then (some ((S4.1 3 2) - v1, S4))
    else (sh_t (sh_I S4 3 2 (v2 + 1)) fun S6 =>
    sh_t (v2 + 1) fun y7 =>
    (fX10_passLetters_7 n) S6 v1 y7))
set_option maxRecDepth 100000 in
set_option maxHeartbeats 4000000 in
theorem wX10_passLetters_7 {p : Program} {l : Launch} {e : Env} {s : State} {m : MethodId} {args : Array Value} {below : List Frame} {meth : Method} {c : Code} {G : sh_Ev} {A : Nat → Prop} {res : Int32 × sh_St} (C : sh_Cx p s m args meth c cX10_passLetters 3 RX10 G A) (hr : meth.sig.returnType = some .int) : ∀ (n : Nat) (S : sh_St) (v1 : Int32) (v2 : Int32), fX10_passLetters_7 n S v1 v2 = some res → ∀ (H : Heap) (locs : List Loc) (ls : Array Slot), sh_Wx G tbX A s H locs S → lv_has ls 3 [(0, .ref (G.2.1 3)), (1, .int v1), (2, .int v2)] → W p l e (sh_rm 2) s m args below meth c H locs 0 0 (sh_Qi below args s G tbX A res) (F0 m 7 ls []) := by
  intro n
  induction n with
  | zero => intro S v1 v2 hf; exact nomatch (show (none : Option (Int32 × sh_St)) = some res from hf)
  | succ n ih =>
    intro S v1 v2 hf H locs ls hw hl
    have hr7 := ih
    rw [fX10_passLetters_7] at hf
    refine lv_iload_n C.1 C.2.1 dX10_passLetters_7 rfl (lv_at hl 2 rfl) ?_
    refine lv_aload_n C.1 C.2.1 dX10_passLetters_8 rfl (lv_at hl 0 rfl) ?_
    refine sh_geti C hw fl_X10_9 tbX_3 rfl dX10_passLetters_9 ?_
    refine sh_icmp_ge (tgt := 39) C hf dX10_passLetters_12 (by decide) (fun hf => ?_) (fun hf => ?_)
    · refine lv_aload_n C.1 C.2.1 dX10_passLetters_39 rfl (lv_at hl 0 rfl) ?_
      refine sh_geti C hw fl_X10_15 tbX_3 rfl dX10_passLetters_40 ?_
      refine lv_iload_n C.1 C.2.1 dX10_passLetters_43 rfl (lv_at hl 1 rfl) ?_
      refine lv_isub C.1 C.2.1 dX10_passLetters_44 ?_
      exact sh_ri C hw hr hf dX10_passLetters_45
    · refine lv_aload_n C.1 C.2.1 dX10_passLetters_15 rfl (lv_at hl 0 rfl) ?_
      refine lv_iload_n C.1 C.2.1 dX10_passLetters_16 rfl (lv_at hl 2 rfl) ?_
      refine sh_Vi (As := [.int v2]) (rest := []) C hw (kX10_byteAt l v2) yy_X10_byteAt yv_X10_byteAt ml_X10_47 hf tbX_3 rfl rfl rfl rfl (Nat.le_of_ble_eq_true rfl) (by decide) hl.1 dX10_passLetters_17 (fun r3 S2 H locs hw hf => ?_)
      refine sh_Si (As := [.int r3]) (rest := []) C hw (kX10_isLetter l r3) yy_X10_isLetter ys_X10_isLetter ml_X10_112 rfl hf rfl rfl rfl (Nat.le_of_ble_eq_true rfl) (by decide) hl.1 dX10_passLetters_20 (fun r5 S4 H locs hw hf => ?_)
      refine sh_if_eq (tgt := 39) C hf dX10_passLetters_23 (by decide) (fun hf => ?_) (fun hf => ?_)
      · refine lv_aload_n C.1 C.2.1 dX10_passLetters_39 rfl (lv_at hl 0 rfl) ?_
        refine sh_geti C hw fl_X10_15 tbX_3 rfl dX10_passLetters_40 ?_
        refine lv_iload_n C.1 C.2.1 dX10_passLetters_43 rfl (lv_at hl 1 rfl) ?_
        refine lv_isub C.1 C.2.1 dX10_passLetters_44 ?_
        exact sh_ri C hw hr hf dX10_passLetters_45
      · refine lv_aload_n C.1 C.2.1 dX10_passLetters_26 rfl (lv_at hl 0 rfl) ?_
        refine lv_iload_n C.1 C.2.1 dX10_passLetters_27 rfl (lv_at hl 2 rfl) ?_
        refine lv_iconst (v := 1) C.1 C.2.1 dX10_passLetters_28 (by decide) ?_
        refine lv_iadd C.1 C.2.1 dX10_passLetters_29 ?_
        refine sh_puti C hw fl_X10_15 fp_8_2 hf tbX_3 rfl dX10_passLetters_30 (fun S6 H locs hw hf => ?_)
        obtain ⟨y7, ey7, hf⟩ := sh_nm hf
        refine lv_iinc (v := y7) (lv' := [(2, .int y7), (0, .ref (G.2.1 3)), (1, .int v1)]) C.1 C.2.1 dX10_passLetters_33 hl (k := 2) rfl (by rw [← ey7]; rfl) (by decide) rfl (fun ls hl => ?_)
        refine lv_goto (tgt := 7) C.1 C.2.1 dX10_passLetters_36 (by decide) ?_
        exact hr7 S6 v1 y7 hf _ _ _ hw (lv_sub hl [1, 2, 0] rfl)
def fX10_passLetters (S : sh_St) : Option (Int32 × sh_St) :=
    sh_t (S.1 3 2) fun y1 =>
    fX10_passLetters_7 sh_FU S y1 y1
set_option maxRecDepth 100000 in
set_option maxHeartbeats 4000000 in
theorem kX10_passLetters (l : Launch) : sh_Mi l yX10_passLetters cX10_passLetters 3 .int 2 tbX (fun G => [.ref (G.2.1 3)]) (fun S => fX10_passLetters S) := by
  refine sh_mki (by decide) (fun G => Nat.le_of_ble_eq_true rfl) ?_
  intro p e s m args below meth c G A S res ls hf C hr hw hl
  have C : sh_Cx p s m args meth c cX10_passLetters 3 RX10 G A := C
  have hl : lv_has ls 3 [(0, .ref (G.2.1 3))] := hl
  replace hf : fX10_passLetters S = some res := hf
  rw [fX10_passLetters] at hf
  refine lv_aload_n C.1 C.2.1 dX10_passLetters_0 rfl (lv_at hl 0 rfl) ?_
  refine sh_geti C hw fl_X10_15 tbX_3 rfl dX10_passLetters_1 ?_
  refine sh_ni hf (fun y1 hf => ?_)
  refine lv_istore_n (lv' := [(1, .int y1), (0, .ref (G.2.1 3))]) C.1 C.2.1 dX10_passLetters_4 rfl hl (by decide) rfl (fun ls hl => ?_)
  refine lv_iload_n C.1 C.2.1 dX10_passLetters_5 rfl (lv_at hl 0 rfl) ?_
  refine lv_istore_n (lv' := [(2, .int y1), (1, .int y1), (0, .ref (G.2.1 3))]) C.1 C.2.1 dX10_passLetters_6 rfl hl (by decide) rfl (fun ls hl => ?_)
  exact wX10_passLetters_7 C hr _ S y1 y1 hf _ _ _ hw (lv_sub hl [2, 1, 0] rfl)
def fX10_passDigits_7 : Nat → sh_St → Int32 → Int32 → Option (Int32 × sh_St)
  | 0, _, _, _ => none
  | n + 1, S, v1, v2 =>
    if (S.1 3 1) ≤ v2 then (some ((S.1 3 2) - v1, S))
    else (sh_c (fX10_byteAt S v2) fun r3 S2 =>
    sh_c (fX10_isDigit S2 r3) fun r5 S4 =>
    if r5 = 0 then (some ((S4.1 3 2) - v1, S4))
    else (sh_t (sh_I S4 3 2 (v2 + 1)) fun S6 =>
    sh_t (v2 + 1) fun y7 =>
    (fX10_passDigits_7 n) S6 v1 y7))
set_option maxRecDepth 100000 in
set_option maxHeartbeats 4000000 in
theorem wX10_passDigits_7 {p : Program} {l : Launch} {e : Env} {s : State} {m : MethodId} {args : Array Value} {below : List Frame} {meth : Method} {c : Code} {G : sh_Ev} {A : Nat → Prop} {res : Int32 × sh_St} (C : sh_Cx p s m args meth c cX10_passDigits 3 RX10 G A) (hr : meth.sig.returnType = some .int) : ∀ (n : Nat) (S : sh_St) (v1 : Int32) (v2 : Int32), fX10_passDigits_7 n S v1 v2 = some res → ∀ (H : Heap) (locs : List Loc) (ls : Array Slot), sh_Wx G tbX A s H locs S → lv_has ls 3 [(0, .ref (G.2.1 3)), (1, .int v1), (2, .int v2)] → W p l e (sh_rm 2) s m args below meth c H locs 0 0 (sh_Qi below args s G tbX A res) (F0 m 7 ls []) := by
  intro n
  induction n with
  | zero => intro S v1 v2 hf; exact nomatch (show (none : Option (Int32 × sh_St)) = some res from hf)
  | succ n ih =>
    intro S v1 v2 hf H locs ls hw hl
    have hr7 := ih
    rw [fX10_passDigits_7] at hf
    refine lv_iload_n C.1 C.2.1 dX10_passDigits_7 rfl (lv_at hl 2 rfl) ?_
    refine lv_aload_n C.1 C.2.1 dX10_passDigits_8 rfl (lv_at hl 0 rfl) ?_
    refine sh_geti C hw fl_X10_9 tbX_3 rfl dX10_passDigits_9 ?_
    refine sh_icmp_ge (tgt := 39) C hf dX10_passDigits_12 (by decide) (fun hf => ?_) (fun hf => ?_)
    · refine lv_aload_n C.1 C.2.1 dX10_passDigits_39 rfl (lv_at hl 0 rfl) ?_
      refine sh_geti C hw fl_X10_15 tbX_3 rfl dX10_passDigits_40 ?_
      refine lv_iload_n C.1 C.2.1 dX10_passDigits_43 rfl (lv_at hl 1 rfl) ?_
      refine lv_isub C.1 C.2.1 dX10_passDigits_44 ?_
      exact sh_ri C hw hr hf dX10_passDigits_45
    · refine lv_aload_n C.1 C.2.1 dX10_passDigits_15 rfl (lv_at hl 0 rfl) ?_
      refine lv_iload_n C.1 C.2.1 dX10_passDigits_16 rfl (lv_at hl 2 rfl) ?_
      refine sh_Vi (As := [.int v2]) (rest := []) C hw (kX10_byteAt l v2) yy_X10_byteAt yv_X10_byteAt ml_X10_47 hf tbX_3 rfl rfl rfl rfl (Nat.le_of_ble_eq_true rfl) (by decide) hl.1 dX10_passDigits_17 (fun r3 S2 H locs hw hf => ?_)
      refine sh_Si (As := [.int r3]) (rest := []) C hw (kX10_isDigit l r3) yy_X10_isDigit ys_X10_isDigit ml_X10_116 rfl hf rfl rfl rfl (Nat.le_of_ble_eq_true rfl) (by decide) hl.1 dX10_passDigits_20 (fun r5 S4 H locs hw hf => ?_)
      refine sh_if_eq (tgt := 39) C hf dX10_passDigits_23 (by decide) (fun hf => ?_) (fun hf => ?_)
      · refine lv_aload_n C.1 C.2.1 dX10_passDigits_39 rfl (lv_at hl 0 rfl) ?_
        refine sh_geti C hw fl_X10_15 tbX_3 rfl dX10_passDigits_40 ?_
        refine lv_iload_n C.1 C.2.1 dX10_passDigits_43 rfl (lv_at hl 1 rfl) ?_
        refine lv_isub C.1 C.2.1 dX10_passDigits_44 ?_
        exact sh_ri C hw hr hf dX10_passDigits_45
      · refine lv_aload_n C.1 C.2.1 dX10_passDigits_26 rfl (lv_at hl 0 rfl) ?_
        refine lv_iload_n C.1 C.2.1 dX10_passDigits_27 rfl (lv_at hl 2 rfl) ?_
        refine lv_iconst (v := 1) C.1 C.2.1 dX10_passDigits_28 (by decide) ?_
        refine lv_iadd C.1 C.2.1 dX10_passDigits_29 ?_
        refine sh_puti C hw fl_X10_15 fp_8_2 hf tbX_3 rfl dX10_passDigits_30 (fun S6 H locs hw hf => ?_)
        obtain ⟨y7, ey7, hf⟩ := sh_nm hf
        refine lv_iinc (v := y7) (lv' := [(2, .int y7), (0, .ref (G.2.1 3)), (1, .int v1)]) C.1 C.2.1 dX10_passDigits_33 hl (k := 2) rfl (by rw [← ey7]; rfl) (by decide) rfl (fun ls hl => ?_)
        refine lv_goto (tgt := 7) C.1 C.2.1 dX10_passDigits_36 (by decide) ?_
        exact hr7 S6 v1 y7 hf _ _ _ hw (lv_sub hl [1, 2, 0] rfl)
def fX10_passDigits (S : sh_St) : Option (Int32 × sh_St) :=
    sh_t (S.1 3 2) fun y1 =>
    fX10_passDigits_7 sh_FU S y1 y1
set_option maxRecDepth 100000 in
set_option maxHeartbeats 4000000 in
theorem kX10_passDigits (l : Launch) : sh_Mi l yX10_passDigits cX10_passDigits 3 .int 2 tbX (fun G => [.ref (G.2.1 3)]) (fun S => fX10_passDigits S) := by
  refine sh_mki (by decide) (fun G => Nat.le_of_ble_eq_true rfl) ?_
  intro p e s m args below meth c G A S res ls hf C hr hw hl
  have C : sh_Cx p s m args meth c cX10_passDigits 3 RX10 G A := C
  have hl : lv_has ls 3 [(0, .ref (G.2.1 3))] := hl
  replace hf : fX10_passDigits S = some res := hf
  rw [fX10_passDigits] at hf
  refine lv_aload_n C.1 C.2.1 dX10_passDigits_0 rfl (lv_at hl 0 rfl) ?_
  refine sh_geti C hw fl_X10_15 tbX_3 rfl dX10_passDigits_1 ?_
  refine sh_ni hf (fun y1 hf => ?_)
  refine lv_istore_n (lv' := [(1, .int y1), (0, .ref (G.2.1 3))]) C.1 C.2.1 dX10_passDigits_4 rfl hl (by decide) rfl (fun ls hl => ?_)
  refine lv_iload_n C.1 C.2.1 dX10_passDigits_5 rfl (lv_at hl 0 rfl) ?_
  refine lv_istore_n (lv' := [(2, .int y1), (1, .int y1), (0, .ref (G.2.1 3))]) C.1 C.2.1 dX10_passDigits_6 rfl hl (by decide) rfl (fun ls hl => ?_)
  exact wX10_passDigits_7 C hr _ S y1 y1 hf _ _ _ hw (lv_sub hl [2, 1, 0] rfl)
def fX11_trace_111 : Nat → sh_St → Int32 → Int32 → Option (Unit × sh_St)
  | 0, _, _, _ => none
  | n + 1, S, v3, v6 =>
    if (S.1 117 3) ≤ v6 then (some ((), S))
    else (sh_c (fX11_goesOn S v6 v3) fun r8 S7 =>
    if r8 = 0 then (some ((), S7))
    else (sh_g v6 40 (sh_g (S7.1 121 3) 42 (sh_t (sh_I S7 122 (S7.1 121 3).toNatClampNeg (S7.1 118 v6.toNatClampNeg)) fun S9 =>
    sh_t (sh_I S9 121 3 ((S9.1 121 3) + 1)) fun S10 =>
    sh_t (v6 + 1) fun y11 =>
    (fX11_trace_111 n) S10 v3 y11))))
set_option maxRecDepth 100000 in
set_option maxHeartbeats 4000000 in
theorem wX11_trace_111 {p : Program} {l : Launch} {e : Env} {s : State} {m : MethodId} {args : Array Value} {below : List Frame} {meth : Method} {c : Code} {G : sh_Ev} {A : Nat → Prop} {res : Unit × sh_St} (C : sh_Cx p s m args meth c cX11_trace 7 RX11 G A) (hr : meth.sig.returnType = none) : ∀ (n : Nat) (S : sh_St) (v3 : Int32) (v6 : Int32), fX11_trace_111 n S v3 v6 = some res → ∀ (H : Heap) (locs : List Loc) (ls : Array Slot), sh_Wx G tbX A s H locs S → lv_has ls 7 [(0, .ref (G.2.1 121)), (2, .ref (G.2.1 117)), (3, .int v3), (6, .int v6)] → W p l e (sh_rm 2) s m args below meth c H locs 0 0 (sh_Qv below args s G tbX A res) (F0 m 111 ls []) := by
  intro n
  induction n with
  | zero => intro S v3 v6 hf; exact nomatch (show (none : Option (Unit × sh_St)) = some res from hf)
  | succ n ih =>
    intro S v3 v6 hf H locs ls hw hl
    have hr111 := ih
    rw [fX11_trace_111] at hf
    refine lv_iload C.1 C.2.1 dX11_trace_111 (lv_at hl 3 rfl) ?_
    refine lv_aload_n C.1 C.2.1 dX11_trace_113 rfl (lv_at hl 1 rfl) ?_
    refine sh_geti C hw fl_X11_49 tbX_117 rfl dX11_trace_114 ?_
    refine sh_icmp_ge (tgt := 162) C hf dX11_trace_117 (by decide) (fun hf => ?_) (fun hf => ?_)
    · exact sh_rv C hw hr hf dX11_trace_162
    · refine lv_aload_n C.1 C.2.1 dX11_trace_120 rfl (lv_at hl 1 rfl) ?_
      refine lv_iload C.1 C.2.1 dX11_trace_121 (lv_at hl 3 rfl) ?_
      refine lv_iload_n C.1 C.2.1 dX11_trace_123 rfl (lv_at hl 2 rfl) ?_
      refine sh_Si (As := [.ref (G.2.1 117), .int v6, .int v3]) (rest := []) C hw (kX11_goesOn l v6 v3) yy_X11_goesOn ys_X11_goesOn ml_X11_50 rfl hf rfl rfl rfl (Nat.le_of_ble_eq_true rfl) (by decide) hl.1 dX11_trace_124 (fun r8 S7 H locs hw hf => ?_)
      refine sh_if_eq (tgt := 162) C hf dX11_trace_127 (by decide) (fun hf => ?_) (fun hf => ?_)
      · exact sh_rv C hw hr hf dX11_trace_162
      · refine lv_aload_n C.1 C.2.1 dX11_trace_130 rfl (lv_at hl 0 rfl) ?_
        refine sh_getr C hw fl_X11_9 tbX_121 rfl dX11_trace_131 ?_
        refine lv_aload_n C.1 C.2.1 dX11_trace_134 rfl (lv_at hl 0 rfl) ?_
        refine sh_geti C hw fl_X11_22 tbX_121 rfl dX11_trace_135 ?_
        refine lv_aload_n C.1 C.2.1 dX11_trace_138 rfl (lv_at hl 1 rfl) ?_
        refine sh_getr C hw fl_X11_54 tbX_117 rfl dX11_trace_139 ?_
        refine lv_iload C.1 C.2.1 dX11_trace_142 (lv_at hl 3 rfl) ?_
        refine sh_iald C hw hf tbX_118 dX11_trace_144 (fun hf => ?_)
        refine sh_iast C hw hf tbX_122 dX11_trace_145 (fun S9 H locs hw hf => ?_)
        refine lv_aload_n C.1 C.2.1 dX11_trace_146 rfl (lv_at hl 0 rfl) ?_
        refine lv_dup C.1 C.2.1 dX11_trace_147 rfl ?_
        refine sh_geti C hw fl_X11_22 tbX_121 rfl dX11_trace_148 ?_
        refine lv_iconst (v := 1) C.1 C.2.1 dX11_trace_151 (by decide) ?_
        refine lv_iadd C.1 C.2.1 dX11_trace_152 ?_
        refine sh_puti C hw fl_X11_22 fp_9_3 hf tbX_121 rfl dX11_trace_153 (fun S10 H locs hw hf => ?_)
        obtain ⟨y11, ey11, hf⟩ := sh_nm hf
        refine lv_iinc (v := y11) (lv' := [(6, .int y11), (0, .ref (G.2.1 121)), (2, .ref (G.2.1 117)), (3, .int v3)]) C.1 C.2.1 dX11_trace_156 hl (k := 3) rfl (by rw [← ey11]; rfl) (by decide) rfl (fun ls hl => ?_)
        refine lv_goto (tgt := 111) C.1 C.2.1 dX11_trace_159 (by decide) ?_
        exact hr111 S10 v3 y11 hf _ _ _ hw (lv_sub hl [1, 2, 3, 0] rfl)
def fX11_trace_18 : Nat → sh_St → Int32 → Int32 → Int32 → Option (Unit × sh_St)
  | 0, _, _, _, _ => none
  | n + 1, S, v3, v4, v5 =>
    if (S.1 121 2) ≤ v5 then (sh_g (S.1 121 2) 42 (sh_t (sh_I S 122 (S.1 121 2).toNatClampNeg v4) fun S2 =>
    sh_t (sh_I S2 121 3 ((S2.1 121 2) + 1)) fun S3 =>
    sh_c (fX5_placeOf S3 v4) fun r5 S4 =>
    sh_t (r5 + 1) fun y6 =>
    fX11_trace_111 sh_FU S4 v3 y6))
    else (sh_g v5 42 (sh_t (sh_I S 122 v5.toNatClampNeg v4) fun S12 =>
    sh_c (fX11_rowFor S12 v4 v3) fun r14 S13 =>
    sh_g v5 2 (sh_t (sh_I S13 123 v5.toNatClampNeg r14) fun S15 =>
    sh_g v5 2 (sh_g ((v4 * 6) + (S15.1 123 v5.toNatClampNeg)) 240 (sh_t (S15.1 13 ((v4 * 6) + (S15.1 123 v5.toNatClampNeg)).toNatClampNeg) fun y16 =>
    sh_t (v5 + 1) fun y17 =>
    (fX11_trace_18 n) S15 v3 y16 y17)))))
set_option maxRecDepth 100000 in
set_option maxHeartbeats 4000000 in
theorem wX11_trace_18 {p : Program} {l : Launch} {e : Env} {s : State} {m : MethodId} {args : Array Value} {below : List Frame} {meth : Method} {c : Code} {G : sh_Ev} {A : Nat → Prop} {res : Unit × sh_St} (C : sh_Cx p s m args meth c cX11_trace 7 RX11 G A) (hr : meth.sig.returnType = none) : ∀ (n : Nat) (S : sh_St) (v3 : Int32) (v4 : Int32) (v5 : Int32), fX11_trace_18 n S v3 v4 v5 = some res → ∀ (H : Heap) (locs : List Loc) (ls : Array Slot), sh_Wx G tbX A s H locs S → lv_has ls 7 [(0, .ref (G.2.1 121)), (1, .ref (G.2.1 4)), (2, .ref (G.2.1 117)), (3, .int v3), (4, .int v4), (5, .int v5)] → W p l e (sh_rm 2) s m args below meth c H locs 0 0 (sh_Qv below args s G tbX A res) (F0 m 18 ls []) := by
  intro n
  induction n with
  | zero => intro S v3 v4 v5 hf; exact nomatch (show (none : Option (Unit × sh_St)) = some res from hf)
  | succ n ih =>
    intro S v3 v4 v5 hf H locs ls hw hl
    have hr18 := ih
    rw [fX11_trace_18] at hf
    refine lv_iload C.1 C.2.1 dX11_trace_18 (lv_at hl 5 rfl) ?_
    refine lv_aload_n C.1 C.2.1 dX11_trace_20 rfl (lv_at hl 0 rfl) ?_
    refine sh_geti C hw fl_X11_18 tbX_121 rfl dX11_trace_21 ?_
    refine sh_icmp_ge (tgt := 76) C hf dX11_trace_24 (by decide) (fun hf => ?_) (fun hf => ?_)
    · refine lv_aload_n C.1 C.2.1 dX11_trace_76 rfl (lv_at hl 0 rfl) ?_
      refine sh_getr C hw fl_X11_9 tbX_121 rfl dX11_trace_77 ?_
      refine lv_aload_n C.1 C.2.1 dX11_trace_80 rfl (lv_at hl 0 rfl) ?_
      refine sh_geti C hw fl_X11_18 tbX_121 rfl dX11_trace_81 ?_
      refine lv_iload C.1 C.2.1 dX11_trace_84 (lv_at hl 4 rfl) ?_
      refine sh_iast C hw hf tbX_122 dX11_trace_86 (fun S2 H locs hw hf => ?_)
      refine lv_aload_n C.1 C.2.1 dX11_trace_87 rfl (lv_at hl 0 rfl) ?_
      refine lv_aload_n C.1 C.2.1 dX11_trace_88 rfl (lv_at hl 0 rfl) ?_
      refine sh_geti C hw fl_X11_18 tbX_121 rfl dX11_trace_89 ?_
      refine lv_iconst (v := 1) C.1 C.2.1 dX11_trace_92 (by decide) ?_
      refine lv_iadd C.1 C.2.1 dX11_trace_93 ?_
      refine sh_puti C hw fl_X11_22 fp_9_3 hf tbX_121 rfl dX11_trace_94 (fun S3 H locs hw hf => ?_)
      refine lv_aload_n C.1 C.2.1 dX11_trace_97 rfl (lv_at hl 2 rfl) ?_
      refine lv_iload C.1 C.2.1 dX11_trace_98 (lv_at hl 4 rfl) ?_
      refine sh_Vi (As := [.int v4]) (rest := []) C hw (kX5_placeOf l v4) yy_X5_placeOf yv_X5_placeOf ml_X11_43 hf tbX_117 rfl rfl rfl rfl (Nat.le_of_ble_eq_true rfl) (by decide) hl.1 dX11_trace_100 (fun r5 S4 H locs hw hf => ?_)
      refine lv_iconst (v := 1) C.1 C.2.1 dX11_trace_103 (by decide) ?_
      refine lv_iadd C.1 C.2.1 dX11_trace_104 ?_
      refine sh_ni hf (fun y6 hf => ?_)
      refine lv_istore (lv' := [(5, .int y6), (0, .ref (G.2.1 121)), (1, .ref (G.2.1 4)), (2, .ref (G.2.1 117)), (3, .int v3), (4, .int v4)]) C.1 C.2.1 dX11_trace_105 hl (by decide) rfl (fun ls hl => ?_)
      refine lv_iload C.1 C.2.1 dX11_trace_107 (lv_at hl 0 rfl) ?_
      refine lv_istore (lv' := [(6, .int y6), (5, .int y6), (0, .ref (G.2.1 121)), (1, .ref (G.2.1 4)), (2, .ref (G.2.1 117)), (3, .int v3), (4, .int v4)]) C.1 C.2.1 dX11_trace_109 hl (by decide) rfl (fun ls hl => ?_)
      exact wX11_trace_111 C hr _ S4 v3 y6 hf _ _ _ hw (lv_sub hl [2, 4, 5, 0] rfl)
    · refine lv_aload_n C.1 C.2.1 dX11_trace_27 rfl (lv_at hl 0 rfl) ?_
      refine sh_getr C hw fl_X11_9 tbX_121 rfl dX11_trace_28 ?_
      refine lv_iload C.1 C.2.1 dX11_trace_31 (lv_at hl 5 rfl) ?_
      refine lv_iload C.1 C.2.1 dX11_trace_33 (lv_at hl 4 rfl) ?_
      refine sh_iast C hw hf tbX_122 dX11_trace_35 (fun S12 H locs hw hf => ?_)
      refine lv_aload_n C.1 C.2.1 dX11_trace_36 rfl (lv_at hl 0 rfl) ?_
      refine sh_getr C hw fl_X11_15 tbX_121 rfl dX11_trace_37 ?_
      refine lv_iload C.1 C.2.1 dX11_trace_40 (lv_at hl 5 rfl) ?_
      refine lv_aload_n C.1 C.2.1 dX11_trace_42 rfl (lv_at hl 1 rfl) ?_
      refine lv_iload C.1 C.2.1 dX11_trace_43 (lv_at hl 4 rfl) ?_
      refine lv_iload_n C.1 C.2.1 dX11_trace_45 rfl (lv_at hl 3 rfl) ?_
      refine sh_Si (As := [.ref (G.2.1 4), .int v4, .int v3]) (rest := [.int v5, .ref (G.2.1 123)]) C hw (kX11_rowFor l v4 v3) yy_X11_rowFor ys_X11_rowFor ml_X11_36 rfl hf rfl rfl rfl (Nat.le_of_ble_eq_true rfl) (by decide) hl.1 dX11_trace_46 (fun r14 S13 H locs hw hf => ?_)
      refine sh_iast C hw hf tbX_123 dX11_trace_49 (fun S15 H locs hw hf => ?_)
      refine lv_aload_n C.1 C.2.1 dX11_trace_50 rfl (lv_at hl 1 rfl) ?_
      refine sh_getr C hw fl_X11_40 tbX_4 rfl dX11_trace_51 ?_
      refine lv_iload C.1 C.2.1 dX11_trace_54 (lv_at hl 4 rfl) ?_
      refine lv_bipush (v := 6) C.1 C.2.1 dX11_trace_56 (by decide) ?_
      refine lv_imul C.1 C.2.1 dX11_trace_58 ?_
      refine lv_aload_n C.1 C.2.1 dX11_trace_59 rfl (lv_at hl 0 rfl) ?_
      refine sh_getr C hw fl_X11_15 tbX_121 rfl dX11_trace_60 ?_
      refine lv_iload C.1 C.2.1 dX11_trace_63 (lv_at hl 5 rfl) ?_
      refine sh_iald C hw hf tbX_123 dX11_trace_65 (fun hf => ?_)
      refine lv_iadd C.1 C.2.1 dX11_trace_66 ?_
      refine sh_iald C hw hf tbX_13 dX11_trace_67 (fun hf => ?_)
      refine sh_ni hf (fun y16 hf => ?_)
      refine lv_istore (lv' := [(4, .int y16), (0, .ref (G.2.1 121)), (1, .ref (G.2.1 4)), (2, .ref (G.2.1 117)), (3, .int v3), (5, .int v5)]) C.1 C.2.1 dX11_trace_68 hl (by decide) rfl (fun ls hl => ?_)
      obtain ⟨y17, ey17, hf⟩ := sh_nm hf
      refine lv_iinc (v := y17) (lv' := [(5, .int y17), (4, .int y16), (0, .ref (G.2.1 121)), (1, .ref (G.2.1 4)), (2, .ref (G.2.1 117)), (3, .int v3)]) C.1 C.2.1 dX11_trace_70 hl (k := 5) rfl (by rw [← ey17]; rfl) (by decide) rfl (fun ls hl => ?_)
      refine lv_goto (tgt := 18) C.1 C.2.1 dX11_trace_73 (by decide) ?_
      exact hr18 S15 v3 y16 y17 hf _ _ _ hw (lv_sub hl [2, 3, 4, 5, 1, 0] rfl)
def fX11_trace (S : sh_St) (v3 : Int32) : Option (Unit × sh_St) :=
    sh_t (sh_I S 121 2 (if 2 < (S.1 4 3) then 2 else (S.1 4 3))) fun S1 =>
    fX11_trace_18 sh_FU S1 v3 0 0
set_option maxRecDepth 100000 in
set_option maxHeartbeats 4000000 in
theorem kX11_trace (l : Launch) (v3 : Int32) : sh_Mv l yX11_trace cX11_trace 7 2 tbX (fun G => [.ref (G.2.1 121), .ref (G.2.1 4), .ref (G.2.1 117), .int v3]) (fun S => fX11_trace S v3) := by
  refine sh_mkv (by decide) (fun G => Nat.le_of_ble_eq_true rfl) ?_
  intro p e s m args below meth c G A S res ls hf C hr hw hl
  have C : sh_Cx p s m args meth c cX11_trace 7 RX11 G A := C
  have hl : lv_has ls 7 [(0, .ref (G.2.1 121)), (1, .ref (G.2.1 4)), (2, .ref (G.2.1 117)), (3, .int v3)] := hl
  replace hf : fX11_trace S v3 = some res := hf
  rw [fX11_trace] at hf
  refine lv_aload_n C.1 C.2.1 dX11_trace_0 rfl (lv_at hl 0 rfl) ?_
  refine lv_aload_n C.1 C.2.1 dX11_trace_1 rfl (lv_at hl 1 rfl) ?_
  refine sh_geti C hw fl_X11_25 tbX_4 rfl dX11_trace_2 ?_
  refine lv_iconst (v := 2) C.1 C.2.1 dX11_trace_5 (by decide) ?_
  refine sh_min C ml_X11_30 mb_min (by decide) hl.1 (Nat.le_of_ble_eq_true rfl) dX11_trace_6 ?_
  refine sh_puti C hw fl_X11_18 fp_9_2 hf tbX_121 rfl dX11_trace_9 (fun S1 H locs hw hf => ?_)
  refine lv_iconst (v := 0) C.1 C.2.1 dX11_trace_12 (by decide) ?_
  refine lv_istore (lv' := [(4, .int 0), (0, .ref (G.2.1 121)), (1, .ref (G.2.1 4)), (2, .ref (G.2.1 117)), (3, .int v3)]) C.1 C.2.1 dX11_trace_13 hl (by decide) rfl (fun ls hl => ?_)
  refine lv_iconst (v := 0) C.1 C.2.1 dX11_trace_15 (by decide) ?_
  refine lv_istore (lv' := [(5, .int 0), (4, .int 0), (0, .ref (G.2.1 121)), (1, .ref (G.2.1 4)), (2, .ref (G.2.1 117)), (3, .int v3)]) C.1 C.2.1 dX11_trace_16 hl (by decide) rfl (fun ls hl => ?_)
  exact wX11_trace_18 C hr _ S1 v3 0 0 hf _ _ _ hw (lv_sub hl [2, 3, 4, 5, 1, 0] rfl)
def fX12_leaf (S : sh_St) (v1 : Int32) : Option (Int32 × sh_St) :=
    sh_c (fX5_gather S ) fun _ S1 =>
    if v1 < 0 then (some ((-1), S1))
    else (if (S1.1 117 3) ≤ v1 then (some ((-1), S1))
    else (sh_g v1 40 (some (S1.1 118 v1.toNatClampNeg, S1))))
set_option maxRecDepth 100000 in
set_option maxHeartbeats 4000000 in
theorem kX12_leaf (l : Launch) (v1 : Int32) : sh_Mi l yX12_leaf cX12_leaf 2 .int 3 tbX (fun G => [.ref (G.2.1 0), .int v1]) (fun S => fX12_leaf S v1) := by
  refine sh_mki (by decide) (fun G => Nat.le_of_ble_eq_true rfl) ?_
  intro p e s m args below meth c G A S res ls hf C hr hw hl
  have C : sh_Cx p s m args meth c cX12_leaf 2 RX12 G A := C
  have hl : lv_has ls 2 [(0, .ref (G.2.1 0)), (1, .int v1)] := hl
  replace hf : fX12_leaf S v1 = some res := hf
  rw [fX12_leaf] at hf
  refine lv_aload_n C.1 C.2.1 dX12_leaf_0 rfl (lv_at hl 0 rfl) ?_
  refine sh_getr C hw fl_X12_50 tbX_0 rfl dX12_leaf_1 ?_
  refine sh_getr C hw fl_X12_266 tbX_116 rfl dX12_leaf_4 ?_
  refine lv_aload_n C.1 C.2.1 dX12_leaf_7 rfl (lv_at hl 0 rfl) ?_
  refine sh_getr C hw fl_X12_28 tbX_0 rfl dX12_leaf_8 ?_
  refine sh_Vv (As := [.ref (G.2.1 4)]) (rest := []) C hw (kX5_gather l ) yy_X5_gather yv_X5_gather ml_X12_270 hf tbX_117 rfl rfl rfl rfl (Nat.le_of_ble_eq_true rfl) (by decide) hl.1 dX12_leaf_11 (fun S1 H locs hw hf => ?_)
  refine lv_iload_n C.1 C.2.1 dX12_leaf_14 rfl (lv_at hl 1 rfl) ?_
  refine sh_if_lt (tgt := 47) C hf dX12_leaf_15 (by decide) (fun hf => ?_) (fun hf => ?_)
  · refine lv_iconst (v := -1) C.1 C.2.1 dX12_leaf_47 (by decide) ?_
    exact sh_ri C hw hr hf dX12_leaf_48
  · refine lv_iload_n C.1 C.2.1 dX12_leaf_18 rfl (lv_at hl 1 rfl) ?_
    refine lv_aload_n C.1 C.2.1 dX12_leaf_19 rfl (lv_at hl 0 rfl) ?_
    refine sh_getr C hw fl_X12_50 tbX_0 rfl dX12_leaf_20 ?_
    refine sh_getr C hw fl_X12_266 tbX_116 rfl dX12_leaf_23 ?_
    refine sh_geti C hw fl_X12_275 tbX_117 rfl dX12_leaf_26 ?_
    refine sh_icmp_ge (tgt := 47) C hf dX12_leaf_29 (by decide) (fun hf => ?_) (fun hf => ?_)
    · refine lv_iconst (v := -1) C.1 C.2.1 dX12_leaf_47 (by decide) ?_
      exact sh_ri C hw hr hf dX12_leaf_48
    · refine lv_aload_n C.1 C.2.1 dX12_leaf_32 rfl (lv_at hl 0 rfl) ?_
      refine sh_getr C hw fl_X12_50 tbX_0 rfl dX12_leaf_33 ?_
      refine sh_getr C hw fl_X12_266 tbX_116 rfl dX12_leaf_36 ?_
      refine sh_getr C hw fl_X12_276 tbX_117 rfl dX12_leaf_39 ?_
      refine lv_iload_n C.1 C.2.1 dX12_leaf_42 rfl (lv_at hl 1 rfl) ?_
      refine sh_iald C hw hf tbX_118 dX12_leaf_43 (fun hf => ?_)
      refine lv_goto (tgt := 48) C.1 C.2.1 dX12_leaf_44 (by decide) ?_
      exact sh_ri C hw hr hf dX12_leaf_48
def fX4_trace (S : sh_St) (v1 : Int32) : Option (Unit × sh_St) :=
    sh_c (fX5_gather S ) fun _ S1 =>
    sh_c (fX11_trace S1 v1) fun _ S3 =>
    some ((), S3)
set_option maxRecDepth 100000 in
set_option maxHeartbeats 4000000 in
theorem kX4_trace (l : Launch) (v1 : Int32) : sh_Mv l yX4_trace cX4_trace 2 3 tbX (fun G => [.ref (G.2.1 116), .int v1]) (fun S => fX4_trace S v1) := by
  refine sh_mkv (by decide) (fun G => Nat.le_of_ble_eq_true rfl) ?_
  intro p e s m args below meth c G A S res ls hf C hr hw hl
  have C : sh_Cx p s m args meth c cX4_trace 2 RX4 G A := C
  have hl : lv_has ls 2 [(0, .ref (G.2.1 116)), (1, .int v1)] := hl
  replace hf : fX4_trace S v1 = some res := hf
  rw [fX4_trace] at hf
  refine lv_aload_n C.1 C.2.1 dX4_trace_0 rfl (lv_at hl 0 rfl) ?_
  refine sh_getr C hw fl_X4_12 tbX_116 rfl dX4_trace_1 ?_
  refine lv_aload_n C.1 C.2.1 dX4_trace_4 rfl (lv_at hl 0 rfl) ?_
  refine sh_getr C hw fl_X4_36 tbX_116 rfl dX4_trace_5 ?_
  refine sh_Vv (As := [.ref (G.2.1 4)]) (rest := []) C hw (kX5_gather l ) yy_X5_gather yv_X5_gather ml_X4_40 hf tbX_117 rfl rfl rfl rfl (Nat.le_of_ble_eq_true rfl) (by decide) hl.1 dX4_trace_8 (fun S1 H locs hw hf => ?_)
  refine lv_aload_n C.1 C.2.1 dX4_trace_11 rfl (lv_at hl 0 rfl) ?_
  refine sh_getr C hw fl_X4_21 tbX_116 rfl dX4_trace_12 ?_
  refine lv_aload_n C.1 C.2.1 dX4_trace_15 rfl (lv_at hl 0 rfl) ?_
  refine sh_getr C hw fl_X4_36 tbX_116 rfl dX4_trace_16 ?_
  refine lv_aload_n C.1 C.2.1 dX4_trace_19 rfl (lv_at hl 0 rfl) ?_
  refine sh_getr C hw fl_X4_12 tbX_116 rfl dX4_trace_20 ?_
  refine lv_iload_n C.1 C.2.1 dX4_trace_23 rfl (lv_at hl 1 rfl) ?_
  refine sh_Vv (As := [.ref (G.2.1 4), .ref (G.2.1 117), .int v1]) (rest := []) C hw (kX11_trace l v1) yy_X11_trace yv_X11_trace ml_X4_44 hf tbX_121 rfl rfl rfl rfl (Nat.le_of_ble_eq_true rfl) (by decide) hl.1 dX4_trace_24 (fun S3 H locs hw hf => ?_)
  exact sh_rv C hw hr hf dX4_trace_27
def fX4_lookEverywhere_53 (rk7 : sh_St → Int64 → Int32 → Option (Int32 × sh_St)) (S : sh_St) (v1 : Int64) (v3 : Int32) : Option (Int32 × sh_St) :=
    sh_t (v3 + 1) fun y2 =>
    rk7 S v1 y2
set_option maxRecDepth 100000 in
set_option maxHeartbeats 4000000 in
theorem wX4_lookEverywhere_53 {p : Program} {l : Launch} {e : Env} {s : State} {m : MethodId} {args : Array Value} {below : List Frame} {meth : Method} {c : Code} {G : sh_Ev} {A : Nat → Prop} {res : Int32 × sh_St} (C : sh_Cx p s m args meth c cX4_lookEverywhere 5 RX4 G A) (hr : meth.sig.returnType = some .int) (rk7 : sh_St → Int64 → Int32 → Option (Int32 × sh_St)) (hr7 : ∀ (S : sh_St) (v1 : Int64) (v3 : Int32), rk7 S v1 v3 = some res → ∀ (H : Heap) (locs : List Loc) (ls : Array Slot), sh_Wx G tbX A s H locs S → lv_has ls 5 [(0, .ref (G.2.1 116)), (1, .long v1), (3, .int v3)] → W p l e (sh_rm 3) s m args below meth c H locs 0 0 (sh_Qi below args s G tbX A res) (F0 m 7 ls [])) : ∀ (S : sh_St) (v1 : Int64) (v3 : Int32), fX4_lookEverywhere_53 rk7 S v1 v3 = some res → ∀ (H : Heap) (locs : List Loc) (ls : Array Slot), sh_Wx G tbX A s H locs S → lv_has ls 5 [(0, .ref (G.2.1 116)), (1, .long v1), (3, .int v3)] → W p l e (sh_rm 3) s m args below meth c H locs 0 0 (sh_Qi below args s G tbX A res) (F0 m 53 ls []) := by
  intro S v1 v3 hf H locs ls hw hl
  rw [fX4_lookEverywhere_53] at hf
  obtain ⟨y2, ey2, hf⟩ := sh_nm hf
  refine lv_iinc (v := y2) (lv' := [(3, .int y2), (0, .ref (G.2.1 116)), (1, .long v1)]) C.1 C.2.1 dX4_lookEverywhere_53 hl (k := 2) rfl (by rw [← ey2]; rfl) (by decide) rfl (fun ls hl => ?_)
  refine lv_goto (tgt := 7) C.1 C.2.1 dX4_lookEverywhere_56 (by decide) ?_
  exact hr7 S v1 y2 hf _ _ _ hw (lv_sub hl [1, 2, 0] rfl)
def fX4_lookEverywhere_7 : Nat → sh_St → Int64 → Int32 → Option (Int32 × sh_St)
  | 0, _, _, _ => none
  | n + 1, S, v1, v3 =>
    if 40 ≤ v3 then (some ((-1), S))
    else (sh_g v3 40 (if (S.1 5 v3.toNatClampNeg) = 1 then (sh_t (sh_I S 116 4 ((S.1 116 4) + 1)) fun S3 =>
    sh_c (fX4_lookInto S3 v3 v1) fun r5 S4 =>
    if r5 = (-1) then (fX4_lookEverywhere_53 (fX4_lookEverywhere_7 n) S4 v1 v3)
    else (some (r5, S4)))
    else (fX4_lookEverywhere_53 (fX4_lookEverywhere_7 n) S v1 v3)))
set_option maxRecDepth 100000 in
set_option maxHeartbeats 4000000 in
theorem wX4_lookEverywhere_7 {p : Program} {l : Launch} {e : Env} {s : State} {m : MethodId} {args : Array Value} {below : List Frame} {meth : Method} {c : Code} {G : sh_Ev} {A : Nat → Prop} {res : Int32 × sh_St} (C : sh_Cx p s m args meth c cX4_lookEverywhere 5 RX4 G A) (hr : meth.sig.returnType = some .int) : ∀ (n : Nat) (S : sh_St) (v1 : Int64) (v3 : Int32), fX4_lookEverywhere_7 n S v1 v3 = some res → ∀ (H : Heap) (locs : List Loc) (ls : Array Slot), sh_Wx G tbX A s H locs S → lv_has ls 5 [(0, .ref (G.2.1 116)), (1, .long v1), (3, .int v3)] → W p l e (sh_rm 3) s m args below meth c H locs 0 0 (sh_Qi below args s G tbX A res) (F0 m 7 ls []) := by
  intro n
  induction n with
  | zero => intro S v1 v3 hf; exact nomatch (show (none : Option (Int32 × sh_St)) = some res from hf)
  | succ n ih =>
    intro S v1 v3 hf H locs ls hw hl
    have hr7 := ih
    rw [fX4_lookEverywhere_7] at hf
    refine lv_iload_n C.1 C.2.1 dX4_lookEverywhere_7 rfl (lv_at hl 2 rfl) ?_
    refine lv_bipush (v := 40) C.1 C.2.1 dX4_lookEverywhere_8 (by decide) ?_
    refine sh_icmp_ge (tgt := 59) C hf dX4_lookEverywhere_10 (by decide) (fun hf => ?_) (fun hf => ?_)
    · refine lv_iconst (v := -1) C.1 C.2.1 dX4_lookEverywhere_59 (by decide) ?_
      exact sh_ri C hw hr hf dX4_lookEverywhere_60
    · refine lv_aload_n C.1 C.2.1 dX4_lookEverywhere_13 rfl (lv_at hl 0 rfl) ?_
      refine sh_getr C hw fl_X4_36 tbX_116 rfl dX4_lookEverywhere_14 ?_
      refine sh_getr C hw fl_X4_78 tbX_4 rfl dX4_lookEverywhere_17 ?_
      refine lv_iload_n C.1 C.2.1 dX4_lookEverywhere_20 rfl (lv_at hl 2 rfl) ?_
      refine sh_iald C hw hf tbX_5 dX4_lookEverywhere_21 (fun hf => ?_)
      refine lv_iconst (v := 1) C.1 C.2.1 dX4_lookEverywhere_22 (by decide) ?_
      refine sh_icmp_ne (tgt := 53) C hf dX4_lookEverywhere_23 (by decide) (fun hf => ?_) (fun hf => ?_)
      · exact wX4_lookEverywhere_53 C hr (fX4_lookEverywhere_7 n) hr7 S v1 v3 hf _ _ _ hw (lv_sub hl [0, 1, 2] rfl)
      · refine lv_aload_n C.1 C.2.1 dX4_lookEverywhere_26 rfl (lv_at hl 0 rfl) ?_
        refine lv_dup C.1 C.2.1 dX4_lookEverywhere_27 rfl ?_
        refine sh_geti C hw fl_X4_32 tbX_116 rfl dX4_lookEverywhere_28 ?_
        refine lv_iconst (v := 1) C.1 C.2.1 dX4_lookEverywhere_31 (by decide) ?_
        refine lv_iadd C.1 C.2.1 dX4_lookEverywhere_32 ?_
        refine sh_puti C hw fl_X4_32 fp_2_4 hf tbX_116 rfl dX4_lookEverywhere_33 (fun S3 H locs hw hf => ?_)
        refine lv_aload_n C.1 C.2.1 dX4_lookEverywhere_36 rfl (lv_at hl 0 rfl) ?_
        refine lv_iload_n C.1 C.2.1 dX4_lookEverywhere_37 rfl (lv_at hl 2 rfl) ?_
        refine lv_lload_n C.1 C.2.1 dX4_lookEverywhere_38 rfl (lv_at hl 1 rfl) ?_
        refine sh_Vi (As := [.int v3, .long v1]) (rest := []) C hw (kX4_lookInto l v3 v1) yy_X4_lookInto yv_X4_lookInto ml_X4_74 hf tbX_116 rfl rfl rfl rfl (Nat.le_of_ble_eq_true rfl) (by decide) hl.1 dX4_lookEverywhere_39 (fun r5 S4 H locs hw hf => ?_)
        refine lv_istore (lv' := [(4, .int r5), (0, .ref (G.2.1 116)), (1, .long v1), (3, .int v3)]) C.1 C.2.1 dX4_lookEverywhere_42 hl (by decide) rfl (fun ls hl => ?_)
        refine lv_iload C.1 C.2.1 dX4_lookEverywhere_44 (lv_at hl 0 rfl) ?_
        refine lv_iconst (v := -1) C.1 C.2.1 dX4_lookEverywhere_46 (by decide) ?_
        refine sh_icmp_eq (tgt := 53) C hf dX4_lookEverywhere_47 (by decide) (fun hf => ?_) (fun hf => ?_)
        · exact wX4_lookEverywhere_53 C hr (fX4_lookEverywhere_7 n) hr7 S4 v1 v3 hf _ _ _ hw (lv_sub hl [1, 2, 3] rfl)
        · refine lv_iload C.1 C.2.1 dX4_lookEverywhere_50 (lv_at hl 0 rfl) ?_
          exact sh_ri C hw hr hf dX4_lookEverywhere_52
def fX4_lookEverywhere (S : sh_St) (v1 : Int64) : Option (Int32 × sh_St) :=
    sh_t (sh_I S 116 4 1) fun S1 =>
    fX4_lookEverywhere_7 sh_FU S1 v1 0
set_option maxRecDepth 100000 in
set_option maxHeartbeats 4000000 in
theorem kX4_lookEverywhere (l : Launch) (v1 : Int64) : sh_Mi l yX4_lookEverywhere cX4_lookEverywhere 5 .int 3 tbX (fun G => [.ref (G.2.1 116), .long v1]) (fun S => fX4_lookEverywhere S v1) := by
  refine sh_mki (by decide) (fun G => Nat.le_of_ble_eq_true rfl) ?_
  intro p e s m args below meth c G A S res ls hf C hr hw hl
  have C : sh_Cx p s m args meth c cX4_lookEverywhere 5 RX4 G A := C
  have hl : lv_has ls 5 [(0, .ref (G.2.1 116)), (1, .long v1)] := hl
  replace hf : fX4_lookEverywhere S v1 = some res := hf
  rw [fX4_lookEverywhere] at hf
  refine lv_aload_n C.1 C.2.1 dX4_lookEverywhere_0 rfl (lv_at hl 0 rfl) ?_
  refine lv_iconst (v := 1) C.1 C.2.1 dX4_lookEverywhere_1 (by decide) ?_
  refine sh_puti C hw fl_X4_32 fp_2_4 hf tbX_116 rfl dX4_lookEverywhere_2 (fun S1 H locs hw hf => ?_)
  refine lv_iconst (v := 0) C.1 C.2.1 dX4_lookEverywhere_5 (by decide) ?_
  refine lv_istore_n (lv' := [(3, .int 0), (0, .ref (G.2.1 116)), (1, .long v1)]) C.1 C.2.1 dX4_lookEverywhere_6 rfl hl (by decide) rfl (fun ls hl => ?_)
  exact wX4_lookEverywhere_7 C hr _ S1 v1 0 hf _ _ _ hw (lv_sub hl [1, 2, 0] rfl)
def fX4_wouldFoldMeet_61 : Nat → sh_St → Int32 → Option (Int32 × sh_St)
  | 0, _, _ => none
  | n + 1, S, v1 =>
    if (S.1 124 3) ≤ v1 then (sh_b 0 (some (0, S)))
    else (sh_g v1 240 (sh_g (v1 - 1) 240 (if (S.2 125 v1.toNatClampNeg) = (S.2 125 (v1 - 1).toNatClampNeg) then (sh_b 1 (some (1, S)))
    else (sh_t (v1 + 1) fun y2 =>
    (fX4_wouldFoldMeet_61 n) S y2))))
set_option maxRecDepth 100000 in
set_option maxHeartbeats 4000000 in
theorem wX4_wouldFoldMeet_61 {p : Program} {l : Launch} {e : Env} {s : State} {m : MethodId} {args : Array Value} {below : List Frame} {meth : Method} {c : Code} {G : sh_Ev} {A : Nat → Prop} {res : Int32 × sh_St} (C : sh_Cx p s m args meth c cX4_wouldFoldMeet 2 RX4 G A) (hr : meth.sig.returnType = some .boolean) : ∀ (n : Nat) (S : sh_St) (v1 : Int32), fX4_wouldFoldMeet_61 n S v1 = some res → ∀ (H : Heap) (locs : List Loc) (ls : Array Slot), sh_Wx G tbX A s H locs S → lv_has ls 2 [(0, .ref (G.2.1 116)), (1, .int v1)] → W p l e (sh_rm 3) s m args below meth c H locs 0 0 (sh_Qi below args s G tbX A res) (F0 m 61 ls []) := by
  intro n
  induction n with
  | zero => intro S v1 hf; exact nomatch (show (none : Option (Int32 × sh_St)) = some res from hf)
  | succ n ih =>
    intro S v1 hf H locs ls hw hl
    have hr61 := ih
    rw [fX4_wouldFoldMeet_61] at hf
    refine lv_iload_n C.1 C.2.1 dX4_wouldFoldMeet_61 rfl (lv_at hl 1 rfl) ?_
    refine lv_aload_n C.1 C.2.1 dX4_wouldFoldMeet_62 rfl (lv_at hl 0 rfl) ?_
    refine sh_getr C hw fl_X4_28 tbX_116 rfl dX4_wouldFoldMeet_63 ?_
    refine sh_geti C hw fl_X4_129 tbX_124 rfl dX4_wouldFoldMeet_66 ?_
    refine sh_icmp_ge (tgt := 104) C hf dX4_wouldFoldMeet_69 (by decide) (fun hf => ?_) (fun hf => ?_)
    · refine lv_iconst (v := 0) C.1 C.2.1 dX4_wouldFoldMeet_104 (by decide) ?_
      exact sh_rz C hw hr hf dX4_wouldFoldMeet_105
    · refine lv_aload_n C.1 C.2.1 dX4_wouldFoldMeet_72 rfl (lv_at hl 0 rfl) ?_
      refine sh_getr C hw fl_X4_28 tbX_116 rfl dX4_wouldFoldMeet_73 ?_
      refine sh_getr C hw fl_X4_136 tbX_124 rfl dX4_wouldFoldMeet_76 ?_
      refine lv_iload_n C.1 C.2.1 dX4_wouldFoldMeet_79 rfl (lv_at hl 1 rfl) ?_
      refine sh_lald C hw hf tbX_125 dX4_wouldFoldMeet_80 (fun hf => ?_)
      refine lv_aload_n C.1 C.2.1 dX4_wouldFoldMeet_81 rfl (lv_at hl 0 rfl) ?_
      refine sh_getr C hw fl_X4_28 tbX_116 rfl dX4_wouldFoldMeet_82 ?_
      refine sh_getr C hw fl_X4_136 tbX_124 rfl dX4_wouldFoldMeet_85 ?_
      refine lv_iload_n C.1 C.2.1 dX4_wouldFoldMeet_88 rfl (lv_at hl 1 rfl) ?_
      refine lv_iconst (v := 1) C.1 C.2.1 dX4_wouldFoldMeet_89 (by decide) ?_
      refine lv_isub C.1 C.2.1 dX4_wouldFoldMeet_90 ?_
      refine sh_lald C hw hf tbX_125 dX4_wouldFoldMeet_91 (fun hf => ?_)
      refine sh_lcmp_ne (tgt := 98) C hf dX4_wouldFoldMeet_92 dX4_wouldFoldMeet_93 (by decide) (fun hf => ?_) (fun hf => ?_)
      · obtain ⟨y2, ey2, hf⟩ := sh_nm hf
        refine lv_iinc (v := y2) (lv' := [(1, .int y2), (0, .ref (G.2.1 116))]) C.1 C.2.1 dX4_wouldFoldMeet_98 hl (k := 1) rfl (by rw [← ey2]; rfl) (by decide) rfl (fun ls hl => ?_)
        refine lv_goto (tgt := 61) C.1 C.2.1 dX4_wouldFoldMeet_101 (by decide) ?_
        exact hr61 S y2 hf _ _ _ hw (lv_sub hl [1, 0] rfl)
      · refine lv_iconst (v := 1) C.1 C.2.1 dX4_wouldFoldMeet_96 (by decide) ?_
        exact sh_rz C hw hr hf dX4_wouldFoldMeet_97
def fX4_wouldFoldMeet_53 (rk10 : sh_St → Int32 → Option (Int32 × sh_St)) (S : sh_St) (v1 : Int32) : Option (Int32 × sh_St) :=
    sh_t (v1 + 1) fun y3 =>
    rk10 S y3
set_option maxRecDepth 100000 in
set_option maxHeartbeats 4000000 in
theorem wX4_wouldFoldMeet_53 {p : Program} {l : Launch} {e : Env} {s : State} {m : MethodId} {args : Array Value} {below : List Frame} {meth : Method} {c : Code} {G : sh_Ev} {A : Nat → Prop} {res : Int32 × sh_St} (C : sh_Cx p s m args meth c cX4_wouldFoldMeet 2 RX4 G A) (hr : meth.sig.returnType = some .boolean) (rk10 : sh_St → Int32 → Option (Int32 × sh_St)) (hr10 : ∀ (S : sh_St) (v1 : Int32), rk10 S v1 = some res → ∀ (H : Heap) (locs : List Loc) (ls : Array Slot), sh_Wx G tbX A s H locs S → lv_has ls 2 [(0, .ref (G.2.1 116)), (1, .int v1)] → W p l e (sh_rm 3) s m args below meth c H locs 0 0 (sh_Qi below args s G tbX A res) (F0 m 10 ls [])) : ∀ (S : sh_St) (v1 : Int32), fX4_wouldFoldMeet_53 rk10 S v1 = some res → ∀ (H : Heap) (locs : List Loc) (ls : Array Slot), sh_Wx G tbX A s H locs S → lv_has ls 2 [(0, .ref (G.2.1 116)), (1, .int v1)] → W p l e (sh_rm 3) s m args below meth c H locs 0 0 (sh_Qi below args s G tbX A res) (F0 m 53 ls []) := by
  intro S v1 hf H locs ls hw hl
  rw [fX4_wouldFoldMeet_53] at hf
  obtain ⟨y3, ey3, hf⟩ := sh_nm hf
  refine lv_iinc (v := y3) (lv' := [(1, .int y3), (0, .ref (G.2.1 116))]) C.1 C.2.1 dX4_wouldFoldMeet_53 hl (k := 1) rfl (by rw [← ey3]; rfl) (by decide) rfl (fun ls hl => ?_)
  refine lv_goto (tgt := 10) C.1 C.2.1 dX4_wouldFoldMeet_56 (by decide) ?_
  exact hr10 S y3 hf _ _ _ hw (lv_sub hl [1, 0] rfl)
def fX4_wouldFoldMeet_10 : Nat → sh_St → Int32 → Option (Int32 × sh_St)
  | 0, _, _ => none
  | n + 1, S, v1 =>
    if 240 ≤ v1 then (fX4_wouldFoldMeet_61 sh_FU S 1)
    else (sh_g v1 240 (if (S.2 8 v1.toNatClampNeg) = 0 then (fX4_wouldFoldMeet_53 (fX4_wouldFoldMeet_10 n) S v1)
    else (sh_g v1 240 (sh_c (fX6_add S ((S.2 8 v1.toNatClampNeg) ||| 2314885530818453536) 0 0) fun _ S4 =>
    fX4_wouldFoldMeet_53 (fX4_wouldFoldMeet_10 n) S4 v1))))
set_option maxRecDepth 100000 in
set_option maxHeartbeats 4000000 in
theorem wX4_wouldFoldMeet_10 {p : Program} {l : Launch} {e : Env} {s : State} {m : MethodId} {args : Array Value} {below : List Frame} {meth : Method} {c : Code} {G : sh_Ev} {A : Nat → Prop} {res : Int32 × sh_St} (C : sh_Cx p s m args meth c cX4_wouldFoldMeet 2 RX4 G A) (hr : meth.sig.returnType = some .boolean) : ∀ (n : Nat) (S : sh_St) (v1 : Int32), fX4_wouldFoldMeet_10 n S v1 = some res → ∀ (H : Heap) (locs : List Loc) (ls : Array Slot), sh_Wx G tbX A s H locs S → lv_has ls 2 [(0, .ref (G.2.1 116)), (1, .int v1)] → W p l e (sh_rm 3) s m args below meth c H locs 0 0 (sh_Qi below args s G tbX A res) (F0 m 10 ls []) := by
  intro n
  induction n with
  | zero => intro S v1 hf; exact nomatch (show (none : Option (Int32 × sh_St)) = some res from hf)
  | succ n ih =>
    intro S v1 hf H locs ls hw hl
    have hr10 := ih
    rw [fX4_wouldFoldMeet_10] at hf
    refine lv_iload_n C.1 C.2.1 dX4_wouldFoldMeet_10 rfl (lv_at hl 1 rfl) ?_
    refine lv_sipush (v := 240) C.1 C.2.1 dX4_wouldFoldMeet_11 (by decide) ?_
    refine sh_icmp_ge (tgt := 59) C hf dX4_wouldFoldMeet_14 (by decide) (fun hf => ?_) (fun hf => ?_)
    · refine lv_iconst (v := 1) C.1 C.2.1 dX4_wouldFoldMeet_59 (by decide) ?_
      refine lv_istore_n (lv' := [(1, .int 1), (0, .ref (G.2.1 116))]) C.1 C.2.1 dX4_wouldFoldMeet_60 rfl hl (by decide) rfl (fun ls hl => ?_)
      exact wX4_wouldFoldMeet_61 C hr _ S 1 hf _ _ _ hw (lv_sub hl [1, 0] rfl)
    · refine lv_aload_n C.1 C.2.1 dX4_wouldFoldMeet_17 rfl (lv_at hl 0 rfl) ?_
      refine sh_getr C hw fl_X4_36 tbX_116 rfl dX4_wouldFoldMeet_18 ?_
      refine sh_getr C hw fl_X4_81 tbX_4 rfl dX4_wouldFoldMeet_21 ?_
      refine lv_iload_n C.1 C.2.1 dX4_wouldFoldMeet_24 rfl (lv_at hl 1 rfl) ?_
      refine sh_lald C hw hf tbX_8 dX4_wouldFoldMeet_25 (fun hf => ?_)
      refine lv_lconst (v := 0) C.1 C.2.1 dX4_wouldFoldMeet_26 (by decide) ?_
      refine sh_lcmp_eq (tgt := 53) C hf dX4_wouldFoldMeet_27 dX4_wouldFoldMeet_28 (by decide) (fun hf => ?_) (fun hf => ?_)
      · exact wX4_wouldFoldMeet_53 C hr (fX4_wouldFoldMeet_10 n) hr10 S v1 hf _ _ _ hw (lv_sub hl [0, 1] rfl)
      · refine lv_aload_n C.1 C.2.1 dX4_wouldFoldMeet_31 rfl (lv_at hl 0 rfl) ?_
        refine sh_getr C hw fl_X4_28 tbX_116 rfl dX4_wouldFoldMeet_32 ?_
        refine lv_aload_n C.1 C.2.1 dX4_wouldFoldMeet_35 rfl (lv_at hl 0 rfl) ?_
        refine sh_getr C hw fl_X4_36 tbX_116 rfl dX4_wouldFoldMeet_36 ?_
        refine sh_getr C hw fl_X4_81 tbX_4 rfl dX4_wouldFoldMeet_39 ?_
        refine lv_iload_n C.1 C.2.1 dX4_wouldFoldMeet_42 rfl (lv_at hl 1 rfl) ?_
        refine sh_lald C hw hf tbX_8 dX4_wouldFoldMeet_43 (fun hf => ?_)
        refine lv_ldc2 C.1 C.2.1 C.2.2.2.1 (C.2.2.2.2.1 _ kc_X4_130) dX4_wouldFoldMeet_44 ?_
        refine lv_lor C.1 C.2.1 dX4_wouldFoldMeet_47 ?_
        refine lv_iconst (v := 0) C.1 C.2.1 dX4_wouldFoldMeet_48 (by decide) ?_
        refine lv_iconst (v := 0) C.1 C.2.1 dX4_wouldFoldMeet_49 (by decide) ?_
        refine sh_Vv (As := [.long ((S.2 8 v1.toNatClampNeg) ||| 2314885530818453536), .int 0, .int 0]) (rest := []) C hw (kX6_add l ((S.2 8 v1.toNatClampNeg) ||| 2314885530818453536) 0 0) yy_X6_add yv_X6_add ml_X4_132 hf tbX_124 rfl rfl rfl rfl (Nat.le_of_ble_eq_true rfl) (by decide) hl.1 dX4_wouldFoldMeet_50 (fun S4 H locs hw hf => ?_)
        exact wX4_wouldFoldMeet_53 C hr (fX4_wouldFoldMeet_10 n) hr10 S4 v1 hf _ _ _ hw (lv_sub hl [0, 1] rfl)
def fX4_wouldFoldMeet (S : sh_St) : Option (Int32 × sh_St) :=
    sh_t (sh_I S 124 3 0) fun S1 =>
    fX4_wouldFoldMeet_10 sh_FU S1 0
set_option maxRecDepth 100000 in
set_option maxHeartbeats 4000000 in
theorem kX4_wouldFoldMeet (l : Launch) : sh_Mi l yX4_wouldFoldMeet cX4_wouldFoldMeet 2 .boolean 3 tbX (fun G => [.ref (G.2.1 116)]) (fun S => fX4_wouldFoldMeet S) := by
  refine sh_mki (by decide) (fun G => Nat.le_of_ble_eq_true rfl) ?_
  intro p e s m args below meth c G A S res ls hf C hr hw hl
  have C : sh_Cx p s m args meth c cX4_wouldFoldMeet 2 RX4 G A := C
  have hl : lv_has ls 2 [(0, .ref (G.2.1 116))] := hl
  replace hf : fX4_wouldFoldMeet S = some res := hf
  rw [fX4_wouldFoldMeet] at hf
  refine lv_aload_n C.1 C.2.1 dX4_wouldFoldMeet_0 rfl (lv_at hl 0 rfl) ?_
  refine sh_getr C hw fl_X4_28 tbX_116 rfl dX4_wouldFoldMeet_1 ?_
  refine lv_iconst (v := 0) C.1 C.2.1 dX4_wouldFoldMeet_4 (by decide) ?_
  refine sh_puti C hw fl_X4_129 fp_4_3 hf tbX_124 rfl dX4_wouldFoldMeet_5 (fun S1 H locs hw hf => ?_)
  refine lv_iconst (v := 0) C.1 C.2.1 dX4_wouldFoldMeet_8 (by decide) ?_
  refine lv_istore_n (lv' := [(1, .int 0), (0, .ref (G.2.1 116))]) C.1 C.2.1 dX4_wouldFoldMeet_9 rfl hl (by decide) rfl (fun ls hl => ?_)
  exact wX4_wouldFoldMeet_10 C hr _ S1 0 hf _ _ _ hw (lv_sub hl [1, 0] rfl)
def fX4_blocksFor (S : sh_St) (v1 : Int64) : Option (Int32 × sh_St) :=
    sh_c (fX7_hashOf S v1) fun r2 S1 =>
    sh_c (fX4_trace S1 r2) fun _ S3 =>
    sh_c (fX4_spotOnWay S3 ) fun r6 S5 =>
    if r6 = (-1) then (if (S5.1 4 3) = 0 then (some (2, S5))
    else (sh_c (fX11_lowestIndex S5 ) fun r8 S7 =>
    sh_g r8 40 (if 5 ≤ (S7.1 6 r8.toNatClampNeg) then (if (S7.1 4 3) = 1 then (some (3, S7))
    else (sh_g 0 40 (if 5 ≤ (S7.1 6 (0 : Int32).toNatClampNeg) then (some ((-1), S7))
    else (some (2, S7)))))
    else (some (1, S7)))))
    else (some (0, S5))
set_option maxRecDepth 100000 in
set_option maxHeartbeats 4000000 in
theorem kX4_blocksFor (l : Launch) (v1 : Int64) : sh_Mi l yX4_blocksFor cX4_blocksFor 3 .int 4 tbX (fun G => [.ref (G.2.1 116), .long v1]) (fun S => fX4_blocksFor S v1) := by
  refine sh_mki (by decide) (fun G => Nat.le_of_ble_eq_true rfl) ?_
  intro p e s m args below meth c G A S res ls hf C hr hw hl
  have C : sh_Cx p s m args meth c cX4_blocksFor 3 RX4 G A := C
  have hl : lv_has ls 3 [(0, .ref (G.2.1 116)), (1, .long v1)] := hl
  replace hf : fX4_blocksFor S v1 = some res := hf
  rw [fX4_blocksFor] at hf
  refine lv_aload_n C.1 C.2.1 dX4_blocksFor_0 rfl (lv_at hl 0 rfl) ?_
  refine lv_aload_n C.1 C.2.1 dX4_blocksFor_1 rfl (lv_at hl 0 rfl) ?_
  refine sh_getr C hw fl_X4_36 tbX_116 rfl dX4_blocksFor_2 ?_
  refine lv_lload_n C.1 C.2.1 dX4_blocksFor_5 rfl (lv_at hl 1 rfl) ?_
  refine sh_Vi (As := [.long v1]) (rest := [.ref (G.2.1 116)]) C hw (kX7_hashOf l v1) yy_X7_hashOf yv_X7_hashOf ml_X4_58 hf tbX_4 rfl rfl rfl rfl (Nat.le_of_ble_eq_true rfl) (by decide) hl.1 dX4_blocksFor_6 (fun r2 S1 H locs hw hf => ?_)
  refine sh_Vv (As := [.int r2]) (rest := []) C hw (kX4_trace l r2) yy_X4_trace yv_X4_trace ml_X4_61 hf tbX_116 rfl rfl rfl rfl (Nat.le_of_ble_eq_true rfl) (by decide) hl.1 dX4_blocksFor_9 (fun S3 H locs hw hf => ?_)
  refine lv_aload_n C.1 C.2.1 dX4_blocksFor_12 rfl (lv_at hl 0 rfl) ?_
  refine sh_Vi (As := []) (rest := []) C hw (kX4_spotOnWay l ) yy_X4_spotOnWay yv_X4_spotOnWay ml_X4_137 hf tbX_116 rfl rfl rfl rfl (Nat.le_of_ble_eq_true rfl) (by decide) hl.1 dX4_blocksFor_13 (fun r6 S5 H locs hw hf => ?_)
  refine lv_iconst (v := -1) C.1 C.2.1 dX4_blocksFor_16 (by decide) ?_
  refine sh_icmp_eq (tgt := 22) C hf dX4_blocksFor_17 (by decide) (fun hf => ?_) (fun hf => ?_)
  · refine lv_aload_n C.1 C.2.1 dX4_blocksFor_22 rfl (lv_at hl 0 rfl) ?_
    refine sh_getr C hw fl_X4_36 tbX_116 rfl dX4_blocksFor_23 ?_
    refine sh_geti C hw fl_X4_140 tbX_4 rfl dX4_blocksFor_26 ?_
    refine sh_if_ne (tgt := 34) C hf dX4_blocksFor_29 (by decide) (fun hf => ?_) (fun hf => ?_)
    · refine lv_aload_n C.1 C.2.1 dX4_blocksFor_34 rfl (lv_at hl 0 rfl) ?_
      refine sh_getr C hw fl_X4_36 tbX_116 rfl dX4_blocksFor_35 ?_
      refine sh_getr C hw fl_X4_143 tbX_4 rfl dX4_blocksFor_38 ?_
      refine lv_aload_n C.1 C.2.1 dX4_blocksFor_41 rfl (lv_at hl 0 rfl) ?_
      refine sh_getr C hw fl_X4_21 tbX_116 rfl dX4_blocksFor_42 ?_
      refine sh_Vi (As := []) (rest := [.ref (G.2.1 6)]) C hw (kX11_lowestIndex l ) yy_X11_lowestIndex yv_X11_lowestIndex ml_X4_146 hf tbX_121 rfl rfl rfl rfl (Nat.le_of_ble_eq_true rfl) (by decide) hl.1 dX4_blocksFor_45 (fun r8 S7 H locs hw hf => ?_)
      refine sh_iald C hw hf tbX_6 dX4_blocksFor_48 (fun hf => ?_)
      refine lv_iconst (v := 5) C.1 C.2.1 dX4_blocksFor_49 (by decide) ?_
      refine sh_icmp_ge (tgt := 55) C hf dX4_blocksFor_50 (by decide) (fun hf => ?_) (fun hf => ?_)
      · refine lv_aload_n C.1 C.2.1 dX4_blocksFor_55 rfl (lv_at hl 0 rfl) ?_
        refine sh_getr C hw fl_X4_36 tbX_116 rfl dX4_blocksFor_56 ?_
        refine sh_geti C hw fl_X4_140 tbX_4 rfl dX4_blocksFor_59 ?_
        refine lv_iconst (v := 1) C.1 C.2.1 dX4_blocksFor_62 (by decide) ?_
        refine sh_icmp_ne (tgt := 68) C hf dX4_blocksFor_63 (by decide) (fun hf => ?_) (fun hf => ?_)
        · refine lv_aload_n C.1 C.2.1 dX4_blocksFor_68 rfl (lv_at hl 0 rfl) ?_
          refine sh_getr C hw fl_X4_36 tbX_116 rfl dX4_blocksFor_69 ?_
          refine sh_getr C hw fl_X4_143 tbX_4 rfl dX4_blocksFor_72 ?_
          refine lv_iconst (v := 0) C.1 C.2.1 dX4_blocksFor_75 (by decide) ?_
          refine sh_iald C hw hf tbX_6 dX4_blocksFor_76 (fun hf => ?_)
          refine lv_iconst (v := 5) C.1 C.2.1 dX4_blocksFor_77 (by decide) ?_
          refine sh_icmp_ge (tgt := 85) C hf dX4_blocksFor_78 (by decide) (fun hf => ?_) (fun hf => ?_)
          · refine lv_iconst (v := -1) C.1 C.2.1 dX4_blocksFor_85 (by decide) ?_
            exact sh_ri C hw hr hf dX4_blocksFor_86
          · refine lv_iconst (v := 2) C.1 C.2.1 dX4_blocksFor_81 (by decide) ?_
            refine lv_goto (tgt := 86) C.1 C.2.1 dX4_blocksFor_82 (by decide) ?_
            exact sh_ri C hw hr hf dX4_blocksFor_86
        · refine lv_iconst (v := 3) C.1 C.2.1 dX4_blocksFor_66 (by decide) ?_
          exact sh_ri C hw hr hf dX4_blocksFor_67
      · refine lv_iconst (v := 1) C.1 C.2.1 dX4_blocksFor_53 (by decide) ?_
        exact sh_ri C hw hr hf dX4_blocksFor_54
    · refine lv_iconst (v := 2) C.1 C.2.1 dX4_blocksFor_32 (by decide) ?_
      exact sh_ri C hw hr hf dX4_blocksFor_33
  · refine lv_iconst (v := 0) C.1 C.2.1 dX4_blocksFor_20 (by decide) ?_
    exact sh_ri C hw hr hf dX4_blocksFor_21
def fX4_poolOfLeaf_13 : Nat → sh_St → Int32 → Int32 → Option (Unit × sh_St)
  | 0, _, _, _ => none
  | n + 1, S, v1, v2 =>
    if ((v1 * 6) + 6) ≤ v2 then (some ((), S))
    else (sh_g v2 240 (sh_g v2 240 (sh_g v2 240 (sh_c (fX6_add S (S.2 8 v2.toNatClampNeg) (S.1 9 v2.toNatClampNeg) (S.1 10 v2.toNatClampNeg)) fun _ S3 =>
    sh_t (v2 + 1) fun y5 =>
    (fX4_poolOfLeaf_13 n) S3 v1 y5))))
set_option maxRecDepth 100000 in
set_option maxHeartbeats 4000000 in
theorem wX4_poolOfLeaf_13 {p : Program} {l : Launch} {e : Env} {s : State} {m : MethodId} {args : Array Value} {below : List Frame} {meth : Method} {c : Code} {G : sh_Ev} {A : Nat → Prop} {res : Unit × sh_St} (C : sh_Cx p s m args meth c cX4_poolOfLeaf 3 RX4 G A) (hr : meth.sig.returnType = none) : ∀ (n : Nat) (S : sh_St) (v1 : Int32) (v2 : Int32), fX4_poolOfLeaf_13 n S v1 v2 = some res → ∀ (H : Heap) (locs : List Loc) (ls : Array Slot), sh_Wx G tbX A s H locs S → lv_has ls 3 [(0, .ref (G.2.1 116)), (1, .int v1), (2, .int v2)] → W p l e (sh_rm 3) s m args below meth c H locs 0 0 (sh_Qv below args s G tbX A res) (F0 m 13 ls []) := by
  intro n
  induction n with
  | zero => intro S v1 v2 hf; exact nomatch (show (none : Option (Unit × sh_St)) = some res from hf)
  | succ n ih =>
    intro S v1 v2 hf H locs ls hw hl
    have hr13 := ih
    rw [fX4_poolOfLeaf_13] at hf
    refine lv_iload_n C.1 C.2.1 dX4_poolOfLeaf_13 rfl (lv_at hl 2 rfl) ?_
    refine lv_iload_n C.1 C.2.1 dX4_poolOfLeaf_14 rfl (lv_at hl 1 rfl) ?_
    refine lv_bipush (v := 6) C.1 C.2.1 dX4_poolOfLeaf_15 (by decide) ?_
    refine lv_imul C.1 C.2.1 dX4_poolOfLeaf_17 ?_
    refine lv_bipush (v := 6) C.1 C.2.1 dX4_poolOfLeaf_18 (by decide) ?_
    refine lv_iadd C.1 C.2.1 dX4_poolOfLeaf_20 ?_
    refine sh_icmp_ge (tgt := 64) C hf dX4_poolOfLeaf_21 (by decide) (fun hf => ?_) (fun hf => ?_)
    · exact sh_rv C hw hr hf dX4_poolOfLeaf_64
    · refine lv_aload_n C.1 C.2.1 dX4_poolOfLeaf_24 rfl (lv_at hl 0 rfl) ?_
      refine sh_getr C hw fl_X4_28 tbX_116 rfl dX4_poolOfLeaf_25 ?_
      refine lv_aload_n C.1 C.2.1 dX4_poolOfLeaf_28 rfl (lv_at hl 0 rfl) ?_
      refine sh_getr C hw fl_X4_36 tbX_116 rfl dX4_poolOfLeaf_29 ?_
      refine sh_getr C hw fl_X4_81 tbX_4 rfl dX4_poolOfLeaf_32 ?_
      refine lv_iload_n C.1 C.2.1 dX4_poolOfLeaf_35 rfl (lv_at hl 2 rfl) ?_
      refine sh_lald C hw hf tbX_8 dX4_poolOfLeaf_36 (fun hf => ?_)
      refine lv_aload_n C.1 C.2.1 dX4_poolOfLeaf_37 rfl (lv_at hl 0 rfl) ?_
      refine sh_getr C hw fl_X4_36 tbX_116 rfl dX4_poolOfLeaf_38 ?_
      refine sh_getr C hw fl_X4_96 tbX_4 rfl dX4_poolOfLeaf_41 ?_
      refine lv_iload_n C.1 C.2.1 dX4_poolOfLeaf_44 rfl (lv_at hl 2 rfl) ?_
      refine sh_iald C hw hf tbX_9 dX4_poolOfLeaf_45 (fun hf => ?_)
      refine lv_aload_n C.1 C.2.1 dX4_poolOfLeaf_46 rfl (lv_at hl 0 rfl) ?_
      refine sh_getr C hw fl_X4_36 tbX_116 rfl dX4_poolOfLeaf_47 ?_
      refine sh_getr C hw fl_X4_205 tbX_4 rfl dX4_poolOfLeaf_50 ?_
      refine lv_iload_n C.1 C.2.1 dX4_poolOfLeaf_53 rfl (lv_at hl 2 rfl) ?_
      refine sh_iald C hw hf tbX_10 dX4_poolOfLeaf_54 (fun hf => ?_)
      refine sh_Vv (As := [.long (S.2 8 v2.toNatClampNeg), .int (S.1 9 v2.toNatClampNeg), .int (S.1 10 v2.toNatClampNeg)]) (rest := []) C hw (kX6_add l (S.2 8 v2.toNatClampNeg) (S.1 9 v2.toNatClampNeg) (S.1 10 v2.toNatClampNeg)) yy_X6_add yv_X6_add ml_X4_132 hf tbX_124 rfl rfl rfl rfl (Nat.le_of_ble_eq_true rfl) (by decide) hl.1 dX4_poolOfLeaf_55 (fun S3 H locs hw hf => ?_)
      obtain ⟨y5, ey5, hf⟩ := sh_nm hf
      refine lv_iinc (v := y5) (lv' := [(2, .int y5), (0, .ref (G.2.1 116)), (1, .int v1)]) C.1 C.2.1 dX4_poolOfLeaf_58 hl (k := 2) rfl (by rw [← ey5]; rfl) (by decide) rfl (fun ls hl => ?_)
      refine lv_goto (tgt := 13) C.1 C.2.1 dX4_poolOfLeaf_61 (by decide) ?_
      exact hr13 S3 v1 y5 hf _ _ _ hw (lv_sub hl [1, 2, 0] rfl)
def fX4_poolOfLeaf (S : sh_St) (v1 : Int32) : Option (Unit × sh_St) :=
    sh_t (sh_I S 124 3 0) fun S1 =>
    sh_t (v1 * 6) fun y2 =>
    fX4_poolOfLeaf_13 sh_FU S1 v1 y2
set_option maxRecDepth 100000 in
set_option maxHeartbeats 4000000 in
theorem kX4_poolOfLeaf (l : Launch) (v1 : Int32) : sh_Mv l yX4_poolOfLeaf cX4_poolOfLeaf 3 3 tbX (fun G => [.ref (G.2.1 116), .int v1]) (fun S => fX4_poolOfLeaf S v1) := by
  refine sh_mkv (by decide) (fun G => Nat.le_of_ble_eq_true rfl) ?_
  intro p e s m args below meth c G A S res ls hf C hr hw hl
  have C : sh_Cx p s m args meth c cX4_poolOfLeaf 3 RX4 G A := C
  have hl : lv_has ls 3 [(0, .ref (G.2.1 116)), (1, .int v1)] := hl
  replace hf : fX4_poolOfLeaf S v1 = some res := hf
  rw [fX4_poolOfLeaf] at hf
  refine lv_aload_n C.1 C.2.1 dX4_poolOfLeaf_0 rfl (lv_at hl 0 rfl) ?_
  refine sh_getr C hw fl_X4_28 tbX_116 rfl dX4_poolOfLeaf_1 ?_
  refine lv_iconst (v := 0) C.1 C.2.1 dX4_poolOfLeaf_4 (by decide) ?_
  refine sh_puti C hw fl_X4_129 fp_4_3 hf tbX_124 rfl dX4_poolOfLeaf_5 (fun S1 H locs hw hf => ?_)
  refine lv_iload_n C.1 C.2.1 dX4_poolOfLeaf_8 rfl (lv_at hl 1 rfl) ?_
  refine lv_bipush (v := 6) C.1 C.2.1 dX4_poolOfLeaf_9 (by decide) ?_
  refine lv_imul C.1 C.2.1 dX4_poolOfLeaf_11 ?_
  refine sh_ni hf (fun y2 hf => ?_)
  refine lv_istore_n (lv' := [(2, .int y2), (0, .ref (G.2.1 116)), (1, .int v1)]) C.1 C.2.1 dX4_poolOfLeaf_12 rfl hl (by decide) rfl (fun ls hl => ?_)
  exact wX4_poolOfLeaf_13 C hr _ S1 v1 y2 hf _ _ _ hw (lv_sub hl [1, 2, 0] rfl)
def fX4_splitLeaf (S : sh_St) : Option (Unit × sh_St) :=
    sh_g 3 240 (sh_t (S.1 127 (3 : Int32).toNatClampNeg) fun y1 =>
    sh_c (fX6_markAt S 3) fun r3 S2 =>
    sh_c (fX7_takeLeastFree S2 1) fun r5 S4 =>
    sh_c (fX7_layLeaf S4 r5 3 (S4.1 124 3)) fun _ S6 =>
    if (S6.1 121 2) = 0 then (sh_c (fX7_takeLeastFree S6 1) fun r17 S16 =>
    sh_c (fX7_layLeaf S16 r17 0 3) fun _ S18 =>
    sh_c (fX7_raiseRoot S18 r17 r5 y1 r3) fun _ S20 =>
    some ((), S20))
    else (sh_c (fX11_firstLeaf S6 ) fun r9 S8 =>
    sh_c (fX7_layLeaf S8 r9 0 3) fun _ S10 =>
    sh_c (fX11_lowestIndex S10 ) fun r13 S12 =>
    sh_g ((S12.1 121 2) - 1) 2 (sh_c (fX7_insertRow S12 r13 ((S12.1 123 ((S12.1 121 2) - 1).toNatClampNeg) + 1) y1 r3 r5) fun _ S14 =>
    some ((), S14))))
set_option maxRecDepth 100000 in
set_option maxHeartbeats 4000000 in
theorem kX4_splitLeaf (l : Launch) : sh_Mv l yX4_splitLeaf cX4_splitLeaf 5 4 tbX (fun G => [.ref (G.2.1 116)]) (fun S => fX4_splitLeaf S) := by
  refine sh_mkv (by decide) (fun G => Nat.le_of_ble_eq_true rfl) ?_
  intro p e s m args below meth c G A S res ls hf C hr hw hl
  have C : sh_Cx p s m args meth c cX4_splitLeaf 5 RX4 G A := C
  have hl : lv_has ls 5 [(0, .ref (G.2.1 116))] := hl
  replace hf : fX4_splitLeaf S = some res := hf
  rw [fX4_splitLeaf] at hf
  refine lv_aload_n C.1 C.2.1 dX4_splitLeaf_0 rfl (lv_at hl 0 rfl) ?_
  refine sh_getr C hw fl_X4_28 tbX_116 rfl dX4_splitLeaf_1 ?_
  refine sh_getr C hw fl_X4_208 tbX_124 rfl dX4_splitLeaf_4 ?_
  refine lv_iconst (v := 3) C.1 C.2.1 dX4_splitLeaf_7 (by decide) ?_
  refine sh_iald C hw hf tbX_127 dX4_splitLeaf_8 (fun hf => ?_)
  refine sh_ni hf (fun y1 hf => ?_)
  refine lv_istore_n (lv' := [(1, .int y1), (0, .ref (G.2.1 116))]) C.1 C.2.1 dX4_splitLeaf_9 rfl hl (by decide) rfl (fun ls hl => ?_)
  refine lv_aload_n C.1 C.2.1 dX4_splitLeaf_10 rfl (lv_at hl 1 rfl) ?_
  refine sh_getr C hw fl_X4_28 tbX_116 rfl dX4_splitLeaf_11 ?_
  refine lv_iconst (v := 3) C.1 C.2.1 dX4_splitLeaf_14 (by decide) ?_
  refine sh_Vi (As := [.int 3]) (rest := []) C hw (kX6_markAt l 3) yy_X6_markAt yv_X6_markAt ml_X4_209 hf tbX_124 rfl rfl rfl rfl (Nat.le_of_ble_eq_true rfl) (by decide) hl.1 dX4_splitLeaf_15 (fun r3 S2 H locs hw hf => ?_)
  refine lv_istore_n (lv' := [(2, .int r3), (1, .int y1), (0, .ref (G.2.1 116))]) C.1 C.2.1 dX4_splitLeaf_18 rfl hl (by decide) rfl (fun ls hl => ?_)
  refine lv_aload_n C.1 C.2.1 dX4_splitLeaf_19 rfl (lv_at hl 2 rfl) ?_
  refine sh_getr C hw fl_X4_36 tbX_116 rfl dX4_splitLeaf_20 ?_
  refine lv_iconst (v := 1) C.1 C.2.1 dX4_splitLeaf_23 (by decide) ?_
  refine sh_Vi (As := [.int 1]) (rest := []) C hw (kX7_takeLeastFree l 1) yy_X7_takeLeastFree yv_X7_takeLeastFree ml_X4_212 hf tbX_4 rfl rfl rfl rfl (Nat.le_of_ble_eq_true rfl) (by decide) hl.1 dX4_splitLeaf_24 (fun r5 S4 H locs hw hf => ?_)
  refine lv_istore_n (lv' := [(3, .int r5), (2, .int r3), (1, .int y1), (0, .ref (G.2.1 116))]) C.1 C.2.1 dX4_splitLeaf_27 rfl hl (by decide) rfl (fun ls hl => ?_)
  refine lv_aload_n C.1 C.2.1 dX4_splitLeaf_28 rfl (lv_at hl 3 rfl) ?_
  refine sh_getr C hw fl_X4_36 tbX_116 rfl dX4_splitLeaf_29 ?_
  refine lv_iload_n C.1 C.2.1 dX4_splitLeaf_32 rfl (lv_at hl 0 rfl) ?_
  refine lv_aload_n C.1 C.2.1 dX4_splitLeaf_33 rfl (lv_at hl 3 rfl) ?_
  refine sh_getr C hw fl_X4_28 tbX_116 rfl dX4_splitLeaf_34 ?_
  refine lv_iconst (v := 3) C.1 C.2.1 dX4_splitLeaf_37 (by decide) ?_
  refine lv_aload_n C.1 C.2.1 dX4_splitLeaf_38 rfl (lv_at hl 3 rfl) ?_
  refine sh_getr C hw fl_X4_28 tbX_116 rfl dX4_splitLeaf_39 ?_
  refine sh_geti C hw fl_X4_129 tbX_124 rfl dX4_splitLeaf_42 ?_
  refine sh_Vv (As := [.int r5, .ref (G.2.1 124), .int 3, .int (S4.1 124 3)]) (rest := []) C hw (kX7_layLeaf l r5 3 (S4.1 124 3)) yy_X7_layLeaf yv_X7_layLeaf ml_X4_215 hf tbX_4 rfl rfl rfl rfl (Nat.le_of_ble_eq_true rfl) (by decide) hl.1 dX4_splitLeaf_45 (fun S6 H locs hw hf => ?_)
  refine lv_aload_n C.1 C.2.1 dX4_splitLeaf_48 rfl (lv_at hl 3 rfl) ?_
  refine sh_getr C hw fl_X4_21 tbX_116 rfl dX4_splitLeaf_49 ?_
  refine sh_geti C hw fl_X4_64 tbX_121 rfl dX4_splitLeaf_52 ?_
  refine sh_if_ne (tgt := 96) C hf dX4_splitLeaf_55 (by decide) (fun hf => ?_) (fun hf => ?_)
  · refine lv_aload_n C.1 C.2.1 dX4_splitLeaf_96 rfl (lv_at hl 3 rfl) ?_
    refine sh_getr C hw fl_X4_36 tbX_116 rfl dX4_splitLeaf_97 ?_
    refine lv_aload_n C.1 C.2.1 dX4_splitLeaf_100 rfl (lv_at hl 3 rfl) ?_
    refine sh_getr C hw fl_X4_21 tbX_116 rfl dX4_splitLeaf_101 ?_
    refine sh_Vi (As := []) (rest := [.ref (G.2.1 4)]) C hw (kX11_firstLeaf l ) yy_X11_firstLeaf yv_X11_firstLeaf ml_X4_193 hf tbX_121 rfl rfl rfl rfl (Nat.le_of_ble_eq_true rfl) (by decide) hl.1 dX4_splitLeaf_104 (fun r9 S8 H locs hw hf => ?_)
    refine lv_aload_n C.1 C.2.1 dX4_splitLeaf_107 rfl (lv_at hl 3 rfl) ?_
    refine sh_getr C hw fl_X4_28 tbX_116 rfl dX4_splitLeaf_108 ?_
    refine lv_iconst (v := 0) C.1 C.2.1 dX4_splitLeaf_111 (by decide) ?_
    refine lv_iconst (v := 3) C.1 C.2.1 dX4_splitLeaf_112 (by decide) ?_
    refine sh_Vv (As := [.int r9, .ref (G.2.1 124), .int 0, .int 3]) (rest := []) C hw (kX7_layLeaf l r9 0 3) yy_X7_layLeaf yv_X7_layLeaf ml_X4_215 hf tbX_4 rfl rfl rfl rfl (Nat.le_of_ble_eq_true rfl) (by decide) hl.1 dX4_splitLeaf_113 (fun S10 H locs hw hf => ?_)
    refine lv_aload_n C.1 C.2.1 dX4_splitLeaf_116 rfl (lv_at hl 3 rfl) ?_
    refine sh_getr C hw fl_X4_36 tbX_116 rfl dX4_splitLeaf_117 ?_
    refine lv_aload_n C.1 C.2.1 dX4_splitLeaf_120 rfl (lv_at hl 3 rfl) ?_
    refine sh_getr C hw fl_X4_21 tbX_116 rfl dX4_splitLeaf_121 ?_
    refine sh_Vi (As := []) (rest := [.ref (G.2.1 4)]) C hw (kX11_lowestIndex l ) yy_X11_lowestIndex yv_X11_lowestIndex ml_X4_146 hf tbX_121 rfl rfl rfl rfl (Nat.le_of_ble_eq_true rfl) (by decide) hl.1 dX4_splitLeaf_124 (fun r13 S12 H locs hw hf => ?_)
    refine lv_aload_n C.1 C.2.1 dX4_splitLeaf_127 rfl (lv_at hl 3 rfl) ?_
    refine sh_getr C hw fl_X4_21 tbX_116 rfl dX4_splitLeaf_128 ?_
    refine sh_getr C hw fl_X4_223 tbX_121 rfl dX4_splitLeaf_131 ?_
    refine lv_aload_n C.1 C.2.1 dX4_splitLeaf_134 rfl (lv_at hl 3 rfl) ?_
    refine sh_getr C hw fl_X4_21 tbX_116 rfl dX4_splitLeaf_135 ?_
    refine sh_geti C hw fl_X4_64 tbX_121 rfl dX4_splitLeaf_138 ?_
    refine lv_iconst (v := 1) C.1 C.2.1 dX4_splitLeaf_141 (by decide) ?_
    refine lv_isub C.1 C.2.1 dX4_splitLeaf_142 ?_
    refine sh_iald C hw hf tbX_123 dX4_splitLeaf_143 (fun hf => ?_)
    refine lv_iconst (v := 1) C.1 C.2.1 dX4_splitLeaf_144 (by decide) ?_
    refine lv_iadd C.1 C.2.1 dX4_splitLeaf_145 ?_
    refine lv_iload_n C.1 C.2.1 dX4_splitLeaf_146 rfl (lv_at hl 2 rfl) ?_
    refine lv_iload_n C.1 C.2.1 dX4_splitLeaf_147 rfl (lv_at hl 1 rfl) ?_
    refine lv_iload_n C.1 C.2.1 dX4_splitLeaf_148 rfl (lv_at hl 0 rfl) ?_
    refine sh_Vv (As := [.int r13, .int ((S12.1 123 ((S12.1 121 2) - 1).toNatClampNeg) + 1), .int y1, .int r3, .int r5]) (rest := []) C hw (kX7_insertRow l r13 ((S12.1 123 ((S12.1 121 2) - 1).toNatClampNeg) + 1) y1 r3 r5) yy_X7_insertRow yv_X7_insertRow ml_X4_226 hf tbX_4 rfl rfl rfl rfl (Nat.le_of_ble_eq_true rfl) (by decide) hl.1 dX4_splitLeaf_149 (fun S14 H locs hw hf => ?_)
    exact sh_rv C hw hr hf dX4_splitLeaf_152
  · refine lv_aload_n C.1 C.2.1 dX4_splitLeaf_58 rfl (lv_at hl 3 rfl) ?_
    refine sh_getr C hw fl_X4_36 tbX_116 rfl dX4_splitLeaf_59 ?_
    refine lv_iconst (v := 1) C.1 C.2.1 dX4_splitLeaf_62 (by decide) ?_
    refine sh_Vi (As := [.int 1]) (rest := []) C hw (kX7_takeLeastFree l 1) yy_X7_takeLeastFree yv_X7_takeLeastFree ml_X4_212 hf tbX_4 rfl rfl rfl rfl (Nat.le_of_ble_eq_true rfl) (by decide) hl.1 dX4_splitLeaf_63 (fun r17 S16 H locs hw hf => ?_)
    refine lv_istore (lv' := [(4, .int r17), (3, .int r5), (2, .int r3), (1, .int y1), (0, .ref (G.2.1 116))]) C.1 C.2.1 dX4_splitLeaf_66 hl (by decide) rfl (fun ls hl => ?_)
    refine lv_aload_n C.1 C.2.1 dX4_splitLeaf_68 rfl (lv_at hl 4 rfl) ?_
    refine sh_getr C hw fl_X4_36 tbX_116 rfl dX4_splitLeaf_69 ?_
    refine lv_iload C.1 C.2.1 dX4_splitLeaf_72 (lv_at hl 0 rfl) ?_
    refine lv_aload_n C.1 C.2.1 dX4_splitLeaf_74 rfl (lv_at hl 4 rfl) ?_
    refine sh_getr C hw fl_X4_28 tbX_116 rfl dX4_splitLeaf_75 ?_
    refine lv_iconst (v := 0) C.1 C.2.1 dX4_splitLeaf_78 (by decide) ?_
    refine lv_iconst (v := 3) C.1 C.2.1 dX4_splitLeaf_79 (by decide) ?_
    refine sh_Vv (As := [.int r17, .ref (G.2.1 124), .int 0, .int 3]) (rest := []) C hw (kX7_layLeaf l r17 0 3) yy_X7_layLeaf yv_X7_layLeaf ml_X4_215 hf tbX_4 rfl rfl rfl rfl (Nat.le_of_ble_eq_true rfl) (by decide) hl.1 dX4_splitLeaf_80 (fun S18 H locs hw hf => ?_)
    refine lv_aload_n C.1 C.2.1 dX4_splitLeaf_83 rfl (lv_at hl 4 rfl) ?_
    refine sh_getr C hw fl_X4_36 tbX_116 rfl dX4_splitLeaf_84 ?_
    refine lv_iload C.1 C.2.1 dX4_splitLeaf_87 (lv_at hl 0 rfl) ?_
    refine lv_iload_n C.1 C.2.1 dX4_splitLeaf_89 rfl (lv_at hl 1 rfl) ?_
    refine lv_iload_n C.1 C.2.1 dX4_splitLeaf_90 rfl (lv_at hl 3 rfl) ?_
    refine lv_iload_n C.1 C.2.1 dX4_splitLeaf_91 rfl (lv_at hl 2 rfl) ?_
    refine sh_Vv (As := [.int r17, .int r5, .int y1, .int r3]) (rest := []) C hw (kX7_raiseRoot l r17 r5 y1 r3) yy_X7_raiseRoot yv_X7_raiseRoot ml_X4_219 hf tbX_4 rfl rfl rfl rfl (Nat.le_of_ble_eq_true rfl) (by decide) hl.1 dX4_splitLeaf_92 (fun S20 H locs hw hf => ?_)
    exact sh_rv C hw hr hf dX4_splitLeaf_95
def fX4_splitIndex (S : sh_St) : Option (Unit × sh_St) :=
    sh_c (fX11_lowestIndex S ) fun r2 S1 =>
    sh_g r2 40 (if 5 < (S1.1 6 r2.toNatClampNeg) then (sh_c (fX7_takeLeastFree S1 2) fun r4 S3 =>
    sh_c (fX7_copyRows S3 r2 3 6 r4) fun _ S5 =>
    sh_g (r4 * 6) 240 (sh_t (S5.1 11 (r4 * 6).toNatClampNeg) fun y7 =>
    sh_g (r4 * 6) 240 (sh_t (S5.1 12 (r4 * 6).toNatClampNeg) fun y8 =>
    if r2 = 0 then (sh_c (fX7_takeLeastFree S5 2) fun r13 S12 =>
    sh_c (fX7_copyRows S12 0 0 3 r13) fun _ S14 =>
    sh_c (fX7_raiseRoot S14 r13 r4 y7 y8) fun _ S16 =>
    some ((), S16))
    else (sh_g r2 40 (sh_t (sh_I S5 6 r2.toNatClampNeg 3) fun S9 =>
    sh_g 0 2 (sh_c (fX7_insertRow S9 0 ((S9.1 123 (0 : Int32).toNatClampNeg) + 1) y7 y8 r4) fun _ S10 =>
    some ((), S10)))))))
    else (some ((), S1)))
set_option maxRecDepth 100000 in
set_option maxHeartbeats 4000000 in
theorem kX4_splitIndex (l : Launch) : sh_Mv l yX4_splitIndex cX4_splitIndex 6 4 tbX (fun G => [.ref (G.2.1 116)]) (fun S => fX4_splitIndex S) := by
  refine sh_mkv (by decide) (fun G => Nat.le_of_ble_eq_true rfl) ?_
  intro p e s m args below meth c G A S res ls hf C hr hw hl
  have C : sh_Cx p s m args meth c cX4_splitIndex 6 RX4 G A := C
  have hl : lv_has ls 6 [(0, .ref (G.2.1 116))] := hl
  replace hf : fX4_splitIndex S = some res := hf
  rw [fX4_splitIndex] at hf
  refine lv_aload_n C.1 C.2.1 dX4_splitIndex_0 rfl (lv_at hl 0 rfl) ?_
  refine sh_getr C hw fl_X4_21 tbX_116 rfl dX4_splitIndex_1 ?_
  refine sh_Vi (As := []) (rest := []) C hw (kX11_lowestIndex l ) yy_X11_lowestIndex yv_X11_lowestIndex ml_X4_146 hf tbX_121 rfl rfl rfl rfl (Nat.le_of_ble_eq_true rfl) (by decide) hl.1 dX4_splitIndex_4 (fun r2 S1 H locs hw hf => ?_)
  refine lv_istore_n (lv' := [(1, .int r2), (0, .ref (G.2.1 116))]) C.1 C.2.1 dX4_splitIndex_7 rfl hl (by decide) rfl (fun ls hl => ?_)
  refine lv_aload_n C.1 C.2.1 dX4_splitIndex_8 rfl (lv_at hl 1 rfl) ?_
  refine sh_getr C hw fl_X4_36 tbX_116 rfl dX4_splitIndex_9 ?_
  refine sh_getr C hw fl_X4_143 tbX_4 rfl dX4_splitIndex_12 ?_
  refine lv_iload_n C.1 C.2.1 dX4_splitIndex_15 rfl (lv_at hl 0 rfl) ?_
  refine sh_iald C hw hf tbX_6 dX4_splitIndex_16 (fun hf => ?_)
  refine lv_iconst (v := 5) C.1 C.2.1 dX4_splitIndex_17 (by decide) ?_
  refine sh_icmp_gt (tgt := 22) C hf dX4_splitIndex_18 (by decide) (fun hf => ?_) (fun hf => ?_)
  · refine lv_aload_n C.1 C.2.1 dX4_splitIndex_22 rfl (lv_at hl 1 rfl) ?_
    refine sh_getr C hw fl_X4_36 tbX_116 rfl dX4_splitIndex_23 ?_
    refine lv_iconst (v := 2) C.1 C.2.1 dX4_splitIndex_26 (by decide) ?_
    refine sh_Vi (As := [.int 2]) (rest := []) C hw (kX7_takeLeastFree l 2) yy_X7_takeLeastFree yv_X7_takeLeastFree ml_X4_212 hf tbX_4 rfl rfl rfl rfl (Nat.le_of_ble_eq_true rfl) (by decide) hl.1 dX4_splitIndex_27 (fun r4 S3 H locs hw hf => ?_)
    refine lv_istore_n (lv' := [(2, .int r4), (1, .int r2), (0, .ref (G.2.1 116))]) C.1 C.2.1 dX4_splitIndex_30 rfl hl (by decide) rfl (fun ls hl => ?_)
    refine lv_aload_n C.1 C.2.1 dX4_splitIndex_31 rfl (lv_at hl 2 rfl) ?_
    refine sh_getr C hw fl_X4_36 tbX_116 rfl dX4_splitIndex_32 ?_
    refine lv_iload_n C.1 C.2.1 dX4_splitIndex_35 rfl (lv_at hl 1 rfl) ?_
    refine lv_iconst (v := 3) C.1 C.2.1 dX4_splitIndex_36 (by decide) ?_
    refine lv_bipush (v := 6) C.1 C.2.1 dX4_splitIndex_37 (by decide) ?_
    refine lv_iload_n C.1 C.2.1 dX4_splitIndex_39 rfl (lv_at hl 0 rfl) ?_
    refine sh_Vv (As := [.int r2, .int 3, .int 6, .int r4]) (rest := []) C hw (kX7_copyRows l r2 3 6 r4) yy_X7_copyRows yv_X7_copyRows ml_X4_230 hf tbX_4 rfl rfl rfl rfl (Nat.le_of_ble_eq_true rfl) (by decide) hl.1 dX4_splitIndex_40 (fun S5 H locs hw hf => ?_)
    refine lv_aload_n C.1 C.2.1 dX4_splitIndex_43 rfl (lv_at hl 2 rfl) ?_
    refine sh_getr C hw fl_X4_36 tbX_116 rfl dX4_splitIndex_44 ?_
    refine sh_getr C hw fl_X4_233 tbX_4 rfl dX4_splitIndex_47 ?_
    refine lv_iload_n C.1 C.2.1 dX4_splitIndex_50 rfl (lv_at hl 0 rfl) ?_
    refine lv_bipush (v := 6) C.1 C.2.1 dX4_splitIndex_51 (by decide) ?_
    refine lv_imul C.1 C.2.1 dX4_splitIndex_53 ?_
    refine sh_iald C hw hf tbX_11 dX4_splitIndex_54 (fun hf => ?_)
    refine sh_ni hf (fun y7 hf => ?_)
    refine lv_istore_n (lv' := [(3, .int y7), (2, .int r4), (1, .int r2), (0, .ref (G.2.1 116))]) C.1 C.2.1 dX4_splitIndex_55 rfl hl (by decide) rfl (fun ls hl => ?_)
    refine lv_aload_n C.1 C.2.1 dX4_splitIndex_56 rfl (lv_at hl 3 rfl) ?_
    refine sh_getr C hw fl_X4_36 tbX_116 rfl dX4_splitIndex_57 ?_
    refine sh_getr C hw fl_X4_236 tbX_4 rfl dX4_splitIndex_60 ?_
    refine lv_iload_n C.1 C.2.1 dX4_splitIndex_63 rfl (lv_at hl 1 rfl) ?_
    refine lv_bipush (v := 6) C.1 C.2.1 dX4_splitIndex_64 (by decide) ?_
    refine lv_imul C.1 C.2.1 dX4_splitIndex_66 ?_
    refine sh_iald C hw hf tbX_12 dX4_splitIndex_67 (fun hf => ?_)
    refine sh_ni hf (fun y8 hf => ?_)
    refine lv_istore (lv' := [(4, .int y8), (3, .int y7), (2, .int r4), (1, .int r2), (0, .ref (G.2.1 116))]) C.1 C.2.1 dX4_splitIndex_68 hl (by decide) rfl (fun ls hl => ?_)
    refine lv_iload_n C.1 C.2.1 dX4_splitIndex_70 rfl (lv_at hl 3 rfl) ?_
    refine sh_if_ne (tgt := 112) C hf dX4_splitIndex_71 (by decide) (fun hf => ?_) (fun hf => ?_)
    · refine lv_aload_n C.1 C.2.1 dX4_splitIndex_112 rfl (lv_at hl 4 rfl) ?_
      refine sh_getr C hw fl_X4_36 tbX_116 rfl dX4_splitIndex_113 ?_
      refine sh_getr C hw fl_X4_143 tbX_4 rfl dX4_splitIndex_116 ?_
      refine lv_iload_n C.1 C.2.1 dX4_splitIndex_119 rfl (lv_at hl 3 rfl) ?_
      refine lv_iconst (v := 3) C.1 C.2.1 dX4_splitIndex_120 (by decide) ?_
      refine sh_iast C hw hf tbX_6 dX4_splitIndex_121 (fun S9 H locs hw hf => ?_)
      refine lv_aload_n C.1 C.2.1 dX4_splitIndex_122 rfl (lv_at hl 4 rfl) ?_
      refine sh_getr C hw fl_X4_36 tbX_116 rfl dX4_splitIndex_123 ?_
      refine lv_iconst (v := 0) C.1 C.2.1 dX4_splitIndex_126 (by decide) ?_
      refine lv_aload_n C.1 C.2.1 dX4_splitIndex_127 rfl (lv_at hl 4 rfl) ?_
      refine sh_getr C hw fl_X4_21 tbX_116 rfl dX4_splitIndex_128 ?_
      refine sh_getr C hw fl_X4_223 tbX_121 rfl dX4_splitIndex_131 ?_
      refine lv_iconst (v := 0) C.1 C.2.1 dX4_splitIndex_134 (by decide) ?_
      refine sh_iald C hw hf tbX_123 dX4_splitIndex_135 (fun hf => ?_)
      refine lv_iconst (v := 1) C.1 C.2.1 dX4_splitIndex_136 (by decide) ?_
      refine lv_iadd C.1 C.2.1 dX4_splitIndex_137 ?_
      refine lv_iload_n C.1 C.2.1 dX4_splitIndex_138 rfl (lv_at hl 1 rfl) ?_
      refine lv_iload C.1 C.2.1 dX4_splitIndex_139 (lv_at hl 0 rfl) ?_
      refine lv_iload_n C.1 C.2.1 dX4_splitIndex_141 rfl (lv_at hl 2 rfl) ?_
      refine sh_Vv (As := [.int 0, .int ((S9.1 123 (0 : Int32).toNatClampNeg) + 1), .int y7, .int y8, .int r4]) (rest := []) C hw (kX7_insertRow l 0 ((S9.1 123 (0 : Int32).toNatClampNeg) + 1) y7 y8 r4) yy_X7_insertRow yv_X7_insertRow ml_X4_226 hf tbX_4 rfl rfl rfl rfl (Nat.le_of_ble_eq_true rfl) (by decide) hl.1 dX4_splitIndex_142 (fun S10 H locs hw hf => ?_)
      exact sh_rv C hw hr hf dX4_splitIndex_145
    · refine lv_aload_n C.1 C.2.1 dX4_splitIndex_74 rfl (lv_at hl 4 rfl) ?_
      refine sh_getr C hw fl_X4_36 tbX_116 rfl dX4_splitIndex_75 ?_
      refine lv_iconst (v := 2) C.1 C.2.1 dX4_splitIndex_78 (by decide) ?_
      refine sh_Vi (As := [.int 2]) (rest := []) C hw (kX7_takeLeastFree l 2) yy_X7_takeLeastFree yv_X7_takeLeastFree ml_X4_212 hf tbX_4 rfl rfl rfl rfl (Nat.le_of_ble_eq_true rfl) (by decide) hl.1 dX4_splitIndex_79 (fun r13 S12 H locs hw hf => ?_)
      refine lv_istore (lv' := [(5, .int r13), (4, .int y8), (3, .int y7), (2, .int r4), (1, .int r2), (0, .ref (G.2.1 116))]) C.1 C.2.1 dX4_splitIndex_82 hl (by decide) rfl (fun ls hl => ?_)
      refine lv_aload_n C.1 C.2.1 dX4_splitIndex_84 rfl (lv_at hl 5 rfl) ?_
      refine sh_getr C hw fl_X4_36 tbX_116 rfl dX4_splitIndex_85 ?_
      refine lv_iconst (v := 0) C.1 C.2.1 dX4_splitIndex_88 (by decide) ?_
      refine lv_iconst (v := 0) C.1 C.2.1 dX4_splitIndex_89 (by decide) ?_
      refine lv_iconst (v := 3) C.1 C.2.1 dX4_splitIndex_90 (by decide) ?_
      refine lv_iload C.1 C.2.1 dX4_splitIndex_91 (lv_at hl 0 rfl) ?_
      refine sh_Vv (As := [.int 0, .int 0, .int 3, .int r13]) (rest := []) C hw (kX7_copyRows l 0 0 3 r13) yy_X7_copyRows yv_X7_copyRows ml_X4_230 hf tbX_4 rfl rfl rfl rfl (Nat.le_of_ble_eq_true rfl) (by decide) hl.1 dX4_splitIndex_93 (fun S14 H locs hw hf => ?_)
      refine lv_aload_n C.1 C.2.1 dX4_splitIndex_96 rfl (lv_at hl 5 rfl) ?_
      refine sh_getr C hw fl_X4_36 tbX_116 rfl dX4_splitIndex_97 ?_
      refine lv_iload C.1 C.2.1 dX4_splitIndex_100 (lv_at hl 0 rfl) ?_
      refine lv_iload_n C.1 C.2.1 dX4_splitIndex_102 rfl (lv_at hl 3 rfl) ?_
      refine lv_iload_n C.1 C.2.1 dX4_splitIndex_103 rfl (lv_at hl 2 rfl) ?_
      refine lv_iload C.1 C.2.1 dX4_splitIndex_104 (lv_at hl 1 rfl) ?_
      refine sh_Vv (As := [.int r13, .int r4, .int y7, .int y8]) (rest := []) C hw (kX7_raiseRoot l r13 r4 y7 y8) yy_X7_raiseRoot yv_X7_raiseRoot ml_X4_219 hf tbX_4 rfl rfl rfl rfl (Nat.le_of_ble_eq_true rfl) (by decide) hl.1 dX4_splitIndex_106 (fun S16 H locs hw hf => ?_)
      refine lv_goto (tgt := 145) C.1 C.2.1 dX4_splitIndex_109 (by decide) ?_
      exact sh_rv C hw hr hf dX4_splitIndex_145
  · exact sh_rv C hw hr hf dX4_splitIndex_21
def fX4_poolOfHash_70 (rk10 : sh_St → Int32 → Int32 → Option (Unit × sh_St)) (S : sh_St) (v1 : Int32) (v2 : Int32) : Option (Unit × sh_St) :=
    sh_t (v2 + 1) fun y2 =>
    rk10 S v1 y2
set_option maxRecDepth 100000 in
set_option maxHeartbeats 4000000 in
theorem wX4_poolOfHash_70 {p : Program} {l : Launch} {e : Env} {s : State} {m : MethodId} {args : Array Value} {below : List Frame} {meth : Method} {c : Code} {G : sh_Ev} {A : Nat → Prop} {res : Unit × sh_St} (C : sh_Cx p s m args meth c cX4_poolOfHash 3 RX4 G A) (hr : meth.sig.returnType = none) (rk10 : sh_St → Int32 → Int32 → Option (Unit × sh_St)) (hr10 : ∀ (S : sh_St) (v1 : Int32) (v2 : Int32), rk10 S v1 v2 = some res → ∀ (H : Heap) (locs : List Loc) (ls : Array Slot), sh_Wx G tbX A s H locs S → lv_has ls 3 [(0, .ref (G.2.1 116)), (1, .int v1), (2, .int v2)] → W p l e (sh_rm 3) s m args below meth c H locs 0 0 (sh_Qv below args s G tbX A res) (F0 m 10 ls [])) : ∀ (S : sh_St) (v1 : Int32) (v2 : Int32), fX4_poolOfHash_70 rk10 S v1 v2 = some res → ∀ (H : Heap) (locs : List Loc) (ls : Array Slot), sh_Wx G tbX A s H locs S → lv_has ls 3 [(0, .ref (G.2.1 116)), (1, .int v1), (2, .int v2)] → W p l e (sh_rm 3) s m args below meth c H locs 0 0 (sh_Qv below args s G tbX A res) (F0 m 70 ls []) := by
  intro S v1 v2 hf H locs ls hw hl
  rw [fX4_poolOfHash_70] at hf
  obtain ⟨y2, ey2, hf⟩ := sh_nm hf
  refine lv_iinc (v := y2) (lv' := [(2, .int y2), (0, .ref (G.2.1 116)), (1, .int v1)]) C.1 C.2.1 dX4_poolOfHash_70 hl (k := 2) rfl (by rw [← ey2]; rfl) (by decide) rfl (fun ls hl => ?_)
  refine lv_goto (tgt := 10) C.1 C.2.1 dX4_poolOfHash_73 (by decide) ?_
  exact hr10 S v1 y2 hf _ _ _ hw (lv_sub hl [1, 2, 0] rfl)
def fX4_poolOfHash_10 : Nat → sh_St → Int32 → Int32 → Option (Unit × sh_St)
  | 0, _, _, _ => none
  | n + 1, S, v1, v2 =>
    if 240 ≤ v2 then (some ((), S))
    else (sh_g v2 240 (if (S.2 8 v2.toNatClampNeg) = 0 then (fX4_poolOfHash_70 (fX4_poolOfHash_10 n) S v1 v2)
    else (sh_g v2 240 (if (S.1 10 v2.toNatClampNeg) = v1 then (sh_g v2 240 (sh_g v2 240 (sh_c (fX6_add S (S.2 8 v2.toNatClampNeg) (S.1 9 v2.toNatClampNeg) v1) fun _ S3 =>
    fX4_poolOfHash_70 (fX4_poolOfHash_10 n) S3 v1 v2)))
    else (fX4_poolOfHash_70 (fX4_poolOfHash_10 n) S v1 v2)))))
set_option maxRecDepth 100000 in
set_option maxHeartbeats 4000000 in
theorem wX4_poolOfHash_10 {p : Program} {l : Launch} {e : Env} {s : State} {m : MethodId} {args : Array Value} {below : List Frame} {meth : Method} {c : Code} {G : sh_Ev} {A : Nat → Prop} {res : Unit × sh_St} (C : sh_Cx p s m args meth c cX4_poolOfHash 3 RX4 G A) (hr : meth.sig.returnType = none) : ∀ (n : Nat) (S : sh_St) (v1 : Int32) (v2 : Int32), fX4_poolOfHash_10 n S v1 v2 = some res → ∀ (H : Heap) (locs : List Loc) (ls : Array Slot), sh_Wx G tbX A s H locs S → lv_has ls 3 [(0, .ref (G.2.1 116)), (1, .int v1), (2, .int v2)] → W p l e (sh_rm 3) s m args below meth c H locs 0 0 (sh_Qv below args s G tbX A res) (F0 m 10 ls []) := by
  intro n
  induction n with
  | zero => intro S v1 v2 hf; exact nomatch (show (none : Option (Unit × sh_St)) = some res from hf)
  | succ n ih =>
    intro S v1 v2 hf H locs ls hw hl
    have hr10 := ih
    rw [fX4_poolOfHash_10] at hf
    refine lv_iload_n C.1 C.2.1 dX4_poolOfHash_10 rfl (lv_at hl 2 rfl) ?_
    refine lv_sipush (v := 240) C.1 C.2.1 dX4_poolOfHash_11 (by decide) ?_
    refine sh_icmp_ge (tgt := 76) C hf dX4_poolOfHash_14 (by decide) (fun hf => ?_) (fun hf => ?_)
    · exact sh_rv C hw hr hf dX4_poolOfHash_76
    · refine lv_aload_n C.1 C.2.1 dX4_poolOfHash_17 rfl (lv_at hl 0 rfl) ?_
      refine sh_getr C hw fl_X4_36 tbX_116 rfl dX4_poolOfHash_18 ?_
      refine sh_getr C hw fl_X4_81 tbX_4 rfl dX4_poolOfHash_21 ?_
      refine lv_iload_n C.1 C.2.1 dX4_poolOfHash_24 rfl (lv_at hl 2 rfl) ?_
      refine sh_lald C hw hf tbX_8 dX4_poolOfHash_25 (fun hf => ?_)
      refine lv_lconst (v := 0) C.1 C.2.1 dX4_poolOfHash_26 (by decide) ?_
      refine sh_lcmp_eq (tgt := 70) C hf dX4_poolOfHash_27 dX4_poolOfHash_28 (by decide) (fun hf => ?_) (fun hf => ?_)
      · exact wX4_poolOfHash_70 C hr (fX4_poolOfHash_10 n) hr10 S v1 v2 hf _ _ _ hw (lv_sub hl [0, 1, 2] rfl)
      · refine lv_aload_n C.1 C.2.1 dX4_poolOfHash_31 rfl (lv_at hl 0 rfl) ?_
        refine sh_getr C hw fl_X4_36 tbX_116 rfl dX4_poolOfHash_32 ?_
        refine sh_getr C hw fl_X4_205 tbX_4 rfl dX4_poolOfHash_35 ?_
        refine lv_iload_n C.1 C.2.1 dX4_poolOfHash_38 rfl (lv_at hl 2 rfl) ?_
        refine sh_iald C hw hf tbX_10 dX4_poolOfHash_39 (fun hf => ?_)
        refine lv_iload_n C.1 C.2.1 dX4_poolOfHash_40 rfl (lv_at hl 1 rfl) ?_
        refine sh_icmp_ne (tgt := 70) C hf dX4_poolOfHash_41 (by decide) (fun hf => ?_) (fun hf => ?_)
        · exact wX4_poolOfHash_70 C hr (fX4_poolOfHash_10 n) hr10 S v1 v2 hf _ _ _ hw (lv_sub hl [0, 1, 2] rfl)
        · refine lv_aload_n C.1 C.2.1 dX4_poolOfHash_44 rfl (lv_at hl 0 rfl) ?_
          refine sh_getr C hw fl_X4_28 tbX_116 rfl dX4_poolOfHash_45 ?_
          refine lv_aload_n C.1 C.2.1 dX4_poolOfHash_48 rfl (lv_at hl 0 rfl) ?_
          refine sh_getr C hw fl_X4_36 tbX_116 rfl dX4_poolOfHash_49 ?_
          refine sh_getr C hw fl_X4_81 tbX_4 rfl dX4_poolOfHash_52 ?_
          refine lv_iload_n C.1 C.2.1 dX4_poolOfHash_55 rfl (lv_at hl 2 rfl) ?_
          refine sh_lald C hw hf tbX_8 dX4_poolOfHash_56 (fun hf => ?_)
          refine lv_aload_n C.1 C.2.1 dX4_poolOfHash_57 rfl (lv_at hl 0 rfl) ?_
          refine sh_getr C hw fl_X4_36 tbX_116 rfl dX4_poolOfHash_58 ?_
          refine sh_getr C hw fl_X4_96 tbX_4 rfl dX4_poolOfHash_61 ?_
          refine lv_iload_n C.1 C.2.1 dX4_poolOfHash_64 rfl (lv_at hl 2 rfl) ?_
          refine sh_iald C hw hf tbX_9 dX4_poolOfHash_65 (fun hf => ?_)
          refine lv_iload_n C.1 C.2.1 dX4_poolOfHash_66 rfl (lv_at hl 1 rfl) ?_
          refine sh_Vv (As := [.long (S.2 8 v2.toNatClampNeg), .int (S.1 9 v2.toNatClampNeg), .int v1]) (rest := []) C hw (kX6_add l (S.2 8 v2.toNatClampNeg) (S.1 9 v2.toNatClampNeg) v1) yy_X6_add yv_X6_add ml_X4_132 hf tbX_124 rfl rfl rfl rfl (Nat.le_of_ble_eq_true rfl) (by decide) hl.1 dX4_poolOfHash_67 (fun S3 H locs hw hf => ?_)
          exact wX4_poolOfHash_70 C hr (fX4_poolOfHash_10 n) hr10 S3 v1 v2 hf _ _ _ hw (lv_sub hl [0, 1, 2] rfl)
def fX4_poolOfHash (S : sh_St) (v1 : Int32) : Option (Unit × sh_St) :=
    sh_t (sh_I S 124 3 0) fun S1 =>
    fX4_poolOfHash_10 sh_FU S1 v1 0
set_option maxRecDepth 100000 in
set_option maxHeartbeats 4000000 in
theorem kX4_poolOfHash (l : Launch) (v1 : Int32) : sh_Mv l yX4_poolOfHash cX4_poolOfHash 3 3 tbX (fun G => [.ref (G.2.1 116), .int v1]) (fun S => fX4_poolOfHash S v1) := by
  refine sh_mkv (by decide) (fun G => Nat.le_of_ble_eq_true rfl) ?_
  intro p e s m args below meth c G A S res ls hf C hr hw hl
  have C : sh_Cx p s m args meth c cX4_poolOfHash 3 RX4 G A := C
  have hl : lv_has ls 3 [(0, .ref (G.2.1 116)), (1, .int v1)] := hl
  replace hf : fX4_poolOfHash S v1 = some res := hf
  rw [fX4_poolOfHash] at hf
  refine lv_aload_n C.1 C.2.1 dX4_poolOfHash_0 rfl (lv_at hl 0 rfl) ?_
  refine sh_getr C hw fl_X4_28 tbX_116 rfl dX4_poolOfHash_1 ?_
  refine lv_iconst (v := 0) C.1 C.2.1 dX4_poolOfHash_4 (by decide) ?_
  refine sh_puti C hw fl_X4_129 fp_4_3 hf tbX_124 rfl dX4_poolOfHash_5 (fun S1 H locs hw hf => ?_)
  refine lv_iconst (v := 0) C.1 C.2.1 dX4_poolOfHash_8 (by decide) ?_
  refine lv_istore_n (lv' := [(2, .int 0), (0, .ref (G.2.1 116)), (1, .int v1)]) C.1 C.2.1 dX4_poolOfHash_9 rfl hl (by decide) rfl (fun ls hl => ?_)
  exact wX4_poolOfHash_10 C hr _ S1 v1 0 hf _ _ _ hw (lv_sub hl [1, 2, 0] rfl)
def fX4_layRows_3 : Nat → sh_St → Int32 → Int32 → Int32 → Int32 → Option (Unit × sh_St)
  | 0, _, _, _, _, _ => none
  | n + 1, S, v1, v2, v3, v4 =>
    if v3 ≤ v4 then (some ((), S))
    else (sh_c (fX4_limitOfLaid S v4) fun r2 S1 =>
    sh_c (fX6_markAt S1 (v4 * 4)) fun r4 S3 =>
    sh_c (fX7_insertRow S3 v1 (v4 - v2) r2 r4 (1 + v4)) fun _ S5 =>
    sh_t (v4 + 1) fun y7 =>
    (fX4_layRows_3 n) S5 v1 v2 v3 y7)
set_option maxRecDepth 100000 in
set_option maxHeartbeats 4000000 in
theorem wX4_layRows_3 {p : Program} {l : Launch} {e : Env} {s : State} {m : MethodId} {args : Array Value} {below : List Frame} {meth : Method} {c : Code} {G : sh_Ev} {A : Nat → Prop} {res : Unit × sh_St} (C : sh_Cx p s m args meth c cX4_layRows 5 RX4 G A) (hr : meth.sig.returnType = none) : ∀ (n : Nat) (S : sh_St) (v1 : Int32) (v2 : Int32) (v3 : Int32) (v4 : Int32), fX4_layRows_3 n S v1 v2 v3 v4 = some res → ∀ (H : Heap) (locs : List Loc) (ls : Array Slot), sh_Wx G tbX A s H locs S → lv_has ls 5 [(0, .ref (G.2.1 116)), (1, .int v1), (2, .int v2), (3, .int v3), (4, .int v4)] → W p l e (sh_rm 3) s m args below meth c H locs 0 0 (sh_Qv below args s G tbX A res) (F0 m 3 ls []) := by
  intro n
  induction n with
  | zero => intro S v1 v2 v3 v4 hf; exact nomatch (show (none : Option (Unit × sh_St)) = some res from hf)
  | succ n ih =>
    intro S v1 v2 v3 v4 hf H locs ls hw hl
    have hr3 := ih
    rw [fX4_layRows_3] at hf
    refine lv_iload C.1 C.2.1 dX4_layRows_3 (lv_at hl 4 rfl) ?_
    refine lv_iload_n C.1 C.2.1 dX4_layRows_5 rfl (lv_at hl 3 rfl) ?_
    refine sh_icmp_ge (tgt := 48) C hf dX4_layRows_6 (by decide) (fun hf => ?_) (fun hf => ?_)
    · exact sh_rv C hw hr hf dX4_layRows_48
    · refine lv_aload_n C.1 C.2.1 dX4_layRows_9 rfl (lv_at hl 0 rfl) ?_
      refine sh_getr C hw fl_X4_36 tbX_116 rfl dX4_layRows_10 ?_
      refine lv_iload_n C.1 C.2.1 dX4_layRows_13 rfl (lv_at hl 1 rfl) ?_
      refine lv_iload C.1 C.2.1 dX4_layRows_14 (lv_at hl 4 rfl) ?_
      refine lv_iload_n C.1 C.2.1 dX4_layRows_16 rfl (lv_at hl 2 rfl) ?_
      refine lv_isub C.1 C.2.1 dX4_layRows_17 ?_
      refine lv_aload_n C.1 C.2.1 dX4_layRows_18 rfl (lv_at hl 0 rfl) ?_
      refine lv_iload C.1 C.2.1 dX4_layRows_19 (lv_at hl 4 rfl) ?_
      refine sh_Vi (As := [.int v4]) (rest := [.int (v4 - v2), .int v1, .ref (G.2.1 4)]) C hw (kX4_limitOfLaid l v4) yy_X4_limitOfLaid yv_X4_limitOfLaid ml_X4_258 hf tbX_116 rfl rfl rfl rfl (Nat.le_of_ble_eq_true rfl) (by decide) hl.1 dX4_layRows_21 (fun r2 S1 H locs hw hf => ?_)
      refine lv_aload_n C.1 C.2.1 dX4_layRows_24 rfl (lv_at hl 0 rfl) ?_
      refine sh_getr C hw fl_X4_28 tbX_116 rfl dX4_layRows_25 ?_
      refine lv_iload C.1 C.2.1 dX4_layRows_28 (lv_at hl 4 rfl) ?_
      refine lv_iconst (v := 4) C.1 C.2.1 dX4_layRows_30 (by decide) ?_
      refine lv_imul C.1 C.2.1 dX4_layRows_31 ?_
      refine sh_Vi (As := [.int (v4 * 4)]) (rest := [.int r2, .int (v4 - v2), .int v1, .ref (G.2.1 4)]) C hw (kX6_markAt l (v4 * 4)) yy_X6_markAt yv_X6_markAt ml_X4_209 hf tbX_124 rfl rfl rfl rfl (Nat.le_of_ble_eq_true rfl) (by decide) hl.1 dX4_layRows_32 (fun r4 S3 H locs hw hf => ?_)
      refine lv_iconst (v := 1) C.1 C.2.1 dX4_layRows_35 (by decide) ?_
      refine lv_iload C.1 C.2.1 dX4_layRows_36 (lv_at hl 4 rfl) ?_
      refine lv_iadd C.1 C.2.1 dX4_layRows_38 ?_
      refine sh_Vv (As := [.int v1, .int (v4 - v2), .int r2, .int r4, .int (1 + v4)]) (rest := []) C hw (kX7_insertRow l v1 (v4 - v2) r2 r4 (1 + v4)) yy_X7_insertRow yv_X7_insertRow ml_X4_226 hf tbX_4 rfl rfl rfl rfl (Nat.le_of_ble_eq_true rfl) (by decide) hl.1 dX4_layRows_39 (fun S5 H locs hw hf => ?_)
      obtain ⟨y7, ey7, hf⟩ := sh_nm hf
      refine lv_iinc (v := y7) (lv' := [(4, .int y7), (0, .ref (G.2.1 116)), (1, .int v1), (2, .int v2), (3, .int v3)]) C.1 C.2.1 dX4_layRows_42 hl (k := 4) rfl (by rw [← ey7]; rfl) (by decide) rfl (fun ls hl => ?_)
      refine lv_goto (tgt := 3) C.1 C.2.1 dX4_layRows_45 (by decide) ?_
      exact hr3 S5 v1 v2 v3 y7 hf _ _ _ hw (lv_sub hl [1, 2, 3, 4, 0] rfl)
def fX4_layRows (S : sh_St) (v1 : Int32) (v2 : Int32) (v3 : Int32) : Option (Unit × sh_St) :=
    fX4_layRows_3 sh_FU S v1 v2 v3 v2
set_option maxRecDepth 100000 in
set_option maxHeartbeats 4000000 in
theorem kX4_layRows (l : Launch) (v1 : Int32) (v2 : Int32) (v3 : Int32) : sh_Mv l yX4_layRows cX4_layRows 5 3 tbX (fun G => [.ref (G.2.1 116), .int v1, .int v2, .int v3]) (fun S => fX4_layRows S v1 v2 v3) := by
  refine sh_mkv (by decide) (fun G => Nat.le_of_ble_eq_true rfl) ?_
  intro p e s m args below meth c G A S res ls hf C hr hw hl
  have C : sh_Cx p s m args meth c cX4_layRows 5 RX4 G A := C
  have hl : lv_has ls 5 [(0, .ref (G.2.1 116)), (1, .int v1), (2, .int v2), (3, .int v3)] := hl
  replace hf : fX4_layRows S v1 v2 v3 = some res := hf
  rw [fX4_layRows] at hf
  refine lv_iload_n C.1 C.2.1 dX4_layRows_0 rfl (lv_at hl 2 rfl) ?_
  refine lv_istore (lv' := [(4, .int v2), (0, .ref (G.2.1 116)), (1, .int v1), (2, .int v2), (3, .int v3)]) C.1 C.2.1 dX4_layRows_1 hl (by decide) rfl (fun ls hl => ?_)
  exact wX4_layRows_3 C hr _ S v1 v2 v3 v2 hf _ _ _ hw (lv_sub hl [1, 2, 3, 4, 0] rfl)
def fX8_crowdBy_9 : Nat → sh_St → Int32 → Int32 → Option (Int32 × sh_St)
  | 0, _, _, _ => none
  | n + 1, S, v2, v3 =>
    if (S.1 128 4) ≤ v3 then (some (v2, S))
    else (sh_g v3 240 (sh_g (S.1 130 v3.toNatClampNeg) 4096 (sh_t (if v2 < (S.1 129 (S.1 130 v3.toNatClampNeg).toNatClampNeg) then (S.1 129 (S.1 130 v3.toNatClampNeg).toNatClampNeg) else v2) fun y3 =>
    sh_t (v3 + 1) fun y4 =>
    (fX8_crowdBy_9 n) S y3 y4)))
set_option maxRecDepth 100000 in
set_option maxHeartbeats 4000000 in
theorem wX8_crowdBy_9 {p : Program} {l : Launch} {e : Env} {s : State} {m : MethodId} {args : Array Value} {below : List Frame} {meth : Method} {c : Code} {G : sh_Ev} {A : Nat → Prop} {res : Int32 × sh_St} (C : sh_Cx p s m args meth c cX8_crowdBy 4 RX8 G A) (hr : meth.sig.returnType = some .int) : ∀ (n : Nat) (S : sh_St) (v2 : Int32) (v3 : Int32), fX8_crowdBy_9 n S v2 v3 = some res → ∀ (H : Heap) (locs : List Loc) (ls : Array Slot), sh_Wx G tbX A s H locs S → lv_has ls 4 [(0, .ref (G.2.1 128)), (2, .int v2), (3, .int v3)] → W p l e (sh_rm 4) s m args below meth c H locs 0 0 (sh_Qi below args s G tbX A res) (F0 m 9 ls []) := by
  intro n
  induction n with
  | zero => intro S v2 v3 hf; exact nomatch (show (none : Option (Int32 × sh_St)) = some res from hf)
  | succ n ih =>
    intro S v2 v3 hf H locs ls hw hl
    have hr9 := ih
    rw [fX8_crowdBy_9] at hf
    refine lv_iload_n C.1 C.2.1 dX8_crowdBy_9 rfl (lv_at hl 2 rfl) ?_
    refine lv_aload_n C.1 C.2.1 dX8_crowdBy_10 rfl (lv_at hl 0 rfl) ?_
    refine sh_geti C hw fl_X8_18 tbX_128 rfl dX8_crowdBy_11 ?_
    refine sh_icmp_ge (tgt := 39) C hf dX8_crowdBy_14 (by decide) (fun hf => ?_) (fun hf => ?_)
    · refine lv_iload_n C.1 C.2.1 dX8_crowdBy_39 rfl (lv_at hl 1 rfl) ?_
      exact sh_ri C hw hr hf dX8_crowdBy_40
    · refine lv_iload_n C.1 C.2.1 dX8_crowdBy_17 rfl (lv_at hl 1 rfl) ?_
      refine lv_aload_n C.1 C.2.1 dX8_crowdBy_18 rfl (lv_at hl 0 rfl) ?_
      refine sh_getr C hw fl_X8_9 tbX_128 rfl dX8_crowdBy_19 ?_
      refine lv_aload_n C.1 C.2.1 dX8_crowdBy_22 rfl (lv_at hl 0 rfl) ?_
      refine sh_getr C hw fl_X8_15 tbX_128 rfl dX8_crowdBy_23 ?_
      refine lv_iload_n C.1 C.2.1 dX8_crowdBy_26 rfl (lv_at hl 2 rfl) ?_
      refine sh_iald C hw hf tbX_130 dX8_crowdBy_27 (fun hf => ?_)
      refine sh_iald C hw hf tbX_129 dX8_crowdBy_28 (fun hf => ?_)
      refine sh_max C ml_X8_80 mb_max (by decide) hl.1 (Nat.le_of_ble_eq_true rfl) dX8_crowdBy_29 ?_
      refine sh_ni hf (fun y3 hf => ?_)
      refine lv_istore_n (lv' := [(2, .int y3), (0, .ref (G.2.1 128)), (3, .int v3)]) C.1 C.2.1 dX8_crowdBy_32 rfl hl (by decide) rfl (fun ls hl => ?_)
      obtain ⟨y4, ey4, hf⟩ := sh_nm hf
      refine lv_iinc (v := y4) (lv' := [(3, .int y4), (2, .int y3), (0, .ref (G.2.1 128))]) C.1 C.2.1 dX8_crowdBy_33 hl (k := 2) rfl (by rw [← ey4]; rfl) (by decide) rfl (fun ls hl => ?_)
      refine lv_goto (tgt := 9) C.1 C.2.1 dX8_crowdBy_36 (by decide) ?_
      exact hr9 S y3 y4 hf _ _ _ hw (lv_sub hl [2, 1, 0] rfl)
def fX8_crowdBy (S : sh_St) (v1 : Int32) : Option (Int32 × sh_St) :=
    sh_c (fX8_tallyBy S v1) fun _ S1 =>
    fX8_crowdBy_9 sh_FU S1 0 0
set_option maxRecDepth 100000 in
set_option maxHeartbeats 4000000 in
theorem kX8_crowdBy (l : Launch) (v1 : Int32) : sh_Mi l yX8_crowdBy cX8_crowdBy 4 .int 4 tbX (fun G => [.ref (G.2.1 128), .int v1]) (fun S => fX8_crowdBy S v1) := by
  refine sh_mki (by decide) (fun G => Nat.le_of_ble_eq_true rfl) ?_
  intro p e s m args below meth c G A S res ls hf C hr hw hl
  have C : sh_Cx p s m args meth c cX8_crowdBy 4 RX8 G A := C
  have hl : lv_has ls 4 [(0, .ref (G.2.1 128)), (1, .int v1)] := hl
  replace hf : fX8_crowdBy S v1 = some res := hf
  rw [fX8_crowdBy] at hf
  refine lv_aload_n C.1 C.2.1 dX8_crowdBy_0 rfl (lv_at hl 0 rfl) ?_
  refine lv_iload_n C.1 C.2.1 dX8_crowdBy_1 rfl (lv_at hl 1 rfl) ?_
  refine sh_Vv (As := [.int v1]) (rest := []) C hw (kX8_tallyBy l v1) yy_X8_tallyBy yv_X8_tallyBy ml_X8_107 hf tbX_128 rfl rfl rfl rfl (Nat.le_of_ble_eq_true rfl) (by decide) hl.1 dX8_crowdBy_2 (fun S1 H locs hw hf => ?_)
  refine lv_iconst (v := 0) C.1 C.2.1 dX8_crowdBy_5 (by decide) ?_
  refine lv_istore_n (lv' := [(2, .int 0), (0, .ref (G.2.1 128)), (1, .int v1)]) C.1 C.2.1 dX8_crowdBy_6 rfl hl (by decide) rfl (fun ls hl => ?_)
  refine lv_iconst (v := 0) C.1 C.2.1 dX8_crowdBy_7 (by decide) ?_
  refine lv_istore_n (lv' := [(3, .int 0), (2, .int 0), (0, .ref (G.2.1 128)), (1, .int v1)]) C.1 C.2.1 dX8_crowdBy_8 rfl hl (by decide) rfl (fun ls hl => ?_)
  exact wX8_crowdBy_9 C hr _ S1 0 0 hf _ _ _ hw (lv_sub hl [2, 1, 0] rfl)
def fX8_leastCrowdedKey_53 (rk12 : sh_St → Int32 → Int32 → Int32 → Int32 → Int32 → Option (Int32 × sh_St)) (S : sh_St) (v1 : Int32) (v2 : Int32) (v3 : Int32) (v4 : Int32) (v5 : Int32) : Option (Int32 × sh_St) :=
    sh_t (v5 + 1) fun y5 =>
    rk12 S v1 v2 v3 v4 y5
set_option maxRecDepth 100000 in
set_option maxHeartbeats 4000000 in
theorem wX8_leastCrowdedKey_53 {p : Program} {l : Launch} {e : Env} {s : State} {m : MethodId} {args : Array Value} {below : List Frame} {meth : Method} {c : Code} {G : sh_Ev} {A : Nat → Prop} {res : Int32 × sh_St} (C : sh_Cx p s m args meth c cX8_leastCrowdedKey 7 RX8 G A) (hr : meth.sig.returnType = some .int) (rk12 : sh_St → Int32 → Int32 → Int32 → Int32 → Int32 → Option (Int32 × sh_St)) (hr12 : ∀ (S : sh_St) (v1 : Int32) (v2 : Int32) (v3 : Int32) (v4 : Int32) (v5 : Int32), rk12 S v1 v2 v3 v4 v5 = some res → ∀ (H : Heap) (locs : List Loc) (ls : Array Slot), sh_Wx G tbX A s H locs S → lv_has ls 7 [(0, .ref (G.2.1 128)), (1, .int v1), (2, .int v2), (3, .int v3), (4, .int v4), (5, .int v5)] → W p l e (sh_rm 5) s m args below meth c H locs 0 0 (sh_Qi below args s G tbX A res) (F0 m 12 ls [])) : ∀ (S : sh_St) (v1 : Int32) (v2 : Int32) (v3 : Int32) (v4 : Int32) (v5 : Int32), fX8_leastCrowdedKey_53 rk12 S v1 v2 v3 v4 v5 = some res → ∀ (H : Heap) (locs : List Loc) (ls : Array Slot), sh_Wx G tbX A s H locs S → lv_has ls 7 [(0, .ref (G.2.1 128)), (1, .int v1), (2, .int v2), (3, .int v3), (4, .int v4), (5, .int v5)] → W p l e (sh_rm 5) s m args below meth c H locs 0 0 (sh_Qi below args s G tbX A res) (F0 m 53 ls []) := by
  intro S v1 v2 v3 v4 v5 hf H locs ls hw hl
  rw [fX8_leastCrowdedKey_53] at hf
  obtain ⟨y5, ey5, hf⟩ := sh_nm hf
  refine lv_iinc (v := y5) (lv' := [(5, .int y5), (0, .ref (G.2.1 128)), (1, .int v1), (2, .int v2), (3, .int v3), (4, .int v4)]) C.1 C.2.1 dX8_leastCrowdedKey_53 hl (k := 5) rfl (by rw [← ey5]; rfl) (by decide) rfl (fun ls hl => ?_)
  refine lv_goto (tgt := 12) C.1 C.2.1 dX8_leastCrowdedKey_56 (by decide) ?_
  exact hr12 S v1 v2 v3 v4 y5 hf _ _ _ hw (lv_sub hl [1, 2, 3, 4, 5, 0] rfl)
def fX8_leastCrowdedKey_12 : Nat → sh_St → Int32 → Int32 → Int32 → Int32 → Int32 → Option (Int32 × sh_St)
  | 0, _, _, _, _, _, _ => none
  | n + 1, S, v1, v2, v3, v4, v5 =>
    if v2 ≤ v5 then (some (v3, S))
    else (if 65535 < (v1 + v5) then (some (v3, S))
    else (sh_c (fX8_crowdBy S (v1 + v5)) fun r4 S3 =>
    if v4 ≤ r4 then (fX8_leastCrowdedKey_53 (fX8_leastCrowdedKey_12 n) S3 v1 v2 v3 v4 v5)
    else (sh_t (v1 + v5) fun y6 =>
    fX8_leastCrowdedKey_53 (fX8_leastCrowdedKey_12 n) S3 v1 v2 y6 r4 v5)))
set_option maxRecDepth 100000 in
set_option maxHeartbeats 4000000 in
theorem wX8_leastCrowdedKey_12 {p : Program} {l : Launch} {e : Env} {s : State} {m : MethodId} {args : Array Value} {below : List Frame} {meth : Method} {c : Code} {G : sh_Ev} {A : Nat → Prop} {res : Int32 × sh_St} (C : sh_Cx p s m args meth c cX8_leastCrowdedKey 7 RX8 G A) (hr : meth.sig.returnType = some .int) : ∀ (n : Nat) (S : sh_St) (v1 : Int32) (v2 : Int32) (v3 : Int32) (v4 : Int32) (v5 : Int32), fX8_leastCrowdedKey_12 n S v1 v2 v3 v4 v5 = some res → ∀ (H : Heap) (locs : List Loc) (ls : Array Slot), sh_Wx G tbX A s H locs S → lv_has ls 7 [(0, .ref (G.2.1 128)), (1, .int v1), (2, .int v2), (3, .int v3), (4, .int v4), (5, .int v5)] → W p l e (sh_rm 5) s m args below meth c H locs 0 0 (sh_Qi below args s G tbX A res) (F0 m 12 ls []) := by
  intro n
  induction n with
  | zero => intro S v1 v2 v3 v4 v5 hf; exact nomatch (show (none : Option (Int32 × sh_St)) = some res from hf)
  | succ n ih =>
    intro S v1 v2 v3 v4 v5 hf H locs ls hw hl
    have hr12 := ih
    rw [fX8_leastCrowdedKey_12] at hf
    refine lv_iload C.1 C.2.1 dX8_leastCrowdedKey_12 (lv_at hl 5 rfl) ?_
    refine lv_iload_n C.1 C.2.1 dX8_leastCrowdedKey_14 rfl (lv_at hl 2 rfl) ?_
    refine sh_icmp_ge (tgt := 59) C hf dX8_leastCrowdedKey_15 (by decide) (fun hf => ?_) (fun hf => ?_)
    · refine lv_iload_n C.1 C.2.1 dX8_leastCrowdedKey_59 rfl (lv_at hl 3 rfl) ?_
      exact sh_ri C hw hr hf dX8_leastCrowdedKey_60
    · refine lv_iload_n C.1 C.2.1 dX8_leastCrowdedKey_18 rfl (lv_at hl 1 rfl) ?_
      refine lv_iload C.1 C.2.1 dX8_leastCrowdedKey_19 (lv_at hl 5 rfl) ?_
      refine lv_iadd C.1 C.2.1 dX8_leastCrowdedKey_21 ?_
      refine lv_ldc C.1 C.2.1 C.2.2.2.1 (C.2.2.2.2.1 _ kc_X8_126) dX8_leastCrowdedKey_22 ?_
      refine sh_icmp_gt (tgt := 59) C hf dX8_leastCrowdedKey_24 (by decide) (fun hf => ?_) (fun hf => ?_)
      · refine lv_iload_n C.1 C.2.1 dX8_leastCrowdedKey_59 rfl (lv_at hl 3 rfl) ?_
        exact sh_ri C hw hr hf dX8_leastCrowdedKey_60
      · refine lv_aload_n C.1 C.2.1 dX8_leastCrowdedKey_27 rfl (lv_at hl 0 rfl) ?_
        refine lv_iload_n C.1 C.2.1 dX8_leastCrowdedKey_28 rfl (lv_at hl 1 rfl) ?_
        refine lv_iload C.1 C.2.1 dX8_leastCrowdedKey_29 (lv_at hl 5 rfl) ?_
        refine lv_iadd C.1 C.2.1 dX8_leastCrowdedKey_31 ?_
        refine sh_Vi (As := [.int (v1 + v5)]) (rest := []) C hw (kX8_crowdBy l (v1 + v5)) yy_X8_crowdBy yv_X8_crowdBy ml_X8_67 hf tbX_128 rfl rfl rfl rfl (Nat.le_of_ble_eq_true rfl) (by decide) hl.1 dX8_leastCrowdedKey_32 (fun r4 S3 H locs hw hf => ?_)
        refine lv_istore (lv' := [(6, .int r4), (0, .ref (G.2.1 128)), (1, .int v1), (2, .int v2), (3, .int v3), (4, .int v4), (5, .int v5)]) C.1 C.2.1 dX8_leastCrowdedKey_35 hl (by decide) rfl (fun ls hl => ?_)
        refine lv_iload C.1 C.2.1 dX8_leastCrowdedKey_37 (lv_at hl 0 rfl) ?_
        refine lv_iload C.1 C.2.1 dX8_leastCrowdedKey_39 (lv_at hl 5 rfl) ?_
        refine sh_icmp_ge (tgt := 53) C hf dX8_leastCrowdedKey_41 (by decide) (fun hf => ?_) (fun hf => ?_)
        · exact wX8_leastCrowdedKey_53 C hr (fX8_leastCrowdedKey_12 n) hr12 S3 v1 v2 v3 v4 v5 hf _ _ _ hw (lv_sub hl [1, 2, 3, 4, 5, 6] rfl)
        · refine lv_iload C.1 C.2.1 dX8_leastCrowdedKey_44 (lv_at hl 0 rfl) ?_
          refine lv_istore (lv' := [(4, .int r4), (6, .int r4), (0, .ref (G.2.1 128)), (1, .int v1), (2, .int v2), (3, .int v3), (5, .int v5)]) C.1 C.2.1 dX8_leastCrowdedKey_46 hl (by decide) rfl (fun ls hl => ?_)
          refine lv_iload_n C.1 C.2.1 dX8_leastCrowdedKey_48 rfl (lv_at hl 3 rfl) ?_
          refine lv_iload C.1 C.2.1 dX8_leastCrowdedKey_49 (lv_at hl 6 rfl) ?_
          refine lv_iadd C.1 C.2.1 dX8_leastCrowdedKey_51 ?_
          refine sh_ni hf (fun y6 hf => ?_)
          refine lv_istore_n (lv' := [(3, .int y6), (4, .int r4), (6, .int r4), (0, .ref (G.2.1 128)), (1, .int v1), (2, .int v2), (5, .int v5)]) C.1 C.2.1 dX8_leastCrowdedKey_52 rfl hl (by decide) rfl (fun ls hl => ?_)
          exact wX8_leastCrowdedKey_53 C hr (fX8_leastCrowdedKey_12 n) hr12 S3 v1 v2 y6 r4 v5 hf _ _ _ hw (lv_sub hl [3, 4, 5, 0, 1, 6] rfl)
def fX8_leastCrowdedKey (S : sh_St) (v1 : Int32) (v2 : Int32) : Option (Int32 × sh_St) :=
    sh_c (fX8_crowdBy S v1) fun r2 S1 =>
    fX8_leastCrowdedKey_12 sh_FU S1 v1 v2 v1 r2 1
set_option maxRecDepth 100000 in
set_option maxHeartbeats 4000000 in
theorem kX8_leastCrowdedKey (l : Launch) (v1 : Int32) (v2 : Int32) : sh_Mi l yX8_leastCrowdedKey cX8_leastCrowdedKey 7 .int 5 tbX (fun G => [.ref (G.2.1 128), .int v1, .int v2]) (fun S => fX8_leastCrowdedKey S v1 v2) := by
  refine sh_mki (by decide) (fun G => Nat.le_of_ble_eq_true rfl) ?_
  intro p e s m args below meth c G A S res ls hf C hr hw hl
  have C : sh_Cx p s m args meth c cX8_leastCrowdedKey 7 RX8 G A := C
  have hl : lv_has ls 7 [(0, .ref (G.2.1 128)), (1, .int v1), (2, .int v2)] := hl
  replace hf : fX8_leastCrowdedKey S v1 v2 = some res := hf
  rw [fX8_leastCrowdedKey] at hf
  refine lv_iload_n C.1 C.2.1 dX8_leastCrowdedKey_0 rfl (lv_at hl 1 rfl) ?_
  refine lv_istore_n (lv' := [(3, .int v1), (0, .ref (G.2.1 128)), (1, .int v1), (2, .int v2)]) C.1 C.2.1 dX8_leastCrowdedKey_1 rfl hl (by decide) rfl (fun ls hl => ?_)
  refine lv_aload_n C.1 C.2.1 dX8_leastCrowdedKey_2 rfl (lv_at hl 1 rfl) ?_
  refine lv_iload_n C.1 C.2.1 dX8_leastCrowdedKey_3 rfl (lv_at hl 2 rfl) ?_
  refine sh_Vi (As := [.int v1]) (rest := []) C hw (kX8_crowdBy l v1) yy_X8_crowdBy yv_X8_crowdBy ml_X8_67 hf tbX_128 rfl rfl rfl rfl (Nat.le_of_ble_eq_true rfl) (by decide) hl.1 dX8_leastCrowdedKey_4 (fun r2 S1 H locs hw hf => ?_)
  refine lv_istore (lv' := [(4, .int r2), (3, .int v1), (0, .ref (G.2.1 128)), (1, .int v1), (2, .int v2)]) C.1 C.2.1 dX8_leastCrowdedKey_7 hl (by decide) rfl (fun ls hl => ?_)
  refine lv_iconst (v := 1) C.1 C.2.1 dX8_leastCrowdedKey_9 (by decide) ?_
  refine lv_istore (lv' := [(5, .int 1), (4, .int r2), (3, .int v1), (0, .ref (G.2.1 128)), (1, .int v1), (2, .int v2)]) C.1 C.2.1 dX8_leastCrowdedKey_10 hl (by decide) rfl (fun ls hl => ?_)
  exact wX8_leastCrowdedKey_12 C hr _ S1 v1 v2 v1 r2 1 hf _ _ _ hw (lv_sub hl [3, 4, 5, 2, 1, 0] rfl)
def fX8_roomOnWay_24 : Nat → sh_St → Int32 → Int32 → Option (Int32 × sh_St)
  | 0, _, _, _ => none
  | n + 1, S, v3, v4 =>
    if (S.1 121 3) ≤ v4 then (some (v3, S))
    else (sh_g v4 42 (sh_c (fX7_entriesIn S (S.1 122 v4.toNatClampNeg)) fun r5 S4 =>
    sh_t (v3 + (6 - r5)) fun y6 =>
    sh_t (v4 + 1) fun y7 =>
    (fX8_roomOnWay_24 n) S4 y6 y7))
set_option maxRecDepth 100000 in
set_option maxHeartbeats 4000000 in
theorem wX8_roomOnWay_24 {p : Program} {l : Launch} {e : Env} {s : State} {m : MethodId} {args : Array Value} {below : List Frame} {meth : Method} {c : Code} {G : sh_Ev} {A : Nat → Prop} {res : Int32 × sh_St} (C : sh_Cx p s m args meth c cX8_roomOnWay 5 RX8 G A) (hr : meth.sig.returnType = some .int) : ∀ (n : Nat) (S : sh_St) (v3 : Int32) (v4 : Int32), fX8_roomOnWay_24 n S v3 v4 = some res → ∀ (H : Heap) (locs : List Loc) (ls : Array Slot), sh_Wx G tbX A s H locs S → lv_has ls 5 [(0, .ref (G.2.1 128)), (2, .ref (G.2.1 121)), (3, .int v3), (4, .int v4)] → W p l e (sh_rm 4) s m args below meth c H locs 0 0 (sh_Qi below args s G tbX A res) (F0 m 24 ls []) := by
  intro n
  induction n with
  | zero => intro S v3 v4 hf; exact nomatch (show (none : Option (Int32 × sh_St)) = some res from hf)
  | succ n ih =>
    intro S v3 v4 hf H locs ls hw hl
    have hr24 := ih
    rw [fX8_roomOnWay_24] at hf
    refine lv_iload C.1 C.2.1 dX8_roomOnWay_24 (lv_at hl 3 rfl) ?_
    refine lv_aload_n C.1 C.2.1 dX8_roomOnWay_26 rfl (lv_at hl 1 rfl) ?_
    refine sh_geti C hw fl_X8_139 tbX_121 rfl dX8_roomOnWay_27 ?_
    refine sh_icmp_ge (tgt := 59) C hf dX8_roomOnWay_30 (by decide) (fun hf => ?_) (fun hf => ?_)
    · refine lv_iload_n C.1 C.2.1 dX8_roomOnWay_59 rfl (lv_at hl 2 rfl) ?_
      exact sh_ri C hw hr hf dX8_roomOnWay_60
    · refine lv_iload_n C.1 C.2.1 dX8_roomOnWay_33 rfl (lv_at hl 2 rfl) ?_
      refine lv_bipush (v := 6) C.1 C.2.1 dX8_roomOnWay_34 (by decide) ?_
      refine lv_aload_n C.1 C.2.1 dX8_roomOnWay_36 rfl (lv_at hl 0 rfl) ?_
      refine sh_getr C hw fl_X8_22 tbX_128 rfl dX8_roomOnWay_37 ?_
      refine lv_aload_n C.1 C.2.1 dX8_roomOnWay_40 rfl (lv_at hl 1 rfl) ?_
      refine sh_getr C hw fl_X8_142 tbX_121 rfl dX8_roomOnWay_41 ?_
      refine lv_iload C.1 C.2.1 dX8_roomOnWay_44 (lv_at hl 3 rfl) ?_
      refine sh_iald C hw hf tbX_122 dX8_roomOnWay_46 (fun hf => ?_)
      refine sh_Vi (As := [.int (S.1 122 v4.toNatClampNeg)]) (rest := [.int 6, .int v3]) C hw (kX7_entriesIn l (S.1 122 v4.toNatClampNeg)) yy_X7_entriesIn yv_X7_entriesIn ml_X8_95 hf tbX_4 rfl rfl rfl rfl (Nat.le_of_ble_eq_true rfl) (by decide) hl.1 dX8_roomOnWay_47 (fun r5 S4 H locs hw hf => ?_)
      refine lv_isub C.1 C.2.1 dX8_roomOnWay_50 ?_
      refine lv_iadd C.1 C.2.1 dX8_roomOnWay_51 ?_
      refine sh_ni hf (fun y6 hf => ?_)
      refine lv_istore_n (lv' := [(3, .int y6), (0, .ref (G.2.1 128)), (2, .ref (G.2.1 121)), (4, .int v4)]) C.1 C.2.1 dX8_roomOnWay_52 rfl hl (by decide) rfl (fun ls hl => ?_)
      obtain ⟨y7, ey7, hf⟩ := sh_nm hf
      refine lv_iinc (v := y7) (lv' := [(4, .int y7), (3, .int y6), (0, .ref (G.2.1 128)), (2, .ref (G.2.1 121))]) C.1 C.2.1 dX8_roomOnWay_53 hl (k := 3) rfl (by rw [← ey7]; rfl) (by decide) rfl (fun ls hl => ?_)
      refine lv_goto (tgt := 24) C.1 C.2.1 dX8_roomOnWay_56 (by decide) ?_
      exact hr24 S4 y6 y7 hf _ _ _ hw (lv_sub hl [2, 3, 1, 0] rfl)
def fX8_roomOnWay (S : sh_St) (v1 : Int32) : Option (Int32 × sh_St) :=
    sh_c (fX4_trace S v1) fun _ S1 =>
    sh_t (S1.1 121 2) fun y3 =>
    fX8_roomOnWay_24 sh_FU S1 0 y3
set_option maxRecDepth 100000 in
set_option maxHeartbeats 4000000 in
theorem kX8_roomOnWay (l : Launch) (v1 : Int32) : sh_Mi l yX8_roomOnWay cX8_roomOnWay 5 .int 4 tbX (fun G => [.ref (G.2.1 128), .int v1]) (fun S => fX8_roomOnWay S v1) := by
  refine sh_mki (by decide) (fun G => Nat.le_of_ble_eq_true rfl) ?_
  intro p e s m args below meth c G A S res ls hf C hr hw hl
  have C : sh_Cx p s m args meth c cX8_roomOnWay 5 RX8 G A := C
  have hl : lv_has ls 5 [(0, .ref (G.2.1 128)), (1, .int v1)] := hl
  replace hf : fX8_roomOnWay S v1 = some res := hf
  rw [fX8_roomOnWay] at hf
  refine lv_aload_n C.1 C.2.1 dX8_roomOnWay_0 rfl (lv_at hl 0 rfl) ?_
  refine sh_getr C hw fl_X8_26 tbX_128 rfl dX8_roomOnWay_1 ?_
  refine lv_iload_n C.1 C.2.1 dX8_roomOnWay_4 rfl (lv_at hl 1 rfl) ?_
  refine sh_Vv (As := [.int v1]) (rest := []) C hw (kX4_trace l v1) yy_X4_trace yv_X4_trace ml_X8_127 hf tbX_116 rfl rfl rfl rfl (Nat.le_of_ble_eq_true rfl) (by decide) hl.1 dX8_roomOnWay_5 (fun S1 H locs hw hf => ?_)
  refine lv_aload_n C.1 C.2.1 dX8_roomOnWay_8 rfl (lv_at hl 0 rfl) ?_
  refine sh_getr C hw fl_X8_26 tbX_128 rfl dX8_roomOnWay_9 ?_
  refine sh_getr C hw fl_X8_130 tbX_116 rfl dX8_roomOnWay_12 ?_
  refine lv_astore_n (lv' := [(2, .ref (G.2.1 121)), (0, .ref (G.2.1 128)), (1, .int v1)]) C.1 C.2.1 dX8_roomOnWay_15 rfl hl (by decide) rfl (fun ls hl => ?_)
  refine lv_iconst (v := 0) C.1 C.2.1 dX8_roomOnWay_16 (by decide) ?_
  refine lv_istore_n (lv' := [(3, .int 0), (2, .ref (G.2.1 121)), (0, .ref (G.2.1 128)), (1, .int v1)]) C.1 C.2.1 dX8_roomOnWay_17 rfl hl (by decide) rfl (fun ls hl => ?_)
  refine lv_aload_n C.1 C.2.1 dX8_roomOnWay_18 rfl (lv_at hl 1 rfl) ?_
  refine sh_geti C hw fl_X8_134 tbX_121 rfl dX8_roomOnWay_19 ?_
  refine sh_ni hf (fun y3 hf => ?_)
  refine lv_istore (lv' := [(4, .int y3), (3, .int 0), (2, .ref (G.2.1 121)), (0, .ref (G.2.1 128)), (1, .int v1)]) C.1 C.2.1 dX8_roomOnWay_22 hl (by decide) rfl (fun ls hl => ?_)
  exact wX8_roomOnWay_24 C hr _ S1 0 y3 hf _ _ _ hw (lv_sub hl [3, 2, 1, 0] rfl)
def fX8_longestChain_81 (rk4 : sh_St → Int32 → Int32 → Option (Int32 × sh_St)) (S : sh_St) (v1 : Int32) (v2 : Int32) : Option (Int32 × sh_St) :=
    sh_t (v2 + 1) fun y1 =>
    rk4 S v1 y1
set_option maxRecDepth 100000 in
set_option maxHeartbeats 4000000 in
theorem wX8_longestChain_81 {p : Program} {l : Launch} {e : Env} {s : State} {m : MethodId} {args : Array Value} {below : List Frame} {meth : Method} {c : Code} {G : sh_Ev} {A : Nat → Prop} {res : Int32 × sh_St} (C : sh_Cx p s m args meth c cX8_longestChain 3 RX8 G A) (hr : meth.sig.returnType = some .int) (rk4 : sh_St → Int32 → Int32 → Option (Int32 × sh_St)) (hr4 : ∀ (S : sh_St) (v1 : Int32) (v2 : Int32), rk4 S v1 v2 = some res → ∀ (H : Heap) (locs : List Loc) (ls : Array Slot), sh_Wx G tbX A s H locs S → lv_has ls 3 [(0, .ref (G.2.1 128)), (1, .int v1), (2, .int v2)] → W p l e (sh_rm 3) s m args below meth c H locs 0 0 (sh_Qi below args s G tbX A res) (F0 m 4 ls [])) : ∀ (S : sh_St) (v1 : Int32) (v2 : Int32), fX8_longestChain_81 rk4 S v1 v2 = some res → ∀ (H : Heap) (locs : List Loc) (ls : Array Slot), sh_Wx G tbX A s H locs S → lv_has ls 3 [(0, .ref (G.2.1 128)), (1, .int v1), (2, .int v2)] → W p l e (sh_rm 3) s m args below meth c H locs 0 0 (sh_Qi below args s G tbX A res) (F0 m 81 ls []) := by
  intro S v1 v2 hf H locs ls hw hl
  rw [fX8_longestChain_81] at hf
  obtain ⟨y1, ey1, hf⟩ := sh_nm hf
  refine lv_iinc (v := y1) (lv' := [(2, .int y1), (0, .ref (G.2.1 128)), (1, .int v1)]) C.1 C.2.1 dX8_longestChain_81 hl (k := 2) rfl (by rw [← ey1]; rfl) (by decide) rfl (fun ls hl => ?_)
  refine lv_goto (tgt := 4) C.1 C.2.1 dX8_longestChain_84 (by decide) ?_
  exact hr4 S v1 y1 hf _ _ _ hw (lv_sub hl [1, 2, 0] rfl)
def fX8_longestChain_4 : Nat → sh_St → Int32 → Int32 → Option (Int32 × sh_St)
  | 0, _, _, _ => none
  | n + 1, S, v1, v2 =>
    if 240 ≤ v2 then (some (v1, S))
    else (sh_g v2 240 (if (S.2 8 v2.toNatClampNeg) = 0 then (fX8_longestChain_81 (fX8_longestChain_4 n) S v1 v2)
    else (sh_g v2 240 (sh_c (fX11_trace S (S.1 10 v2.toNatClampNeg)) fun _ S2 =>
    sh_t (if v1 < ((S2.1 121 3) - (S2.1 121 2)) then ((S2.1 121 3) - (S2.1 121 2)) else v1) fun y4 =>
    fX8_longestChain_81 (fX8_longestChain_4 n) S2 y4 v2))))
set_option maxRecDepth 100000 in
set_option maxHeartbeats 4000000 in
theorem wX8_longestChain_4 {p : Program} {l : Launch} {e : Env} {s : State} {m : MethodId} {args : Array Value} {below : List Frame} {meth : Method} {c : Code} {G : sh_Ev} {A : Nat → Prop} {res : Int32 × sh_St} (C : sh_Cx p s m args meth c cX8_longestChain 3 RX8 G A) (hr : meth.sig.returnType = some .int) : ∀ (n : Nat) (S : sh_St) (v1 : Int32) (v2 : Int32), fX8_longestChain_4 n S v1 v2 = some res → ∀ (H : Heap) (locs : List Loc) (ls : Array Slot), sh_Wx G tbX A s H locs S → lv_has ls 3 [(0, .ref (G.2.1 128)), (1, .int v1), (2, .int v2)] → W p l e (sh_rm 3) s m args below meth c H locs 0 0 (sh_Qi below args s G tbX A res) (F0 m 4 ls []) := by
  intro n
  induction n with
  | zero => intro S v1 v2 hf; exact nomatch (show (none : Option (Int32 × sh_St)) = some res from hf)
  | succ n ih =>
    intro S v1 v2 hf H locs ls hw hl
    have hr4 := ih
    rw [fX8_longestChain_4] at hf
    refine lv_iload_n C.1 C.2.1 dX8_longestChain_4 rfl (lv_at hl 2 rfl) ?_
    refine lv_sipush (v := 240) C.1 C.2.1 dX8_longestChain_5 (by decide) ?_
    refine sh_icmp_ge (tgt := 87) C hf dX8_longestChain_8 (by decide) (fun hf => ?_) (fun hf => ?_)
    · refine lv_iload_n C.1 C.2.1 dX8_longestChain_87 rfl (lv_at hl 1 rfl) ?_
      exact sh_ri C hw hr hf dX8_longestChain_88
    · refine lv_aload_n C.1 C.2.1 dX8_longestChain_11 rfl (lv_at hl 0 rfl) ?_
      refine sh_getr C hw fl_X8_22 tbX_128 rfl dX8_longestChain_12 ?_
      refine sh_getr C hw fl_X8_111 tbX_4 rfl dX8_longestChain_15 ?_
      refine lv_iload_n C.1 C.2.1 dX8_longestChain_18 rfl (lv_at hl 2 rfl) ?_
      refine sh_lald C hw hf tbX_8 dX8_longestChain_19 (fun hf => ?_)
      refine lv_lconst (v := 0) C.1 C.2.1 dX8_longestChain_20 (by decide) ?_
      refine sh_lcmp_eq (tgt := 81) C hf dX8_longestChain_21 dX8_longestChain_22 (by decide) (fun hf => ?_) (fun hf => ?_)
      · exact wX8_longestChain_81 C hr (fX8_longestChain_4 n) hr4 S v1 v2 hf _ _ _ hw (lv_sub hl [0, 1, 2] rfl)
      · refine lv_aload_n C.1 C.2.1 dX8_longestChain_25 rfl (lv_at hl 0 rfl) ?_
        refine sh_getr C hw fl_X8_26 tbX_128 rfl dX8_longestChain_26 ?_
        refine sh_getr C hw fl_X8_130 tbX_116 rfl dX8_longestChain_29 ?_
        refine lv_aload_n C.1 C.2.1 dX8_longestChain_32 rfl (lv_at hl 0 rfl) ?_
        refine sh_getr C hw fl_X8_22 tbX_128 rfl dX8_longestChain_33 ?_
        refine lv_aload_n C.1 C.2.1 dX8_longestChain_36 rfl (lv_at hl 0 rfl) ?_
        refine sh_getr C hw fl_X8_26 tbX_128 rfl dX8_longestChain_37 ?_
        refine sh_getr C hw fl_X8_54 tbX_116 rfl dX8_longestChain_40 ?_
        refine lv_aload_n C.1 C.2.1 dX8_longestChain_43 rfl (lv_at hl 0 rfl) ?_
        refine sh_getr C hw fl_X8_22 tbX_128 rfl dX8_longestChain_44 ?_
        refine sh_getr C hw fl_X8_155 tbX_4 rfl dX8_longestChain_47 ?_
        refine lv_iload_n C.1 C.2.1 dX8_longestChain_50 rfl (lv_at hl 2 rfl) ?_
        refine sh_iald C hw hf tbX_10 dX8_longestChain_51 (fun hf => ?_)
        refine sh_Vv (As := [.ref (G.2.1 4), .ref (G.2.1 117), .int (S.1 10 v2.toNatClampNeg)]) (rest := []) C hw (kX11_trace l (S.1 10 v2.toNatClampNeg)) yy_X11_trace yv_X11_trace ml_X8_158 hf tbX_121 rfl rfl rfl rfl (Nat.le_of_ble_eq_true rfl) (by decide) hl.1 dX8_longestChain_52 (fun S2 H locs hw hf => ?_)
        refine lv_iload_n C.1 C.2.1 dX8_longestChain_55 rfl (lv_at hl 1 rfl) ?_
        refine lv_aload_n C.1 C.2.1 dX8_longestChain_56 rfl (lv_at hl 0 rfl) ?_
        refine sh_getr C hw fl_X8_26 tbX_128 rfl dX8_longestChain_57 ?_
        refine sh_getr C hw fl_X8_130 tbX_116 rfl dX8_longestChain_60 ?_
        refine sh_geti C hw fl_X8_139 tbX_121 rfl dX8_longestChain_63 ?_
        refine lv_aload_n C.1 C.2.1 dX8_longestChain_66 rfl (lv_at hl 0 rfl) ?_
        refine sh_getr C hw fl_X8_26 tbX_128 rfl dX8_longestChain_67 ?_
        refine sh_getr C hw fl_X8_130 tbX_116 rfl dX8_longestChain_70 ?_
        refine sh_geti C hw fl_X8_134 tbX_121 rfl dX8_longestChain_73 ?_
        refine lv_isub C.1 C.2.1 dX8_longestChain_76 ?_
        refine sh_max C ml_X8_80 mb_max (by decide) hl.1 (Nat.le_of_ble_eq_true rfl) dX8_longestChain_77 ?_
        refine sh_ni hf (fun y4 hf => ?_)
        refine lv_istore_n (lv' := [(1, .int y4), (0, .ref (G.2.1 128)), (2, .int v2)]) C.1 C.2.1 dX8_longestChain_80 rfl hl (by decide) rfl (fun ls hl => ?_)
        exact wX8_longestChain_81 C hr (fX8_longestChain_4 n) hr4 S2 y4 v2 hf _ _ _ hw (lv_sub hl [1, 0, 2] rfl)
def fX8_longestChain (S : sh_St) : Option (Int32 × sh_St) :=
    fX8_longestChain_4 sh_FU S 0 0
set_option maxRecDepth 100000 in
set_option maxHeartbeats 4000000 in
theorem kX8_longestChain (l : Launch) : sh_Mi l yX8_longestChain cX8_longestChain 3 .int 3 tbX (fun G => [.ref (G.2.1 128)]) (fun S => fX8_longestChain S) := by
  refine sh_mki (by decide) (fun G => Nat.le_of_ble_eq_true rfl) ?_
  intro p e s m args below meth c G A S res ls hf C hr hw hl
  have C : sh_Cx p s m args meth c cX8_longestChain 3 RX8 G A := C
  have hl : lv_has ls 3 [(0, .ref (G.2.1 128))] := hl
  replace hf : fX8_longestChain S = some res := hf
  rw [fX8_longestChain] at hf
  refine lv_iconst (v := 0) C.1 C.2.1 dX8_longestChain_0 (by decide) ?_
  refine lv_istore_n (lv' := [(1, .int 0), (0, .ref (G.2.1 128))]) C.1 C.2.1 dX8_longestChain_1 rfl hl (by decide) rfl (fun ls hl => ?_)
  refine lv_iconst (v := 0) C.1 C.2.1 dX8_longestChain_2 (by decide) ?_
  refine lv_istore_n (lv' := [(2, .int 0), (1, .int 0), (0, .ref (G.2.1 128))]) C.1 C.2.1 dX8_longestChain_3 rfl hl (by decide) rfl (fun ls hl => ?_)
  exact wX8_longestChain_4 C hr _ S 0 0 hf _ _ _ hw (lv_sub hl [2, 1, 0] rfl)
def fX8_entriesBehind_75 (rk4 : sh_St → Int32 → Int32 → Option (Int32 × sh_St)) (S : sh_St) (v1 : Int32) (v2 : Int32) : Option (Int32 × sh_St) :=
    sh_t (v2 + 1) fun y1 =>
    rk4 S v1 y1
set_option maxRecDepth 100000 in
set_option maxHeartbeats 4000000 in
theorem wX8_entriesBehind_75 {p : Program} {l : Launch} {e : Env} {s : State} {m : MethodId} {args : Array Value} {below : List Frame} {meth : Method} {c : Code} {G : sh_Ev} {A : Nat → Prop} {res : Int32 × sh_St} (C : sh_Cx p s m args meth c cX8_entriesBehind 3 RX8 G A) (hr : meth.sig.returnType = some .int) (rk4 : sh_St → Int32 → Int32 → Option (Int32 × sh_St)) (hr4 : ∀ (S : sh_St) (v1 : Int32) (v2 : Int32), rk4 S v1 v2 = some res → ∀ (H : Heap) (locs : List Loc) (ls : Array Slot), sh_Wx G tbX A s H locs S → lv_has ls 3 [(0, .ref (G.2.1 128)), (1, .int v1), (2, .int v2)] → W p l e (sh_rm 3) s m args below meth c H locs 0 0 (sh_Qi below args s G tbX A res) (F0 m 4 ls [])) : ∀ (S : sh_St) (v1 : Int32) (v2 : Int32), fX8_entriesBehind_75 rk4 S v1 v2 = some res → ∀ (H : Heap) (locs : List Loc) (ls : Array Slot), sh_Wx G tbX A s H locs S → lv_has ls 3 [(0, .ref (G.2.1 128)), (1, .int v1), (2, .int v2)] → W p l e (sh_rm 3) s m args below meth c H locs 0 0 (sh_Qi below args s G tbX A res) (F0 m 75 ls []) := by
  intro S v1 v2 hf H locs ls hw hl
  rw [fX8_entriesBehind_75] at hf
  obtain ⟨y1, ey1, hf⟩ := sh_nm hf
  refine lv_iinc (v := y1) (lv' := [(2, .int y1), (0, .ref (G.2.1 128)), (1, .int v1)]) C.1 C.2.1 dX8_entriesBehind_75 hl (k := 2) rfl (by rw [← ey1]; rfl) (by decide) rfl (fun ls hl => ?_)
  refine lv_goto (tgt := 4) C.1 C.2.1 dX8_entriesBehind_78 (by decide) ?_
  exact hr4 S v1 y1 hf _ _ _ hw (lv_sub hl [1, 2, 0] rfl)
def fX8_entriesBehind_4 : Nat → sh_St → Int32 → Int32 → Option (Int32 × sh_St)
  | 0, _, _, _ => none
  | n + 1, S, v1, v2 =>
    if 240 ≤ v2 then (some (v1, S))
    else (sh_g v2 240 (if (S.2 8 v2.toNatClampNeg) = 0 then (fX8_entriesBehind_75 (fX8_entriesBehind_4 n) S v1 v2)
    else (sh_g v2 240 (sh_c (fX11_trace S (S.1 10 v2.toNatClampNeg)) fun _ S2 =>
    sh_c (fX11_firstLeaf S2 ) fun r5 S4 =>
    if r5 = (v2 / 6) then (fX8_entriesBehind_75 (fX8_entriesBehind_4 n) S4 v1 v2)
    else (sh_t (v1 + 1) fun y6 =>
    fX8_entriesBehind_75 (fX8_entriesBehind_4 n) S4 y6 v2)))))
set_option maxRecDepth 100000 in
set_option maxHeartbeats 4000000 in
theorem wX8_entriesBehind_4 {p : Program} {l : Launch} {e : Env} {s : State} {m : MethodId} {args : Array Value} {below : List Frame} {meth : Method} {c : Code} {G : sh_Ev} {A : Nat → Prop} {res : Int32 × sh_St} (C : sh_Cx p s m args meth c cX8_entriesBehind 3 RX8 G A) (hr : meth.sig.returnType = some .int) : ∀ (n : Nat) (S : sh_St) (v1 : Int32) (v2 : Int32), fX8_entriesBehind_4 n S v1 v2 = some res → ∀ (H : Heap) (locs : List Loc) (ls : Array Slot), sh_Wx G tbX A s H locs S → lv_has ls 3 [(0, .ref (G.2.1 128)), (1, .int v1), (2, .int v2)] → W p l e (sh_rm 3) s m args below meth c H locs 0 0 (sh_Qi below args s G tbX A res) (F0 m 4 ls []) := by
  intro n
  induction n with
  | zero => intro S v1 v2 hf; exact nomatch (show (none : Option (Int32 × sh_St)) = some res from hf)
  | succ n ih =>
    intro S v1 v2 hf H locs ls hw hl
    have hr4 := ih
    rw [fX8_entriesBehind_4] at hf
    refine lv_iload_n C.1 C.2.1 dX8_entriesBehind_4 rfl (lv_at hl 2 rfl) ?_
    refine lv_sipush (v := 240) C.1 C.2.1 dX8_entriesBehind_5 (by decide) ?_
    refine sh_icmp_ge (tgt := 81) C hf dX8_entriesBehind_8 (by decide) (fun hf => ?_) (fun hf => ?_)
    · refine lv_iload_n C.1 C.2.1 dX8_entriesBehind_81 rfl (lv_at hl 1 rfl) ?_
      exact sh_ri C hw hr hf dX8_entriesBehind_82
    · refine lv_aload_n C.1 C.2.1 dX8_entriesBehind_11 rfl (lv_at hl 0 rfl) ?_
      refine sh_getr C hw fl_X8_22 tbX_128 rfl dX8_entriesBehind_12 ?_
      refine sh_getr C hw fl_X8_111 tbX_4 rfl dX8_entriesBehind_15 ?_
      refine lv_iload_n C.1 C.2.1 dX8_entriesBehind_18 rfl (lv_at hl 2 rfl) ?_
      refine sh_lald C hw hf tbX_8 dX8_entriesBehind_19 (fun hf => ?_)
      refine lv_lconst (v := 0) C.1 C.2.1 dX8_entriesBehind_20 (by decide) ?_
      refine sh_lcmp_eq (tgt := 75) C hf dX8_entriesBehind_21 dX8_entriesBehind_22 (by decide) (fun hf => ?_) (fun hf => ?_)
      · exact wX8_entriesBehind_75 C hr (fX8_entriesBehind_4 n) hr4 S v1 v2 hf _ _ _ hw (lv_sub hl [0, 1, 2] rfl)
      · refine lv_aload_n C.1 C.2.1 dX8_entriesBehind_25 rfl (lv_at hl 0 rfl) ?_
        refine sh_getr C hw fl_X8_26 tbX_128 rfl dX8_entriesBehind_26 ?_
        refine sh_getr C hw fl_X8_130 tbX_116 rfl dX8_entriesBehind_29 ?_
        refine lv_aload_n C.1 C.2.1 dX8_entriesBehind_32 rfl (lv_at hl 0 rfl) ?_
        refine sh_getr C hw fl_X8_22 tbX_128 rfl dX8_entriesBehind_33 ?_
        refine lv_aload_n C.1 C.2.1 dX8_entriesBehind_36 rfl (lv_at hl 0 rfl) ?_
        refine sh_getr C hw fl_X8_26 tbX_128 rfl dX8_entriesBehind_37 ?_
        refine sh_getr C hw fl_X8_54 tbX_116 rfl dX8_entriesBehind_40 ?_
        refine lv_aload_n C.1 C.2.1 dX8_entriesBehind_43 rfl (lv_at hl 0 rfl) ?_
        refine sh_getr C hw fl_X8_22 tbX_128 rfl dX8_entriesBehind_44 ?_
        refine sh_getr C hw fl_X8_155 tbX_4 rfl dX8_entriesBehind_47 ?_
        refine lv_iload_n C.1 C.2.1 dX8_entriesBehind_50 rfl (lv_at hl 2 rfl) ?_
        refine sh_iald C hw hf tbX_10 dX8_entriesBehind_51 (fun hf => ?_)
        refine sh_Vv (As := [.ref (G.2.1 4), .ref (G.2.1 117), .int (S.1 10 v2.toNatClampNeg)]) (rest := []) C hw (kX11_trace l (S.1 10 v2.toNatClampNeg)) yy_X11_trace yv_X11_trace ml_X8_158 hf tbX_121 rfl rfl rfl rfl (Nat.le_of_ble_eq_true rfl) (by decide) hl.1 dX8_entriesBehind_52 (fun S2 H locs hw hf => ?_)
        refine lv_aload_n C.1 C.2.1 dX8_entriesBehind_55 rfl (lv_at hl 0 rfl) ?_
        refine sh_getr C hw fl_X8_26 tbX_128 rfl dX8_entriesBehind_56 ?_
        refine sh_getr C hw fl_X8_130 tbX_116 rfl dX8_entriesBehind_59 ?_
        refine sh_Vi (As := []) (rest := []) C hw (kX11_firstLeaf l ) yy_X11_firstLeaf yv_X11_firstLeaf ml_X8_165 hf tbX_121 rfl rfl rfl rfl (Nat.le_of_ble_eq_true rfl) (by decide) hl.1 dX8_entriesBehind_62 (fun r5 S4 H locs hw hf => ?_)
        refine lv_iload_n C.1 C.2.1 dX8_entriesBehind_65 rfl (lv_at hl 2 rfl) ?_
        refine lv_bipush (v := 6) C.1 C.2.1 dX8_entriesBehind_66 (by decide) ?_
        refine lv_idiv C.1 C.2.1 dX8_entriesBehind_68 (by decide) ?_
        refine sh_icmp_eq (tgt := 75) C hf dX8_entriesBehind_69 (by decide) (fun hf => ?_) (fun hf => ?_)
        · exact wX8_entriesBehind_75 C hr (fX8_entriesBehind_4 n) hr4 S4 v1 v2 hf _ _ _ hw (lv_sub hl [0, 1, 2] rfl)
        · obtain ⟨y6, ey6, hf⟩ := sh_nm hf
          refine lv_iinc (v := y6) (lv' := [(1, .int y6), (0, .ref (G.2.1 128)), (2, .int v2)]) C.1 C.2.1 dX8_entriesBehind_72 hl (k := 1) rfl (by rw [← ey6]; rfl) (by decide) rfl (fun ls hl => ?_)
          exact wX8_entriesBehind_75 C hr (fX8_entriesBehind_4 n) hr4 S4 y6 v2 hf _ _ _ hw (lv_sub hl [1, 0, 2] rfl)
def fX8_entriesBehind (S : sh_St) : Option (Int32 × sh_St) :=
    fX8_entriesBehind_4 sh_FU S 0 0
set_option maxRecDepth 100000 in
set_option maxHeartbeats 4000000 in
theorem kX8_entriesBehind (l : Launch) : sh_Mi l yX8_entriesBehind cX8_entriesBehind 3 .int 3 tbX (fun G => [.ref (G.2.1 128)]) (fun S => fX8_entriesBehind S) := by
  refine sh_mki (by decide) (fun G => Nat.le_of_ble_eq_true rfl) ?_
  intro p e s m args below meth c G A S res ls hf C hr hw hl
  have C : sh_Cx p s m args meth c cX8_entriesBehind 3 RX8 G A := C
  have hl : lv_has ls 3 [(0, .ref (G.2.1 128))] := hl
  replace hf : fX8_entriesBehind S = some res := hf
  rw [fX8_entriesBehind] at hf
  refine lv_iconst (v := 0) C.1 C.2.1 dX8_entriesBehind_0 (by decide) ?_
  refine lv_istore_n (lv' := [(1, .int 0), (0, .ref (G.2.1 128))]) C.1 C.2.1 dX8_entriesBehind_1 rfl hl (by decide) rfl (fun ls hl => ?_)
  refine lv_iconst (v := 0) C.1 C.2.1 dX8_entriesBehind_2 (by decide) ?_
  refine lv_istore_n (lv' := [(2, .int 0), (1, .int 0), (0, .ref (G.2.1 128))]) C.1 C.2.1 dX8_entriesBehind_3 rfl hl (by decide) rfl (fun ls hl => ?_)
  exact wX8_entriesBehind_4 C hr _ S 0 0 hf _ _ _ hw (lv_sub hl [2, 1, 0] rfl)
def fX10_readName_25 (S : sh_St) (v1 : Int32) : Option (Int64 × sh_St) :=
    sh_c (fX10_markWrong S v1) fun _ S6 =>
    some (0, S6)
set_option maxRecDepth 100000 in
set_option maxHeartbeats 4000000 in
theorem wX10_readName_25 {p : Program} {l : Launch} {e : Env} {s : State} {m : MethodId} {args : Array Value} {below : List Frame} {meth : Method} {c : Code} {G : sh_Ev} {A : Nat → Prop} {res : Int64 × sh_St} (C : sh_Cx p s m args meth c cX10_readName 6 RX10 G A) (hr : meth.sig.returnType = some .long) : ∀ (S : sh_St) (v1 : Int32), fX10_readName_25 S v1 = some res → ∀ (H : Heap) (locs : List Loc) (ls : Array Slot), sh_Wx G tbX A s H locs S → lv_has ls 6 [(0, .ref (G.2.1 3)), (1, .int v1)] → W p l e (sh_rm 3) s m args below meth c H locs 0 0 (sh_Ql below args s G tbX A res) (F0 m 25 ls []) := by
  intro S v1 hf H locs ls hw hl
  rw [fX10_readName_25] at hf
  refine lv_aload_n C.1 C.2.1 dX10_readName_25 rfl (lv_at hl 0 rfl) ?_
  refine lv_iload_n C.1 C.2.1 dX10_readName_26 rfl (lv_at hl 1 rfl) ?_
  refine sh_Vv (As := [.int v1]) (rest := []) C hw (kX10_markWrong l v1) yy_X10_markWrong yv_X10_markWrong ml_X10_58 hf tbX_3 rfl rfl rfl rfl (Nat.le_of_ble_eq_true rfl) (by decide) hl.1 dX10_readName_27 (fun S6 H locs hw hf => ?_)
  refine lv_lconst (v := 0) C.1 C.2.1 dX10_readName_30 (by decide) ?_
  exact sh_rl C hw hr hf dX10_readName_31
def fX10_readName_66 (rk37 : sh_St → Int32 → Int32 → Int64 → Int32 → Option (Int64 × sh_St)) (S : sh_St) (v1 : Int32) (v2 : Int32) (v5 : Int32) (t0 : Int32) (t1 : Int64) : Option (Int64 × sh_St) :=
    sh_t (t1 ||| (Int32.toInt64 t0)) fun y8 =>
    sh_t (v5 + 1) fun y9 =>
    rk37 S v1 v2 y8 y9
set_option maxRecDepth 100000 in
set_option maxHeartbeats 4000000 in
theorem wX10_readName_66 {p : Program} {l : Launch} {e : Env} {s : State} {m : MethodId} {args : Array Value} {below : List Frame} {meth : Method} {c : Code} {G : sh_Ev} {A : Nat → Prop} {res : Int64 × sh_St} (C : sh_Cx p s m args meth c cX10_readName 6 RX10 G A) (hr : meth.sig.returnType = some .long) (rk37 : sh_St → Int32 → Int32 → Int64 → Int32 → Option (Int64 × sh_St)) (hr37 : ∀ (S : sh_St) (v1 : Int32) (v2 : Int32) (v3 : Int64) (v5 : Int32), rk37 S v1 v2 v3 v5 = some res → ∀ (H : Heap) (locs : List Loc) (ls : Array Slot), sh_Wx G tbX A s H locs S → lv_has ls 6 [(0, .ref (G.2.1 3)), (1, .int v1), (2, .int v2), (3, .long v3), (5, .int v5)] → W p l e (sh_rm 3) s m args below meth c H locs 0 0 (sh_Ql below args s G tbX A res) (F0 m 37 ls [])) : ∀ (S : sh_St) (v1 : Int32) (v2 : Int32) (v5 : Int32) (t0 : Int32) (t1 : Int64), fX10_readName_66 rk37 S v1 v2 v5 t0 t1 = some res → ∀ (H : Heap) (locs : List Loc) (ls : Array Slot), sh_Wx G tbX A s H locs S → lv_has ls 6 [(0, .ref (G.2.1 3)), (1, .int v1), (2, .int v2), (5, .int v5)] → W p l e (sh_rm 3) s m args below meth c H locs 0 0 (sh_Ql below args s G tbX A res) (F0 m 66 ls [.int t0, .long t1]) := by
  intro S v1 v2 v5 t0 t1 hf H locs ls hw hl
  rw [fX10_readName_66] at hf
  refine lv_i2l C.1 C.2.1 dX10_readName_66 rfl ?_
  refine lv_lor C.1 C.2.1 dX10_readName_67 ?_
  refine sh_nl hf (fun y8 hf => ?_)
  refine lv_lstore_n (lv' := [(3, .long y8), (0, .ref (G.2.1 3)), (1, .int v1), (2, .int v2), (5, .int v5)]) C.1 C.2.1 dX10_readName_68 rfl hl (by decide) rfl (fun ls hl => ?_)
  obtain ⟨y9, ey9, hf⟩ := sh_nm hf
  refine lv_iinc (v := y9) (lv' := [(5, .int y9), (3, .long y8), (0, .ref (G.2.1 3)), (1, .int v1), (2, .int v2)]) C.1 C.2.1 dX10_readName_69 hl (k := 4) rfl (by rw [← ey9]; rfl) (by decide) rfl (fun ls hl => ?_)
  refine lv_goto (tgt := 37) C.1 C.2.1 dX10_readName_72 (by decide) ?_
  exact hr37 S v1 v2 y8 y9 hf _ _ _ hw (lv_sub hl [2, 3, 4, 1, 0] rfl)
def fX10_readName_37 : Nat → sh_St → Int32 → Int32 → Int64 → Int32 → Option (Int64 × sh_St)
  | 0, _, _, _, _, _ => none
  | n + 1, S, v1, v2, v3, v5 =>
    if 8 ≤ v5 then (some (v3, S))
    else (if v2 ≤ v5 then (fX10_readName_66 (fX10_readName_37 n) S v1 v2 v5 0 (v3 <<< ((Int32.toInt64 8) &&& 63)))
    else (sh_c (fX10_byteAt S (v1 + v5)) fun r11 S10 =>
    fX10_readName_66 (fX10_readName_37 n) S10 v1 v2 v5 r11 (v3 <<< ((Int32.toInt64 8) &&& 63))))
set_option maxRecDepth 100000 in
set_option maxHeartbeats 4000000 in
theorem wX10_readName_37 {p : Program} {l : Launch} {e : Env} {s : State} {m : MethodId} {args : Array Value} {below : List Frame} {meth : Method} {c : Code} {G : sh_Ev} {A : Nat → Prop} {res : Int64 × sh_St} (C : sh_Cx p s m args meth c cX10_readName 6 RX10 G A) (hr : meth.sig.returnType = some .long) : ∀ (n : Nat) (S : sh_St) (v1 : Int32) (v2 : Int32) (v3 : Int64) (v5 : Int32), fX10_readName_37 n S v1 v2 v3 v5 = some res → ∀ (H : Heap) (locs : List Loc) (ls : Array Slot), sh_Wx G tbX A s H locs S → lv_has ls 6 [(0, .ref (G.2.1 3)), (1, .int v1), (2, .int v2), (3, .long v3), (5, .int v5)] → W p l e (sh_rm 3) s m args below meth c H locs 0 0 (sh_Ql below args s G tbX A res) (F0 m 37 ls []) := by
  intro n
  induction n with
  | zero => intro S v1 v2 v3 v5 hf; exact nomatch (show (none : Option (Int64 × sh_St)) = some res from hf)
  | succ n ih =>
    intro S v1 v2 v3 v5 hf H locs ls hw hl
    have hr37 := ih
    rw [fX10_readName_37] at hf
    refine lv_iload C.1 C.2.1 dX10_readName_37 (lv_at hl 4 rfl) ?_
    refine lv_bipush (v := 8) C.1 C.2.1 dX10_readName_39 (by decide) ?_
    refine sh_icmp_ge (tgt := 75) C hf dX10_readName_41 (by decide) (fun hf => ?_) (fun hf => ?_)
    · refine lv_lload_n C.1 C.2.1 dX10_readName_75 rfl (lv_at hl 3 rfl) ?_
      exact sh_rl C hw hr hf dX10_readName_76
    · refine lv_lload_n C.1 C.2.1 dX10_readName_44 rfl (lv_at hl 3 rfl) ?_
      refine lv_bipush (v := 8) C.1 C.2.1 dX10_readName_45 (by decide) ?_
      refine lv_lshl C.1 C.2.1 dX10_readName_47 rfl ?_
      refine lv_iload C.1 C.2.1 dX10_readName_48 (lv_at hl 4 rfl) ?_
      refine lv_iload_n C.1 C.2.1 dX10_readName_50 rfl (lv_at hl 2 rfl) ?_
      refine sh_icmp_ge (tgt := 65) C hf dX10_readName_51 (by decide) (fun hf => ?_) (fun hf => ?_)
      · refine lv_iconst (v := 0) C.1 C.2.1 dX10_readName_65 (by decide) ?_
        exact wX10_readName_66 C hr (fX10_readName_37 n) hr37 S v1 v2 v5 0 (v3 <<< ((Int32.toInt64 8) &&& 63)) hf _ _ _ hw (lv_sub hl [0, 1, 2, 4] rfl)
      · refine lv_aload_n C.1 C.2.1 dX10_readName_54 rfl (lv_at hl 0 rfl) ?_
        refine lv_iload_n C.1 C.2.1 dX10_readName_55 rfl (lv_at hl 1 rfl) ?_
        refine lv_iload C.1 C.2.1 dX10_readName_56 (lv_at hl 4 rfl) ?_
        refine lv_iadd C.1 C.2.1 dX10_readName_58 ?_
        refine sh_Vi (As := [.int (v1 + v5)]) (rest := [.long (v3 <<< ((Int32.toInt64 8) &&& 63))]) C hw (kX10_byteAt l (v1 + v5)) yy_X10_byteAt yv_X10_byteAt ml_X10_47 hf tbX_3 rfl rfl rfl rfl (Nat.le_of_ble_eq_true rfl) (by decide) hl.1 dX10_readName_59 (fun r11 S10 H locs hw hf => ?_)
        refine lv_goto (tgt := 66) C.1 C.2.1 dX10_readName_62 (by decide) ?_
        exact wX10_readName_66 C hr (fX10_readName_37 n) hr37 S10 v1 v2 v5 r11 (v3 <<< ((Int32.toInt64 8) &&& 63)) hf _ _ _ hw (lv_sub hl [0, 1, 2, 4] rfl)
def fX10_readName (S : sh_St) : Option (Int64 × sh_St) :=
    sh_c (fX10_skipBlanks S ) fun _ S1 =>
    sh_t (S1.1 3 2) fun y3 =>
    sh_c (fX10_passLetters S1 ) fun r5 S4 =>
    if r5 < 1 then (fX10_readName_25 S4 y3)
    else (if r5 ≤ 8 then (fX10_readName_37 sh_FU S4 y3 r5 0 0)
    else (fX10_readName_25 S4 y3))
set_option maxRecDepth 100000 in
set_option maxHeartbeats 4000000 in
theorem kX10_readName (l : Launch) : sh_Ml l yX10_readName cX10_readName 6 3 tbX (fun G => [.ref (G.2.1 3)]) (fun S => fX10_readName S) := by
  refine sh_mkl (by decide) (fun G => Nat.le_of_ble_eq_true rfl) ?_
  intro p e s m args below meth c G A S res ls hf C hr hw hl
  have C : sh_Cx p s m args meth c cX10_readName 6 RX10 G A := C
  have hl : lv_has ls 6 [(0, .ref (G.2.1 3))] := hl
  replace hf : fX10_readName S = some res := hf
  rw [fX10_readName] at hf
  refine lv_aload_n C.1 C.2.1 dX10_readName_0 rfl (lv_at hl 0 rfl) ?_
  refine sh_Vv (As := []) (rest := []) C hw (kX10_skipBlanks l ) yy_X10_skipBlanks yv_X10_skipBlanks ml_X10_51 hf tbX_3 rfl rfl rfl rfl (Nat.le_of_ble_eq_true rfl) (by decide) hl.1 dX10_readName_1 (fun S1 H locs hw hf => ?_)
  refine lv_aload_n C.1 C.2.1 dX10_readName_4 rfl (lv_at hl 0 rfl) ?_
  refine sh_geti C hw fl_X10_15 tbX_3 rfl dX10_readName_5 ?_
  refine sh_ni hf (fun y3 hf => ?_)
  refine lv_istore_n (lv' := [(1, .int y3), (0, .ref (G.2.1 3))]) C.1 C.2.1 dX10_readName_8 rfl hl (by decide) rfl (fun ls hl => ?_)
  refine lv_aload_n C.1 C.2.1 dX10_readName_9 rfl (lv_at hl 1 rfl) ?_
  refine sh_Vi (As := []) (rest := []) C hw (kX10_passLetters l ) yy_X10_passLetters yv_X10_passLetters ml_X10_62 hf tbX_3 rfl rfl rfl rfl (Nat.le_of_ble_eq_true rfl) (by decide) hl.1 dX10_readName_10 (fun r5 S4 H locs hw hf => ?_)
  refine lv_istore_n (lv' := [(2, .int r5), (1, .int y3), (0, .ref (G.2.1 3))]) C.1 C.2.1 dX10_readName_13 rfl hl (by decide) rfl (fun ls hl => ?_)
  refine lv_iload_n C.1 C.2.1 dX10_readName_14 rfl (lv_at hl 0 rfl) ?_
  refine lv_iconst (v := 1) C.1 C.2.1 dX10_readName_15 (by decide) ?_
  refine sh_icmp_lt (tgt := 25) C hf dX10_readName_16 (by decide) (fun hf => ?_) (fun hf => ?_)
  · exact wX10_readName_25 C hr S4 y3 hf _ _ _ hw (lv_sub hl [2, 1] rfl)
  · refine lv_iload_n C.1 C.2.1 dX10_readName_19 rfl (lv_at hl 0 rfl) ?_
    refine lv_bipush (v := 8) C.1 C.2.1 dX10_readName_20 (by decide) ?_
    refine sh_icmp_le (tgt := 32) C hf dX10_readName_22 (by decide) (fun hf => ?_) (fun hf => ?_)
    · refine lv_lconst (v := 0) C.1 C.2.1 dX10_readName_32 (by decide) ?_
      refine lv_lstore_n (lv' := [(3, .long 0), (2, .int r5), (1, .int y3), (0, .ref (G.2.1 3))]) C.1 C.2.1 dX10_readName_33 rfl hl (by decide) rfl (fun ls hl => ?_)
      refine lv_iconst (v := 0) C.1 C.2.1 dX10_readName_34 (by decide) ?_
      refine lv_istore (lv' := [(5, .int 0), (3, .long 0), (2, .int r5), (1, .int y3), (0, .ref (G.2.1 3))]) C.1 C.2.1 dX10_readName_35 hl (by decide) rfl (fun ls hl => ?_)
      exact wX10_readName_37 C hr _ S4 y3 r5 0 0 hf _ _ _ hw (lv_sub hl [4, 3, 2, 1, 0] rfl)
    · exact wX10_readName_25 C hr S4 y3 hf _ _ _ hw (lv_sub hl [2, 1] rfl)
def fX10_readNumber_83 (S : sh_St) (v3 : Int32) : Option (Int32 × sh_St) :=
    sh_c (fX10_markWrong S v3) fun _ S6 =>
    some ((-1), S6)
set_option maxRecDepth 100000 in
set_option maxHeartbeats 4000000 in
theorem wX10_readNumber_83 {p : Program} {l : Launch} {e : Env} {s : State} {m : MethodId} {args : Array Value} {below : List Frame} {meth : Method} {c : Code} {G : sh_Ev} {A : Nat → Prop} {res : Int32 × sh_St} (C : sh_Cx p s m args meth c cX10_readNumber 7 RX10 G A) (hr : meth.sig.returnType = some .int) : ∀ (S : sh_St) (v3 : Int32), fX10_readNumber_83 S v3 = some res → ∀ (H : Heap) (locs : List Loc) (ls : Array Slot), sh_Wx G tbX A s H locs S → lv_has ls 7 [(0, .ref (G.2.1 3)), (3, .int v3)] → W p l e (sh_rm 3) s m args below meth c H locs 0 0 (sh_Qi below args s G tbX A res) (F0 m 83 ls []) := by
  intro S v3 hf H locs ls hw hl
  rw [fX10_readNumber_83] at hf
  refine lv_aload_n C.1 C.2.1 dX10_readNumber_83 rfl (lv_at hl 0 rfl) ?_
  refine lv_iload_n C.1 C.2.1 dX10_readNumber_84 rfl (lv_at hl 1 rfl) ?_
  refine sh_Vv (As := [.int v3]) (rest := []) C hw (kX10_markWrong l v3) yy_X10_markWrong yv_X10_markWrong ml_X10_58 hf tbX_3 rfl rfl rfl rfl (Nat.le_of_ble_eq_true rfl) (by decide) hl.1 dX10_readNumber_85 (fun S6 H locs hw hf => ?_)
  refine lv_iconst (v := -1) C.1 C.2.1 dX10_readNumber_88 (by decide) ?_
  exact sh_ri C hw hr hf dX10_readNumber_89
def fX10_readNumber_59 (S : sh_St) (v1 : Int32) (v2 : Int32) (v3 : Int32) (v4 : Int32) (v5 : Int32) : Option (Int32 × sh_St) :=
    if v4 < 1 then (fX10_readNumber_83 S v3)
    else (if 5 < v4 then (fX10_readNumber_83 S v3)
    else (if v5 < v1 then (fX10_readNumber_83 S v3)
    else (if v5 ≤ v2 then (some (v5, S))
    else (fX10_readNumber_83 S v3))))
set_option maxRecDepth 100000 in
set_option maxHeartbeats 4000000 in
theorem wX10_readNumber_59 {p : Program} {l : Launch} {e : Env} {s : State} {m : MethodId} {args : Array Value} {below : List Frame} {meth : Method} {c : Code} {G : sh_Ev} {A : Nat → Prop} {res : Int32 × sh_St} (C : sh_Cx p s m args meth c cX10_readNumber 7 RX10 G A) (hr : meth.sig.returnType = some .int) : ∀ (S : sh_St) (v1 : Int32) (v2 : Int32) (v3 : Int32) (v4 : Int32) (v5 : Int32), fX10_readNumber_59 S v1 v2 v3 v4 v5 = some res → ∀ (H : Heap) (locs : List Loc) (ls : Array Slot), sh_Wx G tbX A s H locs S → lv_has ls 7 [(0, .ref (G.2.1 3)), (1, .int v1), (2, .int v2), (3, .int v3), (4, .int v4), (5, .int v5)] → W p l e (sh_rm 3) s m args below meth c H locs 0 0 (sh_Qi below args s G tbX A res) (F0 m 59 ls []) := by
  intro S v1 v2 v3 v4 v5 hf H locs ls hw hl
  rw [fX10_readNumber_59] at hf
  refine lv_iload C.1 C.2.1 dX10_readNumber_59 (lv_at hl 4 rfl) ?_
  refine lv_iconst (v := 1) C.1 C.2.1 dX10_readNumber_61 (by decide) ?_
  refine sh_icmp_lt (tgt := 83) C hf dX10_readNumber_62 (by decide) (fun hf => ?_) (fun hf => ?_)
  · exact wX10_readNumber_83 C hr S v3 hf _ _ _ hw (lv_sub hl [0, 3] rfl)
  · refine lv_iload C.1 C.2.1 dX10_readNumber_65 (lv_at hl 4 rfl) ?_
    refine lv_iconst (v := 5) C.1 C.2.1 dX10_readNumber_67 (by decide) ?_
    refine sh_icmp_gt (tgt := 83) C hf dX10_readNumber_68 (by decide) (fun hf => ?_) (fun hf => ?_)
    · exact wX10_readNumber_83 C hr S v3 hf _ _ _ hw (lv_sub hl [0, 3] rfl)
    · refine lv_iload C.1 C.2.1 dX10_readNumber_71 (lv_at hl 5 rfl) ?_
      refine lv_iload_n C.1 C.2.1 dX10_readNumber_73 rfl (lv_at hl 1 rfl) ?_
      refine sh_icmp_lt (tgt := 83) C hf dX10_readNumber_74 (by decide) (fun hf => ?_) (fun hf => ?_)
      · exact wX10_readNumber_83 C hr S v3 hf _ _ _ hw (lv_sub hl [0, 3] rfl)
      · refine lv_iload C.1 C.2.1 dX10_readNumber_77 (lv_at hl 5 rfl) ?_
        refine lv_iload_n C.1 C.2.1 dX10_readNumber_79 rfl (lv_at hl 2 rfl) ?_
        refine sh_icmp_le (tgt := 90) C hf dX10_readNumber_80 (by decide) (fun hf => ?_) (fun hf => ?_)
        · refine lv_iload C.1 C.2.1 dX10_readNumber_90 (lv_at hl 5 rfl) ?_
          exact sh_ri C hw hr hf dX10_readNumber_92
        · exact wX10_readNumber_83 C hr S v3 hf _ _ _ hw (lv_sub hl [0, 3] rfl)
def fX10_readNumber_21 : Nat → sh_St → Int32 → Int32 → Int32 → Int32 → Int32 → Int32 → Option (Int32 × sh_St)
  | 0, _, _, _, _, _, _, _ => none
  | n + 1, S, v1, v2, v3, v4, v5, v6 =>
    if v4 ≤ v6 then (fX10_readNumber_59 S v1 v2 v3 v4 v5)
    else (if 5 ≤ v6 then (fX10_readNumber_59 S v1 v2 v3 v4 v5)
    else (sh_c (fX10_byteAt S (v3 + v6)) fun r9 S8 =>
    sh_t (((v5 * 10) + r9) - 48) fun y10 =>
    sh_t (v6 + 1) fun y11 =>
    (fX10_readNumber_21 n) S8 v1 v2 v3 v4 y10 y11))
set_option maxRecDepth 100000 in
set_option maxHeartbeats 4000000 in
theorem wX10_readNumber_21 {p : Program} {l : Launch} {e : Env} {s : State} {m : MethodId} {args : Array Value} {below : List Frame} {meth : Method} {c : Code} {G : sh_Ev} {A : Nat → Prop} {res : Int32 × sh_St} (C : sh_Cx p s m args meth c cX10_readNumber 7 RX10 G A) (hr : meth.sig.returnType = some .int) : ∀ (n : Nat) (S : sh_St) (v1 : Int32) (v2 : Int32) (v3 : Int32) (v4 : Int32) (v5 : Int32) (v6 : Int32), fX10_readNumber_21 n S v1 v2 v3 v4 v5 v6 = some res → ∀ (H : Heap) (locs : List Loc) (ls : Array Slot), sh_Wx G tbX A s H locs S → lv_has ls 7 [(0, .ref (G.2.1 3)), (1, .int v1), (2, .int v2), (3, .int v3), (4, .int v4), (5, .int v5), (6, .int v6)] → W p l e (sh_rm 3) s m args below meth c H locs 0 0 (sh_Qi below args s G tbX A res) (F0 m 21 ls []) := by
  intro n
  induction n with
  | zero => intro S v1 v2 v3 v4 v5 v6 hf; exact nomatch (show (none : Option (Int32 × sh_St)) = some res from hf)
  | succ n ih =>
    intro S v1 v2 v3 v4 v5 v6 hf H locs ls hw hl
    have hr21 := ih
    rw [fX10_readNumber_21] at hf
    refine lv_iload C.1 C.2.1 dX10_readNumber_21 (lv_at hl 6 rfl) ?_
    refine lv_iload C.1 C.2.1 dX10_readNumber_23 (lv_at hl 4 rfl) ?_
    refine sh_icmp_ge (tgt := 59) C hf dX10_readNumber_25 (by decide) (fun hf => ?_) (fun hf => ?_)
    · exact wX10_readNumber_59 C hr S v1 v2 v3 v4 v5 hf _ _ _ hw (lv_sub hl [0, 1, 2, 3, 4, 5] rfl)
    · refine lv_iload C.1 C.2.1 dX10_readNumber_28 (lv_at hl 6 rfl) ?_
      refine lv_iconst (v := 5) C.1 C.2.1 dX10_readNumber_30 (by decide) ?_
      refine sh_icmp_ge (tgt := 59) C hf dX10_readNumber_31 (by decide) (fun hf => ?_) (fun hf => ?_)
      · exact wX10_readNumber_59 C hr S v1 v2 v3 v4 v5 hf _ _ _ hw (lv_sub hl [0, 1, 2, 3, 4, 5] rfl)
      · refine lv_iload C.1 C.2.1 dX10_readNumber_34 (lv_at hl 5 rfl) ?_
        refine lv_bipush (v := 10) C.1 C.2.1 dX10_readNumber_36 (by decide) ?_
        refine lv_imul C.1 C.2.1 dX10_readNumber_38 ?_
        refine lv_aload_n C.1 C.2.1 dX10_readNumber_39 rfl (lv_at hl 0 rfl) ?_
        refine lv_iload_n C.1 C.2.1 dX10_readNumber_40 rfl (lv_at hl 3 rfl) ?_
        refine lv_iload C.1 C.2.1 dX10_readNumber_41 (lv_at hl 6 rfl) ?_
        refine lv_iadd C.1 C.2.1 dX10_readNumber_43 ?_
        refine sh_Vi (As := [.int (v3 + v6)]) (rest := [.int (v5 * 10)]) C hw (kX10_byteAt l (v3 + v6)) yy_X10_byteAt yv_X10_byteAt ml_X10_47 hf tbX_3 rfl rfl rfl rfl (Nat.le_of_ble_eq_true rfl) (by decide) hl.1 dX10_readNumber_44 (fun r9 S8 H locs hw hf => ?_)
        refine lv_iadd C.1 C.2.1 dX10_readNumber_47 ?_
        refine lv_bipush (v := 48) C.1 C.2.1 dX10_readNumber_48 (by decide) ?_
        refine lv_isub C.1 C.2.1 dX10_readNumber_50 ?_
        refine sh_ni hf (fun y10 hf => ?_)
        refine lv_istore (lv' := [(5, .int y10), (0, .ref (G.2.1 3)), (1, .int v1), (2, .int v2), (3, .int v3), (4, .int v4), (6, .int v6)]) C.1 C.2.1 dX10_readNumber_51 hl (by decide) rfl (fun ls hl => ?_)
        obtain ⟨y11, ey11, hf⟩ := sh_nm hf
        refine lv_iinc (v := y11) (lv' := [(6, .int y11), (5, .int y10), (0, .ref (G.2.1 3)), (1, .int v1), (2, .int v2), (3, .int v3), (4, .int v4)]) C.1 C.2.1 dX10_readNumber_53 hl (k := 6) rfl (by rw [← ey11]; rfl) (by decide) rfl (fun ls hl => ?_)
        refine lv_goto (tgt := 21) C.1 C.2.1 dX10_readNumber_56 (by decide) ?_
        exact hr21 S8 v1 v2 v3 v4 y10 y11 hf _ _ _ hw (lv_sub hl [2, 3, 4, 5, 6, 1, 0] rfl)
def fX10_readNumber (S : sh_St) (v1 : Int32) (v2 : Int32) : Option (Int32 × sh_St) :=
    sh_c (fX10_skipBlanks S ) fun _ S1 =>
    sh_t (S1.1 3 2) fun y3 =>
    sh_c (fX10_passDigits S1 ) fun r5 S4 =>
    fX10_readNumber_21 sh_FU S4 v1 v2 y3 r5 0 0
set_option maxRecDepth 100000 in
set_option maxHeartbeats 4000000 in
theorem kX10_readNumber (l : Launch) (v1 : Int32) (v2 : Int32) : sh_Mi l yX10_readNumber cX10_readNumber 7 .int 3 tbX (fun G => [.ref (G.2.1 3), .int v1, .int v2]) (fun S => fX10_readNumber S v1 v2) := by
  refine sh_mki (by decide) (fun G => Nat.le_of_ble_eq_true rfl) ?_
  intro p e s m args below meth c G A S res ls hf C hr hw hl
  have C : sh_Cx p s m args meth c cX10_readNumber 7 RX10 G A := C
  have hl : lv_has ls 7 [(0, .ref (G.2.1 3)), (1, .int v1), (2, .int v2)] := hl
  replace hf : fX10_readNumber S v1 v2 = some res := hf
  rw [fX10_readNumber] at hf
  refine lv_aload_n C.1 C.2.1 dX10_readNumber_0 rfl (lv_at hl 0 rfl) ?_
  refine sh_Vv (As := []) (rest := []) C hw (kX10_skipBlanks l ) yy_X10_skipBlanks yv_X10_skipBlanks ml_X10_51 hf tbX_3 rfl rfl rfl rfl (Nat.le_of_ble_eq_true rfl) (by decide) hl.1 dX10_readNumber_1 (fun S1 H locs hw hf => ?_)
  refine lv_aload_n C.1 C.2.1 dX10_readNumber_4 rfl (lv_at hl 0 rfl) ?_
  refine sh_geti C hw fl_X10_15 tbX_3 rfl dX10_readNumber_5 ?_
  refine sh_ni hf (fun y3 hf => ?_)
  refine lv_istore_n (lv' := [(3, .int y3), (0, .ref (G.2.1 3)), (1, .int v1), (2, .int v2)]) C.1 C.2.1 dX10_readNumber_8 rfl hl (by decide) rfl (fun ls hl => ?_)
  refine lv_aload_n C.1 C.2.1 dX10_readNumber_9 rfl (lv_at hl 1 rfl) ?_
  refine sh_Vi (As := []) (rest := []) C hw (kX10_passDigits l ) yy_X10_passDigits yv_X10_passDigits ml_X10_66 hf tbX_3 rfl rfl rfl rfl (Nat.le_of_ble_eq_true rfl) (by decide) hl.1 dX10_readNumber_10 (fun r5 S4 H locs hw hf => ?_)
  refine lv_istore (lv' := [(4, .int r5), (3, .int y3), (0, .ref (G.2.1 3)), (1, .int v1), (2, .int v2)]) C.1 C.2.1 dX10_readNumber_13 hl (by decide) rfl (fun ls hl => ?_)
  refine lv_iconst (v := 0) C.1 C.2.1 dX10_readNumber_15 (by decide) ?_
  refine lv_istore (lv' := [(5, .int 0), (4, .int r5), (3, .int y3), (0, .ref (G.2.1 3)), (1, .int v1), (2, .int v2)]) C.1 C.2.1 dX10_readNumber_16 hl (by decide) rfl (fun ls hl => ?_)
  refine lv_iconst (v := 0) C.1 C.2.1 dX10_readNumber_18 (by decide) ?_
  refine lv_istore (lv' := [(6, .int 0), (5, .int 0), (4, .int r5), (3, .int y3), (0, .ref (G.2.1 3)), (1, .int v1), (2, .int v2)]) C.1 C.2.1 dX10_readNumber_19 hl (by decide) rfl (fun ls hl => ?_)
  exact wX10_readNumber_21 C hr _ S4 v1 v2 y3 r5 0 0 hf _ _ _ hw (lv_sub hl [4, 5, 6, 3, 2, 1, 0] rfl)
def fX4_look_47 : Nat → sh_St → Int64 → Int32 → Option (Int32 × sh_St)
  | 0, _, _, _ => none
  | n + 1, S, v1, v3 =>
    if (S.1 121 3) ≤ v3 then (some ((-1), S))
    else (sh_t (sh_I S 116 4 ((S.1 116 4) + 1)) fun S9 =>
    sh_g v3 42 (sh_c (fX4_lookInto S9 (S9.1 122 v3.toNatClampNeg) v1) fun r11 S10 =>
    if r11 = (-1) then (sh_t (v3 + 1) fun y12 =>
    (fX4_look_47 n) S10 v1 y12)
    else (some (r11, S10))))
set_option maxRecDepth 100000 in
set_option maxHeartbeats 4000000 in
theorem wX4_look_47 {p : Program} {l : Launch} {e : Env} {s : State} {m : MethodId} {args : Array Value} {below : List Frame} {meth : Method} {c : Code} {G : sh_Ev} {A : Nat → Prop} {res : Int32 × sh_St} (C : sh_Cx p s m args meth c cX4_look 5 RX4 G A) (hr : meth.sig.returnType = some .int) : ∀ (n : Nat) (S : sh_St) (v1 : Int64) (v3 : Int32), fX4_look_47 n S v1 v3 = some res → ∀ (H : Heap) (locs : List Loc) (ls : Array Slot), sh_Wx G tbX A s H locs S → lv_has ls 5 [(0, .ref (G.2.1 116)), (1, .long v1), (3, .int v3)] → W p l e (sh_rm 4) s m args below meth c H locs 0 0 (sh_Qi below args s G tbX A res) (F0 m 47 ls []) := by
  intro n
  induction n with
  | zero => intro S v1 v3 hf; exact nomatch (show (none : Option (Int32 × sh_St)) = some res from hf)
  | succ n ih =>
    intro S v1 v3 hf H locs ls hw hl
    have hr47 := ih
    rw [fX4_look_47] at hf
    refine lv_iload_n C.1 C.2.1 dX4_look_47 rfl (lv_at hl 2 rfl) ?_
    refine lv_aload_n C.1 C.2.1 dX4_look_48 rfl (lv_at hl 0 rfl) ?_
    refine sh_getr C hw fl_X4_21 tbX_116 rfl dX4_look_49 ?_
    refine sh_geti C hw fl_X4_67 tbX_121 rfl dX4_look_52 ?_
    refine sh_icmp_ge (tgt := 99) C hf dX4_look_55 (by decide) (fun hf => ?_) (fun hf => ?_)
    · refine lv_iconst (v := -1) C.1 C.2.1 dX4_look_99 (by decide) ?_
      exact sh_ri C hw hr hf dX4_look_100
    · refine lv_aload_n C.1 C.2.1 dX4_look_58 rfl (lv_at hl 0 rfl) ?_
      refine lv_dup C.1 C.2.1 dX4_look_59 rfl ?_
      refine sh_geti C hw fl_X4_32 tbX_116 rfl dX4_look_60 ?_
      refine lv_iconst (v := 1) C.1 C.2.1 dX4_look_63 (by decide) ?_
      refine lv_iadd C.1 C.2.1 dX4_look_64 ?_
      refine sh_puti C hw fl_X4_32 fp_2_4 hf tbX_116 rfl dX4_look_65 (fun S9 H locs hw hf => ?_)
      refine lv_aload_n C.1 C.2.1 dX4_look_68 rfl (lv_at hl 0 rfl) ?_
      refine lv_aload_n C.1 C.2.1 dX4_look_69 rfl (lv_at hl 0 rfl) ?_
      refine sh_getr C hw fl_X4_21 tbX_116 rfl dX4_look_70 ?_
      refine sh_getr C hw fl_X4_70 tbX_121 rfl dX4_look_73 ?_
      refine lv_iload_n C.1 C.2.1 dX4_look_76 rfl (lv_at hl 2 rfl) ?_
      refine sh_iald C hw hf tbX_122 dX4_look_77 (fun hf => ?_)
      refine lv_lload_n C.1 C.2.1 dX4_look_78 rfl (lv_at hl 1 rfl) ?_
      refine sh_Vi (As := [.int (S9.1 122 v3.toNatClampNeg), .long v1]) (rest := []) C hw (kX4_lookInto l (S9.1 122 v3.toNatClampNeg) v1) yy_X4_lookInto yv_X4_lookInto ml_X4_74 hf tbX_116 rfl rfl rfl rfl (Nat.le_of_ble_eq_true rfl) (by decide) hl.1 dX4_look_79 (fun r11 S10 H locs hw hf => ?_)
      refine lv_istore (lv' := [(4, .int r11), (0, .ref (G.2.1 116)), (1, .long v1), (3, .int v3)]) C.1 C.2.1 dX4_look_82 hl (by decide) rfl (fun ls hl => ?_)
      refine lv_iload C.1 C.2.1 dX4_look_84 (lv_at hl 0 rfl) ?_
      refine lv_iconst (v := -1) C.1 C.2.1 dX4_look_86 (by decide) ?_
      refine sh_icmp_eq (tgt := 93) C hf dX4_look_87 (by decide) (fun hf => ?_) (fun hf => ?_)
      · obtain ⟨y12, ey12, hf⟩ := sh_nm hf
        refine lv_iinc (v := y12) (lv' := [(3, .int y12), (4, .int r11), (0, .ref (G.2.1 116)), (1, .long v1)]) C.1 C.2.1 dX4_look_93 hl (k := 3) rfl (by rw [← ey12]; rfl) (by decide) rfl (fun ls hl => ?_)
        refine lv_goto (tgt := 47) C.1 C.2.1 dX4_look_96 (by decide) ?_
        exact hr47 S10 v1 y12 hf _ _ _ hw (lv_sub hl [2, 3, 0] rfl)
      · refine lv_iload C.1 C.2.1 dX4_look_90 (lv_at hl 0 rfl) ?_
        exact sh_ri C hw hr hf dX4_look_92
def fX4_look (S : sh_St) (v1 : Int64) : Option (Int32 × sh_St) :=
    sh_c (fX7_tornIndexes S ) fun r2 S1 =>
    if r2 ≤ 0 then (sh_c (fX7_hashOf S1 v1) fun r4 S3 =>
    sh_c (fX4_trace S3 r4) fun _ S5 =>
    sh_t (sh_I S5 116 4 (S5.1 121 2)) fun S7 =>
    sh_t (S7.1 121 2) fun y8 =>
    fX4_look_47 sh_FU S7 v1 y8)
    else (sh_c (fX4_lookEverywhere S1 v1) fun r14 S13 =>
    some (r14, S13))
set_option maxRecDepth 100000 in
set_option maxHeartbeats 4000000 in
theorem kX4_look (l : Launch) (v1 : Int64) : sh_Mi l yX4_look cX4_look 5 .int 4 tbX (fun G => [.ref (G.2.1 116), .long v1]) (fun S => fX4_look S v1) := by
  refine sh_mki (by decide) (fun G => Nat.le_of_ble_eq_true rfl) ?_
  intro p e s m args below meth c G A S res ls hf C hr hw hl
  have C : sh_Cx p s m args meth c cX4_look 5 RX4 G A := C
  have hl : lv_has ls 5 [(0, .ref (G.2.1 116)), (1, .long v1)] := hl
  replace hf : fX4_look S v1 = some res := hf
  rw [fX4_look] at hf
  refine lv_aload_n C.1 C.2.1 dX4_look_0 rfl (lv_at hl 0 rfl) ?_
  refine sh_getr C hw fl_X4_36 tbX_116 rfl dX4_look_1 ?_
  refine sh_Vi (As := []) (rest := []) C hw (kX7_tornIndexes l ) yy_X7_tornIndexes yv_X7_tornIndexes ml_X4_48 hf tbX_4 rfl rfl rfl rfl (Nat.le_of_ble_eq_true rfl) (by decide) hl.1 dX4_look_4 (fun r2 S1 H locs hw hf => ?_)
  refine sh_if_le (tgt := 16) C hf dX4_look_7 (by decide) (fun hf => ?_) (fun hf => ?_)
  · refine lv_aload_n C.1 C.2.1 dX4_look_16 rfl (lv_at hl 0 rfl) ?_
    refine lv_aload_n C.1 C.2.1 dX4_look_17 rfl (lv_at hl 0 rfl) ?_
    refine sh_getr C hw fl_X4_36 tbX_116 rfl dX4_look_18 ?_
    refine lv_lload_n C.1 C.2.1 dX4_look_21 rfl (lv_at hl 1 rfl) ?_
    refine sh_Vi (As := [.long v1]) (rest := [.ref (G.2.1 116)]) C hw (kX7_hashOf l v1) yy_X7_hashOf yv_X7_hashOf ml_X4_58 hf tbX_4 rfl rfl rfl rfl (Nat.le_of_ble_eq_true rfl) (by decide) hl.1 dX4_look_22 (fun r4 S3 H locs hw hf => ?_)
    refine sh_Vv (As := [.int r4]) (rest := []) C hw (kX4_trace l r4) yy_X4_trace yv_X4_trace ml_X4_61 hf tbX_116 rfl rfl rfl rfl (Nat.le_of_ble_eq_true rfl) (by decide) hl.1 dX4_look_25 (fun S5 H locs hw hf => ?_)
    refine lv_aload_n C.1 C.2.1 dX4_look_28 rfl (lv_at hl 0 rfl) ?_
    refine lv_aload_n C.1 C.2.1 dX4_look_29 rfl (lv_at hl 0 rfl) ?_
    refine sh_getr C hw fl_X4_21 tbX_116 rfl dX4_look_30 ?_
    refine sh_geti C hw fl_X4_64 tbX_121 rfl dX4_look_33 ?_
    refine sh_puti C hw fl_X4_32 fp_2_4 hf tbX_116 rfl dX4_look_36 (fun S7 H locs hw hf => ?_)
    refine lv_aload_n C.1 C.2.1 dX4_look_39 rfl (lv_at hl 0 rfl) ?_
    refine sh_getr C hw fl_X4_21 tbX_116 rfl dX4_look_40 ?_
    refine sh_geti C hw fl_X4_64 tbX_121 rfl dX4_look_43 ?_
    refine sh_ni hf (fun y8 hf => ?_)
    refine lv_istore_n (lv' := [(3, .int y8), (0, .ref (G.2.1 116)), (1, .long v1)]) C.1 C.2.1 dX4_look_46 rfl hl (by decide) rfl (fun ls hl => ?_)
    exact wX4_look_47 C hr _ S7 v1 y8 hf _ _ _ hw (lv_sub hl [1, 2, 0] rfl)
  · refine lv_aload_n C.1 C.2.1 dX4_look_10 rfl (lv_at hl 0 rfl) ?_
    refine lv_lload_n C.1 C.2.1 dX4_look_11 rfl (lv_at hl 1 rfl) ?_
    refine sh_Vi (As := [.long v1]) (rest := []) C hw (kX4_lookEverywhere l v1) yy_X4_lookEverywhere yv_X4_lookEverywhere ml_X4_54 hf tbX_116 rfl rfl rfl rfl (Nat.le_of_ble_eq_true rfl) (by decide) hl.1 dX4_look_12 (fun r14 S13 H locs hw hf => ?_)
    exact sh_ri C hw hr hf dX4_look_15
def fX4_whereabouts (S : sh_St) (v1 : Int64) (v3 : Int32) : Option (Int32 × sh_St) :=
    sh_c (fX4_look S v1) fun r2 S1 =>
    if v3 = 1 then (some (S1.1 116 4, S1))
    else (if r2 = (-1) then (some ((-1), S1))
    else (if v3 = 0 then (sh_g r2 240 (some (S1.1 9 r2.toNatClampNeg, S1)))
    else (if v3 = 2 then (some (r2 / 6, S1))
    else (some (r2 - r2 / 6 * 6, S1)))))
set_option maxRecDepth 100000 in
set_option maxHeartbeats 4000000 in
theorem kX4_whereabouts (l : Launch) (v1 : Int64) (v3 : Int32) : sh_Mi l yX4_whereabouts cX4_whereabouts 5 .int 5 tbX (fun G => [.ref (G.2.1 116), .long v1, .int v3]) (fun S => fX4_whereabouts S v1 v3) := by
  refine sh_mki (by decide) (fun G => Nat.le_of_ble_eq_true rfl) ?_
  intro p e s m args below meth c G A S res ls hf C hr hw hl
  have C : sh_Cx p s m args meth c cX4_whereabouts 5 RX4 G A := C
  have hl : lv_has ls 5 [(0, .ref (G.2.1 116)), (1, .long v1), (3, .int v3)] := hl
  replace hf : fX4_whereabouts S v1 v3 = some res := hf
  rw [fX4_whereabouts] at hf
  refine lv_aload_n C.1 C.2.1 dX4_whereabouts_0 rfl (lv_at hl 0 rfl) ?_
  refine lv_lload_n C.1 C.2.1 dX4_whereabouts_1 rfl (lv_at hl 1 rfl) ?_
  refine sh_Vi (As := [.long v1]) (rest := []) C hw (kX4_look l v1) yy_X4_look yv_X4_look ml_X4_93 hf tbX_116 rfl rfl rfl rfl (Nat.le_of_ble_eq_true rfl) (by decide) hl.1 dX4_whereabouts_2 (fun r2 S1 H locs hw hf => ?_)
  refine lv_istore (lv' := [(4, .int r2), (0, .ref (G.2.1 116)), (1, .long v1), (3, .int v3)]) C.1 C.2.1 dX4_whereabouts_5 hl (by decide) rfl (fun ls hl => ?_)
  refine lv_iload_n C.1 C.2.1 dX4_whereabouts_7 rfl (lv_at hl 3 rfl) ?_
  refine lv_iconst (v := 1) C.1 C.2.1 dX4_whereabouts_8 (by decide) ?_
  refine sh_icmp_ne (tgt := 17) C hf dX4_whereabouts_9 (by decide) (fun hf => ?_) (fun hf => ?_)
  · refine lv_iload C.1 C.2.1 dX4_whereabouts_17 (lv_at hl 0 rfl) ?_
    refine lv_iconst (v := -1) C.1 C.2.1 dX4_whereabouts_19 (by decide) ?_
    refine sh_icmp_ne (tgt := 25) C hf dX4_whereabouts_20 (by decide) (fun hf => ?_) (fun hf => ?_)
    · refine lv_iload_n C.1 C.2.1 dX4_whereabouts_25 rfl (lv_at hl 3 rfl) ?_
      refine sh_if_ne (tgt := 42) C hf dX4_whereabouts_26 (by decide) (fun hf => ?_) (fun hf => ?_)
      · refine lv_iload_n C.1 C.2.1 dX4_whereabouts_42 rfl (lv_at hl 3 rfl) ?_
        refine lv_iconst (v := 2) C.1 C.2.1 dX4_whereabouts_43 (by decide) ?_
        refine sh_icmp_ne (tgt := 55) C hf dX4_whereabouts_44 (by decide) (fun hf => ?_) (fun hf => ?_)
        · refine lv_iload C.1 C.2.1 dX4_whereabouts_55 (lv_at hl 0 rfl) ?_
          refine lv_bipush (v := 6) C.1 C.2.1 dX4_whereabouts_57 (by decide) ?_
          refine lv_irem C.1 C.2.1 dX4_whereabouts_59 (by decide) ?_
          exact sh_ri C hw hr hf dX4_whereabouts_60
        · refine lv_iload C.1 C.2.1 dX4_whereabouts_47 (lv_at hl 0 rfl) ?_
          refine lv_bipush (v := 6) C.1 C.2.1 dX4_whereabouts_49 (by decide) ?_
          refine lv_idiv C.1 C.2.1 dX4_whereabouts_51 (by decide) ?_
          refine lv_goto (tgt := 60) C.1 C.2.1 dX4_whereabouts_52 (by decide) ?_
          exact sh_ri C hw hr hf dX4_whereabouts_60
      · refine lv_aload_n C.1 C.2.1 dX4_whereabouts_29 rfl (lv_at hl 1 rfl) ?_
        refine sh_getr C hw fl_X4_36 tbX_116 rfl dX4_whereabouts_30 ?_
        refine sh_getr C hw fl_X4_96 tbX_4 rfl dX4_whereabouts_33 ?_
        refine lv_iload C.1 C.2.1 dX4_whereabouts_36 (lv_at hl 0 rfl) ?_
        refine sh_iald C hw hf tbX_9 dX4_whereabouts_38 (fun hf => ?_)
        refine lv_goto (tgt := 60) C.1 C.2.1 dX4_whereabouts_39 (by decide) ?_
        exact sh_ri C hw hr hf dX4_whereabouts_60
    · refine lv_iconst (v := -1) C.1 C.2.1 dX4_whereabouts_23 (by decide) ?_
      exact sh_ri C hw hr hf dX4_whereabouts_24
  · refine lv_aload_n C.1 C.2.1 dX4_whereabouts_12 rfl (lv_at hl 1 rfl) ?_
    refine sh_geti C hw fl_X4_32 tbX_116 rfl dX4_whereabouts_13 ?_
    exact sh_ri C hw hr hf dX4_whereabouts_16
def fX4_refusalOfPut (S : sh_St) (v1 : Int64) : Option (Int32 × sh_St) :=
    sh_c (fX4_look S v1) fun r2 S1 =>
    if r2 = (-1) then (sh_c (fX7_tornIndexes S1 ) fun r4 S3 =>
    if r4 ≤ 0 then (sh_c (fX4_blocksFor S3 v1) fun r6 S5 =>
    if r6 = (-1) then (some (3, S5))
    else (some (0, S5)))
    else (some (2, S3)))
    else (some (1, S1))
set_option maxRecDepth 100000 in
set_option maxHeartbeats 4000000 in
theorem kX4_refusalOfPut (l : Launch) (v1 : Int64) : sh_Mi l yX4_refusalOfPut cX4_refusalOfPut 3 .int 5 tbX (fun G => [.ref (G.2.1 116), .long v1]) (fun S => fX4_refusalOfPut S v1) := by
  refine sh_mki (by decide) (fun G => Nat.le_of_ble_eq_true rfl) ?_
  intro p e s m args below meth c G A S res ls hf C hr hw hl
  have C : sh_Cx p s m args meth c cX4_refusalOfPut 3 RX4 G A := C
  have hl : lv_has ls 3 [(0, .ref (G.2.1 116)), (1, .long v1)] := hl
  replace hf : fX4_refusalOfPut S v1 = some res := hf
  rw [fX4_refusalOfPut] at hf
  refine lv_aload_n C.1 C.2.1 dX4_refusalOfPut_0 rfl (lv_at hl 0 rfl) ?_
  refine lv_lload_n C.1 C.2.1 dX4_refusalOfPut_1 rfl (lv_at hl 1 rfl) ?_
  refine sh_Vi (As := [.long v1]) (rest := []) C hw (kX4_look l v1) yy_X4_look yv_X4_look ml_X4_93 hf tbX_116 rfl rfl rfl rfl (Nat.le_of_ble_eq_true rfl) (by decide) hl.1 dX4_refusalOfPut_2 (fun r2 S1 H locs hw hf => ?_)
  refine lv_iconst (v := -1) C.1 C.2.1 dX4_refusalOfPut_5 (by decide) ?_
  refine sh_icmp_eq (tgt := 11) C hf dX4_refusalOfPut_6 (by decide) (fun hf => ?_) (fun hf => ?_)
  · refine lv_aload_n C.1 C.2.1 dX4_refusalOfPut_11 rfl (lv_at hl 0 rfl) ?_
    refine sh_getr C hw fl_X4_36 tbX_116 rfl dX4_refusalOfPut_12 ?_
    refine sh_Vi (As := []) (rest := []) C hw (kX7_tornIndexes l ) yy_X7_tornIndexes yv_X7_tornIndexes ml_X4_48 hf tbX_4 rfl rfl rfl rfl (Nat.le_of_ble_eq_true rfl) (by decide) hl.1 dX4_refusalOfPut_15 (fun r4 S3 H locs hw hf => ?_)
    refine sh_if_le (tgt := 23) C hf dX4_refusalOfPut_18 (by decide) (fun hf => ?_) (fun hf => ?_)
    · refine lv_aload_n C.1 C.2.1 dX4_refusalOfPut_23 rfl (lv_at hl 0 rfl) ?_
      refine lv_lload_n C.1 C.2.1 dX4_refusalOfPut_24 rfl (lv_at hl 1 rfl) ?_
      refine sh_Vi (As := [.long v1]) (rest := []) C hw (kX4_blocksFor l v1) yy_X4_blocksFor yv_X4_blocksFor ml_X4_123 hf tbX_116 rfl rfl rfl rfl (Nat.le_of_ble_eq_true rfl) (by decide) hl.1 dX4_refusalOfPut_25 (fun r6 S5 H locs hw hf => ?_)
      refine lv_iconst (v := -1) C.1 C.2.1 dX4_refusalOfPut_28 (by decide) ?_
      refine sh_icmp_ne (tgt := 36) C hf dX4_refusalOfPut_29 (by decide) (fun hf => ?_) (fun hf => ?_)
      · refine lv_iconst (v := 0) C.1 C.2.1 dX4_refusalOfPut_36 (by decide) ?_
        exact sh_ri C hw hr hf dX4_refusalOfPut_37
      · refine lv_iconst (v := 3) C.1 C.2.1 dX4_refusalOfPut_32 (by decide) ?_
        refine lv_goto (tgt := 37) C.1 C.2.1 dX4_refusalOfPut_33 (by decide) ?_
        exact sh_ri C hw hr hf dX4_refusalOfPut_37
    · refine lv_iconst (v := 2) C.1 C.2.1 dX4_refusalOfPut_21 (by decide) ?_
      exact sh_ri C hw hr hf dX4_refusalOfPut_22
  · refine lv_iconst (v := 1) C.1 C.2.1 dX4_refusalOfPut_9 (by decide) ?_
    exact sh_ri C hw hr hf dX4_refusalOfPut_10
def fX4_refusalOfTurn_37 (S : sh_St) (v3 : Int64) (v5 : Int32) : Option (Int32 × sh_St) :=
    sh_c (fX7_tornIndexes S ) fun r6 S5 =>
    if r6 ≤ 0 then (sh_g v5 240 (sh_t (S5.2 8 v5.toNatClampNeg) fun y7 =>
    sh_g v5 240 (sh_t (sh_L S5 8 v5.toNatClampNeg 0) fun S8 =>
    sh_c (fX4_blocksFor S8 v3) fun r10 S9 =>
    sh_g v5 240 (sh_t (sh_L S9 8 v5.toNatClampNeg y7) fun S11 =>
    if r10 = (-1) then (some (3, S11))
    else (some (0, S11))))))
    else (some (2, S5))
set_option maxRecDepth 100000 in
set_option maxHeartbeats 4000000 in
theorem wX4_refusalOfTurn_37 {p : Program} {l : Launch} {e : Env} {s : State} {m : MethodId} {args : Array Value} {below : List Frame} {meth : Method} {c : Code} {G : sh_Ev} {A : Nat → Prop} {res : Int32 × sh_St} (C : sh_Cx p s m args meth c cX4_refusalOfTurn 10 RX4 G A) (hr : meth.sig.returnType = some .int) : ∀ (S : sh_St) (v3 : Int64) (v5 : Int32), fX4_refusalOfTurn_37 S v3 v5 = some res → ∀ (H : Heap) (locs : List Loc) (ls : Array Slot), sh_Wx G tbX A s H locs S → lv_has ls 10 [(0, .ref (G.2.1 116)), (3, .long v3), (5, .int v5)] → W p l e (sh_rm 5) s m args below meth c H locs 0 0 (sh_Qi below args s G tbX A res) (F0 m 37 ls []) := by
  intro S v3 v5 hf H locs ls hw hl
  rw [fX4_refusalOfTurn_37] at hf
  refine lv_aload_n C.1 C.2.1 dX4_refusalOfTurn_37 rfl (lv_at hl 0 rfl) ?_
  refine sh_getr C hw fl_X4_36 tbX_116 rfl dX4_refusalOfTurn_38 ?_
  refine sh_Vi (As := []) (rest := []) C hw (kX7_tornIndexes l ) yy_X7_tornIndexes yv_X7_tornIndexes ml_X4_48 hf tbX_4 rfl rfl rfl rfl (Nat.le_of_ble_eq_true rfl) (by decide) hl.1 dX4_refusalOfTurn_41 (fun r6 S5 H locs hw hf => ?_)
  refine sh_if_le (tgt := 49) C hf dX4_refusalOfTurn_44 (by decide) (fun hf => ?_) (fun hf => ?_)
  · refine lv_aload_n C.1 C.2.1 dX4_refusalOfTurn_49 rfl (lv_at hl 0 rfl) ?_
    refine sh_getr C hw fl_X4_36 tbX_116 rfl dX4_refusalOfTurn_50 ?_
    refine sh_getr C hw fl_X4_81 tbX_4 rfl dX4_refusalOfTurn_53 ?_
    refine lv_iload C.1 C.2.1 dX4_refusalOfTurn_56 (lv_at hl 2 rfl) ?_
    refine sh_lald C hw hf tbX_8 dX4_refusalOfTurn_58 (fun hf => ?_)
    refine sh_nl hf (fun y7 hf => ?_)
    refine lv_lstore (lv' := [(7, .long y7), (0, .ref (G.2.1 116)), (3, .long v3), (5, .int v5)]) C.1 C.2.1 dX4_refusalOfTurn_59 hl (by decide) rfl (fun ls hl => ?_)
    refine lv_aload_n C.1 C.2.1 dX4_refusalOfTurn_61 rfl (lv_at hl 1 rfl) ?_
    refine sh_getr C hw fl_X4_36 tbX_116 rfl dX4_refusalOfTurn_62 ?_
    refine sh_getr C hw fl_X4_81 tbX_4 rfl dX4_refusalOfTurn_65 ?_
    refine lv_iload C.1 C.2.1 dX4_refusalOfTurn_68 (lv_at hl 3 rfl) ?_
    refine lv_lconst (v := 0) C.1 C.2.1 dX4_refusalOfTurn_70 (by decide) ?_
    refine sh_last C hw hf tbX_8 dX4_refusalOfTurn_71 (fun S8 H locs hw hf => ?_)
    refine lv_aload_n C.1 C.2.1 dX4_refusalOfTurn_72 rfl (lv_at hl 1 rfl) ?_
    refine lv_lload_n C.1 C.2.1 dX4_refusalOfTurn_73 rfl (lv_at hl 2 rfl) ?_
    refine sh_Vi (As := [.long v3]) (rest := []) C hw (kX4_blocksFor l v3) yy_X4_blocksFor yv_X4_blocksFor ml_X4_123 hf tbX_116 rfl rfl rfl rfl (Nat.le_of_ble_eq_true rfl) (by decide) hl.1 dX4_refusalOfTurn_74 (fun r10 S9 H locs hw hf => ?_)
    refine lv_istore (lv' := [(9, .int r10), (7, .long y7), (0, .ref (G.2.1 116)), (3, .long v3), (5, .int v5)]) C.1 C.2.1 dX4_refusalOfTurn_77 hl (by decide) rfl (fun ls hl => ?_)
    refine lv_aload_n C.1 C.2.1 dX4_refusalOfTurn_79 rfl (lv_at hl 2 rfl) ?_
    refine sh_getr C hw fl_X4_36 tbX_116 rfl dX4_refusalOfTurn_80 ?_
    refine sh_getr C hw fl_X4_81 tbX_4 rfl dX4_refusalOfTurn_83 ?_
    refine lv_iload C.1 C.2.1 dX4_refusalOfTurn_86 (lv_at hl 4 rfl) ?_
    refine lv_lload C.1 C.2.1 dX4_refusalOfTurn_88 (lv_at hl 1 rfl) ?_
    refine sh_last C hw hf tbX_8 dX4_refusalOfTurn_90 (fun S11 H locs hw hf => ?_)
    refine lv_iload C.1 C.2.1 dX4_refusalOfTurn_91 (lv_at hl 0 rfl) ?_
    refine lv_iconst (v := -1) C.1 C.2.1 dX4_refusalOfTurn_93 (by decide) ?_
    refine sh_icmp_ne (tgt := 101) C hf dX4_refusalOfTurn_94 (by decide) (fun hf => ?_) (fun hf => ?_)
    · refine lv_iconst (v := 0) C.1 C.2.1 dX4_refusalOfTurn_101 (by decide) ?_
      exact sh_ri C hw hr hf dX4_refusalOfTurn_102
    · refine lv_iconst (v := 3) C.1 C.2.1 dX4_refusalOfTurn_97 (by decide) ?_
      refine lv_goto (tgt := 102) C.1 C.2.1 dX4_refusalOfTurn_98 (by decide) ?_
      exact sh_ri C hw hr hf dX4_refusalOfTurn_102
  · refine lv_iconst (v := 2) C.1 C.2.1 dX4_refusalOfTurn_47 (by decide) ?_
    exact sh_ri C hw hr hf dX4_refusalOfTurn_48
def fX4_refusalOfTurn (S : sh_St) (v1 : Int64) (v3 : Int64) : Option (Int32 × sh_St) :=
    sh_c (fX4_look S v1) fun r2 S1 =>
    if r2 = (-1) then (some (4, S1))
    else (sh_c (fX4_look S1 v3) fun r4 S3 =>
    if r4 = (-1) then (fX4_refusalOfTurn_37 S3 v3 r2)
    else (if r4 = r2 then (fX4_refusalOfTurn_37 S3 v3 r2)
    else (some (1, S3))))
set_option maxRecDepth 100000 in
set_option maxHeartbeats 4000000 in
theorem kX4_refusalOfTurn (l : Launch) (v1 : Int64) (v3 : Int64) : sh_Mi l yX4_refusalOfTurn cX4_refusalOfTurn 10 .int 5 tbX (fun G => [.ref (G.2.1 116), .long v1, .long v3]) (fun S => fX4_refusalOfTurn S v1 v3) := by
  refine sh_mki (by decide) (fun G => Nat.le_of_ble_eq_true rfl) ?_
  intro p e s m args below meth c G A S res ls hf C hr hw hl
  have C : sh_Cx p s m args meth c cX4_refusalOfTurn 10 RX4 G A := C
  have hl : lv_has ls 10 [(0, .ref (G.2.1 116)), (1, .long v1), (3, .long v3)] := hl
  replace hf : fX4_refusalOfTurn S v1 v3 = some res := hf
  rw [fX4_refusalOfTurn] at hf
  refine lv_aload_n C.1 C.2.1 dX4_refusalOfTurn_0 rfl (lv_at hl 0 rfl) ?_
  refine lv_lload_n C.1 C.2.1 dX4_refusalOfTurn_1 rfl (lv_at hl 1 rfl) ?_
  refine sh_Vi (As := [.long v1]) (rest := []) C hw (kX4_look l v1) yy_X4_look yv_X4_look ml_X4_93 hf tbX_116 rfl rfl rfl rfl (Nat.le_of_ble_eq_true rfl) (by decide) hl.1 dX4_refusalOfTurn_2 (fun r2 S1 H locs hw hf => ?_)
  refine lv_istore (lv' := [(5, .int r2), (0, .ref (G.2.1 116)), (1, .long v1), (3, .long v3)]) C.1 C.2.1 dX4_refusalOfTurn_5 hl (by decide) rfl (fun ls hl => ?_)
  refine lv_iload C.1 C.2.1 dX4_refusalOfTurn_7 (lv_at hl 0 rfl) ?_
  refine lv_iconst (v := -1) C.1 C.2.1 dX4_refusalOfTurn_9 (by decide) ?_
  refine sh_icmp_ne (tgt := 15) C hf dX4_refusalOfTurn_10 (by decide) (fun hf => ?_) (fun hf => ?_)
  · refine lv_aload_n C.1 C.2.1 dX4_refusalOfTurn_15 rfl (lv_at hl 1 rfl) ?_
    refine lv_lload_n C.1 C.2.1 dX4_refusalOfTurn_16 rfl (lv_at hl 3 rfl) ?_
    refine sh_Vi (As := [.long v3]) (rest := []) C hw (kX4_look l v3) yy_X4_look yv_X4_look ml_X4_93 hf tbX_116 rfl rfl rfl rfl (Nat.le_of_ble_eq_true rfl) (by decide) hl.1 dX4_refusalOfTurn_17 (fun r4 S3 H locs hw hf => ?_)
    refine lv_istore (lv' := [(6, .int r4), (5, .int r2), (0, .ref (G.2.1 116)), (1, .long v1), (3, .long v3)]) C.1 C.2.1 dX4_refusalOfTurn_20 hl (by decide) rfl (fun ls hl => ?_)
    refine lv_iload C.1 C.2.1 dX4_refusalOfTurn_22 (lv_at hl 0 rfl) ?_
    refine lv_iconst (v := -1) C.1 C.2.1 dX4_refusalOfTurn_24 (by decide) ?_
    refine sh_icmp_eq (tgt := 37) C hf dX4_refusalOfTurn_25 (by decide) (fun hf => ?_) (fun hf => ?_)
    · exact wX4_refusalOfTurn_37 C hr S3 v3 r2 hf _ _ _ hw (lv_sub hl [2, 4, 1] rfl)
    · refine lv_iload C.1 C.2.1 dX4_refusalOfTurn_28 (lv_at hl 0 rfl) ?_
      refine lv_iload C.1 C.2.1 dX4_refusalOfTurn_30 (lv_at hl 1 rfl) ?_
      refine sh_icmp_eq (tgt := 37) C hf dX4_refusalOfTurn_32 (by decide) (fun hf => ?_) (fun hf => ?_)
      · exact wX4_refusalOfTurn_37 C hr S3 v3 r2 hf _ _ _ hw (lv_sub hl [2, 4, 1] rfl)
      · refine lv_iconst (v := 1) C.1 C.2.1 dX4_refusalOfTurn_35 (by decide) ?_
        exact sh_ri C hw hr hf dX4_refusalOfTurn_36
  · refine lv_iconst (v := 4) C.1 C.2.1 dX4_refusalOfTurn_13 (by decide) ?_
    exact sh_ri C hw hr hf dX4_refusalOfTurn_14
def fX4_removeEntry (S : sh_St) (v1 : Int64) : Option (Int32 × sh_St) :=
    sh_c (fX4_look S v1) fun r2 S1 =>
    if r2 = (-1) then (some ((-1), S1))
    else (sh_g r2 240 (sh_t (sh_L S1 8 r2.toNatClampNeg 0) fun S3 =>
    sh_g r2 240 (some (S3.1 9 r2.toNatClampNeg, S3))))
set_option maxRecDepth 100000 in
set_option maxHeartbeats 4000000 in
theorem kX4_removeEntry (l : Launch) (v1 : Int64) : sh_Mi l yX4_removeEntry cX4_removeEntry 4 .int 5 tbX (fun G => [.ref (G.2.1 116), .long v1]) (fun S => fX4_removeEntry S v1) := by
  refine sh_mki (by decide) (fun G => Nat.le_of_ble_eq_true rfl) ?_
  intro p e s m args below meth c G A S res ls hf C hr hw hl
  have C : sh_Cx p s m args meth c cX4_removeEntry 4 RX4 G A := C
  have hl : lv_has ls 4 [(0, .ref (G.2.1 116)), (1, .long v1)] := hl
  replace hf : fX4_removeEntry S v1 = some res := hf
  rw [fX4_removeEntry] at hf
  refine lv_aload_n C.1 C.2.1 dX4_removeEntry_0 rfl (lv_at hl 0 rfl) ?_
  refine lv_lload_n C.1 C.2.1 dX4_removeEntry_1 rfl (lv_at hl 1 rfl) ?_
  refine sh_Vi (As := [.long v1]) (rest := []) C hw (kX4_look l v1) yy_X4_look yv_X4_look ml_X4_93 hf tbX_116 rfl rfl rfl rfl (Nat.le_of_ble_eq_true rfl) (by decide) hl.1 dX4_removeEntry_2 (fun r2 S1 H locs hw hf => ?_)
  refine lv_istore_n (lv' := [(3, .int r2), (0, .ref (G.2.1 116)), (1, .long v1)]) C.1 C.2.1 dX4_removeEntry_5 rfl hl (by decide) rfl (fun ls hl => ?_)
  refine lv_iload_n C.1 C.2.1 dX4_removeEntry_6 rfl (lv_at hl 0 rfl) ?_
  refine lv_iconst (v := -1) C.1 C.2.1 dX4_removeEntry_7 (by decide) ?_
  refine sh_icmp_ne (tgt := 13) C hf dX4_removeEntry_8 (by decide) (fun hf => ?_) (fun hf => ?_)
  · refine lv_aload_n C.1 C.2.1 dX4_removeEntry_13 rfl (lv_at hl 1 rfl) ?_
    refine sh_getr C hw fl_X4_36 tbX_116 rfl dX4_removeEntry_14 ?_
    refine sh_getr C hw fl_X4_81 tbX_4 rfl dX4_removeEntry_17 ?_
    refine lv_iload_n C.1 C.2.1 dX4_removeEntry_20 rfl (lv_at hl 0 rfl) ?_
    refine lv_lconst (v := 0) C.1 C.2.1 dX4_removeEntry_21 (by decide) ?_
    refine sh_last C hw hf tbX_8 dX4_removeEntry_22 (fun S3 H locs hw hf => ?_)
    refine lv_aload_n C.1 C.2.1 dX4_removeEntry_23 rfl (lv_at hl 1 rfl) ?_
    refine sh_getr C hw fl_X4_36 tbX_116 rfl dX4_removeEntry_24 ?_
    refine sh_getr C hw fl_X4_96 tbX_4 rfl dX4_removeEntry_27 ?_
    refine lv_iload_n C.1 C.2.1 dX4_removeEntry_30 rfl (lv_at hl 0 rfl) ?_
    refine sh_iald C hw hf tbX_9 dX4_removeEntry_31 (fun hf => ?_)
    exact sh_ri C hw hr hf dX4_removeEntry_32
  · refine lv_iconst (v := -1) C.1 C.2.1 dX4_removeEntry_11 (by decide) ?_
    exact sh_ri C hw hr hf dX4_removeEntry_12
def fX4_placeEntry (S : sh_St) (v1 : Int64) (v3 : Int32) : Option (Int32 × sh_St) :=
    sh_c (fX4_blocksFor S v1) fun r2 S1 =>
    sh_c (fX4_spotOnWay S1 ) fun r4 S3 =>
    sh_c (fX7_hashOf S3 v1) fun r6 S5 =>
    if r4 = (-1) then (if r2 = (-1) then (some (r2, S5))
    else (sh_c (fX11_firstLeaf S5 ) fun r8 S7 =>
    sh_c (fX4_poolOfLeaf S7 r8) fun _ S9 =>
    sh_c (fX6_add S9 v1 v3 r6) fun _ S11 =>
    sh_c (fX4_splitLeaf S11 ) fun _ S13 =>
    sh_c (fX4_splitIndex S13 ) fun _ S15 =>
    some (r2, S15)))
    else (sh_c (fX7_setEntry S5 r4 v1 v3 r6) fun _ S17 =>
    some (r2, S17))
set_option maxRecDepth 100000 in
set_option maxHeartbeats 4000000 in
theorem kX4_placeEntry (l : Launch) (v1 : Int64) (v3 : Int32) : sh_Mi l yX4_placeEntry cX4_placeEntry 7 .int 5 tbX (fun G => [.ref (G.2.1 116), .long v1, .int v3]) (fun S => fX4_placeEntry S v1 v3) := by
  refine sh_mki (by decide) (fun G => Nat.le_of_ble_eq_true rfl) ?_
  intro p e s m args below meth c G A S res ls hf C hr hw hl
  have C : sh_Cx p s m args meth c cX4_placeEntry 7 RX4 G A := C
  have hl : lv_has ls 7 [(0, .ref (G.2.1 116)), (1, .long v1), (3, .int v3)] := hl
  replace hf : fX4_placeEntry S v1 v3 = some res := hf
  rw [fX4_placeEntry] at hf
  refine lv_aload_n C.1 C.2.1 dX4_placeEntry_0 rfl (lv_at hl 0 rfl) ?_
  refine lv_lload_n C.1 C.2.1 dX4_placeEntry_1 rfl (lv_at hl 1 rfl) ?_
  refine sh_Vi (As := [.long v1]) (rest := []) C hw (kX4_blocksFor l v1) yy_X4_blocksFor yv_X4_blocksFor ml_X4_123 hf tbX_116 rfl rfl rfl rfl (Nat.le_of_ble_eq_true rfl) (by decide) hl.1 dX4_placeEntry_2 (fun r2 S1 H locs hw hf => ?_)
  refine lv_istore (lv' := [(4, .int r2), (0, .ref (G.2.1 116)), (1, .long v1), (3, .int v3)]) C.1 C.2.1 dX4_placeEntry_5 hl (by decide) rfl (fun ls hl => ?_)
  refine lv_aload_n C.1 C.2.1 dX4_placeEntry_7 rfl (lv_at hl 1 rfl) ?_
  refine sh_Vi (As := []) (rest := []) C hw (kX4_spotOnWay l ) yy_X4_spotOnWay yv_X4_spotOnWay ml_X4_137 hf tbX_116 rfl rfl rfl rfl (Nat.le_of_ble_eq_true rfl) (by decide) hl.1 dX4_placeEntry_8 (fun r4 S3 H locs hw hf => ?_)
  refine lv_istore (lv' := [(5, .int r4), (4, .int r2), (0, .ref (G.2.1 116)), (1, .long v1), (3, .int v3)]) C.1 C.2.1 dX4_placeEntry_11 hl (by decide) rfl (fun ls hl => ?_)
  refine lv_aload_n C.1 C.2.1 dX4_placeEntry_13 rfl (lv_at hl 2 rfl) ?_
  refine sh_getr C hw fl_X4_36 tbX_116 rfl dX4_placeEntry_14 ?_
  refine lv_lload_n C.1 C.2.1 dX4_placeEntry_17 rfl (lv_at hl 3 rfl) ?_
  refine sh_Vi (As := [.long v1]) (rest := []) C hw (kX7_hashOf l v1) yy_X7_hashOf yv_X7_hashOf ml_X4_58 hf tbX_4 rfl rfl rfl rfl (Nat.le_of_ble_eq_true rfl) (by decide) hl.1 dX4_placeEntry_18 (fun r6 S5 H locs hw hf => ?_)
  refine lv_istore (lv' := [(6, .int r6), (5, .int r4), (4, .int r2), (0, .ref (G.2.1 116)), (1, .long v1), (3, .int v3)]) C.1 C.2.1 dX4_placeEntry_21 hl (by decide) rfl (fun ls hl => ?_)
  refine lv_iload C.1 C.2.1 dX4_placeEntry_23 (lv_at hl 1 rfl) ?_
  refine lv_iconst (v := -1) C.1 C.2.1 dX4_placeEntry_25 (by decide) ?_
  refine sh_icmp_eq (tgt := 45) C hf dX4_placeEntry_26 (by decide) (fun hf => ?_) (fun hf => ?_)
  · refine lv_iload C.1 C.2.1 dX4_placeEntry_45 (lv_at hl 2 rfl) ?_
    refine lv_iconst (v := -1) C.1 C.2.1 dX4_placeEntry_47 (by decide) ?_
    refine sh_icmp_eq (tgt := 81) C hf dX4_placeEntry_48 (by decide) (fun hf => ?_) (fun hf => ?_)
    · refine lv_iload C.1 C.2.1 dX4_placeEntry_81 (lv_at hl 2 rfl) ?_
      exact sh_ri C hw hr hf dX4_placeEntry_83
    · refine lv_aload_n C.1 C.2.1 dX4_placeEntry_51 rfl (lv_at hl 3 rfl) ?_
      refine lv_aload_n C.1 C.2.1 dX4_placeEntry_52 rfl (lv_at hl 3 rfl) ?_
      refine sh_getr C hw fl_X4_21 tbX_116 rfl dX4_placeEntry_53 ?_
      refine sh_Vi (As := []) (rest := [.ref (G.2.1 116)]) C hw (kX11_firstLeaf l ) yy_X11_firstLeaf yv_X11_firstLeaf ml_X4_193 hf tbX_121 rfl rfl rfl rfl (Nat.le_of_ble_eq_true rfl) (by decide) hl.1 dX4_placeEntry_56 (fun r8 S7 H locs hw hf => ?_)
      refine sh_Vv (As := [.int r8]) (rest := []) C hw (kX4_poolOfLeaf l r8) yy_X4_poolOfLeaf yv_X4_poolOfLeaf ml_X4_196 hf tbX_116 rfl rfl rfl rfl (Nat.le_of_ble_eq_true rfl) (by decide) hl.1 dX4_placeEntry_59 (fun S9 H locs hw hf => ?_)
      refine lv_aload_n C.1 C.2.1 dX4_placeEntry_62 rfl (lv_at hl 3 rfl) ?_
      refine sh_getr C hw fl_X4_28 tbX_116 rfl dX4_placeEntry_63 ?_
      refine lv_lload_n C.1 C.2.1 dX4_placeEntry_66 rfl (lv_at hl 4 rfl) ?_
      refine lv_iload_n C.1 C.2.1 dX4_placeEntry_67 rfl (lv_at hl 5 rfl) ?_
      refine lv_iload C.1 C.2.1 dX4_placeEntry_68 (lv_at hl 0 rfl) ?_
      refine sh_Vv (As := [.long v1, .int v3, .int r6]) (rest := []) C hw (kX6_add l v1 v3 r6) yy_X6_add yv_X6_add ml_X4_132 hf tbX_124 rfl rfl rfl rfl (Nat.le_of_ble_eq_true rfl) (by decide) hl.1 dX4_placeEntry_70 (fun S11 H locs hw hf => ?_)
      refine lv_aload_n C.1 C.2.1 dX4_placeEntry_73 rfl (lv_at hl 3 rfl) ?_
      refine sh_Vv (As := []) (rest := []) C hw (kX4_splitLeaf l ) yy_X4_splitLeaf yv_X4_splitLeaf ml_X4_199 hf tbX_116 rfl rfl rfl rfl (Nat.le_of_ble_eq_true rfl) (by decide) hl.1 dX4_placeEntry_74 (fun S13 H locs hw hf => ?_)
      refine lv_aload_n C.1 C.2.1 dX4_placeEntry_77 rfl (lv_at hl 3 rfl) ?_
      refine sh_Vv (As := []) (rest := []) C hw (kX4_splitIndex l ) yy_X4_splitIndex yv_X4_splitIndex ml_X4_202 hf tbX_116 rfl rfl rfl rfl (Nat.le_of_ble_eq_true rfl) (by decide) hl.1 dX4_placeEntry_78 (fun S15 H locs hw hf => ?_)
      refine lv_iload C.1 C.2.1 dX4_placeEntry_81 (lv_at hl 2 rfl) ?_
      exact sh_ri C hw hr hf dX4_placeEntry_83
  · refine lv_aload_n C.1 C.2.1 dX4_placeEntry_29 rfl (lv_at hl 3 rfl) ?_
    refine sh_getr C hw fl_X4_36 tbX_116 rfl dX4_placeEntry_30 ?_
    refine lv_iload C.1 C.2.1 dX4_placeEntry_33 (lv_at hl 1 rfl) ?_
    refine lv_lload_n C.1 C.2.1 dX4_placeEntry_35 rfl (lv_at hl 4 rfl) ?_
    refine lv_iload_n C.1 C.2.1 dX4_placeEntry_36 rfl (lv_at hl 5 rfl) ?_
    refine lv_iload C.1 C.2.1 dX4_placeEntry_37 (lv_at hl 0 rfl) ?_
    refine sh_Vv (As := [.int r4, .long v1, .int v3, .int r6]) (rest := []) C hw (kX7_setEntry l r4 v1 v3 r6) yy_X7_setEntry yv_X7_setEntry ml_X4_189 hf tbX_4 rfl rfl rfl rfl (Nat.le_of_ble_eq_true rfl) (by decide) hl.1 dX4_placeEntry_39 (fun S17 H locs hw hf => ?_)
    refine lv_goto (tgt := 81) C.1 C.2.1 dX4_placeEntry_42 (by decide) ?_
    refine lv_iload C.1 C.2.1 dX4_placeEntry_81 (lv_at hl 2 rfl) ?_
    exact sh_ri C hw hr hf dX4_placeEntry_83
def fX4_layIndexes_46 : Nat → sh_St → Int32 → Int32 → Int32 → Option (Unit × sh_St)
  | 0, _, _, _, _ => none
  | n + 1, S, v1, v2, v3 =>
    if v2 ≤ v3 then (some ((), S))
    else (sh_t ((1 + v1) + v3) fun y5 =>
    sh_t (v3 * 4) fun y6 =>
    sh_g y5 40 (sh_t (sh_I S 5 y5.toNatClampNeg 2) fun S7 =>
    sh_c (fX4_layRows S7 y5 y6 (if v1 < (y6 + 4) then v1 else (y6 + 4))) fun _ S8 =>
    sh_c (fX4_limitOfLaid S8 y6) fun r11 S10 =>
    sh_c (fX6_markAt S10 (y6 * 4)) fun r13 S12 =>
    sh_c (fX7_insertRow S12 0 v3 r11 r13 y5) fun _ S14 =>
    sh_t (v3 + 1) fun y16 =>
    (fX4_layIndexes_46 n) S14 v1 v2 y16))
set_option maxRecDepth 100000 in
set_option maxHeartbeats 4000000 in
theorem wX4_layIndexes_46 {p : Program} {l : Launch} {e : Env} {s : State} {m : MethodId} {args : Array Value} {below : List Frame} {meth : Method} {c : Code} {G : sh_Ev} {A : Nat → Prop} {res : Unit × sh_St} (C : sh_Cx p s m args meth c cX4_layIndexes 6 RX4 G A) (hr : meth.sig.returnType = none) : ∀ (n : Nat) (S : sh_St) (v1 : Int32) (v2 : Int32) (v3 : Int32), fX4_layIndexes_46 n S v1 v2 v3 = some res → ∀ (H : Heap) (locs : List Loc) (ls : Array Slot), sh_Wx G tbX A s H locs S → lv_has ls 6 [(0, .ref (G.2.1 116)), (1, .int v1), (2, .int v2), (3, .int v3)] → W p l e (sh_rm 4) s m args below meth c H locs 0 0 (sh_Qv below args s G tbX A res) (F0 m 46 ls []) := by
  intro n
  induction n with
  | zero => intro S v1 v2 v3 hf; exact nomatch (show (none : Option (Unit × sh_St)) = some res from hf)
  | succ n ih =>
    intro S v1 v2 v3 hf H locs ls hw hl
    have hr46 := ih
    rw [fX4_layIndexes_46] at hf
    refine lv_iload_n C.1 C.2.1 dX4_layIndexes_46 rfl (lv_at hl 3 rfl) ?_
    refine lv_iload_n C.1 C.2.1 dX4_layIndexes_47 rfl (lv_at hl 2 rfl) ?_
    refine sh_icmp_ge (tgt := 124) C hf dX4_layIndexes_48 (by decide) (fun hf => ?_) (fun hf => ?_)
    · exact sh_rv C hw hr hf dX4_layIndexes_124
    · refine lv_iconst (v := 1) C.1 C.2.1 dX4_layIndexes_51 (by decide) ?_
      refine lv_iload_n C.1 C.2.1 dX4_layIndexes_52 rfl (lv_at hl 1 rfl) ?_
      refine lv_iadd C.1 C.2.1 dX4_layIndexes_53 ?_
      refine lv_iload_n C.1 C.2.1 dX4_layIndexes_54 rfl (lv_at hl 3 rfl) ?_
      refine lv_iadd C.1 C.2.1 dX4_layIndexes_55 ?_
      refine sh_ni hf (fun y5 hf => ?_)
      refine lv_istore (lv' := [(4, .int y5), (0, .ref (G.2.1 116)), (1, .int v1), (2, .int v2), (3, .int v3)]) C.1 C.2.1 dX4_layIndexes_56 hl (by decide) rfl (fun ls hl => ?_)
      refine lv_iload_n C.1 C.2.1 dX4_layIndexes_58 rfl (lv_at hl 4 rfl) ?_
      refine lv_iconst (v := 4) C.1 C.2.1 dX4_layIndexes_59 (by decide) ?_
      refine lv_imul C.1 C.2.1 dX4_layIndexes_60 ?_
      refine sh_ni hf (fun y6 hf => ?_)
      refine lv_istore (lv' := [(5, .int y6), (4, .int y5), (0, .ref (G.2.1 116)), (1, .int v1), (2, .int v2), (3, .int v3)]) C.1 C.2.1 dX4_layIndexes_61 hl (by decide) rfl (fun ls hl => ?_)
      refine lv_aload_n C.1 C.2.1 dX4_layIndexes_63 rfl (lv_at hl 2 rfl) ?_
      refine sh_getr C hw fl_X4_36 tbX_116 rfl dX4_layIndexes_64 ?_
      refine sh_getr C hw fl_X4_78 tbX_4 rfl dX4_layIndexes_67 ?_
      refine lv_iload C.1 C.2.1 dX4_layIndexes_70 (lv_at hl 1 rfl) ?_
      refine lv_iconst (v := 2) C.1 C.2.1 dX4_layIndexes_72 (by decide) ?_
      refine sh_iast C hw hf tbX_5 dX4_layIndexes_73 (fun S7 H locs hw hf => ?_)
      refine lv_aload_n C.1 C.2.1 dX4_layIndexes_74 rfl (lv_at hl 2 rfl) ?_
      refine lv_iload C.1 C.2.1 dX4_layIndexes_75 (lv_at hl 1 rfl) ?_
      refine lv_iload C.1 C.2.1 dX4_layIndexes_77 (lv_at hl 0 rfl) ?_
      refine lv_iload C.1 C.2.1 dX4_layIndexes_79 (lv_at hl 0 rfl) ?_
      refine lv_iconst (v := 4) C.1 C.2.1 dX4_layIndexes_81 (by decide) ?_
      refine lv_iadd C.1 C.2.1 dX4_layIndexes_82 ?_
      refine lv_iload_n C.1 C.2.1 dX4_layIndexes_83 rfl (lv_at hl 3 rfl) ?_
      refine sh_min C ml_X4_252 mb_min (by decide) hl.1 (Nat.le_of_ble_eq_true rfl) dX4_layIndexes_84 ?_
      refine sh_Vv (As := [.int y5, .int y6, .int (if v1 < (y6 + 4) then v1 else (y6 + 4))]) (rest := []) C hw (kX4_layRows l y5 y6 (if v1 < (y6 + 4) then v1 else (y6 + 4))) yy_X4_layRows yv_X4_layRows ml_X4_248 hf tbX_116 rfl rfl rfl rfl (Nat.le_of_ble_eq_true rfl) (by decide) hl.1 dX4_layIndexes_87 (fun S8 H locs hw hf => ?_)
      refine lv_aload_n C.1 C.2.1 dX4_layIndexes_90 rfl (lv_at hl 2 rfl) ?_
      refine sh_getr C hw fl_X4_36 tbX_116 rfl dX4_layIndexes_91 ?_
      refine lv_iconst (v := 0) C.1 C.2.1 dX4_layIndexes_94 (by decide) ?_
      refine lv_iload_n C.1 C.2.1 dX4_layIndexes_95 rfl (lv_at hl 5 rfl) ?_
      refine lv_aload_n C.1 C.2.1 dX4_layIndexes_96 rfl (lv_at hl 2 rfl) ?_
      refine lv_iload C.1 C.2.1 dX4_layIndexes_97 (lv_at hl 0 rfl) ?_
      refine sh_Vi (As := [.int y6]) (rest := [.int v3, .int 0, .ref (G.2.1 4)]) C hw (kX4_limitOfLaid l y6) yy_X4_limitOfLaid yv_X4_limitOfLaid ml_X4_258 hf tbX_116 rfl rfl rfl rfl (Nat.le_of_ble_eq_true rfl) (by decide) hl.1 dX4_layIndexes_99 (fun r11 S10 H locs hw hf => ?_)
      refine lv_aload_n C.1 C.2.1 dX4_layIndexes_102 rfl (lv_at hl 2 rfl) ?_
      refine sh_getr C hw fl_X4_28 tbX_116 rfl dX4_layIndexes_103 ?_
      refine lv_iload C.1 C.2.1 dX4_layIndexes_106 (lv_at hl 0 rfl) ?_
      refine lv_iconst (v := 4) C.1 C.2.1 dX4_layIndexes_108 (by decide) ?_
      refine lv_imul C.1 C.2.1 dX4_layIndexes_109 ?_
      refine sh_Vi (As := [.int (y6 * 4)]) (rest := [.int r11, .int v3, .int 0, .ref (G.2.1 4)]) C hw (kX6_markAt l (y6 * 4)) yy_X6_markAt yv_X6_markAt ml_X4_209 hf tbX_124 rfl rfl rfl rfl (Nat.le_of_ble_eq_true rfl) (by decide) hl.1 dX4_layIndexes_110 (fun r13 S12 H locs hw hf => ?_)
      refine lv_iload C.1 C.2.1 dX4_layIndexes_113 (lv_at hl 1 rfl) ?_
      refine sh_Vv (As := [.int 0, .int v3, .int r11, .int r13, .int y5]) (rest := []) C hw (kX7_insertRow l 0 v3 r11 r13 y5) yy_X7_insertRow yv_X7_insertRow ml_X4_226 hf tbX_4 rfl rfl rfl rfl (Nat.le_of_ble_eq_true rfl) (by decide) hl.1 dX4_layIndexes_115 (fun S14 H locs hw hf => ?_)
      obtain ⟨y16, ey16, hf⟩ := sh_nm hf
      refine lv_iinc (v := y16) (lv' := [(3, .int y16), (5, .int y6), (4, .int y5), (0, .ref (G.2.1 116)), (1, .int v1), (2, .int v2)]) C.1 C.2.1 dX4_layIndexes_118 hl (k := 5) rfl (by rw [← ey16]; rfl) (by decide) rfl (fun ls hl => ?_)
      refine lv_goto (tgt := 46) C.1 C.2.1 dX4_layIndexes_121 (by decide) ?_
      exact hr46 S14 v1 v2 y16 hf _ _ _ hw (lv_sub hl [3, 4, 5, 0] rfl)
def fX4_layIndexes (S : sh_St) (v1 : Int32) : Option (Unit × sh_St) :=
    sh_g 0 40 (sh_t (sh_I S 5 (0 : Int32).toNatClampNeg 2) fun S1 =>
    if 5 < v1 then (sh_t (sh_I S1 4 3 2) fun S2 =>
    sh_c (fX12_groupsOf S2 v1) fun r4 S3 =>
    fX4_layIndexes_46 sh_FU S3 v1 r4 0)
    else (sh_t (sh_I S1 4 3 1) fun S17 =>
    sh_c (fX4_layRows S17 0 0 v1) fun _ S18 =>
    some ((), S18)))
set_option maxRecDepth 100000 in
set_option maxHeartbeats 4000000 in
theorem kX4_layIndexes (l : Launch) (v1 : Int32) : sh_Mv l yX4_layIndexes cX4_layIndexes 6 4 tbX (fun G => [.ref (G.2.1 116), .int v1]) (fun S => fX4_layIndexes S v1) := by
  refine sh_mkv (by decide) (fun G => Nat.le_of_ble_eq_true rfl) ?_
  intro p e s m args below meth c G A S res ls hf C hr hw hl
  have C : sh_Cx p s m args meth c cX4_layIndexes 6 RX4 G A := C
  have hl : lv_has ls 6 [(0, .ref (G.2.1 116)), (1, .int v1)] := hl
  replace hf : fX4_layIndexes S v1 = some res := hf
  rw [fX4_layIndexes] at hf
  refine lv_aload_n C.1 C.2.1 dX4_layIndexes_0 rfl (lv_at hl 0 rfl) ?_
  refine sh_getr C hw fl_X4_36 tbX_116 rfl dX4_layIndexes_1 ?_
  refine sh_getr C hw fl_X4_78 tbX_4 rfl dX4_layIndexes_4 ?_
  refine lv_iconst (v := 0) C.1 C.2.1 dX4_layIndexes_7 (by decide) ?_
  refine lv_iconst (v := 2) C.1 C.2.1 dX4_layIndexes_8 (by decide) ?_
  refine sh_iast C hw hf tbX_5 dX4_layIndexes_9 (fun S1 H locs hw hf => ?_)
  refine lv_iload_n C.1 C.2.1 dX4_layIndexes_10 rfl (lv_at hl 1 rfl) ?_
  refine lv_iconst (v := 5) C.1 C.2.1 dX4_layIndexes_11 (by decide) ?_
  refine sh_icmp_gt (tgt := 31) C hf dX4_layIndexes_12 (by decide) (fun hf => ?_) (fun hf => ?_)
  · refine lv_aload_n C.1 C.2.1 dX4_layIndexes_31 rfl (lv_at hl 0 rfl) ?_
    refine sh_getr C hw fl_X4_36 tbX_116 rfl dX4_layIndexes_32 ?_
    refine lv_iconst (v := 2) C.1 C.2.1 dX4_layIndexes_35 (by decide) ?_
    refine sh_puti C hw fl_X4_140 fp_5_3 hf tbX_4 rfl dX4_layIndexes_36 (fun S2 H locs hw hf => ?_)
    refine lv_iload_n C.1 C.2.1 dX4_layIndexes_39 rfl (lv_at hl 1 rfl) ?_
    refine sh_Ni (As := [.int v1]) (rest := []) C hw (kX12_groupsOf l v1) yy_X12_groupsOf ys_X12_groupsOf nl_X4_242 hf rfl rfl rfl (Nat.le_of_ble_eq_true rfl) (by decide) hl.1 dX4_layIndexes_40 (fun r4 S3 H locs hw hf => ?_)
    refine lv_istore_n (lv' := [(2, .int r4), (0, .ref (G.2.1 116)), (1, .int v1)]) C.1 C.2.1 dX4_layIndexes_43 rfl hl (by decide) rfl (fun ls hl => ?_)
    refine lv_iconst (v := 0) C.1 C.2.1 dX4_layIndexes_44 (by decide) ?_
    refine lv_istore_n (lv' := [(3, .int 0), (2, .int r4), (0, .ref (G.2.1 116)), (1, .int v1)]) C.1 C.2.1 dX4_layIndexes_45 rfl hl (by decide) rfl (fun ls hl => ?_)
    exact wX4_layIndexes_46 C hr _ S3 v1 r4 0 hf _ _ _ hw (lv_sub hl [2, 3, 1, 0] rfl)
  · refine lv_aload_n C.1 C.2.1 dX4_layIndexes_15 rfl (lv_at hl 0 rfl) ?_
    refine sh_getr C hw fl_X4_36 tbX_116 rfl dX4_layIndexes_16 ?_
    refine lv_iconst (v := 1) C.1 C.2.1 dX4_layIndexes_19 (by decide) ?_
    refine sh_puti C hw fl_X4_140 fp_5_3 hf tbX_4 rfl dX4_layIndexes_20 (fun S17 H locs hw hf => ?_)
    refine lv_aload_n C.1 C.2.1 dX4_layIndexes_23 rfl (lv_at hl 0 rfl) ?_
    refine lv_iconst (v := 0) C.1 C.2.1 dX4_layIndexes_24 (by decide) ?_
    refine lv_iconst (v := 0) C.1 C.2.1 dX4_layIndexes_25 (by decide) ?_
    refine lv_iload_n C.1 C.2.1 dX4_layIndexes_26 rfl (lv_at hl 1 rfl) ?_
    refine sh_Vv (As := [.int 0, .int 0, .int v1]) (rest := []) C hw (kX4_layRows l 0 0 v1) yy_X4_layRows yv_X4_layRows ml_X4_248 hf tbX_116 rfl rfl rfl rfl (Nat.le_of_ble_eq_true rfl) (by decide) hl.1 dX4_layIndexes_27 (fun S18 H locs hw hf => ?_)
    exact sh_rv C hw hr hf dX4_layIndexes_30
def fX8_mateOf_105 (rk39 : sh_St → Int32 → Int32 → Int32 → Int32 → Int32 → Option (Int32 × sh_St)) (S : sh_St) (v1 : Int32) (v2 : Int32) (v3 : Int32) (v4 : Int32) (v5 : Int32) : Option (Int32 × sh_St) :=
    sh_t (v5 + 1) fun y7 =>
    rk39 S v1 v2 v3 v4 y7
set_option maxRecDepth 100000 in
set_option maxHeartbeats 4000000 in
theorem wX8_mateOf_105 {p : Program} {l : Launch} {e : Env} {s : State} {m : MethodId} {args : Array Value} {below : List Frame} {meth : Method} {c : Code} {G : sh_Ev} {A : Nat → Prop} {res : Int32 × sh_St} (C : sh_Cx p s m args meth c cX8_mateOf 7 RX8 G A) (hr : meth.sig.returnType = some .int) (rk39 : sh_St → Int32 → Int32 → Int32 → Int32 → Int32 → Option (Int32 × sh_St)) (hr39 : ∀ (S : sh_St) (v1 : Int32) (v2 : Int32) (v3 : Int32) (v4 : Int32) (v5 : Int32), rk39 S v1 v2 v3 v4 v5 = some res → ∀ (H : Heap) (locs : List Loc) (ls : Array Slot), sh_Wx G tbX A s H locs S → lv_has ls 7 [(0, .ref (G.2.1 128)), (1, .int v1), (2, .int v2), (3, .int v3), (4, .int v4), (5, .int v5)] → W p l e (sh_rm 5) s m args below meth c H locs 0 0 (sh_Qi below args s G tbX A res) (F0 m 39 ls [])) : ∀ (S : sh_St) (v1 : Int32) (v2 : Int32) (v3 : Int32) (v4 : Int32) (v5 : Int32), fX8_mateOf_105 rk39 S v1 v2 v3 v4 v5 = some res → ∀ (H : Heap) (locs : List Loc) (ls : Array Slot), sh_Wx G tbX A s H locs S → lv_has ls 7 [(0, .ref (G.2.1 128)), (1, .int v1), (2, .int v2), (3, .int v3), (4, .int v4), (5, .int v5)] → W p l e (sh_rm 5) s m args below meth c H locs 0 0 (sh_Qi below args s G tbX A res) (F0 m 105 ls []) := by
  intro S v1 v2 v3 v4 v5 hf H locs ls hw hl
  rw [fX8_mateOf_105] at hf
  obtain ⟨y7, ey7, hf⟩ := sh_nm hf
  refine lv_iinc (v := y7) (lv' := [(5, .int y7), (0, .ref (G.2.1 128)), (1, .int v1), (2, .int v2), (3, .int v3), (4, .int v4)]) C.1 C.2.1 dX8_mateOf_105 hl (k := 5) rfl (by rw [← ey7]; rfl) (by decide) rfl (fun ls hl => ?_)
  refine lv_goto (tgt := 39) C.1 C.2.1 dX8_mateOf_108 (by decide) ?_
  exact hr39 S v1 v2 v3 v4 y7 hf _ _ _ hw (lv_sub hl [1, 2, 3, 4, 5, 0] rfl)
def fX8_mateOf_67 (rk39 : sh_St → Int32 → Int32 → Int32 → Int32 → Int32 → Option (Int32 × sh_St)) (S : sh_St) (v1 : Int32) (v2 : Int32) (v3 : Int32) (v4 : Int32) (v5 : Int32) (t0 : Int32) : Option (Int32 × sh_St) :=
    if t0 = 0 then (fX8_mateOf_105 rk39 S v1 v2 v3 v4 v5)
    else (sh_c (fX8_twoLetters S (97 + v3) (97 + v5)) fun r9 S8 =>
    sh_c (fX4_look S8 r9) fun r11 S10 =>
    if r11 = (-1) then (some ((26 * v3) + v5, S10))
    else (fX8_mateOf_105 rk39 S10 v1 v2 v3 v4 v5))
set_option maxRecDepth 100000 in
set_option maxHeartbeats 4000000 in
theorem wX8_mateOf_67 {p : Program} {l : Launch} {e : Env} {s : State} {m : MethodId} {args : Array Value} {below : List Frame} {meth : Method} {c : Code} {G : sh_Ev} {A : Nat → Prop} {res : Int32 × sh_St} (C : sh_Cx p s m args meth c cX8_mateOf 7 RX8 G A) (hr : meth.sig.returnType = some .int) (rk39 : sh_St → Int32 → Int32 → Int32 → Int32 → Int32 → Option (Int32 × sh_St)) (hr39 : ∀ (S : sh_St) (v1 : Int32) (v2 : Int32) (v3 : Int32) (v4 : Int32) (v5 : Int32), rk39 S v1 v2 v3 v4 v5 = some res → ∀ (H : Heap) (locs : List Loc) (ls : Array Slot), sh_Wx G tbX A s H locs S → lv_has ls 7 [(0, .ref (G.2.1 128)), (1, .int v1), (2, .int v2), (3, .int v3), (4, .int v4), (5, .int v5)] → W p l e (sh_rm 5) s m args below meth c H locs 0 0 (sh_Qi below args s G tbX A res) (F0 m 39 ls [])) : ∀ (S : sh_St) (v1 : Int32) (v2 : Int32) (v3 : Int32) (v4 : Int32) (v5 : Int32) (t0 : Int32), fX8_mateOf_67 rk39 S v1 v2 v3 v4 v5 t0 = some res → ∀ (H : Heap) (locs : List Loc) (ls : Array Slot), sh_Wx G tbX A s H locs S → lv_has ls 7 [(0, .ref (G.2.1 128)), (1, .int v1), (2, .int v2), (3, .int v3), (4, .int v4), (5, .int v5)] → W p l e (sh_rm 5) s m args below meth c H locs 0 0 (sh_Qi below args s G tbX A res) (F0 m 67 ls [.int t0]) := by
  intro S v1 v2 v3 v4 v5 t0 hf H locs ls hw hl
  rw [fX8_mateOf_67] at hf
  refine lv_istore (lv' := [(6, .int t0), (0, .ref (G.2.1 128)), (1, .int v1), (2, .int v2), (3, .int v3), (4, .int v4), (5, .int v5)]) C.1 C.2.1 dX8_mateOf_67 hl (by decide) rfl (fun ls hl => ?_)
  refine lv_iload C.1 C.2.1 dX8_mateOf_69 (lv_at hl 0 rfl) ?_
  refine sh_if_eq (tgt := 105) C hf dX8_mateOf_71 (by decide) (fun hf => ?_) (fun hf => ?_)
  · exact wX8_mateOf_105 C hr rk39 hr39 S v1 v2 v3 v4 v5 hf _ _ _ hw (lv_sub hl [1, 2, 3, 4, 5, 6] rfl)
  · refine lv_aload_n C.1 C.2.1 dX8_mateOf_74 rfl (lv_at hl 1 rfl) ?_
    refine sh_getr C hw fl_X8_26 tbX_128 rfl dX8_mateOf_75 ?_
    refine lv_bipush (v := 97) C.1 C.2.1 dX8_mateOf_78 (by decide) ?_
    refine lv_iload_n C.1 C.2.1 dX8_mateOf_80 rfl (lv_at hl 4 rfl) ?_
    refine lv_iadd C.1 C.2.1 dX8_mateOf_81 ?_
    refine lv_bipush (v := 97) C.1 C.2.1 dX8_mateOf_82 (by decide) ?_
    refine lv_iload C.1 C.2.1 dX8_mateOf_84 (lv_at hl 6 rfl) ?_
    refine lv_iadd C.1 C.2.1 dX8_mateOf_86 ?_
    refine sh_Sl (As := [.int (97 + v3), .int (97 + v5)]) (rest := [.ref (G.2.1 116)]) C hw (kX8_twoLetters l (97 + v3) (97 + v5)) yy_X8_twoLetters ys_X8_twoLetters ml_X8_148 rfl hf rfl rfl rfl (Nat.le_of_ble_eq_true rfl) (by decide) hl.1 dX8_mateOf_87 (fun r9 S8 H locs hw hf => ?_)
    refine sh_Vi (As := [.long r9]) (rest := []) C hw (kX4_look l r9) yy_X4_look yv_X4_look ml_X8_152 hf tbX_116 rfl rfl rfl rfl (Nat.le_of_ble_eq_true rfl) (by decide) hl.1 dX8_mateOf_90 (fun r11 S10 H locs hw hf => ?_)
    refine lv_iconst (v := -1) C.1 C.2.1 dX8_mateOf_93 (by decide) ?_
    refine sh_icmp_ne (tgt := 105) C hf dX8_mateOf_94 (by decide) (fun hf => ?_) (fun hf => ?_)
    · exact wX8_mateOf_105 C hr rk39 hr39 S10 v1 v2 v3 v4 v5 hf _ _ _ hw (lv_sub hl [1, 2, 3, 4, 5, 6] rfl)
    · refine lv_bipush (v := 26) C.1 C.2.1 dX8_mateOf_97 (by decide) ?_
      refine lv_iload_n C.1 C.2.1 dX8_mateOf_99 rfl (lv_at hl 4 rfl) ?_
      refine lv_imul C.1 C.2.1 dX8_mateOf_100 ?_
      refine lv_iload C.1 C.2.1 dX8_mateOf_101 (lv_at hl 6 rfl) ?_
      refine lv_iadd C.1 C.2.1 dX8_mateOf_103 ?_
      exact sh_ri C hw hr hf dX8_mateOf_104
def fX8_mateOf_39 (rk14 : sh_St → Int32 → Int32 → Int32 → Option (Int32 × sh_St)) : Nat → sh_St → Int32 → Int32 → Int32 → Int32 → Int32 → Option (Int32 × sh_St)
  | 0, _, _, _, _, _, _ => none
  | n + 1, S, v1, v2, v3, v4, v5 =>
    if 26 ≤ v5 then (sh_t (v3 + 1) fun y4 =>
    rk14 S v1 v2 y4)
    else (sh_c (fX12_stirred S v4 (97 + v5)) fun r6 S5 =>
    if (r6 &&& v2) = v1 then (fX8_mateOf_67 (fX8_mateOf_39 rk14 n) S5 v1 v2 v3 v4 v5 1)
    else (fX8_mateOf_67 (fX8_mateOf_39 rk14 n) S5 v1 v2 v3 v4 v5 0))
set_option maxRecDepth 100000 in
set_option maxHeartbeats 4000000 in
theorem wX8_mateOf_39 {p : Program} {l : Launch} {e : Env} {s : State} {m : MethodId} {args : Array Value} {below : List Frame} {meth : Method} {c : Code} {G : sh_Ev} {A : Nat → Prop} {res : Int32 × sh_St} (C : sh_Cx p s m args meth c cX8_mateOf 7 RX8 G A) (hr : meth.sig.returnType = some .int) (rk14 : sh_St → Int32 → Int32 → Int32 → Option (Int32 × sh_St)) (hr14 : ∀ (S : sh_St) (v1 : Int32) (v2 : Int32) (v3 : Int32), rk14 S v1 v2 v3 = some res → ∀ (H : Heap) (locs : List Loc) (ls : Array Slot), sh_Wx G tbX A s H locs S → lv_has ls 7 [(0, .ref (G.2.1 128)), (1, .int v1), (2, .int v2), (3, .int v3)] → W p l e (sh_rm 5) s m args below meth c H locs 0 0 (sh_Qi below args s G tbX A res) (F0 m 14 ls [])) : ∀ (n : Nat) (S : sh_St) (v1 : Int32) (v2 : Int32) (v3 : Int32) (v4 : Int32) (v5 : Int32), fX8_mateOf_39 rk14 n S v1 v2 v3 v4 v5 = some res → ∀ (H : Heap) (locs : List Loc) (ls : Array Slot), sh_Wx G tbX A s H locs S → lv_has ls 7 [(0, .ref (G.2.1 128)), (1, .int v1), (2, .int v2), (3, .int v3), (4, .int v4), (5, .int v5)] → W p l e (sh_rm 5) s m args below meth c H locs 0 0 (sh_Qi below args s G tbX A res) (F0 m 39 ls []) := by
  intro n
  induction n with
  | zero => intro S v1 v2 v3 v4 v5 hf; exact nomatch (show (none : Option (Int32 × sh_St)) = some res from hf)
  | succ n ih =>
    intro S v1 v2 v3 v4 v5 hf H locs ls hw hl
    have hr39 := ih
    rw [fX8_mateOf_39] at hf
    refine lv_iload C.1 C.2.1 dX8_mateOf_39 (lv_at hl 5 rfl) ?_
    refine lv_bipush (v := 26) C.1 C.2.1 dX8_mateOf_41 (by decide) ?_
    refine sh_icmp_ge (tgt := 111) C hf dX8_mateOf_43 (by decide) (fun hf => ?_) (fun hf => ?_)
    · obtain ⟨y4, ey4, hf⟩ := sh_nm hf
      refine lv_iinc (v := y4) (lv' := [(3, .int y4), (0, .ref (G.2.1 128)), (1, .int v1), (2, .int v2), (4, .int v4), (5, .int v5)]) C.1 C.2.1 dX8_mateOf_111 hl (k := 3) rfl (by rw [← ey4]; rfl) (by decide) rfl (fun ls hl => ?_)
      refine lv_goto (tgt := 14) C.1 C.2.1 dX8_mateOf_114 (by decide) ?_
      exact hr14 S v1 v2 y4 hf _ _ _ hw (lv_sub hl [1, 2, 3, 0] rfl)
    · refine lv_iload C.1 C.2.1 dX8_mateOf_46 (lv_at hl 4 rfl) ?_
      refine lv_bipush (v := 97) C.1 C.2.1 dX8_mateOf_48 (by decide) ?_
      refine lv_iload C.1 C.2.1 dX8_mateOf_50 (lv_at hl 5 rfl) ?_
      refine lv_iadd C.1 C.2.1 dX8_mateOf_52 ?_
      refine sh_Ni (As := [.int v4, .int (97 + v5)]) (rest := []) C hw (kX12_stirred l v4 (97 + v5)) yy_X12_stirred ys_X12_stirred nl_X8_145 hf rfl rfl rfl (Nat.le_of_ble_eq_true rfl) (by decide) hl.1 dX8_mateOf_53 (fun r6 S5 H locs hw hf => ?_)
      refine lv_iload_n C.1 C.2.1 dX8_mateOf_56 rfl (lv_at hl 2 rfl) ?_
      refine lv_iand C.1 C.2.1 dX8_mateOf_57 ?_
      refine lv_iload_n C.1 C.2.1 dX8_mateOf_58 rfl (lv_at hl 1 rfl) ?_
      refine sh_icmp_ne (tgt := 66) C hf dX8_mateOf_59 (by decide) (fun hf => ?_) (fun hf => ?_)
      · refine lv_iconst (v := 0) C.1 C.2.1 dX8_mateOf_66 (by decide) ?_
        exact wX8_mateOf_67 C hr (fX8_mateOf_39 rk14 n) hr39 S5 v1 v2 v3 v4 v5 0 hf _ _ _ hw (lv_sub hl [0, 1, 2, 3, 4, 5] rfl)
      · refine lv_iconst (v := 1) C.1 C.2.1 dX8_mateOf_62 (by decide) ?_
        refine lv_goto (tgt := 67) C.1 C.2.1 dX8_mateOf_63 (by decide) ?_
        exact wX8_mateOf_67 C hr (fX8_mateOf_39 rk14 n) hr39 S5 v1 v2 v3 v4 v5 1 hf _ _ _ hw (lv_sub hl [0, 1, 2, 3, 4, 5] rfl)
def fX8_mateOf_14 : Nat → sh_St → Int32 → Int32 → Int32 → Option (Int32 × sh_St)
  | 0, _, _, _, _ => none
  | n + 1, S, v1, v2, v3 =>
    if 26 ≤ v3 then (some ((-1), S))
    else (sh_c (fX12_stirred S (S.1 4 1) (97 + v3)) fun r3 S2 =>
    fX8_mateOf_39 (fX8_mateOf_14 n) sh_FU S2 v1 v2 v3 r3 0)
set_option maxRecDepth 100000 in
set_option maxHeartbeats 4000000 in
theorem wX8_mateOf_14 {p : Program} {l : Launch} {e : Env} {s : State} {m : MethodId} {args : Array Value} {below : List Frame} {meth : Method} {c : Code} {G : sh_Ev} {A : Nat → Prop} {res : Int32 × sh_St} (C : sh_Cx p s m args meth c cX8_mateOf 7 RX8 G A) (hr : meth.sig.returnType = some .int) : ∀ (n : Nat) (S : sh_St) (v1 : Int32) (v2 : Int32) (v3 : Int32), fX8_mateOf_14 n S v1 v2 v3 = some res → ∀ (H : Heap) (locs : List Loc) (ls : Array Slot), sh_Wx G tbX A s H locs S → lv_has ls 7 [(0, .ref (G.2.1 128)), (1, .int v1), (2, .int v2), (3, .int v3)] → W p l e (sh_rm 5) s m args below meth c H locs 0 0 (sh_Qi below args s G tbX A res) (F0 m 14 ls []) := by
  intro n
  induction n with
  | zero => intro S v1 v2 v3 hf; exact nomatch (show (none : Option (Int32 × sh_St)) = some res from hf)
  | succ n ih =>
    intro S v1 v2 v3 hf H locs ls hw hl
    have hr14 := ih
    rw [fX8_mateOf_14] at hf
    refine lv_iload_n C.1 C.2.1 dX8_mateOf_14 rfl (lv_at hl 3 rfl) ?_
    refine lv_bipush (v := 26) C.1 C.2.1 dX8_mateOf_15 (by decide) ?_
    refine sh_icmp_ge (tgt := 117) C hf dX8_mateOf_17 (by decide) (fun hf => ?_) (fun hf => ?_)
    · refine lv_iconst (v := -1) C.1 C.2.1 dX8_mateOf_117 (by decide) ?_
      exact sh_ri C hw hr hf dX8_mateOf_118
    · refine lv_aload_n C.1 C.2.1 dX8_mateOf_20 rfl (lv_at hl 0 rfl) ?_
      refine sh_getr C hw fl_X8_22 tbX_128 rfl dX8_mateOf_21 ?_
      refine sh_geti C hw fl_X8_64 tbX_4 rfl dX8_mateOf_24 ?_
      refine lv_bipush (v := 97) C.1 C.2.1 dX8_mateOf_27 (by decide) ?_
      refine lv_iload_n C.1 C.2.1 dX8_mateOf_29 rfl (lv_at hl 3 rfl) ?_
      refine lv_iadd C.1 C.2.1 dX8_mateOf_30 ?_
      refine sh_Ni (As := [.int (S.1 4 1), .int (97 + v3)]) (rest := []) C hw (kX12_stirred l (S.1 4 1) (97 + v3)) yy_X12_stirred ys_X12_stirred nl_X8_145 hf rfl rfl rfl (Nat.le_of_ble_eq_true rfl) (by decide) hl.1 dX8_mateOf_31 (fun r3 S2 H locs hw hf => ?_)
      refine lv_istore (lv' := [(4, .int r3), (0, .ref (G.2.1 128)), (1, .int v1), (2, .int v2), (3, .int v3)]) C.1 C.2.1 dX8_mateOf_34 hl (by decide) rfl (fun ls hl => ?_)
      refine lv_iconst (v := 0) C.1 C.2.1 dX8_mateOf_36 (by decide) ?_
      refine lv_istore (lv' := [(5, .int 0), (4, .int r3), (0, .ref (G.2.1 128)), (1, .int v1), (2, .int v2), (3, .int v3)]) C.1 C.2.1 dX8_mateOf_37 hl (by decide) rfl (fun ls hl => ?_)
      exact wX8_mateOf_39 C hr (fX8_mateOf_14 n) hr14 _ S2 v1 v2 v3 r3 0 hf _ _ _ hw (lv_sub hl [2, 3, 4, 5, 1, 0] rfl)
def fX8_mateOf (S : sh_St) (v1 : Int32) : Option (Int32 × sh_St) :=
    sh_t ((1 <<< ((S.1 4 0) &&& 31)) - 1) fun y1 =>
    fX8_mateOf_14 sh_FU S v1 y1 0
set_option maxRecDepth 100000 in
set_option maxHeartbeats 4000000 in
theorem kX8_mateOf (l : Launch) (v1 : Int32) : sh_Mi l yX8_mateOf cX8_mateOf 7 .int 5 tbX (fun G => [.ref (G.2.1 128), .int v1]) (fun S => fX8_mateOf S v1) := by
  refine sh_mki (by decide) (fun G => Nat.le_of_ble_eq_true rfl) ?_
  intro p e s m args below meth c G A S res ls hf C hr hw hl
  have C : sh_Cx p s m args meth c cX8_mateOf 7 RX8 G A := C
  have hl : lv_has ls 7 [(0, .ref (G.2.1 128)), (1, .int v1)] := hl
  replace hf : fX8_mateOf S v1 = some res := hf
  rw [fX8_mateOf] at hf
  refine lv_iconst (v := 1) C.1 C.2.1 dX8_mateOf_0 (by decide) ?_
  refine lv_aload_n C.1 C.2.1 dX8_mateOf_1 rfl (lv_at hl 0 rfl) ?_
  refine sh_getr C hw fl_X8_22 tbX_128 rfl dX8_mateOf_2 ?_
  refine sh_geti C hw fl_X8_115 tbX_4 rfl dX8_mateOf_5 ?_
  refine lv_ishl C.1 C.2.1 dX8_mateOf_8 ?_
  refine lv_iconst (v := 1) C.1 C.2.1 dX8_mateOf_9 (by decide) ?_
  refine lv_isub C.1 C.2.1 dX8_mateOf_10 ?_
  refine sh_ni hf (fun y1 hf => ?_)
  refine lv_istore_n (lv' := [(2, .int y1), (0, .ref (G.2.1 128)), (1, .int v1)]) C.1 C.2.1 dX8_mateOf_11 rfl hl (by decide) rfl (fun ls hl => ?_)
  refine lv_iconst (v := 0) C.1 C.2.1 dX8_mateOf_12 (by decide) ?_
  refine lv_istore_n (lv' := [(3, .int 0), (2, .int y1), (0, .ref (G.2.1 128)), (1, .int v1)]) C.1 C.2.1 dX8_mateOf_13 rfl hl (by decide) rfl (fun ls hl => ?_)
  exact wX8_mateOf_14 C hr _ S v1 y1 0 hf _ _ _ hw (lv_sub hl [2, 3, 1, 0] rfl)
def fX4_layAnew_132 : Nat → sh_St → Int32 → Int32 → Option (Unit × sh_St)
  | 0, _, _, _ => none
  | n + 1, S, v1, v2 =>
    if v1 ≤ v2 then (sh_c (fX4_layIndexes S v1) fun _ S6 =>
    some ((), S6))
    else (sh_c (fX7_layLeaf S (1 + v2) (v2 * 4) ((v2 * 4) + 4)) fun _ S8 =>
    sh_t (v2 + 1) fun y10 =>
    (fX4_layAnew_132 n) S8 v1 y10)
set_option maxRecDepth 100000 in
set_option maxHeartbeats 4000000 in
theorem wX4_layAnew_132 {p : Program} {l : Launch} {e : Env} {s : State} {m : MethodId} {args : Array Value} {below : List Frame} {meth : Method} {c : Code} {G : sh_Ev} {A : Nat → Prop} {res : Unit × sh_St} (C : sh_Cx p s m args meth c cX4_layAnew 3 RX4 G A) (hr : meth.sig.returnType = none) : ∀ (n : Nat) (S : sh_St) (v1 : Int32) (v2 : Int32), fX4_layAnew_132 n S v1 v2 = some res → ∀ (H : Heap) (locs : List Loc) (ls : Array Slot), sh_Wx G tbX A s H locs S → lv_has ls 3 [(0, .ref (G.2.1 116)), (1, .int v1), (2, .int v2)] → W p l e (sh_rm 5) s m args below meth c H locs 0 0 (sh_Qv below args s G tbX A res) (F0 m 132 ls []) := by
  intro n
  induction n with
  | zero => intro S v1 v2 hf; exact nomatch (show (none : Option (Unit × sh_St)) = some res from hf)
  | succ n ih =>
    intro S v1 v2 hf H locs ls hw hl
    have hr132 := ih
    rw [fX4_layAnew_132] at hf
    refine lv_iload_n C.1 C.2.1 dX4_layAnew_132 rfl (lv_at hl 2 rfl) ?_
    refine lv_iload_n C.1 C.2.1 dX4_layAnew_133 rfl (lv_at hl 1 rfl) ?_
    refine sh_icmp_ge (tgt := 165) C hf dX4_layAnew_134 (by decide) (fun hf => ?_) (fun hf => ?_)
    · refine lv_aload_n C.1 C.2.1 dX4_layAnew_165 rfl (lv_at hl 0 rfl) ?_
      refine lv_iload_n C.1 C.2.1 dX4_layAnew_166 rfl (lv_at hl 1 rfl) ?_
      refine sh_Vv (As := [.int v1]) (rest := []) C hw (kX4_layIndexes l v1) yy_X4_layIndexes yv_X4_layIndexes ml_X4_245 hf tbX_116 rfl rfl rfl rfl (Nat.le_of_ble_eq_true rfl) (by decide) hl.1 dX4_layAnew_167 (fun S6 H locs hw hf => ?_)
      exact sh_rv C hw hr hf dX4_layAnew_170
    · refine lv_aload_n C.1 C.2.1 dX4_layAnew_137 rfl (lv_at hl 0 rfl) ?_
      refine sh_getr C hw fl_X4_36 tbX_116 rfl dX4_layAnew_138 ?_
      refine lv_iconst (v := 1) C.1 C.2.1 dX4_layAnew_141 (by decide) ?_
      refine lv_iload_n C.1 C.2.1 dX4_layAnew_142 rfl (lv_at hl 2 rfl) ?_
      refine lv_iadd C.1 C.2.1 dX4_layAnew_143 ?_
      refine lv_aload_n C.1 C.2.1 dX4_layAnew_144 rfl (lv_at hl 0 rfl) ?_
      refine sh_getr C hw fl_X4_28 tbX_116 rfl dX4_layAnew_145 ?_
      refine lv_iload_n C.1 C.2.1 dX4_layAnew_148 rfl (lv_at hl 2 rfl) ?_
      refine lv_iconst (v := 4) C.1 C.2.1 dX4_layAnew_149 (by decide) ?_
      refine lv_imul C.1 C.2.1 dX4_layAnew_150 ?_
      refine lv_iload_n C.1 C.2.1 dX4_layAnew_151 rfl (lv_at hl 2 rfl) ?_
      refine lv_iconst (v := 4) C.1 C.2.1 dX4_layAnew_152 (by decide) ?_
      refine lv_imul C.1 C.2.1 dX4_layAnew_153 ?_
      refine lv_iconst (v := 4) C.1 C.2.1 dX4_layAnew_154 (by decide) ?_
      refine lv_iadd C.1 C.2.1 dX4_layAnew_155 ?_
      refine sh_Vv (As := [.int (1 + v2), .ref (G.2.1 124), .int (v2 * 4), .int ((v2 * 4) + 4)]) (rest := []) C hw (kX7_layLeaf l (1 + v2) (v2 * 4) ((v2 * 4) + 4)) yy_X7_layLeaf yv_X7_layLeaf ml_X4_215 hf tbX_4 rfl rfl rfl rfl (Nat.le_of_ble_eq_true rfl) (by decide) hl.1 dX4_layAnew_156 (fun S8 H locs hw hf => ?_)
      obtain ⟨y10, ey10, hf⟩ := sh_nm hf
      refine lv_iinc (v := y10) (lv' := [(2, .int y10), (0, .ref (G.2.1 116)), (1, .int v1)]) C.1 C.2.1 dX4_layAnew_159 hl (k := 2) rfl (by rw [← ey10]; rfl) (by decide) rfl (fun ls hl => ?_)
      refine lv_goto (tgt := 132) C.1 C.2.1 dX4_layAnew_162 (by decide) ?_
      exact hr132 S8 v1 y10 hf _ _ _ hw (lv_sub hl [1, 2, 0] rfl)
def fX4_layAnew_72 (rk10 : sh_St → Int32 → Option (Unit × sh_St)) (S : sh_St) (v1 : Int32) : Option (Unit × sh_St) :=
    sh_t (v1 + 1) fun y14 =>
    rk10 S y14
set_option maxRecDepth 100000 in
set_option maxHeartbeats 4000000 in
theorem wX4_layAnew_72 {p : Program} {l : Launch} {e : Env} {s : State} {m : MethodId} {args : Array Value} {below : List Frame} {meth : Method} {c : Code} {G : sh_Ev} {A : Nat → Prop} {res : Unit × sh_St} (C : sh_Cx p s m args meth c cX4_layAnew 3 RX4 G A) (hr : meth.sig.returnType = none) (rk10 : sh_St → Int32 → Option (Unit × sh_St)) (hr10 : ∀ (S : sh_St) (v1 : Int32), rk10 S v1 = some res → ∀ (H : Heap) (locs : List Loc) (ls : Array Slot), sh_Wx G tbX A s H locs S → lv_has ls 3 [(0, .ref (G.2.1 116)), (1, .int v1)] → W p l e (sh_rm 5) s m args below meth c H locs 0 0 (sh_Qv below args s G tbX A res) (F0 m 10 ls [])) : ∀ (S : sh_St) (v1 : Int32), fX4_layAnew_72 rk10 S v1 = some res → ∀ (H : Heap) (locs : List Loc) (ls : Array Slot), sh_Wx G tbX A s H locs S → lv_has ls 3 [(0, .ref (G.2.1 116)), (1, .int v1)] → W p l e (sh_rm 5) s m args below meth c H locs 0 0 (sh_Qv below args s G tbX A res) (F0 m 72 ls []) := by
  intro S v1 hf H locs ls hw hl
  rw [fX4_layAnew_72] at hf
  obtain ⟨y14, ey14, hf⟩ := sh_nm hf
  refine lv_iinc (v := y14) (lv' := [(1, .int y14), (0, .ref (G.2.1 116))]) C.1 C.2.1 dX4_layAnew_72 hl (k := 1) rfl (by rw [← ey14]; rfl) (by decide) rfl (fun ls hl => ?_)
  refine lv_goto (tgt := 10) C.1 C.2.1 dX4_layAnew_75 (by decide) ?_
  exact hr10 S y14 hf _ _ _ hw (lv_sub hl [1, 0] rfl)
def fX4_layAnew_10 : Nat → sh_St → Int32 → Option (Unit × sh_St)
  | 0, _, _ => none
  | n + 1, S, v1 =>
    if 240 ≤ v1 then (sh_c (fX7_freeAll S ) fun _ S2 =>
    sh_c (fX12_groupsOf S2 (S2.1 124 3)) fun r5 S4 =>
    if 1 < r5 then (fX4_layAnew_132 sh_FU S4 r5 0)
    else (sh_t (sh_I S4 4 3 0) fun S11 =>
    sh_c (fX7_layLeaf S11 0 0 (S11.1 124 3)) fun _ S12 =>
    some ((), S12)))
    else (sh_g v1 240 (if (S.2 8 v1.toNatClampNeg) = 0 then (fX4_layAnew_72 (fX4_layAnew_10 n) S v1)
    else (sh_g v1 240 (sh_g v1 240 (sh_g v1 240 (sh_c (fX7_hashOf S (S.2 8 v1.toNatClampNeg)) fun r16 S15 =>
    sh_c (fX6_add S15 (S.2 8 v1.toNatClampNeg) (S.1 9 v1.toNatClampNeg) r16) fun _ S17 =>
    fX4_layAnew_72 (fX4_layAnew_10 n) S17 v1))))))
set_option maxRecDepth 100000 in
set_option maxHeartbeats 4000000 in
theorem wX4_layAnew_10 {p : Program} {l : Launch} {e : Env} {s : State} {m : MethodId} {args : Array Value} {below : List Frame} {meth : Method} {c : Code} {G : sh_Ev} {A : Nat → Prop} {res : Unit × sh_St} (C : sh_Cx p s m args meth c cX4_layAnew 3 RX4 G A) (hr : meth.sig.returnType = none) : ∀ (n : Nat) (S : sh_St) (v1 : Int32), fX4_layAnew_10 n S v1 = some res → ∀ (H : Heap) (locs : List Loc) (ls : Array Slot), sh_Wx G tbX A s H locs S → lv_has ls 3 [(0, .ref (G.2.1 116)), (1, .int v1)] → W p l e (sh_rm 5) s m args below meth c H locs 0 0 (sh_Qv below args s G tbX A res) (F0 m 10 ls []) := by
  intro n
  induction n with
  | zero => intro S v1 hf; exact nomatch (show (none : Option (Unit × sh_St)) = some res from hf)
  | succ n ih =>
    intro S v1 hf H locs ls hw hl
    have hr10 := ih
    rw [fX4_layAnew_10] at hf
    refine lv_iload_n C.1 C.2.1 dX4_layAnew_10 rfl (lv_at hl 1 rfl) ?_
    refine lv_sipush (v := 240) C.1 C.2.1 dX4_layAnew_11 (by decide) ?_
    refine sh_icmp_ge (tgt := 78) C hf dX4_layAnew_14 (by decide) (fun hf => ?_) (fun hf => ?_)
    · refine lv_aload_n C.1 C.2.1 dX4_layAnew_78 rfl (lv_at hl 0 rfl) ?_
      refine sh_getr C hw fl_X4_36 tbX_116 rfl dX4_layAnew_79 ?_
      refine sh_Vv (As := []) (rest := []) C hw (kX7_freeAll l ) yy_X7_freeAll yv_X7_freeAll ml_X4_239 hf tbX_4 rfl rfl rfl rfl (Nat.le_of_ble_eq_true rfl) (by decide) hl.1 dX4_layAnew_82 (fun S2 H locs hw hf => ?_)
      refine lv_aload_n C.1 C.2.1 dX4_layAnew_85 rfl (lv_at hl 0 rfl) ?_
      refine sh_getr C hw fl_X4_28 tbX_116 rfl dX4_layAnew_86 ?_
      refine sh_geti C hw fl_X4_129 tbX_124 rfl dX4_layAnew_89 ?_
      refine sh_Ni (As := [.int (S2.1 124 3)]) (rest := []) C hw (kX12_groupsOf l (S2.1 124 3)) yy_X12_groupsOf ys_X12_groupsOf nl_X4_242 hf rfl rfl rfl (Nat.le_of_ble_eq_true rfl) (by decide) hl.1 dX4_layAnew_92 (fun r5 S4 H locs hw hf => ?_)
      refine lv_istore_n (lv' := [(1, .int r5), (0, .ref (G.2.1 116))]) C.1 C.2.1 dX4_layAnew_95 rfl hl (by decide) rfl (fun ls hl => ?_)
      refine lv_iload_n C.1 C.2.1 dX4_layAnew_96 rfl (lv_at hl 0 rfl) ?_
      refine lv_iconst (v := 1) C.1 C.2.1 dX4_layAnew_97 (by decide) ?_
      refine sh_icmp_gt (tgt := 130) C hf dX4_layAnew_98 (by decide) (fun hf => ?_) (fun hf => ?_)
      · refine lv_iconst (v := 0) C.1 C.2.1 dX4_layAnew_130 (by decide) ?_
        refine lv_istore_n (lv' := [(2, .int 0), (1, .int r5), (0, .ref (G.2.1 116))]) C.1 C.2.1 dX4_layAnew_131 rfl hl (by decide) rfl (fun ls hl => ?_)
        exact wX4_layAnew_132 C hr _ S4 r5 0 hf _ _ _ hw (lv_sub hl [2, 1, 0] rfl)
      · refine lv_aload_n C.1 C.2.1 dX4_layAnew_101 rfl (lv_at hl 1 rfl) ?_
        refine sh_getr C hw fl_X4_36 tbX_116 rfl dX4_layAnew_102 ?_
        refine lv_iconst (v := 0) C.1 C.2.1 dX4_layAnew_105 (by decide) ?_
        refine sh_puti C hw fl_X4_140 fp_5_3 hf tbX_4 rfl dX4_layAnew_106 (fun S11 H locs hw hf => ?_)
        refine lv_aload_n C.1 C.2.1 dX4_layAnew_109 rfl (lv_at hl 1 rfl) ?_
        refine sh_getr C hw fl_X4_36 tbX_116 rfl dX4_layAnew_110 ?_
        refine lv_iconst (v := 0) C.1 C.2.1 dX4_layAnew_113 (by decide) ?_
        refine lv_aload_n C.1 C.2.1 dX4_layAnew_114 rfl (lv_at hl 1 rfl) ?_
        refine sh_getr C hw fl_X4_28 tbX_116 rfl dX4_layAnew_115 ?_
        refine lv_iconst (v := 0) C.1 C.2.1 dX4_layAnew_118 (by decide) ?_
        refine lv_aload_n C.1 C.2.1 dX4_layAnew_119 rfl (lv_at hl 1 rfl) ?_
        refine sh_getr C hw fl_X4_28 tbX_116 rfl dX4_layAnew_120 ?_
        refine sh_geti C hw fl_X4_129 tbX_124 rfl dX4_layAnew_123 ?_
        refine sh_Vv (As := [.int 0, .ref (G.2.1 124), .int 0, .int (S11.1 124 3)]) (rest := []) C hw (kX7_layLeaf l 0 0 (S11.1 124 3)) yy_X7_layLeaf yv_X7_layLeaf ml_X4_215 hf tbX_4 rfl rfl rfl rfl (Nat.le_of_ble_eq_true rfl) (by decide) hl.1 dX4_layAnew_126 (fun S12 H locs hw hf => ?_)
        exact sh_rv C hw hr hf dX4_layAnew_129
    · refine lv_aload_n C.1 C.2.1 dX4_layAnew_17 rfl (lv_at hl 0 rfl) ?_
      refine sh_getr C hw fl_X4_36 tbX_116 rfl dX4_layAnew_18 ?_
      refine sh_getr C hw fl_X4_81 tbX_4 rfl dX4_layAnew_21 ?_
      refine lv_iload_n C.1 C.2.1 dX4_layAnew_24 rfl (lv_at hl 1 rfl) ?_
      refine sh_lald C hw hf tbX_8 dX4_layAnew_25 (fun hf => ?_)
      refine lv_lconst (v := 0) C.1 C.2.1 dX4_layAnew_26 (by decide) ?_
      refine sh_lcmp_eq (tgt := 72) C hf dX4_layAnew_27 dX4_layAnew_28 (by decide) (fun hf => ?_) (fun hf => ?_)
      · exact wX4_layAnew_72 C hr (fX4_layAnew_10 n) hr10 S v1 hf _ _ _ hw (lv_sub hl [0, 1] rfl)
      · refine lv_aload_n C.1 C.2.1 dX4_layAnew_31 rfl (lv_at hl 0 rfl) ?_
        refine sh_getr C hw fl_X4_28 tbX_116 rfl dX4_layAnew_32 ?_
        refine lv_aload_n C.1 C.2.1 dX4_layAnew_35 rfl (lv_at hl 0 rfl) ?_
        refine sh_getr C hw fl_X4_36 tbX_116 rfl dX4_layAnew_36 ?_
        refine sh_getr C hw fl_X4_81 tbX_4 rfl dX4_layAnew_39 ?_
        refine lv_iload_n C.1 C.2.1 dX4_layAnew_42 rfl (lv_at hl 1 rfl) ?_
        refine sh_lald C hw hf tbX_8 dX4_layAnew_43 (fun hf => ?_)
        refine lv_aload_n C.1 C.2.1 dX4_layAnew_44 rfl (lv_at hl 0 rfl) ?_
        refine sh_getr C hw fl_X4_36 tbX_116 rfl dX4_layAnew_45 ?_
        refine sh_getr C hw fl_X4_96 tbX_4 rfl dX4_layAnew_48 ?_
        refine lv_iload_n C.1 C.2.1 dX4_layAnew_51 rfl (lv_at hl 1 rfl) ?_
        refine sh_iald C hw hf tbX_9 dX4_layAnew_52 (fun hf => ?_)
        refine lv_aload_n C.1 C.2.1 dX4_layAnew_53 rfl (lv_at hl 0 rfl) ?_
        refine sh_getr C hw fl_X4_36 tbX_116 rfl dX4_layAnew_54 ?_
        refine lv_aload_n C.1 C.2.1 dX4_layAnew_57 rfl (lv_at hl 0 rfl) ?_
        refine sh_getr C hw fl_X4_36 tbX_116 rfl dX4_layAnew_58 ?_
        refine sh_getr C hw fl_X4_81 tbX_4 rfl dX4_layAnew_61 ?_
        refine lv_iload_n C.1 C.2.1 dX4_layAnew_64 rfl (lv_at hl 1 rfl) ?_
        refine sh_lald C hw hf tbX_8 dX4_layAnew_65 (fun hf => ?_)
        refine sh_Vi (As := [.long (S.2 8 v1.toNatClampNeg)]) (rest := [.int (S.1 9 v1.toNatClampNeg), .long (S.2 8 v1.toNatClampNeg), .ref (G.2.1 124)]) C hw (kX7_hashOf l (S.2 8 v1.toNatClampNeg)) yy_X7_hashOf yv_X7_hashOf ml_X4_58 hf tbX_4 rfl rfl rfl rfl (Nat.le_of_ble_eq_true rfl) (by decide) hl.1 dX4_layAnew_66 (fun r16 S15 H locs hw hf => ?_)
        refine sh_Vv (As := [.long (S.2 8 v1.toNatClampNeg), .int (S.1 9 v1.toNatClampNeg), .int r16]) (rest := []) C hw (kX6_add l (S.2 8 v1.toNatClampNeg) (S.1 9 v1.toNatClampNeg) r16) yy_X6_add yv_X6_add ml_X4_132 hf tbX_124 rfl rfl rfl rfl (Nat.le_of_ble_eq_true rfl) (by decide) hl.1 dX4_layAnew_69 (fun S17 H locs hw hf => ?_)
        exact wX4_layAnew_72 C hr (fX4_layAnew_10 n) hr10 S17 v1 hf _ _ _ hw (lv_sub hl [0, 1] rfl)
def fX4_layAnew (S : sh_St) : Option (Unit × sh_St) :=
    sh_t (sh_I S 124 3 0) fun S1 =>
    fX4_layAnew_10 sh_FU S1 0
set_option maxRecDepth 100000 in
set_option maxHeartbeats 4000000 in
theorem kX4_layAnew (l : Launch) : sh_Mv l yX4_layAnew cX4_layAnew 3 5 tbX (fun G => [.ref (G.2.1 116)]) (fun S => fX4_layAnew S) := by
  refine sh_mkv (by decide) (fun G => Nat.le_of_ble_eq_true rfl) ?_
  intro p e s m args below meth c G A S res ls hf C hr hw hl
  have C : sh_Cx p s m args meth c cX4_layAnew 3 RX4 G A := C
  have hl : lv_has ls 3 [(0, .ref (G.2.1 116))] := hl
  replace hf : fX4_layAnew S = some res := hf
  rw [fX4_layAnew] at hf
  refine lv_aload_n C.1 C.2.1 dX4_layAnew_0 rfl (lv_at hl 0 rfl) ?_
  refine sh_getr C hw fl_X4_28 tbX_116 rfl dX4_layAnew_1 ?_
  refine lv_iconst (v := 0) C.1 C.2.1 dX4_layAnew_4 (by decide) ?_
  refine sh_puti C hw fl_X4_129 fp_4_3 hf tbX_124 rfl dX4_layAnew_5 (fun S1 H locs hw hf => ?_)
  refine lv_iconst (v := 0) C.1 C.2.1 dX4_layAnew_8 (by decide) ?_
  refine lv_istore_n (lv' := [(1, .int 0), (0, .ref (G.2.1 116))]) C.1 C.2.1 dX4_layAnew_9 rfl hl (by decide) rfl (fun ls hl => ?_)
  exact wX4_layAnew_10 C hr _ S1 0 hf _ _ _ hw (lv_sub hl [1, 0] rfl)
