def fX12_undo (S : sh_St) : Option ((Int32 ⊕ String) × sh_St) :=
    if (S.1 34 1) = 0 then (some (.inr "java/lang/IllegalStateException", S))
    else (sh_c (fX3_takeBack S ) fun _ S1 =>
    some (.inl (S1.1 34 1), S1))
set_option maxRecDepth 100000 in
set_option maxHeartbeats 4000000 in
theorem kX12_undo (l : Launch) (hst : l.stackTraces = false) : sh_Ti l yX12_undo cX12_undo 1 .int 10 1 6 tbX (fun G => [.ref (G.2.1 0)]) (fun S => fX12_undo S) := by
  refine sh_mkti (by decide) (fun G => Nat.le_of_ble_eq_true rfl) ?_
  intro p e s m args below meth c G A S res ls hf C hr hno hw hl
  have C : sh_Cx p s m args meth c cX12_undo 1 RX12 G A := C
  have hl : lv_has ls 1 [(0, .ref (G.2.1 0))] := hl
  replace hf : fX12_undo S = some res := hf
  rw [fX12_undo] at hf
  refine lv_aload_n C.1 C.2.1 dX12_undo_0 rfl (lv_at hl 0 rfl) ?_
  refine sh_getr C hw fl_X12_41 tbX_0 rfl dX12_undo_1 ?_
  refine sh_geti C hw fl_X12_186 tbX_34 rfl dX12_undo_4 ?_
  refine sh_if_ne (tgt := 20) C hf dX12_undo_7 (by decide) (fun hf => ?_) (fun hf => ?_)
  · refine lv_aload_n C.1 C.2.1 dX12_undo_20 rfl (lv_at hl 0 rfl) ?_
    refine sh_getr C hw fl_X12_41 tbX_0 rfl dX12_undo_21 ?_
    refine lv_aload_n C.1 C.2.1 dX12_undo_24 rfl (lv_at hl 0 rfl) ?_
    refine sh_getr C hw fl_X12_28 tbX_0 rfl dX12_undo_25 ?_
    refine sh_xVv (As := [.ref (G.2.1 4)]) (rest := []) C hw (kX3_takeBack l ) yy_X3_takeBack yv_X3_takeBack ml_X12_194 hf tbX_34 rfl rfl rfl rfl (Nat.le_of_ble_eq_true rfl) (by decide) (by decide) (by decide) hl.1 dX12_undo_28 (fun S1 H locs hw hf => ?_)
    refine lv_aload_n C.1 C.2.1 dX12_undo_31 rfl (lv_at hl 0 rfl) ?_
    refine sh_getr C hw fl_X12_41 tbX_0 rfl dX12_undo_32 ?_
    refine sh_geti C hw fl_X12_186 tbX_34 rfl dX12_undo_35 ?_
    exact sh_tri C hw hr hf (by decide) (by decide) dX12_undo_38
  · exact sh_thri hst C hw hno (tx_IS (text := "no ACT is remembered") (by decide +kernel)) hf (by decide) (by decide) (by decide) hl.1 (Nat.le_of_ble_eq_true rfl) dX12_undo_10 dX12_undo_13 dX12_undo_14 dX12_undo_16 dX12_undo_19
def fX12_block (S : sh_St) (v1 : Int32) (v2 : Int32) : Option ((Int32 ⊕ String) × sh_St) :=
    sh_c (fX12_isBlock S v1) fun r2 S1 =>
    if r2 = 0 then (some (.inr "java/lang/IndexOutOfBoundsException", S1))
    else (if v2 = 0 then (sh_g v1 40 (some (.inl (S1.1 5 v1.toNatClampNeg), S1)))
    else (if v2 = 1 then (sh_g v1 40 (if (S1.1 5 v1.toNatClampNeg) = 2 then (sh_g v1 40 (some (.inl (S1.1 6 v1.toNatClampNeg), S1)))
    else (sh_c (fX7_entriesIn S1 v1) fun r4 S3 =>
    some (.inl r4, S3))))
    else (if v2 = 2 then (sh_g v1 40 (some (.inl (S1.1 7 v1.toNatClampNeg), S1)))
    else (some (.inr "java/util/NoSuchElementException", S1)))))
set_option maxRecDepth 100000 in
set_option maxHeartbeats 4000000 in
theorem kX12_block (l : Launch) (hst : l.stackTraces = false) (v1 : Int32) (v2 : Int32) : sh_Ti l yX12_block cX12_block 3 .int 10 1 6 tbX (fun G => [.ref (G.2.1 0), .int v1, .int v2]) (fun S => fX12_block S v1 v2) := by
  refine sh_mkti (by decide) (fun G => Nat.le_of_ble_eq_true rfl) ?_
  intro p e s m args below meth c G A S res ls hf C hr hno hw hl
  have C : sh_Cx p s m args meth c cX12_block 3 RX12 G A := C
  have hl : lv_has ls 3 [(0, .ref (G.2.1 0)), (1, .int v1), (2, .int v2)] := hl
  replace hf : fX12_block S v1 v2 = some res := hf
  rw [fX12_block] at hf
  refine lv_iload_n C.1 C.2.1 dX12_block_0 rfl (lv_at hl 1 rfl) ?_
  refine sh_xSi (As := [.int v1]) (rest := []) C hw (kX12_isBlock l v1) yy_X12_isBlock ys_X12_isBlock ml_X12_174 rfl hf rfl rfl rfl (Nat.le_of_ble_eq_true rfl) (by decide) (by decide) (by decide) hl.1 dX12_block_1 (fun r2 S1 H locs hw hf => ?_)
  refine sh_if_ne (tgt := 17) C hf dX12_block_4 (by decide) (fun hf => ?_) (fun hf => ?_)
  · refine lv_iload_n C.1 C.2.1 dX12_block_17 rfl (lv_at hl 2 rfl) ?_
    by_cases h18_0 : v2 = 0
    · replace hf := (sh_if hf).1 h18_0
      refine sh_swIn (off := 26) (tgt := 44) C h18_0 dX12_block_18 (by decide) (by decide) (by decide) (by decide) ?_
      refine lv_aload_n C.1 C.2.1 dX12_block_44 rfl (lv_at hl 0 rfl) ?_
      refine sh_getr C hw fl_X12_28 tbX_0 rfl dX12_block_45 ?_
      refine sh_getr C hw fl_X12_221 tbX_4 rfl dX12_block_48 ?_
      refine lv_iload_n C.1 C.2.1 dX12_block_51 rfl (lv_at hl 1 rfl) ?_
      refine sh_iald C hw hf tbX_5 dX12_block_52 (fun hf => ?_)
      exact sh_tri C hw hr hf (by decide) (by decide) dX12_block_53
    · replace hf := (sh_if hf).2 h18_0
      by_cases h18_1 : v2 = 1
      · replace hf := (sh_if hf).1 h18_1
        refine sh_swIn (off := 36) (tgt := 54) C h18_1 dX12_block_18 (by decide) (by decide) (by decide) (by decide) ?_
        refine lv_aload_n C.1 C.2.1 dX12_block_54 rfl (lv_at hl 0 rfl) ?_
        refine sh_getr C hw fl_X12_28 tbX_0 rfl dX12_block_55 ?_
        refine sh_getr C hw fl_X12_221 tbX_4 rfl dX12_block_58 ?_
        refine lv_iload_n C.1 C.2.1 dX12_block_61 rfl (lv_at hl 1 rfl) ?_
        refine sh_iald C hw hf tbX_5 dX12_block_62 (fun hf => ?_)
        refine lv_iconst (v := 2) C.1 C.2.1 dX12_block_63 (by decide) ?_
        refine sh_icmp_ne (tgt := 79) C hf dX12_block_64 (by decide) (fun hf => ?_) (fun hf => ?_)
        · refine lv_aload_n C.1 C.2.1 dX12_block_79 rfl (lv_at hl 0 rfl) ?_
          refine sh_getr C hw fl_X12_28 tbX_0 rfl dX12_block_80 ?_
          refine lv_iload_n C.1 C.2.1 dX12_block_83 rfl (lv_at hl 1 rfl) ?_
          refine sh_xVi (As := [.int v1]) (rest := []) C hw (kX7_entriesIn l v1) yy_X7_entriesIn yv_X7_entriesIn ml_X12_228 hf tbX_4 rfl rfl rfl rfl (Nat.le_of_ble_eq_true rfl) (by decide) (by decide) (by decide) hl.1 dX12_block_84 (fun r4 S3 H locs hw hf => ?_)
          exact sh_tri C hw hr hf (by decide) (by decide) dX12_block_87
        · refine lv_aload_n C.1 C.2.1 dX12_block_67 rfl (lv_at hl 0 rfl) ?_
          refine sh_getr C hw fl_X12_28 tbX_0 rfl dX12_block_68 ?_
          refine sh_getr C hw fl_X12_225 tbX_4 rfl dX12_block_71 ?_
          refine lv_iload_n C.1 C.2.1 dX12_block_74 rfl (lv_at hl 1 rfl) ?_
          refine sh_iald C hw hf tbX_6 dX12_block_75 (fun hf => ?_)
          refine lv_goto (tgt := 87) C.1 C.2.1 dX12_block_76 (by decide) ?_
          exact sh_tri C hw hr hf (by decide) (by decide) dX12_block_87
      · replace hf := (sh_if hf).2 h18_1
        by_cases h18_2 : v2 = 2
        · replace hf := (sh_if hf).1 h18_2
          refine sh_swIn (off := 70) (tgt := 88) C h18_2 dX12_block_18 (by decide) (by decide) (by decide) (by decide) ?_
          refine lv_aload_n C.1 C.2.1 dX12_block_88 rfl (lv_at hl 0 rfl) ?_
          refine sh_getr C hw fl_X12_28 tbX_0 rfl dX12_block_89 ?_
          refine sh_getr C hw fl_X12_231 tbX_4 rfl dX12_block_92 ?_
          refine lv_iload_n C.1 C.2.1 dX12_block_95 rfl (lv_at hl 1 rfl) ?_
          refine sh_iald C hw hf tbX_7 dX12_block_96 (fun hf => ?_)
          exact sh_tri C hw hr hf (by decide) (by decide) dX12_block_97
        · replace hf := (sh_if hf).2 h18_2
          refine sh_swOut (tgt := 98) C (by have a0 := sh_neI (z := 0) h18_0 (by decide); have a1 := sh_neI (z := 1) h18_1 (by decide); have a2 := sh_neI (z := 2) h18_2 (by decide); omega) dX12_block_18 (by decide) ?_
          exact sh_thrNS (text := "no such what") hst C hw hno (by decide +kernel) hf (by decide) (by decide) (by decide) hl.1 (Nat.le_of_ble_eq_true rfl) dX12_block_98 dX12_block_101 dX12_block_102 dX12_block_104 dX12_block_107
  · exact sh_thri hst C hw hno (tx_IO (text := "no such BLOCK") (by decide +kernel)) hf (by decide) (by decide) (by decide) hl.1 (Nat.le_of_ble_eq_true rfl) dX12_block_7 dX12_block_10 dX12_block_11 dX12_block_13 dX12_block_16
def fX12_entry_14 (S : sh_St) : Option ((Int32 ⊕ String) × sh_St) :=
    some (.inr "java/lang/IndexOutOfBoundsException", S)
set_option maxRecDepth 100000 in
set_option maxHeartbeats 4000000 in
theorem wX12_entry_14 {p : Program} {l : Launch} {e : Env} {s : State} {m : MethodId} {args : Array Value} {below : List Frame} {meth : Method} {c : Code} {G : sh_Ev} {A : Nat → Prop} {res : (Int32 ⊕ String) × sh_St} (hst : l.stackTraces = false) (hno : ∀ x ∈ c.exceptionTable.toList, False) (C : sh_Cx p s m args meth c cX12_entry 7 RX12 G A) (hr : meth.sig.returnType = some .int) : ∀ (S : sh_St), fX12_entry_14 S = some res → ∀ (H : Heap) (locs : List Loc) (ls : Array Slot), sh_Wx G tbX A s H locs S → lv_has ls 7 [] → W p l e (sh_rx 10 1 6) s m args below meth c H locs 0 0 (sh_Qti below args s G tbX A 1 6 res) (F0 m 14 ls []) := by
  intro S hf H locs ls hw hl
  rw [fX12_entry_14] at hf
  exact sh_thri hst C hw hno (tx_IO (text := "no such BLOCK, or no such SLOT") (by decide +kernel)) hf (by decide) (by decide) (by decide) hl.1 (Nat.le_of_ble_eq_true rfl) dX12_entry_14 dX12_entry_17 dX12_entry_18 dX12_entry_20 dX12_entry_23
def fX12_entry_33 (S : sh_St) : Option ((Int32 ⊕ String) × sh_St) :=
    some (.inr "java/util/NoSuchElementException", S)
set_option maxRecDepth 100000 in
set_option maxHeartbeats 4000000 in
theorem wX12_entry_33 {p : Program} {l : Launch} {e : Env} {s : State} {m : MethodId} {args : Array Value} {below : List Frame} {meth : Method} {c : Code} {G : sh_Ev} {A : Nat → Prop} {res : (Int32 ⊕ String) × sh_St} (hst : l.stackTraces = false) (hno : ∀ x ∈ c.exceptionTable.toList, False) (C : sh_Cx p s m args meth c cX12_entry 7 RX12 G A) (hr : meth.sig.returnType = some .int) : ∀ (S : sh_St), fX12_entry_33 S = some res → ∀ (H : Heap) (locs : List Loc) (ls : Array Slot), sh_Wx G tbX A s H locs S → lv_has ls 7 [] → W p l e (sh_rx 10 1 6) s m args below meth c H locs 0 0 (sh_Qti below args s G tbX A 1 6 res) (F0 m 33 ls []) := by
  intro S hf H locs ls hw hl
  rw [fX12_entry_33] at hf
  exact sh_thrNS (text := "no such what") hst C hw hno (by decide +kernel) hf (by decide) (by decide) (by decide) hl.1 (Nat.le_of_ble_eq_true rfl) dX12_entry_33 dX12_entry_36 dX12_entry_37 dX12_entry_39 dX12_entry_42
def fX12_entry (S : sh_St) (v1 : Int32) (v2 : Int32) (v3 : Int32) : Option ((Int32 ⊕ String) × sh_St) :=
    sh_c (fX12_isBlock S v1) fun r2 S1 =>
    if r2 = 0 then (fX12_entry_14 S1)
    else (sh_c (fX12_isSlot S1 v2) fun r4 S3 =>
    if r4 = 0 then (fX12_entry_14 S3)
    else (if v3 < 0 then (fX12_entry_33 S3)
    else (if v3 ≤ 2 then (sh_t ((v1 * 6) + v2) fun y5 =>
    sh_g y5 240 (sh_t (S3.2 8 y5.toNatClampNeg) fun y6 =>
    if y6 = 0 then (some (.inl (-1), S3))
    else (if v3 = 0 then (sh_g y5 240 (some (.inl (S3.1 9 y5.toNatClampNeg), S3)))
    else (if v3 = 1 then (sh_g y5 240 (some (.inl (S3.1 10 y5.toNatClampNeg), S3)))
    else (sh_c (fX12_lettersOf S3 y6) fun r8 S7 =>
    some (.inl r8, S7))))))
    else (fX12_entry_33 S3))))
set_option maxRecDepth 100000 in
set_option maxHeartbeats 4000000 in
theorem kX12_entry (l : Launch) (hst : l.stackTraces = false) (v1 : Int32) (v2 : Int32) (v3 : Int32) : sh_Ti l yX12_entry cX12_entry 7 .int 10 1 6 tbX (fun G => [.ref (G.2.1 0), .int v1, .int v2, .int v3]) (fun S => fX12_entry S v1 v2 v3) := by
  refine sh_mkti (by decide) (fun G => Nat.le_of_ble_eq_true rfl) ?_
  intro p e s m args below meth c G A S res ls hf C hr hno hw hl
  have C : sh_Cx p s m args meth c cX12_entry 7 RX12 G A := C
  have hl : lv_has ls 7 [(0, .ref (G.2.1 0)), (1, .int v1), (2, .int v2), (3, .int v3)] := hl
  replace hf : fX12_entry S v1 v2 v3 = some res := hf
  rw [fX12_entry] at hf
  refine lv_iload_n C.1 C.2.1 dX12_entry_0 rfl (lv_at hl 1 rfl) ?_
  refine sh_xSi (As := [.int v1]) (rest := []) C hw (kX12_isBlock l v1) yy_X12_isBlock ys_X12_isBlock ml_X12_174 rfl hf rfl rfl rfl (Nat.le_of_ble_eq_true rfl) (by decide) (by decide) (by decide) hl.1 dX12_entry_1 (fun r2 S1 H locs hw hf => ?_)
  refine sh_if_eq (tgt := 14) C hf dX12_entry_4 (by decide) (fun hf => ?_) (fun hf => ?_)
  · exact wX12_entry_14 hst hno C hr S1  hf _ _ _ hw (lv_sub hl [] rfl)
  · refine lv_iload_n C.1 C.2.1 dX12_entry_7 rfl (lv_at hl 2 rfl) ?_
    refine sh_xSi (As := [.int v2]) (rest := []) C hw (kX12_isSlot l v2) yy_X12_isSlot ys_X12_isSlot ml_X12_234 rfl hf rfl rfl rfl (Nat.le_of_ble_eq_true rfl) (by decide) (by decide) (by decide) hl.1 dX12_entry_8 (fun r4 S3 H locs hw hf => ?_)
    refine sh_if_ne (tgt := 24) C hf dX12_entry_11 (by decide) (fun hf => ?_) (fun hf => ?_)
    · refine lv_iload_n C.1 C.2.1 dX12_entry_24 rfl (lv_at hl 3 rfl) ?_
      refine sh_if_lt (tgt := 33) C hf dX12_entry_25 (by decide) (fun hf => ?_) (fun hf => ?_)
      · exact wX12_entry_33 hst hno C hr S3  hf _ _ _ hw (lv_sub hl [] rfl)
      · refine lv_iload_n C.1 C.2.1 dX12_entry_28 rfl (lv_at hl 3 rfl) ?_
        refine lv_iconst (v := 2) C.1 C.2.1 dX12_entry_29 (by decide) ?_
        refine sh_icmp_le (tgt := 43) C hf dX12_entry_30 (by decide) (fun hf => ?_) (fun hf => ?_)
        · refine lv_iload_n C.1 C.2.1 dX12_entry_43 rfl (lv_at hl 1 rfl) ?_
          refine lv_bipush (v := 6) C.1 C.2.1 dX12_entry_44 (by decide) ?_
          refine lv_imul C.1 C.2.1 dX12_entry_46 ?_
          refine lv_iload_n C.1 C.2.1 dX12_entry_47 rfl (lv_at hl 2 rfl) ?_
          refine lv_iadd C.1 C.2.1 dX12_entry_48 ?_
          refine sh_ni hf (fun y5 hf => ?_)
          refine lv_istore (lv' := [(4, .int y5), (0, .ref (G.2.1 0)), (1, .int v1), (2, .int v2), (3, .int v3)]) C.1 C.2.1 dX12_entry_49 hl (by decide) rfl (fun ls hl => ?_)
          refine lv_aload_n C.1 C.2.1 dX12_entry_51 rfl (lv_at hl 1 rfl) ?_
          refine sh_getr C hw fl_X12_28 tbX_0 rfl dX12_entry_52 ?_
          refine sh_getr C hw fl_X12_239 tbX_4 rfl dX12_entry_55 ?_
          refine lv_iload C.1 C.2.1 dX12_entry_58 (lv_at hl 0 rfl) ?_
          refine sh_lald C hw hf tbX_8 dX12_entry_60 (fun hf => ?_)
          refine sh_nl hf (fun y6 hf => ?_)
          refine lv_lstore (lv' := [(5, .long y6), (4, .int y5), (0, .ref (G.2.1 0)), (1, .int v1), (2, .int v2), (3, .int v3)]) C.1 C.2.1 dX12_entry_61 hl (by decide) rfl (fun ls hl => ?_)
          refine lv_lload C.1 C.2.1 dX12_entry_63 (lv_at hl 0 rfl) ?_
          refine lv_lconst (v := 0) C.1 C.2.1 dX12_entry_65 (by decide) ?_
          refine sh_lcmp_ne (tgt := 72) C hf dX12_entry_66 dX12_entry_67 (by decide) (fun hf => ?_) (fun hf => ?_)
          · refine lv_iload_n C.1 C.2.1 dX12_entry_72 rfl (lv_at hl 5 rfl) ?_
            refine sh_if_ne (tgt := 89) C hf dX12_entry_73 (by decide) (fun hf => ?_) (fun hf => ?_)
            · refine lv_iload_n C.1 C.2.1 dX12_entry_89 rfl (lv_at hl 5 rfl) ?_
              refine lv_iconst (v := 1) C.1 C.2.1 dX12_entry_90 (by decide) ?_
              refine sh_icmp_ne (tgt := 107) C hf dX12_entry_91 (by decide) (fun hf => ?_) (fun hf => ?_)
              · refine lv_lload C.1 C.2.1 dX12_entry_107 (lv_at hl 0 rfl) ?_
                refine sh_xSi (As := [.long y6]) (rest := []) C hw (kX12_lettersOf l y6) yy_X12_lettersOf ys_X12_lettersOf ml_X12_249 rfl hf rfl rfl rfl (Nat.le_of_ble_eq_true rfl) (by decide) (by decide) (by decide) hl.1 dX12_entry_109 (fun r8 S7 H locs hw hf => ?_)
                exact sh_tri C hw hr hf (by decide) (by decide) dX12_entry_112
              · refine lv_aload_n C.1 C.2.1 dX12_entry_94 rfl (lv_at hl 2 rfl) ?_
                refine sh_getr C hw fl_X12_28 tbX_0 rfl dX12_entry_95 ?_
                refine sh_getr C hw fl_X12_246 tbX_4 rfl dX12_entry_98 ?_
                refine lv_iload C.1 C.2.1 dX12_entry_101 (lv_at hl 1 rfl) ?_
                refine sh_iald C hw hf tbX_10 dX12_entry_103 (fun hf => ?_)
                refine lv_goto (tgt := 112) C.1 C.2.1 dX12_entry_104 (by decide) ?_
                exact sh_tri C hw hr hf (by decide) (by decide) dX12_entry_112
            · refine lv_aload_n C.1 C.2.1 dX12_entry_76 rfl (lv_at hl 2 rfl) ?_
              refine sh_getr C hw fl_X12_28 tbX_0 rfl dX12_entry_77 ?_
              refine sh_getr C hw fl_X12_243 tbX_4 rfl dX12_entry_80 ?_
              refine lv_iload C.1 C.2.1 dX12_entry_83 (lv_at hl 1 rfl) ?_
              refine sh_iald C hw hf tbX_9 dX12_entry_85 (fun hf => ?_)
              refine lv_goto (tgt := 112) C.1 C.2.1 dX12_entry_86 (by decide) ?_
              exact sh_tri C hw hr hf (by decide) (by decide) dX12_entry_112
          · refine lv_iconst (v := -1) C.1 C.2.1 dX12_entry_70 (by decide) ?_
            exact sh_tri C hw hr hf (by decide) (by decide) dX12_entry_71
        · exact wX12_entry_33 hst hno C hr S3  hf _ _ _ hw (lv_sub hl [] rfl)
    · exact wX12_entry_14 hst hno C hr S3  hf _ _ _ hw (lv_sub hl [] rfl)
def fX12_letter_14 (S : sh_St) : Option ((Int32 ⊕ String) × sh_St) :=
    some (.inr "java/lang/IndexOutOfBoundsException", S)
set_option maxRecDepth 100000 in
set_option maxHeartbeats 4000000 in
theorem wX12_letter_14 {p : Program} {l : Launch} {e : Env} {s : State} {m : MethodId} {args : Array Value} {below : List Frame} {meth : Method} {c : Code} {G : sh_Ev} {A : Nat → Prop} {res : (Int32 ⊕ String) × sh_St} (hst : l.stackTraces = false) (hno : ∀ x ∈ c.exceptionTable.toList, False) (C : sh_Cx p s m args meth c cX12_letter 6 RX12 G A) (hr : meth.sig.returnType = some .int) : ∀ (S : sh_St), fX12_letter_14 S = some res → ∀ (H : Heap) (locs : List Loc) (ls : Array Slot), sh_Wx G tbX A s H locs S → lv_has ls 6 [] → W p l e (sh_rx 10 1 6) s m args below meth c H locs 0 0 (sh_Qti below args s G tbX A 1 6 res) (F0 m 14 ls []) := by
  intro S hf H locs ls hw hl
  rw [fX12_letter_14] at hf
  exact sh_thri hst C hw hno (tx_IO (text := "no such BLOCK, or no such SLOT") (by decide +kernel)) hf (by decide) (by decide) (by decide) hl.1 (Nat.le_of_ble_eq_true rfl) dX12_letter_14 dX12_letter_17 dX12_letter_18 dX12_letter_20 dX12_letter_23
def fX12_letter (S : sh_St) (v1 : Int32) (v2 : Int32) (v3 : Int32) : Option ((Int32 ⊕ String) × sh_St) :=
    sh_c (fX12_isBlock S v1) fun r2 S1 =>
    if r2 = 0 then (fX12_letter_14 S1)
    else (sh_c (fX12_isSlot S1 v2) fun r4 S3 =>
    if r4 = 0 then (fX12_letter_14 S3)
    else (sh_g ((v1 * 6) + v2) 240 (sh_t (S3.2 8 ((v1 * 6) + v2).toNatClampNeg) fun y5 =>
    if v3 < 0 then (some (.inl (-1), S3))
    else (sh_c (fX12_lettersOf S3 y5) fun r7 S6 =>
    if r7 ≤ v3 then (some (.inl (-1), S6))
    else (sh_c (fX12_codeAt S6 y5 v3) fun r9 S8 =>
    some (.inl r9, S8))))))
set_option maxRecDepth 100000 in
set_option maxHeartbeats 4000000 in
theorem kX12_letter (l : Launch) (hst : l.stackTraces = false) (v1 : Int32) (v2 : Int32) (v3 : Int32) : sh_Ti l yX12_letter cX12_letter 6 .int 10 1 6 tbX (fun G => [.ref (G.2.1 0), .int v1, .int v2, .int v3]) (fun S => fX12_letter S v1 v2 v3) := by
  refine sh_mkti (by decide) (fun G => Nat.le_of_ble_eq_true rfl) ?_
  intro p e s m args below meth c G A S res ls hf C hr hno hw hl
  have C : sh_Cx p s m args meth c cX12_letter 6 RX12 G A := C
  have hl : lv_has ls 6 [(0, .ref (G.2.1 0)), (1, .int v1), (2, .int v2), (3, .int v3)] := hl
  replace hf : fX12_letter S v1 v2 v3 = some res := hf
  rw [fX12_letter] at hf
  refine lv_iload_n C.1 C.2.1 dX12_letter_0 rfl (lv_at hl 1 rfl) ?_
  refine sh_xSi (As := [.int v1]) (rest := []) C hw (kX12_isBlock l v1) yy_X12_isBlock ys_X12_isBlock ml_X12_174 rfl hf rfl rfl rfl (Nat.le_of_ble_eq_true rfl) (by decide) (by decide) (by decide) hl.1 dX12_letter_1 (fun r2 S1 H locs hw hf => ?_)
  refine sh_if_eq (tgt := 14) C hf dX12_letter_4 (by decide) (fun hf => ?_) (fun hf => ?_)
  · exact wX12_letter_14 hst hno C hr S1  hf _ _ _ hw (lv_sub hl [] rfl)
  · refine lv_iload_n C.1 C.2.1 dX12_letter_7 rfl (lv_at hl 2 rfl) ?_
    refine sh_xSi (As := [.int v2]) (rest := []) C hw (kX12_isSlot l v2) yy_X12_isSlot ys_X12_isSlot ml_X12_234 rfl hf rfl rfl rfl (Nat.le_of_ble_eq_true rfl) (by decide) (by decide) (by decide) hl.1 dX12_letter_8 (fun r4 S3 H locs hw hf => ?_)
    refine sh_if_ne (tgt := 24) C hf dX12_letter_11 (by decide) (fun hf => ?_) (fun hf => ?_)
    · refine lv_aload_n C.1 C.2.1 dX12_letter_24 rfl (lv_at hl 0 rfl) ?_
      refine sh_getr C hw fl_X12_28 tbX_0 rfl dX12_letter_25 ?_
      refine sh_getr C hw fl_X12_239 tbX_4 rfl dX12_letter_28 ?_
      refine lv_iload_n C.1 C.2.1 dX12_letter_31 rfl (lv_at hl 1 rfl) ?_
      refine lv_bipush (v := 6) C.1 C.2.1 dX12_letter_32 (by decide) ?_
      refine lv_imul C.1 C.2.1 dX12_letter_34 ?_
      refine lv_iload_n C.1 C.2.1 dX12_letter_35 rfl (lv_at hl 2 rfl) ?_
      refine lv_iadd C.1 C.2.1 dX12_letter_36 ?_
      refine sh_lald C hw hf tbX_8 dX12_letter_37 (fun hf => ?_)
      refine sh_nl hf (fun y5 hf => ?_)
      refine lv_lstore (lv' := [(4, .long y5), (0, .ref (G.2.1 0)), (1, .int v1), (2, .int v2), (3, .int v3)]) C.1 C.2.1 dX12_letter_38 hl (by decide) rfl (fun ls hl => ?_)
      refine lv_iload_n C.1 C.2.1 dX12_letter_40 rfl (lv_at hl 4 rfl) ?_
      refine sh_if_lt (tgt := 62) C hf dX12_letter_41 (by decide) (fun hf => ?_) (fun hf => ?_)
      · refine lv_iconst (v := -1) C.1 C.2.1 dX12_letter_62 (by decide) ?_
        exact sh_tri C hw hr hf (by decide) (by decide) dX12_letter_63
      · refine lv_iload_n C.1 C.2.1 dX12_letter_44 rfl (lv_at hl 4 rfl) ?_
        refine lv_lload C.1 C.2.1 dX12_letter_45 (lv_at hl 0 rfl) ?_
        refine sh_xSi (As := [.long y5]) (rest := [.int v3]) C hw (kX12_lettersOf l y5) yy_X12_lettersOf ys_X12_lettersOf ml_X12_249 rfl hf rfl rfl rfl (Nat.le_of_ble_eq_true rfl) (by decide) (by decide) (by decide) hl.1 dX12_letter_47 (fun r7 S6 H locs hw hf => ?_)
        refine sh_icmp_ge (tgt := 62) C hf dX12_letter_50 (by decide) (fun hf => ?_) (fun hf => ?_)
        · refine lv_iconst (v := -1) C.1 C.2.1 dX12_letter_62 (by decide) ?_
          exact sh_tri C hw hr hf (by decide) (by decide) dX12_letter_63
        · refine lv_lload C.1 C.2.1 dX12_letter_53 (lv_at hl 0 rfl) ?_
          refine lv_iload_n C.1 C.2.1 dX12_letter_55 rfl (lv_at hl 4 rfl) ?_
          refine sh_xSi (As := [.long y5, .int v3]) (rest := []) C hw (kX12_codeAt l y5 v3) yy_X12_codeAt ys_X12_codeAt ml_X12_252 rfl hf rfl rfl rfl (Nat.le_of_ble_eq_true rfl) (by decide) (by decide) (by decide) hl.1 dX12_letter_56 (fun r9 S8 H locs hw hf => ?_)
          refine lv_goto (tgt := 63) C.1 C.2.1 dX12_letter_59 (by decide) ?_
          exact sh_tri C hw hr hf (by decide) (by decide) dX12_letter_63
    · exact wX12_letter_14 hst hno C hr S3  hf _ _ _ hw (lv_sub hl [] rfl)
def fX12_row_24 (S : sh_St) : Option ((Int32 ⊕ String) × sh_St) :=
    some (.inr "java/lang/IndexOutOfBoundsException", S)
set_option maxRecDepth 100000 in
set_option maxHeartbeats 4000000 in
theorem wX12_row_24 {p : Program} {l : Launch} {e : Env} {s : State} {m : MethodId} {args : Array Value} {below : List Frame} {meth : Method} {c : Code} {G : sh_Ev} {A : Nat → Prop} {res : (Int32 ⊕ String) × sh_St} (hst : l.stackTraces = false) (hno : ∀ x ∈ c.exceptionTable.toList, False) (C : sh_Cx p s m args meth c cX12_row 5 RX12 G A) (hr : meth.sig.returnType = some .int) : ∀ (S : sh_St), fX12_row_24 S = some res → ∀ (H : Heap) (locs : List Loc) (ls : Array Slot), sh_Wx G tbX A s H locs S → lv_has ls 5 [] → W p l e (sh_rx 10 1 6) s m args below meth c H locs 0 0 (sh_Qti below args s G tbX A 1 6 res) (F0 m 24 ls []) := by
  intro S hf H locs ls hw hl
  rw [fX12_row_24] at hf
  exact sh_thri hst C hw hno (tx_IO (text := "no such BLOCK, no INDEX, or no such ROW") (by decide +kernel)) hf (by decide) (by decide) (by decide) hl.1 (Nat.le_of_ble_eq_true rfl) dX12_row_24 dX12_row_27 dX12_row_28 dX12_row_30 dX12_row_33
def fX12_row (S : sh_St) (v1 : Int32) (v2 : Int32) (v3 : Int32) : Option ((Int32 ⊕ String) × sh_St) :=
    sh_c (fX12_isBlock S v1) fun r2 S1 =>
    if r2 = 0 then (fX12_row_24 S1)
    else (if v2 < 0 then (fX12_row_24 S1)
    else (sh_g v1 40 (if v2 < (S1.1 6 v1.toNatClampNeg) then (sh_t ((v1 * 6) + v2) fun y3 =>
    if v3 = 0 then (sh_g y3 240 (some (.inl (S1.1 11 y3.toNatClampNeg), S1)))
    else (if v3 = 1 then (sh_g y3 240 (some (.inl (S1.1 12 y3.toNatClampNeg), S1)))
    else (if v3 = 2 then (sh_g y3 240 (some (.inl (S1.1 13 y3.toNatClampNeg), S1)))
    else (some (.inr "java/util/NoSuchElementException", S1)))))
    else (fX12_row_24 S1))))
set_option maxRecDepth 100000 in
set_option maxHeartbeats 4000000 in
theorem kX12_row (l : Launch) (hst : l.stackTraces = false) (v1 : Int32) (v2 : Int32) (v3 : Int32) : sh_Ti l yX12_row cX12_row 5 .int 10 1 6 tbX (fun G => [.ref (G.2.1 0), .int v1, .int v2, .int v3]) (fun S => fX12_row S v1 v2 v3) := by
  refine sh_mkti (by decide) (fun G => Nat.le_of_ble_eq_true rfl) ?_
  intro p e s m args below meth c G A S res ls hf C hr hno hw hl
  have C : sh_Cx p s m args meth c cX12_row 5 RX12 G A := C
  have hl : lv_has ls 5 [(0, .ref (G.2.1 0)), (1, .int v1), (2, .int v2), (3, .int v3)] := hl
  replace hf : fX12_row S v1 v2 v3 = some res := hf
  rw [fX12_row] at hf
  refine lv_iload_n C.1 C.2.1 dX12_row_0 rfl (lv_at hl 1 rfl) ?_
  refine sh_xSi (As := [.int v1]) (rest := []) C hw (kX12_isBlock l v1) yy_X12_isBlock ys_X12_isBlock ml_X12_174 rfl hf rfl rfl rfl (Nat.le_of_ble_eq_true rfl) (by decide) (by decide) (by decide) hl.1 dX12_row_1 (fun r2 S1 H locs hw hf => ?_)
  refine sh_if_eq (tgt := 24) C hf dX12_row_4 (by decide) (fun hf => ?_) (fun hf => ?_)
  · exact wX12_row_24 hst hno C hr S1  hf _ _ _ hw (lv_sub hl [] rfl)
  · refine lv_iload_n C.1 C.2.1 dX12_row_7 rfl (lv_at hl 2 rfl) ?_
    refine sh_if_lt (tgt := 24) C hf dX12_row_8 (by decide) (fun hf => ?_) (fun hf => ?_)
    · exact wX12_row_24 hst hno C hr S1  hf _ _ _ hw (lv_sub hl [] rfl)
    · refine lv_iload_n C.1 C.2.1 dX12_row_11 rfl (lv_at hl 2 rfl) ?_
      refine lv_aload_n C.1 C.2.1 dX12_row_12 rfl (lv_at hl 0 rfl) ?_
      refine sh_getr C hw fl_X12_28 tbX_0 rfl dX12_row_13 ?_
      refine sh_getr C hw fl_X12_225 tbX_4 rfl dX12_row_16 ?_
      refine lv_iload_n C.1 C.2.1 dX12_row_19 rfl (lv_at hl 1 rfl) ?_
      refine sh_iald C hw hf tbX_6 dX12_row_20 (fun hf => ?_)
      refine sh_icmp_lt (tgt := 34) C hf dX12_row_21 (by decide) (fun hf => ?_) (fun hf => ?_)
      · refine lv_iload_n C.1 C.2.1 dX12_row_34 rfl (lv_at hl 1 rfl) ?_
        refine lv_bipush (v := 6) C.1 C.2.1 dX12_row_35 (by decide) ?_
        refine lv_imul C.1 C.2.1 dX12_row_37 ?_
        refine lv_iload_n C.1 C.2.1 dX12_row_38 rfl (lv_at hl 2 rfl) ?_
        refine lv_iadd C.1 C.2.1 dX12_row_39 ?_
        refine sh_ni hf (fun y3 hf => ?_)
        refine lv_istore (lv' := [(4, .int y3), (0, .ref (G.2.1 0)), (1, .int v1), (2, .int v2), (3, .int v3)]) C.1 C.2.1 dX12_row_40 hl (by decide) rfl (fun ls hl => ?_)
        refine lv_iload_n C.1 C.2.1 dX12_row_42 rfl (lv_at hl 4 rfl) ?_
        by_cases h43_0 : v3 = 0
        · replace hf := (sh_if hf).1 h43_0
          refine sh_swIn (off := 25) (tgt := 68) C h43_0 dX12_row_43 (by decide) (by decide) (by decide) (by decide) ?_
          refine lv_aload_n C.1 C.2.1 dX12_row_68 rfl (lv_at hl 1 rfl) ?_
          refine sh_getr C hw fl_X12_28 tbX_0 rfl dX12_row_69 ?_
          refine sh_getr C hw fl_X12_257 tbX_4 rfl dX12_row_72 ?_
          refine lv_iload C.1 C.2.1 dX12_row_75 (lv_at hl 0 rfl) ?_
          refine sh_iald C hw hf tbX_11 dX12_row_77 (fun hf => ?_)
          exact sh_tri C hw hr hf (by decide) (by decide) dX12_row_78
        · replace hf := (sh_if hf).2 h43_0
          by_cases h43_1 : v3 = 1
          · replace hf := (sh_if hf).1 h43_1
            refine sh_swIn (off := 36) (tgt := 79) C h43_1 dX12_row_43 (by decide) (by decide) (by decide) (by decide) ?_
            refine lv_aload_n C.1 C.2.1 dX12_row_79 rfl (lv_at hl 1 rfl) ?_
            refine sh_getr C hw fl_X12_28 tbX_0 rfl dX12_row_80 ?_
            refine sh_getr C hw fl_X12_260 tbX_4 rfl dX12_row_83 ?_
            refine lv_iload C.1 C.2.1 dX12_row_86 (lv_at hl 0 rfl) ?_
            refine sh_iald C hw hf tbX_12 dX12_row_88 (fun hf => ?_)
            exact sh_tri C hw hr hf (by decide) (by decide) dX12_row_89
          · replace hf := (sh_if hf).2 h43_1
            by_cases h43_2 : v3 = 2
            · replace hf := (sh_if hf).1 h43_2
              refine sh_swIn (off := 47) (tgt := 90) C h43_2 dX12_row_43 (by decide) (by decide) (by decide) (by decide) ?_
              refine lv_aload_n C.1 C.2.1 dX12_row_90 rfl (lv_at hl 1 rfl) ?_
              refine sh_getr C hw fl_X12_28 tbX_0 rfl dX12_row_91 ?_
              refine sh_getr C hw fl_X12_263 tbX_4 rfl dX12_row_94 ?_
              refine lv_iload C.1 C.2.1 dX12_row_97 (lv_at hl 0 rfl) ?_
              refine sh_iald C hw hf tbX_13 dX12_row_99 (fun hf => ?_)
              exact sh_tri C hw hr hf (by decide) (by decide) dX12_row_100
            · replace hf := (sh_if hf).2 h43_2
              refine sh_swOut (tgt := 101) C (by have a0 := sh_neI (z := 0) h43_0 (by decide); have a1 := sh_neI (z := 1) h43_1 (by decide); have a2 := sh_neI (z := 2) h43_2 (by decide); omega) dX12_row_43 (by decide) ?_
              exact sh_thrNS (text := "no such what") hst C hw hno (by decide +kernel) hf (by decide) (by decide) (by decide) hl.1 (Nat.le_of_ble_eq_true rfl) dX12_row_101 dX12_row_104 dX12_row_105 dX12_row_107 dX12_row_110
      · exact wX12_row_24 hst hno C hr S1  hf _ _ _ hw (lv_sub hl [] rfl)
def fX12_shape_10 (S : sh_St) : Option ((Int32 ⊕ String) × sh_St) :=
    some (.inr "java/util/NoSuchElementException", S)
set_option maxRecDepth 100000 in
set_option maxHeartbeats 4000000 in
theorem wX12_shape_10 {p : Program} {l : Launch} {e : Env} {s : State} {m : MethodId} {args : Array Value} {below : List Frame} {meth : Method} {c : Code} {G : sh_Ev} {A : Nat → Prop} {res : (Int32 ⊕ String) × sh_St} (hst : l.stackTraces = false) (hno : ∀ x ∈ c.exceptionTable.toList, False) (C : sh_Cx p s m args meth c cX12_shape 2 RX12 G A) (hr : meth.sig.returnType = some .int) : ∀ (S : sh_St), fX12_shape_10 S = some res → ∀ (H : Heap) (locs : List Loc) (ls : Array Slot), sh_Wx G tbX A s H locs S → lv_has ls 2 [] → W p l e (sh_rx 10 1 6) s m args below meth c H locs 0 0 (sh_Qti below args s G tbX A 1 6 res) (F0 m 10 ls []) := by
  intro S hf H locs ls hw hl
  rw [fX12_shape_10] at hf
  exact sh_thrNS (text := "no such what") hst C hw hno (by decide +kernel) hf (by decide) (by decide) (by decide) hl.1 (Nat.le_of_ble_eq_true rfl) dX12_shape_10 dX12_shape_13 dX12_shape_14 dX12_shape_16 dX12_shape_19
def fX12_shape (S : sh_St) (v1 : Int32) : Option ((Int32 ⊕ String) × sh_St) :=
    if v1 < 0 then (fX12_shape_10 S)
    else (if v1 ≤ 8 then (sh_c (fX8_ofAll S v1) fun r2 S1 =>
    some (.inl r2, S1))
    else (fX12_shape_10 S))
set_option maxRecDepth 100000 in
set_option maxHeartbeats 4000000 in
theorem kX12_shape (l : Launch) (hst : l.stackTraces = false) (v1 : Int32) : sh_Ti l yX12_shape cX12_shape 2 .int 10 1 6 tbX (fun G => [.ref (G.2.1 0), .int v1]) (fun S => fX12_shape S v1) := by
  refine sh_mkti (by decide) (fun G => Nat.le_of_ble_eq_true rfl) ?_
  intro p e s m args below meth c G A S res ls hf C hr hno hw hl
  have C : sh_Cx p s m args meth c cX12_shape 2 RX12 G A := C
  have hl : lv_has ls 2 [(0, .ref (G.2.1 0)), (1, .int v1)] := hl
  replace hf : fX12_shape S v1 = some res := hf
  rw [fX12_shape] at hf
  refine lv_iload_n C.1 C.2.1 dX12_shape_0 rfl (lv_at hl 1 rfl) ?_
  refine sh_if_lt (tgt := 10) C hf dX12_shape_1 (by decide) (fun hf => ?_) (fun hf => ?_)
  · exact wX12_shape_10 hst hno C hr S  hf _ _ _ hw (lv_sub hl [] rfl)
  · refine lv_iload_n C.1 C.2.1 dX12_shape_4 rfl (lv_at hl 1 rfl) ?_
    refine lv_bipush (v := 8) C.1 C.2.1 dX12_shape_5 (by decide) ?_
    refine sh_icmp_le (tgt := 20) C hf dX12_shape_7 (by decide) (fun hf => ?_) (fun hf => ?_)
    · refine lv_aload_n C.1 C.2.1 dX12_shape_20 rfl (lv_at hl 0 rfl) ?_
      refine sh_getr C hw fl_X12_59 tbX_0 rfl dX12_shape_21 ?_
      refine lv_iload_n C.1 C.2.1 dX12_shape_24 rfl (lv_at hl 1 rfl) ?_
      refine sh_xVi (As := [.int v1]) (rest := []) C hw (kX8_ofAll l v1) yy_X8_ofAll yv_X8_ofAll ml_X12_279 hf tbX_128 rfl rfl rfl rfl (Nat.le_of_ble_eq_true rfl) (by decide) (by decide) (by decide) hl.1 dX12_shape_25 (fun r2 S1 H locs hw hf => ?_)
      exact sh_tri C hw hr hf (by decide) (by decide) dX12_shape_28
    · exact wX12_shape_10 hst hno C hr S  hf _ _ _ hw (lv_sub hl [] rfl)
def fX12_crowds (S : sh_St) (v1 : Int32) : Option ((Int32 ⊕ String) × sh_St) :=
    sh_c (fX12_isKey S v1) fun r2 S1 =>
    if r2 = 0 then (some (.inr "java/lang/IllegalArgumentException", S1))
    else (sh_c (fX8_crowdBy S1 v1) fun r4 S3 =>
    some (.inl r4, S3))
set_option maxRecDepth 100000 in
set_option maxHeartbeats 4000000 in
theorem kX12_crowds (l : Launch) (hst : l.stackTraces = false) (v1 : Int32) : sh_Ti l yX12_crowds cX12_crowds 2 .int 10 1 6 tbX (fun G => [.ref (G.2.1 0), .int v1]) (fun S => fX12_crowds S v1) := by
  refine sh_mkti (by decide) (fun G => Nat.le_of_ble_eq_true rfl) ?_
  intro p e s m args below meth c G A S res ls hf C hr hno hw hl
  have C : sh_Cx p s m args meth c cX12_crowds 2 RX12 G A := C
  have hl : lv_has ls 2 [(0, .ref (G.2.1 0)), (1, .int v1)] := hl
  replace hf : fX12_crowds S v1 = some res := hf
  rw [fX12_crowds] at hf
  refine lv_iload_n C.1 C.2.1 dX12_crowds_0 rfl (lv_at hl 1 rfl) ?_
  refine sh_xSi (As := [.int v1]) (rest := []) C hw (kX12_isKey l v1) yy_X12_isKey ys_X12_isKey ml_X12_282 rfl hf rfl rfl rfl (Nat.le_of_ble_eq_true rfl) (by decide) (by decide) (by decide) hl.1 dX12_crowds_1 (fun r2 S1 H locs hw hf => ?_)
  refine sh_if_ne (tgt := 18) C hf dX12_crowds_4 (by decide) (fun hf => ?_) (fun hf => ?_)
  · refine lv_aload_n C.1 C.2.1 dX12_crowds_18 rfl (lv_at hl 0 rfl) ?_
    refine sh_getr C hw fl_X12_59 tbX_0 rfl dX12_crowds_19 ?_
    refine lv_iload_n C.1 C.2.1 dX12_crowds_22 rfl (lv_at hl 1 rfl) ?_
    refine sh_xVi (As := [.int v1]) (rest := []) C hw (kX8_crowdBy l v1) yy_X8_crowdBy yv_X8_crowdBy ml_X12_287 hf tbX_128 rfl rfl rfl rfl (Nat.le_of_ble_eq_true rfl) (by decide) (by decide) (by decide) hl.1 dX12_crowds_23 (fun r4 S3 H locs hw hf => ?_)
    exact sh_tri C hw hr hf (by decide) (by decide) dX12_crowds_26
  · exact sh_thrWi hst C hw hno (tx_IA (text := "no KEY") (by decide +kernel)) hf (by decide) (by decide) (by decide) hl.1 (Nat.le_of_ble_eq_true rfl) dX12_crowds_7 dX12_crowds_10 dX12_crowds_11 dX12_crowds_14 dX12_crowds_17
def fX12_best_18 (S : sh_St) : Option ((Int32 ⊕ String) × sh_St) :=
    some (.inr "java/lang/IllegalArgumentException", S)
set_option maxRecDepth 100000 in
set_option maxHeartbeats 4000000 in
theorem wX12_best_18 {p : Program} {l : Launch} {e : Env} {s : State} {m : MethodId} {args : Array Value} {below : List Frame} {meth : Method} {c : Code} {G : sh_Ev} {A : Nat → Prop} {res : (Int32 ⊕ String) × sh_St} (hst : l.stackTraces = false) (hno : ∀ x ∈ c.exceptionTable.toList, False) (C : sh_Cx p s m args meth c cX12_best 3 RX12 G A) (hr : meth.sig.returnType = some .int) : ∀ (S : sh_St), fX12_best_18 S = some res → ∀ (H : Heap) (locs : List Loc) (ls : Array Slot), sh_Wx G tbX A s H locs S → lv_has ls 3 [] → W p l e (sh_rx 10 1 6) s m args below meth c H locs 0 0 (sh_Qti below args s G tbX A 1 6 res) (F0 m 18 ls []) := by
  intro S hf H locs ls hw hl
  rw [fX12_best_18] at hf
  exact sh_thrWi hst C hw hno (tx_IA (text := "no KEY, or n is none") (by decide +kernel)) hf (by decide) (by decide) (by decide) hl.1 (Nat.le_of_ble_eq_true rfl) dX12_best_18 dX12_best_21 dX12_best_22 dX12_best_25 dX12_best_28
def fX12_best (S : sh_St) (v1 : Int32) (v2 : Int32) : Option ((Int32 ⊕ String) × sh_St) :=
    sh_c (fX12_isKey S v1) fun r2 S1 =>
    if r2 = 0 then (fX12_best_18 S1)
    else (if v2 < 1 then (fX12_best_18 S1)
    else (if v2 ≤ 20 then (sh_c (fX8_leastCrowdedKey S1 v1 v2) fun r4 S3 =>
    some (.inl r4, S3))
    else (fX12_best_18 S1)))
set_option maxRecDepth 100000 in
set_option maxHeartbeats 4000000 in
theorem kX12_best (l : Launch) (hst : l.stackTraces = false) (v1 : Int32) (v2 : Int32) : sh_Ti l yX12_best cX12_best 3 .int 10 1 6 tbX (fun G => [.ref (G.2.1 0), .int v1, .int v2]) (fun S => fX12_best S v1 v2) := by
  refine sh_mkti (by decide) (fun G => Nat.le_of_ble_eq_true rfl) ?_
  intro p e s m args below meth c G A S res ls hf C hr hno hw hl
  have C : sh_Cx p s m args meth c cX12_best 3 RX12 G A := C
  have hl : lv_has ls 3 [(0, .ref (G.2.1 0)), (1, .int v1), (2, .int v2)] := hl
  replace hf : fX12_best S v1 v2 = some res := hf
  rw [fX12_best] at hf
  refine lv_iload_n C.1 C.2.1 dX12_best_0 rfl (lv_at hl 1 rfl) ?_
  refine sh_xSi (As := [.int v1]) (rest := []) C hw (kX12_isKey l v1) yy_X12_isKey ys_X12_isKey ml_X12_282 rfl hf rfl rfl rfl (Nat.le_of_ble_eq_true rfl) (by decide) (by decide) (by decide) hl.1 dX12_best_1 (fun r2 S1 H locs hw hf => ?_)
  refine sh_if_eq (tgt := 18) C hf dX12_best_4 (by decide) (fun hf => ?_) (fun hf => ?_)
  · exact wX12_best_18 hst hno C hr S1  hf _ _ _ hw (lv_sub hl [] rfl)
  · refine lv_iload_n C.1 C.2.1 dX12_best_7 rfl (lv_at hl 2 rfl) ?_
    refine lv_iconst (v := 1) C.1 C.2.1 dX12_best_8 (by decide) ?_
    refine sh_icmp_lt (tgt := 18) C hf dX12_best_9 (by decide) (fun hf => ?_) (fun hf => ?_)
    · exact wX12_best_18 hst hno C hr S1  hf _ _ _ hw (lv_sub hl [] rfl)
    · refine lv_iload_n C.1 C.2.1 dX12_best_12 rfl (lv_at hl 2 rfl) ?_
      refine lv_bipush (v := 20) C.1 C.2.1 dX12_best_13 (by decide) ?_
      refine sh_icmp_le (tgt := 29) C hf dX12_best_15 (by decide) (fun hf => ?_) (fun hf => ?_)
      · refine lv_aload_n C.1 C.2.1 dX12_best_29 rfl (lv_at hl 0 rfl) ?_
        refine sh_getr C hw fl_X12_59 tbX_0 rfl dX12_best_30 ?_
        refine lv_iload_n C.1 C.2.1 dX12_best_33 rfl (lv_at hl 1 rfl) ?_
        refine lv_iload_n C.1 C.2.1 dX12_best_34 rfl (lv_at hl 2 rfl) ?_
        refine sh_xVi (As := [.int v1, .int v2]) (rest := []) C hw (kX8_leastCrowdedKey l v1 v2) yy_X8_leastCrowdedKey yv_X8_leastCrowdedKey ml_X12_292 hf tbX_128 rfl rfl rfl rfl (Nat.le_of_ble_eq_true rfl) (by decide) (by decide) (by decide) hl.1 dX12_best_35 (fun r4 S3 H locs hw hf => ?_)
        exact sh_tri C hw hr hf (by decide) (by decide) dX12_best_38
      · exact wX12_best_18 hst hno C hr S1  hf _ _ _ hw (lv_sub hl [] rfl)
def fX12_open (S : sh_St) (v1 : Int32) (v2 : Int32) : Option ((Int32 ⊕ String) × sh_St) :=
    sh_c (fX12_isReader S v1) fun r2 S1 =>
    if r2 = 0 then (some (.inr "java/lang/IndexOutOfBoundsException", S1))
    else (sh_g v1 4 (sh_t (S1.1 (132 + 2 * v1.toNatClampNeg) 1) fun y4 =>
    if v2 = 0 then (sh_b 0 (sh_t (sh_I S1 (132 + 2 * v1.toNatClampNeg) 1 0) fun S5 =>
    sh_b y4 (some (.inl y4, S5))))
    else (sh_c (fX2_restart v1.toNatClampNeg S1 ) fun _ S6 =>
    sh_b y4 (some (.inl y4, S6)))))
set_option maxRecDepth 100000 in
set_option maxHeartbeats 4000000 in
theorem kX12_open (l : Launch) (hst : l.stackTraces = false) (v1 : Int32) (v2 : Int32) : sh_Ti l yX12_open cX12_open 5 .boolean 10 1 6 tbX (fun G => [.ref (G.2.1 0), .int v1, .int v2]) (fun S => fX12_open S v1 v2) := by
  refine sh_mkti (by decide) (fun G => Nat.le_of_ble_eq_true rfl) ?_
  intro p e s m args below meth c G A S res ls hf C hr hno hw hl
  have C : sh_Cx p s m args meth c cX12_open 5 RX12 G A := C
  have hl : lv_has ls 5 [(0, .ref (G.2.1 0)), (1, .int v1), (2, .int v2)] := hl
  replace hf : fX12_open S v1 v2 = some res := hf
  rw [fX12_open] at hf
  refine lv_iload_n C.1 C.2.1 dX12_open_0 rfl (lv_at hl 1 rfl) ?_
  refine sh_xSi (As := [.int v1]) (rest := []) C hw (kX12_isReader l v1) yy_X12_isReader ys_X12_isReader ml_X12_296 rfl hf rfl rfl rfl (Nat.le_of_ble_eq_true rfl) (by decide) (by decide) (by decide) hl.1 dX12_open_1 (fun r2 S1 H locs hw hf => ?_)
  refine sh_if_ne (tgt := 18) C hf dX12_open_4 (by decide) (fun hf => ?_) (fun hf => ?_)
  · refine lv_aload_n C.1 C.2.1 dX12_open_18 rfl (lv_at hl 0 rfl) ?_
    refine sh_getr C hw fl_X12_65 tbX_0 rfl dX12_open_19 ?_
    refine lv_iload_n C.1 C.2.1 dX12_open_22 rfl (lv_at hl 1 rfl) ?_
    refine sh_aald4 C hw hf tbX_131 dX12_open_23 (fun hj3 hf => ?_)
    refine lv_astore_n (lv' := [(3, .ref (G.2.1 (132 + 2 * v1.toNatClampNeg))), (0, .ref (G.2.1 0)), (1, .int v1), (2, .int v2)]) C.1 C.2.1 dX12_open_24 rfl hl (by decide) rfl (fun ls hl => ?_)
    refine lv_aload_n C.1 C.2.1 dX12_open_25 rfl (lv_at hl 0 rfl) ?_
    refine sh_geti C hw fl_X12_301 (tbX_cur hj3) rfl dX12_open_26 ?_
    refine sh_ni hf (fun y4 hf => ?_)
    refine lv_istore (lv' := [(4, .int y4), (3, .ref (G.2.1 (132 + 2 * v1.toNatClampNeg))), (0, .ref (G.2.1 0)), (1, .int v1), (2, .int v2)]) C.1 C.2.1 dX12_open_29 hl (by decide) rfl (fun ls hl => ?_)
    refine lv_iload_n C.1 C.2.1 dX12_open_31 rfl (lv_at hl 4 rfl) ?_
    refine sh_if_eq (tgt := 42) C hf dX12_open_32 (by decide) (fun hf => ?_) (fun hf => ?_)
    · refine lv_aload_n C.1 C.2.1 dX12_open_42 rfl (lv_at hl 1 rfl) ?_
      refine lv_iconst (v := 0) C.1 C.2.1 dX12_open_43 (by decide) ?_
      refine sh_putz C hw fl_X12_301 fp_0_1 hf (tbX_cur hj3) rfl dX12_open_44 (fun S5 H locs hw hf => ?_)
      refine lv_iload C.1 C.2.1 dX12_open_47 (lv_at hl 0 rfl) ?_
      exact sh_trz C hw hr hf (by decide) (by decide) dX12_open_49
    · refine lv_aload_n C.1 C.2.1 dX12_open_35 rfl (lv_at hl 1 rfl) ?_
      refine sh_xVv (As := []) (rest := []) C hw (kX2_restart l hj3 ) yy_X2_restart yv_X2_restart ml_X12_304 hf (tbX_cur hj3) rfl rfl rfl rfl (Nat.le_of_ble_eq_true rfl) (by decide) (by decide) (by decide) hl.1 dX12_open_36 (fun S6 H locs hw hf => ?_)
      refine lv_goto (tgt := 47) C.1 C.2.1 dX12_open_39 (by decide) ?_
      refine lv_iload C.1 C.2.1 dX12_open_47 (lv_at hl 0 rfl) ?_
      exact sh_trz C hw hr hf (by decide) (by decide) dX12_open_49
  · exact sh_thrWi hst C hw hno (tx_IO (text := "no such READER") (by decide +kernel)) hf (by decide) (by decide) (by decide) hl.1 (Nat.le_of_ble_eq_true rfl) dX12_open_7 dX12_open_10 dX12_open_11 dX12_open_14 dX12_open_17
def fX12_next (S : sh_St) (v1 : Int32) : Option ((Int32 ⊕ String) × sh_St) :=
    sh_c (fX12_isReader S v1) fun r2 S1 =>
    if r2 = 0 then (some (.inr "java/lang/IndexOutOfBoundsException", S1))
    else (sh_g v1 4 (if (S1.1 (132 + 2 * v1.toNatClampNeg) 1) = 0 then (some (.inr "java/lang/IllegalStateException", S1))
    else (sh_c (fX7_leastHashFrom S1 (S1.1 (132 + 2 * v1.toNatClampNeg) 2)) fun r5 S4 =>
    sh_c (fX4_poolOfHash S4 r5) fun _ S6 =>
    sh_c (fX2_take v1.toNatClampNeg S6 r5) fun _ S8 =>
    some (.inl (S8.1 124 3), S8))))
set_option maxRecDepth 100000 in
set_option maxHeartbeats 4000000 in
theorem kX12_next (l : Launch) (hst : l.stackTraces = false) (v1 : Int32) : sh_Ti l yX12_next cX12_next 4 .int 10 1 6 tbX (fun G => [.ref (G.2.1 0), .int v1]) (fun S => fX12_next S v1) := by
  refine sh_mkti (by decide) (fun G => Nat.le_of_ble_eq_true rfl) ?_
  intro p e s m args below meth c G A S res ls hf C hr hno hw hl
  have C : sh_Cx p s m args meth c cX12_next 4 RX12 G A := C
  have hl : lv_has ls 4 [(0, .ref (G.2.1 0)), (1, .int v1)] := hl
  replace hf : fX12_next S v1 = some res := hf
  rw [fX12_next] at hf
  refine lv_iload_n C.1 C.2.1 dX12_next_0 rfl (lv_at hl 1 rfl) ?_
  refine sh_xSi (As := [.int v1]) (rest := []) C hw (kX12_isReader l v1) yy_X12_isReader ys_X12_isReader ml_X12_296 rfl hf rfl rfl rfl (Nat.le_of_ble_eq_true rfl) (by decide) (by decide) (by decide) hl.1 dX12_next_1 (fun r2 S1 H locs hw hf => ?_)
  refine sh_if_ne (tgt := 18) C hf dX12_next_4 (by decide) (fun hf => ?_) (fun hf => ?_)
  · refine lv_aload_n C.1 C.2.1 dX12_next_18 rfl (lv_at hl 0 rfl) ?_
    refine sh_getr C hw fl_X12_65 tbX_0 rfl dX12_next_19 ?_
    refine lv_iload_n C.1 C.2.1 dX12_next_22 rfl (lv_at hl 1 rfl) ?_
    refine sh_aald4 C hw hf tbX_131 dX12_next_23 (fun hj3 hf => ?_)
    refine lv_astore_n (lv' := [(2, .ref (G.2.1 (132 + 2 * v1.toNatClampNeg))), (0, .ref (G.2.1 0)), (1, .int v1)]) C.1 C.2.1 dX12_next_24 rfl hl (by decide) rfl (fun ls hl => ?_)
    refine lv_aload_n C.1 C.2.1 dX12_next_25 rfl (lv_at hl 0 rfl) ?_
    refine sh_geti C hw fl_X12_301 (tbX_cur hj3) rfl dX12_next_26 ?_
    refine sh_if_ne (tgt := 43) C hf dX12_next_29 (by decide) (fun hf => ?_) (fun hf => ?_)
    · refine lv_aload_n C.1 C.2.1 dX12_next_43 rfl (lv_at hl 1 rfl) ?_
      refine sh_getr C hw fl_X12_28 tbX_0 rfl dX12_next_44 ?_
      refine lv_aload_n C.1 C.2.1 dX12_next_47 rfl (lv_at hl 0 rfl) ?_
      refine sh_geti C hw fl_X12_309 (tbX_cur hj3) rfl dX12_next_48 ?_
      refine sh_xVi (As := [.int (S1.1 (132 + 2 * v1.toNatClampNeg) 2)]) (rest := []) C hw (kX7_leastHashFrom l (S1.1 (132 + 2 * v1.toNatClampNeg) 2)) yy_X7_leastHashFrom yv_X7_leastHashFrom ml_X12_312 hf tbX_4 rfl rfl rfl rfl (Nat.le_of_ble_eq_true rfl) (by decide) (by decide) (by decide) hl.1 dX12_next_51 (fun r5 S4 H locs hw hf => ?_)
      refine lv_istore_n (lv' := [(3, .int r5), (2, .ref (G.2.1 (132 + 2 * v1.toNatClampNeg))), (0, .ref (G.2.1 0)), (1, .int v1)]) C.1 C.2.1 dX12_next_54 rfl hl (by decide) rfl (fun ls hl => ?_)
      refine lv_aload_n C.1 C.2.1 dX12_next_55 rfl (lv_at hl 2 rfl) ?_
      refine sh_getr C hw fl_X12_50 tbX_0 rfl dX12_next_56 ?_
      refine lv_iload_n C.1 C.2.1 dX12_next_59 rfl (lv_at hl 0 rfl) ?_
      refine sh_xVv (As := [.int r5]) (rest := []) C hw (kX4_poolOfHash l r5) yy_X4_poolOfHash yv_X4_poolOfHash ml_X12_315 hf tbX_116 rfl rfl rfl rfl (Nat.le_of_ble_eq_true rfl) (by decide) (by decide) (by decide) hl.1 dX12_next_60 (fun S6 H locs hw hf => ?_)
      refine lv_aload_n C.1 C.2.1 dX12_next_63 rfl (lv_at hl 1 rfl) ?_
      refine lv_aload_n C.1 C.2.1 dX12_next_64 rfl (lv_at hl 2 rfl) ?_
      refine sh_getr C hw fl_X12_50 tbX_0 rfl dX12_next_65 ?_
      refine sh_getr C hw fl_X12_318 tbX_116 rfl dX12_next_68 ?_
      refine lv_iload_n C.1 C.2.1 dX12_next_71 rfl (lv_at hl 0 rfl) ?_
      refine sh_xVv (As := [.ref (G.2.1 124), .int r5]) (rest := []) C hw (kX2_take l hj3 r5) yy_X2_take yv_X2_take ml_X12_322 hf (tbX_cur hj3) rfl rfl rfl rfl (Nat.le_of_ble_eq_true rfl) (by decide) (by decide) (by decide) hl.1 dX12_next_72 (fun S8 H locs hw hf => ?_)
      refine lv_aload_n C.1 C.2.1 dX12_next_75 rfl (lv_at hl 2 rfl) ?_
      refine sh_getr C hw fl_X12_50 tbX_0 rfl dX12_next_76 ?_
      refine sh_getr C hw fl_X12_318 tbX_116 rfl dX12_next_79 ?_
      refine sh_geti C hw fl_X12_326 tbX_124 rfl dX12_next_82 ?_
      exact sh_tri C hw hr hf (by decide) (by decide) dX12_next_85
    · exact sh_thrWi hst C hw hno (tx_IS (text := "the READER is not OPEN") (by decide +kernel)) hf (by decide) (by decide) (by decide) hl.1 (Nat.le_of_ble_eq_true rfl) dX12_next_32 dX12_next_35 dX12_next_36 dX12_next_39 dX12_next_42
  · exact sh_thrWi hst C hw hno (tx_IO (text := "no such READER") (by decide +kernel)) hf (by decide) (by decide) (by decide) hl.1 (Nat.le_of_ble_eq_true rfl) dX12_next_7 dX12_next_10 dX12_next_11 dX12_next_14 dX12_next_17
def fX12_reader (S : sh_St) (v1 : Int32) (v2 : Int32) : Option ((Int32 ⊕ String) × sh_St) :=
    sh_c (fX12_isReader S v1) fun r2 S1 =>
    if r2 = 0 then (some (.inr "java/lang/IndexOutOfBoundsException", S1))
    else (sh_g v1 4 (if v2 = 0 then (if (S1.1 (132 + 2 * v1.toNatClampNeg) 1) = 0 then (some (.inl 0, S1))
    else (some (.inl 1, S1)))
    else (if v2 = 1 then (some (.inl (S1.1 (132 + 2 * v1.toNatClampNeg) 2), S1))
    else (if v2 = 2 then (some (.inl (S1.1 (132 + 2 * v1.toNatClampNeg) 3), S1))
    else (if v2 = 3 then (some (.inl (S1.1 (132 + 2 * v1.toNatClampNeg) 4), S1))
    else (some (.inr "java/util/NoSuchElementException", S1)))))))
set_option maxRecDepth 100000 in
set_option maxHeartbeats 4000000 in
theorem kX12_reader (l : Launch) (hst : l.stackTraces = false) (v1 : Int32) (v2 : Int32) : sh_Ti l yX12_reader cX12_reader 4 .int 10 1 6 tbX (fun G => [.ref (G.2.1 0), .int v1, .int v2]) (fun S => fX12_reader S v1 v2) := by
  refine sh_mkti (by decide) (fun G => Nat.le_of_ble_eq_true rfl) ?_
  intro p e s m args below meth c G A S res ls hf C hr hno hw hl
  have C : sh_Cx p s m args meth c cX12_reader 4 RX12 G A := C
  have hl : lv_has ls 4 [(0, .ref (G.2.1 0)), (1, .int v1), (2, .int v2)] := hl
  replace hf : fX12_reader S v1 v2 = some res := hf
  rw [fX12_reader] at hf
  refine lv_iload_n C.1 C.2.1 dX12_reader_0 rfl (lv_at hl 1 rfl) ?_
  refine sh_xSi (As := [.int v1]) (rest := []) C hw (kX12_isReader l v1) yy_X12_isReader ys_X12_isReader ml_X12_296 rfl hf rfl rfl rfl (Nat.le_of_ble_eq_true rfl) (by decide) (by decide) (by decide) hl.1 dX12_reader_1 (fun r2 S1 H locs hw hf => ?_)
  refine sh_if_ne (tgt := 18) C hf dX12_reader_4 (by decide) (fun hf => ?_) (fun hf => ?_)
  · refine lv_aload_n C.1 C.2.1 dX12_reader_18 rfl (lv_at hl 0 rfl) ?_
    refine sh_getr C hw fl_X12_65 tbX_0 rfl dX12_reader_19 ?_
    refine lv_iload_n C.1 C.2.1 dX12_reader_22 rfl (lv_at hl 1 rfl) ?_
    refine sh_aald4 C hw hf tbX_131 dX12_reader_23 (fun hj3 hf => ?_)
    refine lv_astore_n (lv' := [(3, .ref (G.2.1 (132 + 2 * v1.toNatClampNeg))), (0, .ref (G.2.1 0)), (1, .int v1), (2, .int v2)]) C.1 C.2.1 dX12_reader_24 rfl hl (by decide) rfl (fun ls hl => ?_)
    refine lv_iload_n C.1 C.2.1 dX12_reader_25 rfl (lv_at hl 3 rfl) ?_
    by_cases h26_0 : v2 = 0
    · replace hf := (sh_if hf).1 h26_0
      refine sh_swIn (off := 30) (tgt := 56) C h26_0 dX12_reader_26 (by decide) (by decide) (by decide) (by decide) ?_
      refine lv_aload_n C.1 C.2.1 dX12_reader_56 rfl (lv_at hl 0 rfl) ?_
      refine sh_geti C hw fl_X12_301 (tbX_cur hj3) rfl dX12_reader_57 ?_
      refine sh_if_eq (tgt := 67) C hf dX12_reader_60 (by decide) (fun hf => ?_) (fun hf => ?_)
      · refine lv_iconst (v := 0) C.1 C.2.1 dX12_reader_67 (by decide) ?_
        exact sh_tri C hw hr hf (by decide) (by decide) dX12_reader_68
      · refine lv_iconst (v := 1) C.1 C.2.1 dX12_reader_63 (by decide) ?_
        refine lv_goto (tgt := 68) C.1 C.2.1 dX12_reader_64 (by decide) ?_
        exact sh_tri C hw hr hf (by decide) (by decide) dX12_reader_68
    · replace hf := (sh_if hf).2 h26_0
      by_cases h26_1 : v2 = 1
      · replace hf := (sh_if hf).1 h26_1
        refine sh_swIn (off := 43) (tgt := 69) C h26_1 dX12_reader_26 (by decide) (by decide) (by decide) (by decide) ?_
        refine lv_aload_n C.1 C.2.1 dX12_reader_69 rfl (lv_at hl 0 rfl) ?_
        refine sh_geti C hw fl_X12_309 (tbX_cur hj3) rfl dX12_reader_70 ?_
        exact sh_tri C hw hr hf (by decide) (by decide) dX12_reader_73
      · replace hf := (sh_if hf).2 h26_1
        by_cases h26_2 : v2 = 2
        · replace hf := (sh_if hf).1 h26_2
          refine sh_swIn (off := 48) (tgt := 74) C h26_2 dX12_reader_26 (by decide) (by decide) (by decide) (by decide) ?_
          refine lv_aload_n C.1 C.2.1 dX12_reader_74 rfl (lv_at hl 0 rfl) ?_
          refine sh_geti C hw fl_X12_329 (tbX_cur hj3) rfl dX12_reader_75 ?_
          exact sh_tri C hw hr hf (by decide) (by decide) dX12_reader_78
        · replace hf := (sh_if hf).2 h26_2
          by_cases h26_3 : v2 = 3
          · replace hf := (sh_if hf).1 h26_3
            refine sh_swIn (off := 53) (tgt := 79) C h26_3 dX12_reader_26 (by decide) (by decide) (by decide) (by decide) ?_
            refine lv_aload_n C.1 C.2.1 dX12_reader_79 rfl (lv_at hl 0 rfl) ?_
            refine sh_geti C hw fl_X12_332 (tbX_cur hj3) rfl dX12_reader_80 ?_
            exact sh_tri C hw hr hf (by decide) (by decide) dX12_reader_83
          · replace hf := (sh_if hf).2 h26_3
            refine sh_swOut (tgt := 84) C (by have a0 := sh_neI (z := 0) h26_0 (by decide); have a1 := sh_neI (z := 1) h26_1 (by decide); have a2 := sh_neI (z := 2) h26_2 (by decide); have a3 := sh_neI (z := 3) h26_3 (by decide); omega) dX12_reader_26 (by decide) ?_
            exact sh_thrNS (text := "no such what") hst C hw hno (by decide +kernel) hf (by decide) (by decide) (by decide) hl.1 (Nat.le_of_ble_eq_true rfl) dX12_reader_84 dX12_reader_87 dX12_reader_88 dX12_reader_90 dX12_reader_93
  · exact sh_thrWi hst C hw hno (tx_IO (text := "no such READER") (by decide +kernel)) hf (by decide) (by decide) (by decide) hl.1 (Nat.le_of_ble_eq_true rfl) dX12_reader_7 dX12_reader_10 dX12_reader_11 dX12_reader_14 dX12_reader_17
def fX12_batch (S : sh_St) (v1 : Int32) (v2 : Int32) : Option ((Int32 ⊕ String) × sh_St) :=
    sh_c (fX12_isReader S v1) fun r2 S1 =>
    if r2 = 0 then (some (.inr "java/lang/IndexOutOfBoundsException", S1))
    else (sh_g v1 4 (if v2 < 0 then (some (.inl (-1), S1))
    else (if (S1.1 (132 + 2 * v1.toNatClampNeg) 4) ≤ v2 then (some (.inl (-1), S1))
    else (sh_g v2 60 (some (.inl (S1.1 (133 + 2 * v1.toNatClampNeg) v2.toNatClampNeg), S1))))))
set_option maxRecDepth 100000 in
set_option maxHeartbeats 4000000 in
theorem kX12_batch (l : Launch) (hst : l.stackTraces = false) (v1 : Int32) (v2 : Int32) : sh_Ti l yX12_batch cX12_batch 4 .int 10 1 6 tbX (fun G => [.ref (G.2.1 0), .int v1, .int v2]) (fun S => fX12_batch S v1 v2) := by
  refine sh_mkti (by decide) (fun G => Nat.le_of_ble_eq_true rfl) ?_
  intro p e s m args below meth c G A S res ls hf C hr hno hw hl
  have C : sh_Cx p s m args meth c cX12_batch 4 RX12 G A := C
  have hl : lv_has ls 4 [(0, .ref (G.2.1 0)), (1, .int v1), (2, .int v2)] := hl
  replace hf : fX12_batch S v1 v2 = some res := hf
  rw [fX12_batch] at hf
  refine lv_iload_n C.1 C.2.1 dX12_batch_0 rfl (lv_at hl 1 rfl) ?_
  refine sh_xSi (As := [.int v1]) (rest := []) C hw (kX12_isReader l v1) yy_X12_isReader ys_X12_isReader ml_X12_296 rfl hf rfl rfl rfl (Nat.le_of_ble_eq_true rfl) (by decide) (by decide) (by decide) hl.1 dX12_batch_1 (fun r2 S1 H locs hw hf => ?_)
  refine sh_if_ne (tgt := 18) C hf dX12_batch_4 (by decide) (fun hf => ?_) (fun hf => ?_)
  · refine lv_aload_n C.1 C.2.1 dX12_batch_18 rfl (lv_at hl 0 rfl) ?_
    refine sh_getr C hw fl_X12_65 tbX_0 rfl dX12_batch_19 ?_
    refine lv_iload_n C.1 C.2.1 dX12_batch_22 rfl (lv_at hl 1 rfl) ?_
    refine sh_aald4 C hw hf tbX_131 dX12_batch_23 (fun hj3 hf => ?_)
    refine lv_astore_n (lv' := [(3, .ref (G.2.1 (132 + 2 * v1.toNatClampNeg))), (0, .ref (G.2.1 0)), (1, .int v1), (2, .int v2)]) C.1 C.2.1 dX12_batch_24 rfl hl (by decide) rfl (fun ls hl => ?_)
    refine lv_iload_n C.1 C.2.1 dX12_batch_25 rfl (lv_at hl 3 rfl) ?_
    refine sh_if_lt (tgt := 46) C hf dX12_batch_26 (by decide) (fun hf => ?_) (fun hf => ?_)
    · refine lv_iconst (v := -1) C.1 C.2.1 dX12_batch_46 (by decide) ?_
      exact sh_tri C hw hr hf (by decide) (by decide) dX12_batch_47
    · refine lv_iload_n C.1 C.2.1 dX12_batch_29 rfl (lv_at hl 3 rfl) ?_
      refine lv_aload_n C.1 C.2.1 dX12_batch_30 rfl (lv_at hl 0 rfl) ?_
      refine sh_geti C hw fl_X12_332 (tbX_cur hj3) rfl dX12_batch_31 ?_
      refine sh_icmp_ge (tgt := 46) C hf dX12_batch_34 (by decide) (fun hf => ?_) (fun hf => ?_)
      · refine lv_iconst (v := -1) C.1 C.2.1 dX12_batch_46 (by decide) ?_
        exact sh_tri C hw hr hf (by decide) (by decide) dX12_batch_47
      · refine lv_aload_n C.1 C.2.1 dX12_batch_37 rfl (lv_at hl 0 rfl) ?_
        refine sh_getr C hw fl_X12_333 (tbX_cur hj3) rfl dX12_batch_38 ?_
        refine lv_iload_n C.1 C.2.1 dX12_batch_41 rfl (lv_at hl 3 rfl) ?_
        refine sh_iald C hw hf (tbX_curN hj3) dX12_batch_42 (fun hf => ?_)
        refine lv_goto (tgt := 47) C.1 C.2.1 dX12_batch_43 (by decide) ?_
        exact sh_tri C hw hr hf (by decide) (by decide) dX12_batch_47
  · exact sh_thrWi hst C hw hno (tx_IO (text := "no such READER") (by decide +kernel)) hf (by decide) (by decide) (by decide) hl.1 (Nat.le_of_ble_eq_true rfl) dX12_batch_7 dX12_batch_10 dX12_batch_11 dX12_batch_14 dX12_batch_17
def fX12_nameTold (S : sh_St) (v1 : Int32) : Option ((Int64 ⊕ String) × sh_St) :=
    sh_c (fX10_begin S v1) fun _ S1 =>
    sh_c (fX10_readName S1 ) fun r4 S3 =>
    sh_c (fX10_isRightlyOver S3 ) fun r6 S5 =>
    if r6 = 0 then (some (.inr "java/lang/IllegalArgumentException", S5))
    else (some (.inl r4, S5))
set_option maxRecDepth 100000 in
set_option maxHeartbeats 4000000 in
theorem kX12_nameTold (l : Launch) (hst : l.stackTraces = false) (v1 : Int32) : sh_Tl l yX12_nameTold cX12_nameTold 4 10 1 6 tbX (fun G => [.ref (G.2.1 0), .int v1]) (fun S => fX12_nameTold S v1) := by
  refine sh_mktl (by decide) (fun G => Nat.le_of_ble_eq_true rfl) ?_
  intro p e s m args below meth c G A S res ls hf C hr hno hw hl
  have C : sh_Cx p s m args meth c cX12_nameTold 4 RX12 G A := C
  have hl : lv_has ls 4 [(0, .ref (G.2.1 0)), (1, .int v1)] := hl
  replace hf : fX12_nameTold S v1 = some res := hf
  rw [fX12_nameTold] at hf
  refine lv_aload_n C.1 C.2.1 dX12_nameTold_0 rfl (lv_at hl 0 rfl) ?_
  refine sh_getr C hw fl_X12_21 tbX_0 rfl dX12_nameTold_1 ?_
  refine lv_iload_n C.1 C.2.1 dX12_nameTold_4 rfl (lv_at hl 1 rfl) ?_
  refine sh_xVv (As := [.int v1]) (rest := []) C hw (kX10_begin l v1) yy_X10_begin yv_X10_begin ml_X12_89 hf tbX_3 rfl rfl rfl rfl (Nat.le_of_ble_eq_true rfl) (by decide) (by decide) (by decide) hl.1 dX12_nameTold_5 (fun S1 H locs hw hf => ?_)
  refine lv_aload_n C.1 C.2.1 dX12_nameTold_8 rfl (lv_at hl 0 rfl) ?_
  refine sh_getr C hw fl_X12_21 tbX_0 rfl dX12_nameTold_9 ?_
  refine sh_xVl (As := []) (rest := []) C hw (kX10_readName l ) yy_X10_readName yv_X10_readName ml_X12_130 hf tbX_3 rfl rfl rfl rfl (Nat.le_of_ble_eq_true rfl) (by decide) (by decide) (by decide) hl.1 dX12_nameTold_12 (fun r4 S3 H locs hw hf => ?_)
  refine lv_lstore_n (lv' := [(2, .long r4), (0, .ref (G.2.1 0)), (1, .int v1)]) C.1 C.2.1 dX12_nameTold_15 rfl hl (by decide) rfl (fun ls hl => ?_)
  refine lv_aload_n C.1 C.2.1 dX12_nameTold_16 rfl (lv_at hl 1 rfl) ?_
  refine sh_getr C hw fl_X12_21 tbX_0 rfl dX12_nameTold_17 ?_
  refine sh_xVi (As := []) (rest := []) C hw (kX10_isRightlyOver l ) yy_X10_isRightlyOver yv_X10_isRightlyOver ml_X12_134 hf tbX_3 rfl rfl rfl rfl (Nat.le_of_ble_eq_true rfl) (by decide) (by decide) (by decide) hl.1 dX12_nameTold_20 (fun r6 S5 H locs hw hf => ?_)
  refine sh_if_ne (tgt := 36) C hf dX12_nameTold_23 (by decide) (fun hf => ?_) (fun hf => ?_)
  · refine lv_lload_n C.1 C.2.1 dX12_nameTold_36 rfl (lv_at hl 0 rfl) ?_
    exact sh_trl C hw hr hf (by decide) (by decide) dX12_nameTold_37
  · exact sh_thrl hst C hw hno (tx_IA (text := "the text is wrong") (by decide +kernel)) hf (by decide) (by decide) (by decide) hl.1 (Nat.le_of_ble_eq_true rfl) dX12_nameTold_26 dX12_nameTold_29 dX12_nameTold_30 dX12_nameTold_32 dX12_nameTold_35
def fX12_doByCall (S : sh_St) (v1 : Int32) (v2 : Int64) (v4 : Int64) (v6 : Int32) : Option ((Int32 ⊕ String) × sh_St) :=
    sh_c (fX4_refusalOf S v1 v2 v4 v6) fun r2 S1 =>
    sh_t (sh_I S1 0 10 r2) fun S3 =>
    if (S3.1 0 10) = 0 then (sh_c (fX3_remember S3 ) fun _ S4 =>
    sh_c (fX4_carryOut S4 v1 v2 v4 v6) fun r7 S6 =>
    sh_g v1 9 (if (([0, 0, 0, 1, 1, 1, 1, 0, 0] : List Int32).getD v1.toNatClampNeg 0) = 0 then (some (.inl r7, S6))
    else (sh_c (fX12_closeReaders S6 ) fun _ S8 =>
    some (.inl r7, S8))))
    else (some (.inr "java/lang/IllegalStateException", S3))
set_option maxRecDepth 100000 in
set_option maxHeartbeats 4000000 in
theorem kX12_doByCall (l : Launch) (hst : l.stackTraces = false) (v1 : Int32) (v2 : Int64) (v4 : Int64) (v6 : Int32) : sh_Ti l yX12_doByCall cX12_doByCall 8 .int 10 1 6 tbX (fun G => [.ref (G.2.1 0), .ref (G.2.2.1 v1.toNatClampNeg), .long v2, .long v4, .int v6]) (fun S => fX12_doByCall S v1 v2 v4 v6) := by
  refine sh_mkti (by decide) (fun G => Nat.le_of_ble_eq_true rfl) ?_
  intro p e s m args below meth c G A S res ls hf C hr hno hw hl
  have C : sh_Cx p s m args meth c cX12_doByCall 8 RX12 G A := C
  have hl : lv_has ls 8 [(0, .ref (G.2.1 0)), (1, .ref (G.2.2.1 v1.toNatClampNeg)), (2, .long v2), (4, .long v4), (6, .int v6)] := hl
  replace hf : fX12_doByCall S v1 v2 v4 v6 = some res := hf
  rw [fX12_doByCall] at hf
  refine lv_aload_n C.1 C.2.1 dX12_doByCall_0 rfl (lv_at hl 0 rfl) ?_
  refine lv_aload_n C.1 C.2.1 dX12_doByCall_1 rfl (lv_at hl 0 rfl) ?_
  refine sh_getr C hw fl_X12_50 tbX_0 rfl dX12_doByCall_2 ?_
  refine lv_aload_n C.1 C.2.1 dX12_doByCall_5 rfl (lv_at hl 1 rfl) ?_
  refine lv_lload_n C.1 C.2.1 dX12_doByCall_6 rfl (lv_at hl 2 rfl) ?_
  refine lv_lload C.1 C.2.1 dX12_doByCall_7 (lv_at hl 3 rfl) ?_
  refine lv_iload C.1 C.2.1 dX12_doByCall_9 (lv_at hl 4 rfl) ?_
  refine sh_xVi (As := [.ref (G.2.2.1 v1.toNatClampNeg), .long v2, .long v4, .int v6]) (rest := [.ref (G.2.1 0)]) C hw (kX4_refusalOf l v1 v2 v4 v6) yy_X4_refusalOf yv_X4_refusalOf ml_X12_364 hf tbX_116 rfl rfl rfl rfl (Nat.le_of_ble_eq_true rfl) (by decide) (by decide) (by decide) hl.1 dX12_doByCall_11 (fun r2 S1 H locs hw hf => ?_)
  refine sh_puti C hw fl_X12_73 fp_10_10 hf tbX_0 rfl dX12_doByCall_14 (fun S3 H locs hw hf => ?_)
  refine lv_aload_n C.1 C.2.1 dX12_doByCall_17 rfl (lv_at hl 0 rfl) ?_
  refine sh_geti C hw fl_X12_73 tbX_0 rfl dX12_doByCall_18 ?_
  refine sh_if_eq (tgt := 35) C hf dX12_doByCall_21 (by decide) (fun hf => ?_) (fun hf => ?_)
  · refine lv_aload_n C.1 C.2.1 dX12_doByCall_35 rfl (lv_at hl 0 rfl) ?_
    refine sh_getr C hw fl_X12_41 tbX_0 rfl dX12_doByCall_36 ?_
    refine lv_aload_n C.1 C.2.1 dX12_doByCall_39 rfl (lv_at hl 0 rfl) ?_
    refine sh_getr C hw fl_X12_28 tbX_0 rfl dX12_doByCall_40 ?_
    refine sh_xVv (As := [.ref (G.2.1 4)]) (rest := []) C hw (kX3_remember l ) yy_X3_remember yv_X3_remember ml_X12_369 hf tbX_34 rfl rfl rfl rfl (Nat.le_of_ble_eq_true rfl) (by decide) (by decide) (by decide) hl.1 dX12_doByCall_43 (fun S4 H locs hw hf => ?_)
    refine lv_aload_n C.1 C.2.1 dX12_doByCall_46 rfl (lv_at hl 0 rfl) ?_
    refine sh_getr C hw fl_X12_50 tbX_0 rfl dX12_doByCall_47 ?_
    refine lv_aload_n C.1 C.2.1 dX12_doByCall_50 rfl (lv_at hl 1 rfl) ?_
    refine lv_lload_n C.1 C.2.1 dX12_doByCall_51 rfl (lv_at hl 2 rfl) ?_
    refine lv_lload C.1 C.2.1 dX12_doByCall_52 (lv_at hl 3 rfl) ?_
    refine lv_iload C.1 C.2.1 dX12_doByCall_54 (lv_at hl 4 rfl) ?_
    refine sh_xVi (As := [.ref (G.2.2.1 v1.toNatClampNeg), .long v2, .long v4, .int v6]) (rest := []) C hw (kX4_carryOut l v1 v2 v4 v6) yy_X4_carryOut yv_X4_carryOut ml_X12_372 hf tbX_116 rfl rfl rfl rfl (Nat.le_of_ble_eq_true rfl) (by decide) (by decide) (by decide) hl.1 dX12_doByCall_56 (fun r7 S6 H locs hw hf => ?_)
    refine lv_istore (lv' := [(7, .int r7), (0, .ref (G.2.1 0)), (1, .ref (G.2.2.1 v1.toNatClampNeg)), (2, .long v2), (4, .long v4), (6, .int v6)]) C.1 C.2.1 dX12_doByCall_59 hl (by decide) rfl (fun ls hl => ?_)
    refine lv_aload_n C.1 C.2.1 dX12_doByCall_61 rfl (lv_at hl 2 rfl) ?_
    refine sh_getF C hw ("SteadyShelf$Act", "tunes", "Z", [0, 0, 0, 1, 1, 1, 1, 0, 0]) (by decide) hf al_X12_375 dX12_doByCall_62 (fun hf => ?_)
    refine sh_if_eq (tgt := 72) C hf dX12_doByCall_65 (by decide) (fun hf => ?_) (fun hf => ?_)
    · refine lv_iload C.1 C.2.1 dX12_doByCall_72 (lv_at hl 0 rfl) ?_
      exact sh_tri C hw hr hf (by decide) (by decide) dX12_doByCall_74
    · refine lv_aload_n C.1 C.2.1 dX12_doByCall_68 rfl (lv_at hl 1 rfl) ?_
      refine sh_xVv (As := []) (rest := []) C hw (kX12_closeReaders l ) yy_X12_closeReaders yv_X12_closeReaders ml_X12_334 hf tbX_0 rfl rfl rfl rfl (Nat.le_of_ble_eq_true rfl) (by decide) (by decide) (by decide) hl.1 dX12_doByCall_69 (fun S8 H locs hw hf => ?_)
      refine lv_iload C.1 C.2.1 dX12_doByCall_72 (lv_at hl 0 rfl) ?_
      exact sh_tri C hw hr hf (by decide) (by decide) dX12_doByCall_74
  · exact sh_thrWi hst C hw hno (tx_IS (text := "the ACT is refused") (by decide +kernel)) hf (by decide) (by decide) (by decide) hl.1 (Nat.le_of_ble_eq_true rfl) dX12_doByCall_24 dX12_doByCall_27 dX12_doByCall_28 dX12_doByCall_31 dX12_doByCall_34
def fX12_put_19 (S : sh_St) : Option ((Int32 ⊕ String) × sh_St) :=
    some (.inr "java/lang/IllegalArgumentException", S)
set_option maxRecDepth 100000 in
set_option maxHeartbeats 4000000 in
theorem wX12_put_19 {p : Program} {l : Launch} {e : Env} {s : State} {m : MethodId} {args : Array Value} {below : List Frame} {meth : Method} {c : Code} {G : sh_Ev} {A : Nat → Prop} {res : (Int32 ⊕ String) × sh_St} (hst : l.stackTraces = false) (hno : ∀ x ∈ c.exceptionTable.toList, False) (C : sh_Cx p s m args meth c cX12_put 5 RX12 G A) (hr : meth.sig.returnType = some .int) : ∀ (S : sh_St), fX12_put_19 S = some res → ∀ (H : Heap) (locs : List Loc) (ls : Array Slot), sh_Wx G tbX A s H locs S → lv_has ls 5 [] → W p l e (sh_rx 11 2 12) s m args below meth c H locs 0 0 (sh_Qti below args s G tbX A 2 12 res) (F0 m 19 ls []) := by
  intro S hf H locs ls hw hl
  rw [fX12_put_19] at hf
  exact sh_thri hst C hw hno (tx_IA (text := "no NODE") (by decide +kernel)) hf (by decide) (by decide) (by decide) hl.1 (Nat.le_of_ble_eq_true rfl) dX12_put_19 dX12_put_22 dX12_put_23 dX12_put_25 dX12_put_28
def fX12_put (S : sh_St) (v1 : Int32) : Option ((Int32 ⊕ String) × sh_St) :=
    sh_c (fX9_useUp S ) fun r2 S1 =>
    if v1 < 0 then (fX12_put_19 S1)
    else (if v1 ≤ 999 then (sh_cx (fX12_nameTold S1 r2) fun r4 S3 =>
    sh_cx (fX12_doByCall S3 0 r4 0 v1) fun r6 S5 =>
    some (.inl r6, S5))
    else (fX12_put_19 S1))
set_option maxRecDepth 100000 in
set_option maxHeartbeats 4000000 in
theorem kX12_put (l : Launch) (hst : l.stackTraces = false) (v1 : Int32) : sh_Ti l yX12_put cX12_put 5 .int 11 2 12 tbX (fun G => [.ref (G.2.1 0), .int v1]) (fun S => fX12_put S v1) := by
  refine sh_mkti (by decide) (fun G => Nat.le_of_ble_eq_true rfl) ?_
  intro p e s m args below meth c G A S res ls hf C hr hno hw hl
  have C : sh_Cx p s m args meth c cX12_put 5 RX12 G A := C
  have hl : lv_has ls 5 [(0, .ref (G.2.1 0)), (1, .int v1)] := hl
  replace hf : fX12_put S v1 = some res := hf
  rw [fX12_put] at hf
  refine lv_aload_n C.1 C.2.1 dX12_put_0 rfl (lv_at hl 0 rfl) ?_
  refine sh_getr C hw fl_X12_12 tbX_0 rfl dX12_put_1 ?_
  refine sh_xVi (As := []) (rest := []) C hw (kX9_useUp l ) yy_X9_useUp yv_X9_useUp ml_X12_85 hf tbX_1 rfl rfl rfl rfl (Nat.le_of_ble_eq_true rfl) (by decide) (by decide) (by decide) hl.1 dX12_put_4 (fun r2 S1 H locs hw hf => ?_)
  refine lv_istore_n (lv' := [(2, .int r2), (0, .ref (G.2.1 0)), (1, .int v1)]) C.1 C.2.1 dX12_put_7 rfl hl (by decide) rfl (fun ls hl => ?_)
  refine lv_iload_n C.1 C.2.1 dX12_put_8 rfl (lv_at hl 2 rfl) ?_
  refine sh_if_lt (tgt := 19) C hf dX12_put_9 (by decide) (fun hf => ?_) (fun hf => ?_)
  · exact wX12_put_19 hst hno C hr S1  hf _ _ _ hw (lv_sub hl [] rfl)
  · refine lv_iload_n C.1 C.2.1 dX12_put_12 rfl (lv_at hl 2 rfl) ?_
    refine lv_sipush (v := 999) C.1 C.2.1 dX12_put_13 (by decide) ?_
    refine sh_icmp_le (tgt := 29) C hf dX12_put_16 (by decide) (fun hf => ?_) (fun hf => ?_)
    · refine lv_aload_n C.1 C.2.1 dX12_put_29 rfl (lv_at hl 1 rfl) ?_
      refine lv_iload_n C.1 C.2.1 dX12_put_30 rfl (lv_at hl 0 rfl) ?_
      refine sh_TVl (As := [.int r2]) (rest := []) C hw hno (kX12_nameTold l hst r2) yy_X12_nameTold yv_X12_nameTold ml_X12_113 hf tbX_0 rfl rfl rfl rfl (Nat.le_of_ble_eq_true rfl) (by decide) (by decide) (by decide) hl.1 dX12_put_31 (fun r4 S3 H locs hw hf => ?_)
      refine lv_lstore_n (lv' := [(3, .long r4), (2, .int r2), (0, .ref (G.2.1 0)), (1, .int v1)]) C.1 C.2.1 dX12_put_34 rfl hl (by decide) rfl (fun ls hl => ?_)
      refine lv_aload_n C.1 C.2.1 dX12_put_35 rfl (lv_at hl 2 rfl) ?_
      refine sh_gets (k := 0) (z := 0) C hw (by decide) (by decide) al_X12_117 dX12_put_36 ?_
      refine lv_lload_n C.1 C.2.1 dX12_put_39 rfl (lv_at hl 0 rfl) ?_
      refine lv_lconst (v := 0) C.1 C.2.1 dX12_put_40 (by decide) ?_
      refine lv_iload_n C.1 C.2.1 dX12_put_41 rfl (lv_at hl 3 rfl) ?_
      refine sh_TVi (As := [.ref (G.2.2.1 (0 : Int32).toNatClampNeg), .long r4, .long 0, .int v1]) (rest := []) C hw hno (kX12_doByCall l hst 0 r4 0 v1) yy_X12_doByCall yv_X12_doByCall ml_X12_123 hf tbX_0 rfl rfl rfl rfl (Nat.le_of_ble_eq_true rfl) (by decide) (by decide) (by decide) hl.1 dX12_put_42 (fun r6 S5 H locs hw hf => ?_)
      exact sh_tri C hw hr hf (by decide) (by decide) dX12_put_45
    · exact wX12_put_19 hst hno C hr S1  hf _ _ _ hw (lv_sub hl [] rfl)
def fX12_cut (S : sh_St) : Option ((Int32 ⊕ String) × sh_St) :=
    sh_c (fX9_useUp S ) fun r2 S1 =>
    sh_cx (fX12_nameTold S1 r2) fun r4 S3 =>
    sh_cx (fX12_doByCall S3 1 r4 0 0) fun r6 S5 =>
    some (.inl r6, S5)
set_option maxRecDepth 100000 in
set_option maxHeartbeats 4000000 in
theorem kX12_cut (l : Launch) (hst : l.stackTraces = false) : sh_Ti l yX12_cut cX12_cut 3 .int 11 2 12 tbX (fun G => [.ref (G.2.1 0)]) (fun S => fX12_cut S) := by
  refine sh_mkti (by decide) (fun G => Nat.le_of_ble_eq_true rfl) ?_
  intro p e s m args below meth c G A S res ls hf C hr hno hw hl
  have C : sh_Cx p s m args meth c cX12_cut 3 RX12 G A := C
  have hl : lv_has ls 3 [(0, .ref (G.2.1 0))] := hl
  replace hf : fX12_cut S = some res := hf
  rw [fX12_cut] at hf
  refine lv_aload_n C.1 C.2.1 dX12_cut_0 rfl (lv_at hl 0 rfl) ?_
  refine lv_aload_n C.1 C.2.1 dX12_cut_1 rfl (lv_at hl 0 rfl) ?_
  refine sh_getr C hw fl_X12_12 tbX_0 rfl dX12_cut_2 ?_
  refine sh_xVi (As := []) (rest := [.ref (G.2.1 0)]) C hw (kX9_useUp l ) yy_X9_useUp yv_X9_useUp ml_X12_85 hf tbX_1 rfl rfl rfl rfl (Nat.le_of_ble_eq_true rfl) (by decide) (by decide) (by decide) hl.1 dX12_cut_5 (fun r2 S1 H locs hw hf => ?_)
  refine sh_TVl (As := [.int r2]) (rest := []) C hw hno (kX12_nameTold l hst r2) yy_X12_nameTold yv_X12_nameTold ml_X12_113 hf tbX_0 rfl rfl rfl rfl (Nat.le_of_ble_eq_true rfl) (by decide) (by decide) (by decide) hl.1 dX12_cut_8 (fun r4 S3 H locs hw hf => ?_)
  refine lv_lstore_n (lv' := [(1, .long r4), (0, .ref (G.2.1 0))]) C.1 C.2.1 dX12_cut_11 rfl hl (by decide) rfl (fun ls hl => ?_)
  refine lv_aload_n C.1 C.2.1 dX12_cut_12 rfl (lv_at hl 1 rfl) ?_
  refine sh_gets (k := 1) (z := 1) C hw (by decide) (by decide) al_X12_127 dX12_cut_13 ?_
  refine lv_lload_n C.1 C.2.1 dX12_cut_16 rfl (lv_at hl 0 rfl) ?_
  refine lv_lconst (v := 0) C.1 C.2.1 dX12_cut_17 (by decide) ?_
  refine lv_iconst (v := 0) C.1 C.2.1 dX12_cut_18 (by decide) ?_
  refine sh_TVi (As := [.ref (G.2.2.1 (1 : Int32).toNatClampNeg), .long r4, .long 0, .int 0]) (rest := []) C hw hno (kX12_doByCall l hst 1 r4 0 0) yy_X12_doByCall yv_X12_doByCall ml_X12_123 hf tbX_0 rfl rfl rfl rfl (Nat.le_of_ble_eq_true rfl) (by decide) (by decide) (by decide) hl.1 dX12_cut_19 (fun r6 S5 H locs hw hf => ?_)
  exact sh_tri C hw hr hf (by decide) (by decide) dX12_cut_22
def fX12_turn (S : sh_St) : Option ((Int32 ⊕ String) × sh_St) :=
    sh_c (fX9_useUp S ) fun r2 S1 =>
    sh_c (fX10_begin S1 r2) fun _ S3 =>
    sh_c (fX10_readName S3 ) fun r6 S5 =>
    sh_c (fX10_readName S5 ) fun r8 S7 =>
    sh_c (fX10_isRightlyOver S7 ) fun r10 S9 =>
    if r10 = 0 then (some (.inr "java/lang/IllegalArgumentException", S9))
    else (sh_cx (fX12_doByCall S9 2 r6 r8 0) fun r12 S11 =>
    some (.inl r12, S11))
set_option maxRecDepth 100000 in
set_option maxHeartbeats 4000000 in
theorem kX12_turn (l : Launch) (hst : l.stackTraces = false) : sh_Ti l yX12_turn cX12_turn 5 .int 11 1 6 tbX (fun G => [.ref (G.2.1 0)]) (fun S => fX12_turn S) := by
  refine sh_mkti (by decide) (fun G => Nat.le_of_ble_eq_true rfl) ?_
  intro p e s m args below meth c G A S res ls hf C hr hno hw hl
  have C : sh_Cx p s m args meth c cX12_turn 5 RX12 G A := C
  have hl : lv_has ls 5 [(0, .ref (G.2.1 0))] := hl
  replace hf : fX12_turn S = some res := hf
  rw [fX12_turn] at hf
  refine lv_aload_n C.1 C.2.1 dX12_turn_0 rfl (lv_at hl 0 rfl) ?_
  refine sh_getr C hw fl_X12_21 tbX_0 rfl dX12_turn_1 ?_
  refine lv_aload_n C.1 C.2.1 dX12_turn_4 rfl (lv_at hl 0 rfl) ?_
  refine sh_getr C hw fl_X12_12 tbX_0 rfl dX12_turn_5 ?_
  refine sh_xVi (As := []) (rest := [.ref (G.2.1 3)]) C hw (kX9_useUp l ) yy_X9_useUp yv_X9_useUp ml_X12_85 hf tbX_1 rfl rfl rfl rfl (Nat.le_of_ble_eq_true rfl) (by decide) (by decide) (by decide) hl.1 dX12_turn_8 (fun r2 S1 H locs hw hf => ?_)
  refine sh_xVv (As := [.int r2]) (rest := []) C hw (kX10_begin l r2) yy_X10_begin yv_X10_begin ml_X12_89 hf tbX_3 rfl rfl rfl rfl (Nat.le_of_ble_eq_true rfl) (by decide) (by decide) (by decide) hl.1 dX12_turn_11 (fun S3 H locs hw hf => ?_)
  refine lv_aload_n C.1 C.2.1 dX12_turn_14 rfl (lv_at hl 0 rfl) ?_
  refine sh_getr C hw fl_X12_21 tbX_0 rfl dX12_turn_15 ?_
  refine sh_xVl (As := []) (rest := []) C hw (kX10_readName l ) yy_X10_readName yv_X10_readName ml_X12_130 hf tbX_3 rfl rfl rfl rfl (Nat.le_of_ble_eq_true rfl) (by decide) (by decide) (by decide) hl.1 dX12_turn_18 (fun r6 S5 H locs hw hf => ?_)
  refine lv_lstore_n (lv' := [(1, .long r6), (0, .ref (G.2.1 0))]) C.1 C.2.1 dX12_turn_21 rfl hl (by decide) rfl (fun ls hl => ?_)
  refine lv_aload_n C.1 C.2.1 dX12_turn_22 rfl (lv_at hl 1 rfl) ?_
  refine sh_getr C hw fl_X12_21 tbX_0 rfl dX12_turn_23 ?_
  refine sh_xVl (As := []) (rest := []) C hw (kX10_readName l ) yy_X10_readName yv_X10_readName ml_X12_130 hf tbX_3 rfl rfl rfl rfl (Nat.le_of_ble_eq_true rfl) (by decide) (by decide) (by decide) hl.1 dX12_turn_26 (fun r8 S7 H locs hw hf => ?_)
  refine lv_lstore_n (lv' := [(3, .long r8), (1, .long r6), (0, .ref (G.2.1 0))]) C.1 C.2.1 dX12_turn_29 rfl hl (by decide) rfl (fun ls hl => ?_)
  refine lv_aload_n C.1 C.2.1 dX12_turn_30 rfl (lv_at hl 2 rfl) ?_
  refine sh_getr C hw fl_X12_21 tbX_0 rfl dX12_turn_31 ?_
  refine sh_xVi (As := []) (rest := []) C hw (kX10_isRightlyOver l ) yy_X10_isRightlyOver yv_X10_isRightlyOver ml_X12_134 hf tbX_3 rfl rfl rfl rfl (Nat.le_of_ble_eq_true rfl) (by decide) (by decide) (by decide) hl.1 dX12_turn_34 (fun r10 S9 H locs hw hf => ?_)
  refine sh_if_ne (tgt := 50) C hf dX12_turn_37 (by decide) (fun hf => ?_) (fun hf => ?_)
  · refine lv_aload_n C.1 C.2.1 dX12_turn_50 rfl (lv_at hl 2 rfl) ?_
    refine sh_gets (k := 2) (z := 2) C hw (by decide) (by decide) al_X12_138 dX12_turn_51 ?_
    refine lv_lload_n C.1 C.2.1 dX12_turn_54 rfl (lv_at hl 1 rfl) ?_
    refine lv_lload_n C.1 C.2.1 dX12_turn_55 rfl (lv_at hl 0 rfl) ?_
    refine lv_iconst (v := 0) C.1 C.2.1 dX12_turn_56 (by decide) ?_
    refine sh_TVi (As := [.ref (G.2.2.1 (2 : Int32).toNatClampNeg), .long r6, .long r8, .int 0]) (rest := []) C hw hno (kX12_doByCall l hst 2 r6 r8 0) yy_X12_doByCall yv_X12_doByCall ml_X12_123 hf tbX_0 rfl rfl rfl rfl (Nat.le_of_ble_eq_true rfl) (by decide) (by decide) (by decide) hl.1 dX12_turn_57 (fun r12 S11 H locs hw hf => ?_)
    exact sh_tri C hw hr hf (by decide) (by decide) dX12_turn_60
  · exact sh_thri hst C hw hno (tx_IA (text := "the text is wrong") (by decide +kernel)) hf (by decide) (by decide) (by decide) hl.1 (Nat.le_of_ble_eq_true rfl) dX12_turn_40 dX12_turn_43 dX12_turn_44 dX12_turn_46 dX12_turn_49
def fX12_build (S : sh_St) : Option ((Int32 ⊕ String) × sh_St) :=
    sh_cx (fX12_doByCall S 8 0 0 0) fun r2 S1 =>
    some (.inl r2, S1)
set_option maxRecDepth 100000 in
set_option maxHeartbeats 4000000 in
theorem kX12_build (l : Launch) (hst : l.stackTraces = false) : sh_Ti l yX12_build cX12_build 1 .int 11 1 6 tbX (fun G => [.ref (G.2.1 0)]) (fun S => fX12_build S) := by
  refine sh_mkti (by decide) (fun G => Nat.le_of_ble_eq_true rfl) ?_
  intro p e s m args below meth c G A S res ls hf C hr hno hw hl
  have C : sh_Cx p s m args meth c cX12_build 1 RX12 G A := C
  have hl : lv_has ls 1 [(0, .ref (G.2.1 0))] := hl
  replace hf : fX12_build S = some res := hf
  rw [fX12_build] at hf
  refine lv_aload_n C.1 C.2.1 dX12_build_0 rfl (lv_at hl 0 rfl) ?_
  refine sh_gets (k := 8) (z := 8) C hw (by decide) (by decide) al_X12_141 dX12_build_1 ?_
  refine lv_lconst (v := 0) C.1 C.2.1 dX12_build_4 (by decide) ?_
  refine lv_lconst (v := 0) C.1 C.2.1 dX12_build_5 (by decide) ?_
  refine lv_iconst (v := 0) C.1 C.2.1 dX12_build_6 (by decide) ?_
  refine sh_TVi (As := [.ref (G.2.2.1 (8 : Int32).toNatClampNeg), .long 0, .long 0, .int 0]) (rest := []) C hw hno (kX12_doByCall l hst 8 0 0 0) yy_X12_doByCall yv_X12_doByCall ml_X12_123 hf tbX_0 rfl rfl rfl rfl (Nat.le_of_ble_eq_true rfl) (by decide) (by decide) (by decide) hl.1 dX12_build_7 (fun r2 S1 H locs hw hf => ?_)
  exact sh_tri C hw hr hf (by decide) (by decide) dX12_build_10
def fX12_tear (S : sh_St) (v1 : Int32) : Option ((Int32 ⊕ String) × sh_St) :=
    sh_c (fX12_isBlock S v1) fun r2 S1 =>
    if r2 = 0 then (some (.inr "java/lang/IndexOutOfBoundsException", S1))
    else (sh_cx (fX12_doByCall S1 7 0 0 v1) fun r4 S3 =>
    some (.inl r4, S3))
set_option maxRecDepth 100000 in
set_option maxHeartbeats 4000000 in
theorem kX12_tear (l : Launch) (hst : l.stackTraces = false) (v1 : Int32) : sh_Ti l yX12_tear cX12_tear 2 .int 11 1 6 tbX (fun G => [.ref (G.2.1 0), .int v1]) (fun S => fX12_tear S v1) := by
  refine sh_mkti (by decide) (fun G => Nat.le_of_ble_eq_true rfl) ?_
  intro p e s m args below meth c G A S res ls hf C hr hno hw hl
  have C : sh_Cx p s m args meth c cX12_tear 2 RX12 G A := C
  have hl : lv_has ls 2 [(0, .ref (G.2.1 0)), (1, .int v1)] := hl
  replace hf : fX12_tear S v1 = some res := hf
  rw [fX12_tear] at hf
  refine lv_iload_n C.1 C.2.1 dX12_tear_0 rfl (lv_at hl 1 rfl) ?_
  refine sh_xSi (As := [.int v1]) (rest := []) C hw (kX12_isBlock l v1) yy_X12_isBlock ys_X12_isBlock ml_X12_174 rfl hf rfl rfl rfl (Nat.le_of_ble_eq_true rfl) (by decide) (by decide) (by decide) hl.1 dX12_tear_1 (fun r2 S1 H locs hw hf => ?_)
  refine sh_if_ne (tgt := 17) C hf dX12_tear_4 (by decide) (fun hf => ?_) (fun hf => ?_)
  · refine lv_aload_n C.1 C.2.1 dX12_tear_17 rfl (lv_at hl 0 rfl) ?_
    refine sh_gets (k := 7) (z := 7) C hw (by decide) (by decide) al_X12_183 dX12_tear_18 ?_
    refine lv_lconst (v := 0) C.1 C.2.1 dX12_tear_21 (by decide) ?_
    refine lv_lconst (v := 0) C.1 C.2.1 dX12_tear_22 (by decide) ?_
    refine lv_iload_n C.1 C.2.1 dX12_tear_23 rfl (lv_at hl 1 rfl) ?_
    refine sh_TVi (As := [.ref (G.2.2.1 (7 : Int32).toNatClampNeg), .long 0, .long 0, .int v1]) (rest := []) C hw hno (kX12_doByCall l hst 7 0 0 v1) yy_X12_doByCall yv_X12_doByCall ml_X12_123 hf tbX_0 rfl rfl rfl rfl (Nat.le_of_ble_eq_true rfl) (by decide) (by decide) (by decide) hl.1 dX12_tear_24 (fun r4 S3 H locs hw hf => ?_)
    exact sh_tri C hw hr hf (by decide) (by decide) dX12_tear_27
  · exact sh_thri hst C hw hno (tx_IO (text := "no such BLOCK") (by decide +kernel)) hf (by decide) (by decide) (by decide) hl.1 (Nat.le_of_ble_eq_true rfl) dX12_tear_7 dX12_tear_10 dX12_tear_11 dX12_tear_13 dX12_tear_16
def fX12_find_18 (S : sh_St) : Option ((Int32 ⊕ String) × sh_St) :=
    some (.inr "java/util/NoSuchElementException", S)
set_option maxRecDepth 100000 in
set_option maxHeartbeats 4000000 in
theorem wX12_find_18 {p : Program} {l : Launch} {e : Env} {s : State} {m : MethodId} {args : Array Value} {below : List Frame} {meth : Method} {c : Code} {G : sh_Ev} {A : Nat → Prop} {res : (Int32 ⊕ String) × sh_St} (hst : l.stackTraces = false) (hno : ∀ x ∈ c.exceptionTable.toList, False) (C : sh_Cx p s m args meth c cX12_find 5 RX12 G A) (hr : meth.sig.returnType = some .int) : ∀ (S : sh_St), fX12_find_18 S = some res → ∀ (H : Heap) (locs : List Loc) (ls : Array Slot), sh_Wx G tbX A s H locs S → lv_has ls 5 [] → W p l e (sh_rx 11 1 6) s m args below meth c H locs 0 0 (sh_Qti below args s G tbX A 1 6 res) (F0 m 18 ls []) := by
  intro S hf H locs ls hw hl
  rw [fX12_find_18] at hf
  exact sh_thrNS (text := "no such what") hst C hw hno (by decide +kernel) hf (by decide) (by decide) (by decide) hl.1 (Nat.le_of_ble_eq_true rfl) dX12_find_18 dX12_find_21 dX12_find_22 dX12_find_24 dX12_find_27
def fX12_find (S : sh_St) (v1 : Int32) : Option ((Int32 ⊕ String) × sh_St) :=
    sh_c (fX9_useUp S ) fun r2 S1 =>
    if v1 < 0 then (fX12_find_18 S1)
    else (if v1 ≤ 8 then (sh_cx (fX12_nameTold S1 r2) fun r4 S3 =>
    if 3 < v1 then (sh_c (fX8_ofName S3 r4 v1) fun r6 S5 =>
    some (.inl r6, S5))
    else (sh_c (fX4_whereabouts S3 r4 v1) fun r8 S7 =>
    some (.inl r8, S7)))
    else (fX12_find_18 S1))
set_option maxRecDepth 100000 in
set_option maxHeartbeats 4000000 in
theorem kX12_find (l : Launch) (hst : l.stackTraces = false) (v1 : Int32) : sh_Ti l yX12_find cX12_find 5 .int 11 1 6 tbX (fun G => [.ref (G.2.1 0), .int v1]) (fun S => fX12_find S v1) := by
  refine sh_mkti (by decide) (fun G => Nat.le_of_ble_eq_true rfl) ?_
  intro p e s m args below meth c G A S res ls hf C hr hno hw hl
  have C : sh_Cx p s m args meth c cX12_find 5 RX12 G A := C
  have hl : lv_has ls 5 [(0, .ref (G.2.1 0)), (1, .int v1)] := hl
  replace hf : fX12_find S v1 = some res := hf
  rw [fX12_find] at hf
  refine lv_aload_n C.1 C.2.1 dX12_find_0 rfl (lv_at hl 0 rfl) ?_
  refine sh_getr C hw fl_X12_12 tbX_0 rfl dX12_find_1 ?_
  refine sh_xVi (As := []) (rest := []) C hw (kX9_useUp l ) yy_X9_useUp yv_X9_useUp ml_X12_85 hf tbX_1 rfl rfl rfl rfl (Nat.le_of_ble_eq_true rfl) (by decide) (by decide) (by decide) hl.1 dX12_find_4 (fun r2 S1 H locs hw hf => ?_)
  refine lv_istore_n (lv' := [(2, .int r2), (0, .ref (G.2.1 0)), (1, .int v1)]) C.1 C.2.1 dX12_find_7 rfl hl (by decide) rfl (fun ls hl => ?_)
  refine lv_iload_n C.1 C.2.1 dX12_find_8 rfl (lv_at hl 2 rfl) ?_
  refine sh_if_lt (tgt := 18) C hf dX12_find_9 (by decide) (fun hf => ?_) (fun hf => ?_)
  · exact wX12_find_18 hst hno C hr S1  hf _ _ _ hw (lv_sub hl [] rfl)
  · refine lv_iload_n C.1 C.2.1 dX12_find_12 rfl (lv_at hl 2 rfl) ?_
    refine lv_bipush (v := 8) C.1 C.2.1 dX12_find_13 (by decide) ?_
    refine sh_icmp_le (tgt := 28) C hf dX12_find_15 (by decide) (fun hf => ?_) (fun hf => ?_)
    · refine lv_aload_n C.1 C.2.1 dX12_find_28 rfl (lv_at hl 1 rfl) ?_
      refine lv_iload_n C.1 C.2.1 dX12_find_29 rfl (lv_at hl 0 rfl) ?_
      refine sh_TVl (As := [.int r2]) (rest := []) C hw hno (kX12_nameTold l hst r2) yy_X12_nameTold yv_X12_nameTold ml_X12_113 hf tbX_0 rfl rfl rfl rfl (Nat.le_of_ble_eq_true rfl) (by decide) (by decide) (by decide) hl.1 dX12_find_30 (fun r4 S3 H locs hw hf => ?_)
      refine lv_lstore_n (lv' := [(3, .long r4), (2, .int r2), (0, .ref (G.2.1 0)), (1, .int v1)]) C.1 C.2.1 dX12_find_33 rfl hl (by decide) rfl (fun ls hl => ?_)
      refine lv_iload_n C.1 C.2.1 dX12_find_34 rfl (lv_at hl 3 rfl) ?_
      refine lv_iconst (v := 3) C.1 C.2.1 dX12_find_35 (by decide) ?_
      refine sh_icmp_gt (tgt := 51) C hf dX12_find_36 (by decide) (fun hf => ?_) (fun hf => ?_)
      · refine lv_aload_n C.1 C.2.1 dX12_find_51 rfl (lv_at hl 2 rfl) ?_
        refine sh_getr C hw fl_X12_59 tbX_0 rfl dX12_find_52 ?_
        refine lv_lload_n C.1 C.2.1 dX12_find_55 rfl (lv_at hl 0 rfl) ?_
        refine lv_iload_n C.1 C.2.1 dX12_find_56 rfl (lv_at hl 3 rfl) ?_
        refine sh_xVi (As := [.long r4, .int v1]) (rest := []) C hw (kX8_ofName l r4 v1) yy_X8_ofName yv_X8_ofName ml_X12_201 hf tbX_128 rfl rfl rfl rfl (Nat.le_of_ble_eq_true rfl) (by decide) (by decide) (by decide) hl.1 dX12_find_57 (fun r6 S5 H locs hw hf => ?_)
        exact sh_tri C hw hr hf (by decide) (by decide) dX12_find_60
      · refine lv_aload_n C.1 C.2.1 dX12_find_39 rfl (lv_at hl 2 rfl) ?_
        refine sh_getr C hw fl_X12_50 tbX_0 rfl dX12_find_40 ?_
        refine lv_lload_n C.1 C.2.1 dX12_find_43 rfl (lv_at hl 0 rfl) ?_
        refine lv_iload_n C.1 C.2.1 dX12_find_44 rfl (lv_at hl 3 rfl) ?_
        refine sh_xVi (As := [.long r4, .int v1]) (rest := []) C hw (kX4_whereabouts l r4 v1) yy_X4_whereabouts yv_X4_whereabouts ml_X12_197 hf tbX_116 rfl rfl rfl rfl (Nat.le_of_ble_eq_true rfl) (by decide) (by decide) (by decide) hl.1 dX12_find_45 (fun r8 S7 H locs hw hf => ?_)
        refine lv_goto (tgt := 60) C.1 C.2.1 dX12_find_48 (by decide) ?_
        exact sh_tri C hw hr hf (by decide) (by decide) dX12_find_60
    · exact wX12_find_18 hst hno C hr S1  hf _ _ _ hw (lv_sub hl [] rfl)
def fX12_way (S : sh_St) (v1 : Int32) : Option ((Int32 ⊕ String) × sh_St) :=
    sh_c (fX9_useUp S ) fun r2 S1 =>
    sh_cx (fX12_nameTold S1 r2) fun r4 S3 =>
    sh_c (fX7_hashOf S3 r4) fun r6 S5 =>
    sh_c (fX4_trace S5 r6) fun _ S7 =>
    sh_c (fX11_blockAt S7 v1) fun r10 S9 =>
    some (.inl r10, S9)
set_option maxRecDepth 100000 in
set_option maxHeartbeats 4000000 in
theorem kX12_way (l : Launch) (hst : l.stackTraces = false) (v1 : Int32) : sh_Ti l yX12_way cX12_way 4 .int 11 1 6 tbX (fun G => [.ref (G.2.1 0), .int v1]) (fun S => fX12_way S v1) := by
  refine sh_mkti (by decide) (fun G => Nat.le_of_ble_eq_true rfl) ?_
  intro p e s m args below meth c G A S res ls hf C hr hno hw hl
  have C : sh_Cx p s m args meth c cX12_way 4 RX12 G A := C
  have hl : lv_has ls 4 [(0, .ref (G.2.1 0)), (1, .int v1)] := hl
  replace hf : fX12_way S v1 = some res := hf
  rw [fX12_way] at hf
  refine lv_aload_n C.1 C.2.1 dX12_way_0 rfl (lv_at hl 0 rfl) ?_
  refine lv_aload_n C.1 C.2.1 dX12_way_1 rfl (lv_at hl 0 rfl) ?_
  refine sh_getr C hw fl_X12_12 tbX_0 rfl dX12_way_2 ?_
  refine sh_xVi (As := []) (rest := [.ref (G.2.1 0)]) C hw (kX9_useUp l ) yy_X9_useUp yv_X9_useUp ml_X12_85 hf tbX_1 rfl rfl rfl rfl (Nat.le_of_ble_eq_true rfl) (by decide) (by decide) (by decide) hl.1 dX12_way_5 (fun r2 S1 H locs hw hf => ?_)
  refine sh_TVl (As := [.int r2]) (rest := []) C hw hno (kX12_nameTold l hst r2) yy_X12_nameTold yv_X12_nameTold ml_X12_113 hf tbX_0 rfl rfl rfl rfl (Nat.le_of_ble_eq_true rfl) (by decide) (by decide) (by decide) hl.1 dX12_way_8 (fun r4 S3 H locs hw hf => ?_)
  refine lv_lstore_n (lv' := [(2, .long r4), (0, .ref (G.2.1 0)), (1, .int v1)]) C.1 C.2.1 dX12_way_11 rfl hl (by decide) rfl (fun ls hl => ?_)
  refine lv_aload_n C.1 C.2.1 dX12_way_12 rfl (lv_at hl 1 rfl) ?_
  refine sh_getr C hw fl_X12_50 tbX_0 rfl dX12_way_13 ?_
  refine lv_aload_n C.1 C.2.1 dX12_way_16 rfl (lv_at hl 1 rfl) ?_
  refine sh_getr C hw fl_X12_28 tbX_0 rfl dX12_way_17 ?_
  refine lv_lload_n C.1 C.2.1 dX12_way_20 rfl (lv_at hl 0 rfl) ?_
  refine sh_xVi (As := [.long r4]) (rest := [.ref (G.2.1 116)]) C hw (kX7_hashOf l r4) yy_X7_hashOf yv_X7_hashOf ml_X12_204 hf tbX_4 rfl rfl rfl rfl (Nat.le_of_ble_eq_true rfl) (by decide) (by decide) (by decide) hl.1 dX12_way_21 (fun r6 S5 H locs hw hf => ?_)
  refine sh_xVv (As := [.int r6]) (rest := []) C hw (kX4_trace l r6) yy_X4_trace yv_X4_trace ml_X12_208 hf tbX_116 rfl rfl rfl rfl (Nat.le_of_ble_eq_true rfl) (by decide) (by decide) (by decide) hl.1 dX12_way_24 (fun S7 H locs hw hf => ?_)
  refine lv_aload_n C.1 C.2.1 dX12_way_27 rfl (lv_at hl 1 rfl) ?_
  refine sh_getr C hw fl_X12_50 tbX_0 rfl dX12_way_28 ?_
  refine sh_getr C hw fl_X12_211 tbX_116 rfl dX12_way_31 ?_
  refine lv_iload_n C.1 C.2.1 dX12_way_34 rfl (lv_at hl 2 rfl) ?_
  refine sh_xVi (As := [.int v1]) (rest := []) C hw (kX11_blockAt l v1) yy_X11_blockAt yv_X11_blockAt ml_X12_215 hf tbX_121 rfl rfl rfl rfl (Nat.le_of_ble_eq_true rfl) (by decide) (by decide) (by decide) hl.1 dX12_way_35 (fun r10 S9 H locs hw hf => ?_)
  exact sh_tri C hw hr hf (by decide) (by decide) dX12_way_38
