def fX10_isWord_13 : Nat → sh_St → Int32 → Int32 → Int32 → Int32 → Option (Int32 × sh_St)
  | 0, _, _, _, _, _ => none
  | n + 1, S, v1, v2, v3, v4 =>
    if v3 ≤ v4 then (sh_b 1 (some (1, S)))
    else (sh_g v1 9 (sh_g v4 (sh_len.getD v1.toNatClampNeg 0) (sh_c (fX10_byteAt S (v2 + v4)) fun r2 S1 =>
    if (sh_wc v1.toNatClampNeg v4.toNatClampNeg) = r2 then (sh_t (v4 + 1) fun y3 =>
    (fX10_isWord_13 n) S1 v1 v2 v3 y3)
    else (sh_b 0 (some (0, S1))))))
set_option maxRecDepth 100000 in
set_option maxHeartbeats 4000000 in
theorem wX10_isWord_13 {p : Program} {l : Launch} {e : Env} {s : State} {m : MethodId} {args : Array Value} {below : List Frame} {meth : Method} {c : Code} {G : sh_Ev} {A : Nat → Prop} {res : Int32 × sh_St} (C : sh_Cx p s m args meth c cX10_isWord 5 RX10 G A) (hr : meth.sig.returnType = some .boolean) : ∀ (n : Nat) (S : sh_St) (v1 : Int32) (v2 : Int32) (v3 : Int32) (v4 : Int32), fX10_isWord_13 n S v1 v2 v3 v4 = some res → ∀ (H : Heap) (locs : List Loc) (ls : Array Slot), sh_Wx G tbX A s H locs S → lv_has ls 5 [(0, .ref (G.2.1 3)), (1, .ref (G.2.2.2.2 v1.toNatClampNeg)), (2, .int v2), (3, .int v3), (4, .int v4)] → W p l e (sh_rm 5) s m args below meth c H locs 0 0 (sh_Qi below args s G tbX A res) (F0 m 13 ls []) := by
  intro n
  induction n with
  | zero => intro S v1 v2 v3 v4 hf; exact nomatch (show (none : Option (Int32 × sh_St)) = some res from hf)
  | succ n ih =>
    intro S v1 v2 v3 v4 hf H locs ls hw hl
    have hr13 := ih
    rw [fX10_isWord_13] at hf
    refine lv_iload C.1 C.2.1 dX10_isWord_13 (lv_at hl 4 rfl) ?_
    refine lv_iload_n C.1 C.2.1 dX10_isWord_15 rfl (lv_at hl 3 rfl) ?_
    refine sh_icmp_ge (tgt := 44) C hf dX10_isWord_16 (by decide) (fun hf => ?_) (fun hf => ?_)
    · refine lv_iconst (v := 1) C.1 C.2.1 dX10_isWord_44 (by decide) ?_
      exact sh_rz C hw hr hf dX10_isWord_45
    · refine lv_aload_n C.1 C.2.1 dX10_isWord_19 rfl (lv_at hl 1 rfl) ?_
      refine lv_iload C.1 C.2.1 dX10_isWord_20 (lv_at hl 4 rfl) ?_
      refine sh_strC C hw hf ml_RX10_108 (Nat.le_of_ble_eq_true rfl) (by decide) hl.1 dX10_isWord_22 (fun H locs hw hf => ?_)
      refine lv_aload_n C.1 C.2.1 dX10_isWord_25 rfl (lv_at hl 0 rfl) ?_
      refine lv_iload_n C.1 C.2.1 dX10_isWord_26 rfl (lv_at hl 2 rfl) ?_
      refine lv_iload C.1 C.2.1 dX10_isWord_27 (lv_at hl 4 rfl) ?_
      refine lv_iadd C.1 C.2.1 dX10_isWord_29 ?_
      refine sh_Vi (As := [.int (v2 + v4)]) (rest := [.int (sh_wc v1.toNatClampNeg v4.toNatClampNeg)]) C hw (kX10_byteAt l (v2 + v4)) yy_X10_byteAt yv_X10_byteAt ml_X10_47 hf tbX_3 rfl rfl rfl rfl (Nat.le_of_ble_eq_true rfl) (by decide) hl.1 dX10_isWord_30 (fun r2 S1 H locs hw hf => ?_)
      refine sh_icmp_eq (tgt := 38) C hf dX10_isWord_33 (by decide) (fun hf => ?_) (fun hf => ?_)
      · obtain ⟨y3, ey3, hf⟩ := sh_nm hf
        refine lv_iinc (v := y3) (lv' := [(4, .int y3), (0, .ref (G.2.1 3)), (1, .ref (G.2.2.2.2 v1.toNatClampNeg)), (2, .int v2), (3, .int v3)]) C.1 C.2.1 dX10_isWord_38 hl (k := 4) rfl (by rw [← ey3]; rfl) (by decide) rfl (fun ls hl => ?_)
        refine lv_goto (tgt := 13) C.1 C.2.1 dX10_isWord_41 (by decide) ?_
        exact hr13 S1 v1 v2 v3 y3 hf _ _ _ hw (lv_sub hl [1, 2, 3, 4, 0] rfl)
      · refine lv_iconst (v := 0) C.1 C.2.1 dX10_isWord_36 (by decide) ?_
        exact sh_rz C hw hr hf dX10_isWord_37
def fX10_isWord (S : sh_St) (v1 : Int32) (v2 : Int32) (v3 : Int32) : Option (Int32 × sh_St) :=
    sh_g v1 9 (if v3 = (sh_wl v1.toNatClampNeg) then (fX10_isWord_13 sh_FU S v1 v2 v3 0)
    else (sh_b 0 (some (0, S))))
set_option maxRecDepth 100000 in
set_option maxHeartbeats 4000000 in
theorem kX10_isWord (l : Launch) (v1 : Int32) (v2 : Int32) (v3 : Int32) : sh_Mi l yX10_isWord cX10_isWord 5 .boolean 5 tbX (fun G => [.ref (G.2.1 3), .ref (G.2.2.2.2 v1.toNatClampNeg), .int v2, .int v3]) (fun S => fX10_isWord S v1 v2 v3) := by
  refine sh_mki (by decide) (fun G => Nat.le_of_ble_eq_true rfl) ?_
  intro p e s m args below meth c G A S res ls hf C hr hw hl
  have C : sh_Cx p s m args meth c cX10_isWord 5 RX10 G A := C
  have hl : lv_has ls 5 [(0, .ref (G.2.1 3)), (1, .ref (G.2.2.2.2 v1.toNatClampNeg)), (2, .int v2), (3, .int v3)] := hl
  replace hf : fX10_isWord S v1 v2 v3 = some res := hf
  rw [fX10_isWord] at hf
  refine lv_iload_n C.1 C.2.1 dX10_isWord_0 rfl (lv_at hl 3 rfl) ?_
  refine lv_aload_n C.1 C.2.1 dX10_isWord_1 rfl (lv_at hl 1 rfl) ?_
  refine sh_strL C hw hf ml_RX10_104 (Nat.le_of_ble_eq_true rfl) (by decide) hl.1 dX10_isWord_2 (fun H locs hw hf => ?_)
  refine sh_icmp_eq (tgt := 10) C hf dX10_isWord_5 (by decide) (fun hf => ?_) (fun hf => ?_)
  · refine lv_iconst (v := 0) C.1 C.2.1 dX10_isWord_10 (by decide) ?_
    refine lv_istore (lv' := [(4, .int 0), (0, .ref (G.2.1 3)), (1, .ref (G.2.2.2.2 v1.toNatClampNeg)), (2, .int v2), (3, .int v3)]) C.1 C.2.1 dX10_isWord_11 hl (by decide) rfl (fun ls hl => ?_)
    exact wX10_isWord_13 C hr _ S v1 v2 v3 0 hf _ _ _ hw (lv_sub hl [1, 2, 3, 4, 0] rfl)
  · refine lv_iconst (v := 0) C.1 C.2.1 dX10_isWord_8 (by decide) ?_
    exact sh_rz C hw hr hf dX10_isWord_9
def fX12_tune_9 (S : sh_St) : Option ((Int32 ⊕ String) × sh_St) :=
    some (.inr "java/util/NoSuchElementException", S)
set_option maxRecDepth 100000 in
set_option maxHeartbeats 4000000 in
theorem wX12_tune_9 {p : Program} {l : Launch} {e : Env} {s : State} {m : MethodId} {args : Array Value} {below : List Frame} {meth : Method} {c : Code} {G : sh_Ev} {A : Nat → Prop} {res : (Int32 ⊕ String) × sh_St} (hst : l.stackTraces = false) (hno : ∀ x ∈ c.exceptionTable.toList, False) (C : sh_Cx p s m args meth c cX12_tune 4 RX12 G A) (hr : meth.sig.returnType = some .int) : ∀ (S : sh_St), fX12_tune_9 S = some res → ∀ (H : Heap) (locs : List Loc) (ls : Array Slot), sh_Wx G tbX A s H locs S → lv_has ls 4 [] → W p l e (sh_rx 11 1 6) s m args below meth c H locs 0 0 (sh_Qti below args s G tbX A 1 6 res) (F0 m 9 ls []) := by
  intro S hf H locs ls hw hl
  rw [fX12_tune_9] at hf
  exact sh_thrNS (text := "no such what") hst C hw hno (by decide +kernel) hf (by decide) (by decide) (by decide) hl.1 (Nat.le_of_ble_eq_true rfl) dX12_tune_9 dX12_tune_12 dX12_tune_13 dX12_tune_15 dX12_tune_18
def fX12_tune_112 (S : sh_St) (v2 : Int32) (v3 : Int32) : Option ((Int32 ⊕ String) × sh_St) :=
    sh_cx (fX12_doByCall S v3 0 0 v2) fun r4 S3 =>
    some (.inl r4, S3)
set_option maxRecDepth 100000 in
set_option maxHeartbeats 4000000 in
theorem wX12_tune_112 {p : Program} {l : Launch} {e : Env} {s : State} {m : MethodId} {args : Array Value} {below : List Frame} {meth : Method} {c : Code} {G : sh_Ev} {A : Nat → Prop} {res : (Int32 ⊕ String) × sh_St} (hst : l.stackTraces = false) (hno : ∀ x ∈ c.exceptionTable.toList, False) (C : sh_Cx p s m args meth c cX12_tune 4 RX12 G A) (hr : meth.sig.returnType = some .int) : ∀ (S : sh_St) (v2 : Int32) (v3 : Int32), fX12_tune_112 S v2 v3 = some res → ∀ (H : Heap) (locs : List Loc) (ls : Array Slot), sh_Wx G tbX A s H locs S → lv_has ls 4 [(0, .ref (G.2.1 0)), (2, .int v2), (3, .ref (G.2.2.1 v3.toNatClampNeg))] → W p l e (sh_rx 11 1 6) s m args below meth c H locs 0 0 (sh_Qti below args s G tbX A 1 6 res) (F0 m 112 ls []) := by
  intro S v2 v3 hf H locs ls hw hl
  rw [fX12_tune_112] at hf
  refine lv_aload_n C.1 C.2.1 dX12_tune_112 rfl (lv_at hl 0 rfl) ?_
  refine lv_aload_n C.1 C.2.1 dX12_tune_113 rfl (lv_at hl 2 rfl) ?_
  refine lv_lconst (v := 0) C.1 C.2.1 dX12_tune_114 (by decide) ?_
  refine lv_lconst (v := 0) C.1 C.2.1 dX12_tune_115 (by decide) ?_
  refine lv_iload_n C.1 C.2.1 dX12_tune_116 rfl (lv_at hl 1 rfl) ?_
  refine sh_TVi (As := [.ref (G.2.2.1 v3.toNatClampNeg), .long 0, .long 0, .int v2]) (rest := []) C hw hno (kX12_doByCall l hst v3 0 0 v2) yy_X12_doByCall yv_X12_doByCall ml_X12_123 hf tbX_0 rfl rfl rfl rfl (Nat.le_of_ble_eq_true rfl) (by decide) (by decide) (by decide) hl.1 dX12_tune_117 (fun r4 S3 H locs hw hf => ?_)
  exact sh_tri C hw hr hf (by decide) (by decide) dX12_tune_120
def fX12_tune_102 (S : sh_St) : Option ((Int32 ⊕ String) × sh_St) :=
    some (.inr "java/lang/IllegalArgumentException", S)
set_option maxRecDepth 100000 in
set_option maxHeartbeats 4000000 in
theorem wX12_tune_102 {p : Program} {l : Launch} {e : Env} {s : State} {m : MethodId} {args : Array Value} {below : List Frame} {meth : Method} {c : Code} {G : sh_Ev} {A : Nat → Prop} {res : (Int32 ⊕ String) × sh_St} (hst : l.stackTraces = false) (hno : ∀ x ∈ c.exceptionTable.toList, False) (C : sh_Cx p s m args meth c cX12_tune 4 RX12 G A) (hr : meth.sig.returnType = some .int) : ∀ (S : sh_St), fX12_tune_102 S = some res → ∀ (H : Heap) (locs : List Loc) (ls : Array Slot), sh_Wx G tbX A s H locs S → lv_has ls 4 [] → W p l e (sh_rx 11 1 6) s m args below meth c H locs 0 0 (sh_Qti below args s G tbX A 1 6 res) (F0 m 102 ls []) := by
  intro S hf H locs ls hw hl
  rw [fX12_tune_102] at hf
  exact sh_thri hst C hw hno (tx_IA (text := "no BITS, or no KEY") (by decide +kernel)) hf (by decide) (by decide) (by decide) hl.1 (Nat.le_of_ble_eq_true rfl) dX12_tune_102 dX12_tune_105 dX12_tune_106 dX12_tune_108 dX12_tune_111
def fX12_tune_78 (S : sh_St) (v2 : Int32) (t0 : Int32) : Option ((Int32 ⊕ String) × sh_St) :=
    sh_g t0 9 (sh_c (fX1_takesNumber S t0) fun r1 S2 =>
    if r1 = 0 then (fX12_tune_112 S2 v2 t0)
    else (sh_g t0 9 (if v2 < (([0, 0, 0, 1, 0, 0, 0, 0, 0] : List Int32).getD t0.toNatClampNeg 0) then (fX12_tune_102 S2)
    else (sh_g t0 9 (if v2 ≤ (([999, -1, -1, 12, 65535, -1, -1, 39, -1] : List Int32).getD t0.toNatClampNeg 0) then (fX12_tune_112 S2 v2 t0)
    else (fX12_tune_102 S2))))))
set_option maxRecDepth 100000 in
set_option maxHeartbeats 4000000 in
theorem wX12_tune_78 {p : Program} {l : Launch} {e : Env} {s : State} {m : MethodId} {args : Array Value} {below : List Frame} {meth : Method} {c : Code} {G : sh_Ev} {A : Nat → Prop} {res : (Int32 ⊕ String) × sh_St} (hst : l.stackTraces = false) (hno : ∀ x ∈ c.exceptionTable.toList, False) (C : sh_Cx p s m args meth c cX12_tune 4 RX12 G A) (hr : meth.sig.returnType = some .int) : ∀ (S : sh_St) (v2 : Int32) (t0 : Int32), fX12_tune_78 S v2 t0 = some res → ∀ (H : Heap) (locs : List Loc) (ls : Array Slot), sh_Wx G tbX A s H locs S → lv_has ls 4 [(0, .ref (G.2.1 0)), (2, .int v2)] → W p l e (sh_rx 11 1 6) s m args below meth c H locs 0 0 (sh_Qti below args s G tbX A 1 6 res) (F0 m 78 ls [.ref (G.2.2.1 t0.toNatClampNeg)]) := by
  intro S v2 t0 hf H locs ls hw hl
  rw [fX12_tune_78] at hf
  refine lv_astore_n (lv' := [(3, .ref (G.2.2.1 t0.toNatClampNeg)), (0, .ref (G.2.1 0)), (2, .int v2)]) C.1 C.2.1 dX12_tune_78 rfl hl (by decide) rfl (fun ls hl => ?_)
  refine lv_aload_n C.1 C.2.1 dX12_tune_79 rfl (lv_at hl 0 rfl) ?_
  refine sh_xAi C hw hf ml_X12_163 (Nat.le_of_ble_eq_true rfl) (by decide) (by decide) (by decide) hl.1 dX12_tune_80 (fun r1 S2 H locs hw hf => ?_)
  refine sh_if_eq (tgt := 112) C hf dX12_tune_83 (by decide) (fun hf => ?_) (fun hf => ?_)
  · exact wX12_tune_112 hst hno C hr S2 v2 t0 hf _ _ _ hw (lv_sub hl [1, 2, 0] rfl)
  · refine lv_iload_n C.1 C.2.1 dX12_tune_86 rfl (lv_at hl 2 rfl) ?_
    refine lv_aload_n C.1 C.2.1 dX12_tune_87 rfl (lv_at hl 0 rfl) ?_
    refine sh_getF C hw ("SteadyShelf$Act", "least", "I", [0, 0, 0, 1, 0, 0, 0, 0, 0]) (by decide) hf al_X12_166 dX12_tune_88 (fun hf => ?_)
    refine sh_icmp_lt (tgt := 102) C hf dX12_tune_91 (by decide) (fun hf => ?_) (fun hf => ?_)
    · exact wX12_tune_102 hst hno C hr S2  hf _ _ _ hw (lv_sub hl [] rfl)
    · refine lv_iload_n C.1 C.2.1 dX12_tune_94 rfl (lv_at hl 2 rfl) ?_
      refine lv_aload_n C.1 C.2.1 dX12_tune_95 rfl (lv_at hl 0 rfl) ?_
      refine sh_getF C hw ("SteadyShelf$Act", "most", "I", [999, -1, -1, 12, 65535, -1, -1, 39, -1]) (by decide) hf al_X12_169 dX12_tune_96 (fun hf => ?_)
      refine sh_icmp_le (tgt := 112) C hf dX12_tune_99 (by decide) (fun hf => ?_) (fun hf => ?_)
      · exact wX12_tune_112 hst hno C hr S2 v2 t0 hf _ _ _ hw (lv_sub hl [1, 2, 0] rfl)
      · exact wX12_tune_102 hst hno C hr S2  hf _ _ _ hw (lv_sub hl [] rfl)
def fX12_tune_43 (S : sh_St) (v1 : Int32) (v2 : Int32) : Option ((Int32 ⊕ String) × sh_St) :=
    if v1 = 0 then (fX12_tune_78 S v2 3)
    else (if v1 = 1 then (fX12_tune_78 S v2 4)
    else (if v2 = 1 then (fX12_tune_78 S v2 5)
    else (fX12_tune_78 S v2 6)))
set_option maxRecDepth 100000 in
set_option maxHeartbeats 4000000 in
theorem wX12_tune_43 {p : Program} {l : Launch} {e : Env} {s : State} {m : MethodId} {args : Array Value} {below : List Frame} {meth : Method} {c : Code} {G : sh_Ev} {A : Nat → Prop} {res : (Int32 ⊕ String) × sh_St} (hst : l.stackTraces = false) (hno : ∀ x ∈ c.exceptionTable.toList, False) (C : sh_Cx p s m args meth c cX12_tune 4 RX12 G A) (hr : meth.sig.returnType = some .int) : ∀ (S : sh_St) (v1 : Int32) (v2 : Int32), fX12_tune_43 S v1 v2 = some res → ∀ (H : Heap) (locs : List Loc) (ls : Array Slot), sh_Wx G tbX A s H locs S → lv_has ls 4 [(0, .ref (G.2.1 0)), (1, .int v1), (2, .int v2)] → W p l e (sh_rx 11 1 6) s m args below meth c H locs 0 0 (sh_Qti below args s G tbX A 1 6 res) (F0 m 43 ls []) := by
  intro S v1 v2 hf H locs ls hw hl
  rw [fX12_tune_43] at hf
  refine lv_iload_n C.1 C.2.1 dX12_tune_43 rfl (lv_at hl 1 rfl) ?_
  refine sh_if_ne (tgt := 53) C hf dX12_tune_44 (by decide) (fun hf => ?_) (fun hf => ?_)
  · refine lv_iload_n C.1 C.2.1 dX12_tune_53 rfl (lv_at hl 1 rfl) ?_
    refine lv_iconst (v := 1) C.1 C.2.1 dX12_tune_54 (by decide) ?_
    refine sh_icmp_ne (tgt := 64) C hf dX12_tune_55 (by decide) (fun hf => ?_) (fun hf => ?_)
    · refine lv_iload_n C.1 C.2.1 dX12_tune_64 rfl (lv_at hl 2 rfl) ?_
      refine lv_iconst (v := 1) C.1 C.2.1 dX12_tune_65 (by decide) ?_
      refine sh_icmp_ne (tgt := 75) C hf dX12_tune_66 (by decide) (fun hf => ?_) (fun hf => ?_)
      · refine sh_gets (k := 6) (z := 6) C hw (by decide) (by decide) al_X12_160 dX12_tune_75 ?_
        exact wX12_tune_78 hst hno C hr S v2 6 hf _ _ _ hw (lv_sub hl [0, 2] rfl)
      · refine sh_gets (k := 5) (z := 5) C hw (by decide) (by decide) al_X12_157 dX12_tune_69 ?_
        refine lv_goto (tgt := 78) C.1 C.2.1 dX12_tune_72 (by decide) ?_
        exact wX12_tune_78 hst hno C hr S v2 5 hf _ _ _ hw (lv_sub hl [0, 2] rfl)
    · refine sh_gets (k := 4) (z := 4) C hw (by decide) (by decide) al_X12_154 dX12_tune_58 ?_
      refine lv_goto (tgt := 78) C.1 C.2.1 dX12_tune_61 (by decide) ?_
      exact wX12_tune_78 hst hno C hr S v2 4 hf _ _ _ hw (lv_sub hl [0, 2] rfl)
  · refine sh_gets (k := 3) (z := 3) C hw (by decide) (by decide) al_X12_151 dX12_tune_47 ?_
    refine lv_goto (tgt := 78) C.1 C.2.1 dX12_tune_50 (by decide) ?_
    exact wX12_tune_78 hst hno C hr S v2 3 hf _ _ _ hw (lv_sub hl [0, 2] rfl)
def fX12_tune_33 (S : sh_St) : Option ((Int32 ⊕ String) × sh_St) :=
    some (.inr "java/lang/IllegalArgumentException", S)
set_option maxRecDepth 100000 in
set_option maxHeartbeats 4000000 in
theorem wX12_tune_33 {p : Program} {l : Launch} {e : Env} {s : State} {m : MethodId} {args : Array Value} {below : List Frame} {meth : Method} {c : Code} {G : sh_Ev} {A : Nat → Prop} {res : (Int32 ⊕ String) × sh_St} (hst : l.stackTraces = false) (hno : ∀ x ∈ c.exceptionTable.toList, False) (C : sh_Cx p s m args meth c cX12_tune 4 RX12 G A) (hr : meth.sig.returnType = some .int) : ∀ (S : sh_St), fX12_tune_33 S = some res → ∀ (H : Heap) (locs : List Loc) (ls : Array Slot), sh_Wx G tbX A s H locs S → lv_has ls 4 [] → W p l e (sh_rx 11 1 6) s m args below meth c H locs 0 0 (sh_Qti below args s G tbX A 1 6 res) (F0 m 33 ls []) := by
  intro S hf H locs ls hw hl
  rw [fX12_tune_33] at hf
  exact sh_thri hst C hw hno (tx_IA (text := "no FOLD") (by decide +kernel)) hf (by decide) (by decide) (by decide) hl.1 (Nat.le_of_ble_eq_true rfl) dX12_tune_33 dX12_tune_36 dX12_tune_37 dX12_tune_39 dX12_tune_42
def fX12_tune (S : sh_St) (v1 : Int32) (v2 : Int32) : Option ((Int32 ⊕ String) × sh_St) :=
    if v1 < 0 then (fX12_tune_9 S)
    else (if v1 ≤ 2 then (if v1 = 2 then (if v2 < 0 then (fX12_tune_33 S)
    else (if v2 ≤ 1 then (fX12_tune_43 S v1 v2)
    else (fX12_tune_33 S)))
    else (fX12_tune_43 S v1 v2))
    else (fX12_tune_9 S))
set_option maxRecDepth 100000 in
set_option maxHeartbeats 4000000 in
theorem kX12_tune (l : Launch) (hst : l.stackTraces = false) (v1 : Int32) (v2 : Int32) : sh_Ti l yX12_tune cX12_tune 4 .int 11 1 6 tbX (fun G => [.ref (G.2.1 0), .int v1, .int v2]) (fun S => fX12_tune S v1 v2) := by
  refine sh_mkti (by decide) (fun G => Nat.le_of_ble_eq_true rfl) ?_
  intro p e s m args below meth c G A S res ls hf C hr hno hw hl
  have C : sh_Cx p s m args meth c cX12_tune 4 RX12 G A := C
  have hl : lv_has ls 4 [(0, .ref (G.2.1 0)), (1, .int v1), (2, .int v2)] := hl
  replace hf : fX12_tune S v1 v2 = some res := hf
  rw [fX12_tune] at hf
  refine lv_iload_n C.1 C.2.1 dX12_tune_0 rfl (lv_at hl 1 rfl) ?_
  refine sh_if_lt (tgt := 9) C hf dX12_tune_1 (by decide) (fun hf => ?_) (fun hf => ?_)
  · exact wX12_tune_9 hst hno C hr S  hf _ _ _ hw (lv_sub hl [] rfl)
  · refine lv_iload_n C.1 C.2.1 dX12_tune_4 rfl (lv_at hl 1 rfl) ?_
    refine lv_iconst (v := 2) C.1 C.2.1 dX12_tune_5 (by decide) ?_
    refine sh_icmp_le (tgt := 19) C hf dX12_tune_6 (by decide) (fun hf => ?_) (fun hf => ?_)
    · refine lv_iload_n C.1 C.2.1 dX12_tune_19 rfl (lv_at hl 1 rfl) ?_
      refine lv_iconst (v := 2) C.1 C.2.1 dX12_tune_20 (by decide) ?_
      refine sh_icmp_ne (tgt := 43) C hf dX12_tune_21 (by decide) (fun hf => ?_) (fun hf => ?_)
      · exact wX12_tune_43 hst hno C hr S v1 v2 hf _ _ _ hw (lv_sub hl [0, 1, 2] rfl)
      · refine lv_iload_n C.1 C.2.1 dX12_tune_24 rfl (lv_at hl 2 rfl) ?_
        refine sh_if_lt (tgt := 33) C hf dX12_tune_25 (by decide) (fun hf => ?_) (fun hf => ?_)
        · exact wX12_tune_33 hst hno C hr S  hf _ _ _ hw (lv_sub hl [] rfl)
        · refine lv_iload_n C.1 C.2.1 dX12_tune_28 rfl (lv_at hl 2 rfl) ?_
          refine lv_iconst (v := 1) C.1 C.2.1 dX12_tune_29 (by decide) ?_
          refine sh_icmp_le (tgt := 43) C hf dX12_tune_30 (by decide) (fun hf => ?_) (fun hf => ?_)
          · exact wX12_tune_43 hst hno C hr S v1 v2 hf _ _ _ hw (lv_sub hl [0, 1, 2] rfl)
          · exact wX12_tune_33 hst hno C hr S  hf _ _ _ hw (lv_sub hl [] rfl)
    · exact wX12_tune_9 hst hno C hr S  hf _ _ _ hw (lv_sub hl [] rfl)
def fX13_has_30 : Nat → sh_St → Int32 → Int32 → Int32 → Option (Int32 × sh_St)
  | 0, _, _, _, _ => none
  | n + 1, S, v1, v2, v3 =>
    sh_g v1 9 (if (sh_wl v1.toNatClampNeg) ≤ v3 then (sh_t (sh_I S 0 19 v2) fun S3 =>
    sh_b 1 (some (1, S3)))
    else (sh_g ((S.1 0 19) + v3) 400 (sh_g v1 9 (sh_g v3 (sh_len.getD v1.toNatClampNeg 0) (if (S.1 14 ((S.1 0 19) + v3).toNatClampNeg) = (sh_wc v1.toNatClampNeg v3.toNatClampNeg) then (sh_t (v3 + 1) fun y4 =>
    (fX13_has_30 n) S v1 v2 y4)
    else (sh_b 0 (some (0, S))))))))
set_option maxRecDepth 100000 in
set_option maxHeartbeats 4000000 in
theorem wX13_has_30 {p : Program} {l : Launch} {e : Env} {s : State} {m : MethodId} {args : Array Value} {below : List Frame} {meth : Method} {c : Code} {G : sh_Ev} {A : Nat → Prop} {res : Int32 × sh_St} (C : sh_Cx p s m args meth c cX13_has 4 RX13 G A) (hr : meth.sig.returnType = some .boolean) : ∀ (n : Nat) (S : sh_St) (v1 : Int32) (v2 : Int32) (v3 : Int32), fX13_has_30 n S v1 v2 v3 = some res → ∀ (H : Heap) (locs : List Loc) (ls : Array Slot), sh_Wx G tbM A s H locs S → lv_has ls 4 [(0, .ref (G.2.1 0)), (1, .ref (G.2.2.2.2 v1.toNatClampNeg)), (2, .int v2), (3, .int v3)] → W p l e (sh_rm 5) s m args below meth c H locs 0 0 (sh_Qi below args s G tbM A res) (F0 m 30 ls []) := by
  intro n
  induction n with
  | zero => intro S v1 v2 v3 hf; exact nomatch (show (none : Option (Int32 × sh_St)) = some res from hf)
  | succ n ih =>
    intro S v1 v2 v3 hf H locs ls hw hl
    have hr30 := ih
    rw [fX13_has_30] at hf
    refine lv_iload_n C.1 C.2.1 dX13_has_30 rfl (lv_at hl 3 rfl) ?_
    refine lv_aload_n C.1 C.2.1 dX13_has_31 rfl (lv_at hl 1 rfl) ?_
    refine sh_strL C hw hf ml_RX13_283 (Nat.le_of_ble_eq_true rfl) (by decide) hl.1 dX13_has_32 (fun H locs hw hf => ?_)
    refine sh_icmp_ge (tgt := 65) C hf dX13_has_35 (by decide) (fun hf => ?_) (fun hf => ?_)
    · refine lv_aload_n C.1 C.2.1 dX13_has_65 rfl (lv_at hl 0 rfl) ?_
      refine lv_iload_n C.1 C.2.1 dX13_has_66 rfl (lv_at hl 2 rfl) ?_
      refine sh_puti C hw fl_X13_270 fp_11_19 hf tbM_0 rfl dX13_has_67 (fun S3 H locs hw hf => ?_)
      refine lv_iconst (v := 1) C.1 C.2.1 dX13_has_70 (by decide) ?_
      exact sh_rz C hw hr hf dX13_has_71
    · refine lv_aload_n C.1 C.2.1 dX13_has_38 rfl (lv_at hl 0 rfl) ?_
      refine sh_getr C hw fl_X13_51 tbM_0 rfl dX13_has_39 ?_
      refine lv_aload_n C.1 C.2.1 dX13_has_42 rfl (lv_at hl 0 rfl) ?_
      refine sh_geti C hw fl_X13_270 tbM_0 rfl dX13_has_43 ?_
      refine lv_iload_n C.1 C.2.1 dX13_has_46 rfl (lv_at hl 3 rfl) ?_
      refine lv_iadd C.1 C.2.1 dX13_has_47 ?_
      refine sh_iald C hw hf tbM_14 dX13_has_48 (fun hf => ?_)
      refine lv_aload_n C.1 C.2.1 dX13_has_49 rfl (lv_at hl 1 rfl) ?_
      refine lv_iload_n C.1 C.2.1 dX13_has_50 rfl (lv_at hl 3 rfl) ?_
      refine sh_strC C hw hf ml_RX13_288 (Nat.le_of_ble_eq_true rfl) (by decide) hl.1 dX13_has_51 (fun H locs hw hf => ?_)
      refine sh_icmp_eq (tgt := 59) C hf dX13_has_54 (by decide) (fun hf => ?_) (fun hf => ?_)
      · obtain ⟨y4, ey4, hf⟩ := sh_nm hf
        refine lv_iinc (v := y4) (lv' := [(3, .int y4), (0, .ref (G.2.1 0)), (1, .ref (G.2.2.2.2 v1.toNatClampNeg)), (2, .int v2)]) C.1 C.2.1 dX13_has_59 hl (k := 3) rfl (by rw [← ey4]; rfl) (by decide) rfl (fun ls hl => ?_)
        refine lv_goto (tgt := 30) C.1 C.2.1 dX13_has_62 (by decide) ?_
        exact hr30 S v1 v2 y4 hf _ _ _ hw (lv_sub hl [1, 2, 3, 0] rfl)
      · refine lv_iconst (v := 0) C.1 C.2.1 dX13_has_57 (by decide) ?_
        exact sh_rz C hw hr hf dX13_has_58
def fX13_has (S : sh_St) (v1 : Int32) : Option (Int32 × sh_St) :=
    sh_c (fX13_wordEnd S ) fun r2 S1 =>
    if (S1.1 0 20) = (-1) then (sh_g v1 9 (if (r2 - (S1.1 0 19)) = (sh_wl v1.toNatClampNeg) then (fX13_has_30 sh_FU S1 v1 r2 0)
    else (sh_b 0 (some (0, S1)))))
    else (sh_b 0 (some (0, S1)))
set_option maxRecDepth 100000 in
set_option maxHeartbeats 4000000 in
theorem kX13_has (l : Launch) (v1 : Int32) : sh_Mi l yX13_has cX13_has 4 .boolean 5 tbM (fun G => [.ref (G.2.1 0), .ref (G.2.2.2.2 v1.toNatClampNeg)]) (fun S => fX13_has S v1) := by
  refine sh_mki (by decide) (fun G => Nat.le_of_ble_eq_true rfl) ?_
  intro p e s m args below meth c G A S res ls hf C hr hw hl
  have C : sh_Cx p s m args meth c cX13_has 4 RX13 G A := C
  have hl : lv_has ls 4 [(0, .ref (G.2.1 0)), (1, .ref (G.2.2.2.2 v1.toNatClampNeg))] := hl
  replace hf : fX13_has S v1 = some res := hf
  rw [fX13_has] at hf
  refine lv_aload_n C.1 C.2.1 dX13_has_0 rfl (lv_at hl 0 rfl) ?_
  refine sh_Vi (As := []) (rest := []) C hw (kX13_wordEnd l ) yy_X13_wordEnd yv_X13_wordEnd ml_X13_280 hf tbM_0 rfl rfl rfl rfl (Nat.le_of_ble_eq_true rfl) (by decide) hl.1 dX13_has_1 (fun r2 S1 H locs hw hf => ?_)
  refine lv_istore_n (lv' := [(2, .int r2), (0, .ref (G.2.1 0)), (1, .ref (G.2.2.2.2 v1.toNatClampNeg))]) C.1 C.2.1 dX13_has_4 rfl hl (by decide) rfl (fun ls hl => ?_)
  refine lv_aload_n C.1 C.2.1 dX13_has_5 rfl (lv_at hl 1 rfl) ?_
  refine sh_geti C hw fl_X13_54 tbM_0 rfl dX13_has_6 ?_
  refine lv_iconst (v := -1) C.1 C.2.1 dX13_has_9 (by decide) ?_
  refine sh_icmp_ne (tgt := 26) C hf dX13_has_10 (by decide) (fun hf => ?_) (fun hf => ?_)
  · refine lv_iconst (v := 0) C.1 C.2.1 dX13_has_26 (by decide) ?_
    exact sh_rz C hw hr hf dX13_has_27
  · refine lv_iload_n C.1 C.2.1 dX13_has_13 rfl (lv_at hl 0 rfl) ?_
    refine lv_aload_n C.1 C.2.1 dX13_has_14 rfl (lv_at hl 1 rfl) ?_
    refine sh_geti C hw fl_X13_270 tbM_0 rfl dX13_has_15 ?_
    refine lv_isub C.1 C.2.1 dX13_has_18 ?_
    refine lv_aload_n C.1 C.2.1 dX13_has_19 rfl (lv_at hl 2 rfl) ?_
    refine sh_strL C hw hf ml_RX13_283 (Nat.le_of_ble_eq_true rfl) (by decide) hl.1 dX13_has_20 (fun H locs hw hf => ?_)
    refine sh_icmp_eq (tgt := 28) C hf dX13_has_23 (by decide) (fun hf => ?_) (fun hf => ?_)
    · refine lv_iconst (v := 0) C.1 C.2.1 dX13_has_28 (by decide) ?_
      refine lv_istore_n (lv' := [(3, .int 0), (2, .int r2), (0, .ref (G.2.1 0)), (1, .ref (G.2.2.2.2 v1.toNatClampNeg))]) C.1 C.2.1 dX13_has_29 rfl hl (by decide) rfl (fun ls hl => ?_)
      exact wX13_has_30 C hr _ S1 v1 r2 0 hf _ _ _ hw (lv_sub hl [2, 3, 1, 0] rfl)
    · refine lv_iconst (v := 0) C.1 C.2.1 dX13_has_26 (by decide) ?_
      exact sh_rz C hw hr hf dX13_has_27
def fX13_act_341 (S : sh_St) (v1 : Int32) (v2 : Int32) : Option (Int32 × sh_St) :=
    if v2 ≤ 0 then (some (v2, S))
    else (sh_c (fX13_wrong S v1) fun _ S23 =>
    some (v2, S23))
set_option maxRecDepth 100000 in
set_option maxHeartbeats 4000000 in
theorem wX13_act_341 {p : Program} {l : Launch} {e : Env} {s : State} {m : MethodId} {args : Array Value} {below : List Frame} {meth : Method} {c : Code} {G : sh_Ev} {A : Nat → Prop} {res : Int32 × sh_St} (C : sh_Cx p s m args meth c cX13_act 7 RX13 G A) (hr : meth.sig.returnType = some .int) : ∀ (S : sh_St) (v1 : Int32) (v2 : Int32), fX13_act_341 S v1 v2 = some res → ∀ (H : Heap) (locs : List Loc) (ls : Array Slot), sh_Wx G tbM A s H locs S → lv_has ls 7 [(0, .ref (G.2.1 0)), (1, .int v1), (2, .int v2)] → W p l e (sh_rm 11) s m args below meth c H locs 0 0 (sh_Qi below args s G tbM A res) (F0 m 341 ls []) := by
  intro S v1 v2 hf H locs ls hw hl
  rw [fX13_act_341] at hf
  refine lv_iload_n C.1 C.2.1 dX13_act_341 rfl (lv_at hl 2 rfl) ?_
  refine sh_if_le (tgt := 350) C hf dX13_act_342 (by decide) (fun hf => ?_) (fun hf => ?_)
  · refine lv_iload_n C.1 C.2.1 dX13_act_350 rfl (lv_at hl 2 rfl) ?_
    exact sh_ri C hw hr hf dX13_act_351
  · refine lv_aload_n C.1 C.2.1 dX13_act_345 rfl (lv_at hl 0 rfl) ?_
    refine lv_iload_n C.1 C.2.1 dX13_act_346 rfl (lv_at hl 1 rfl) ?_
    refine sh_Vv (As := [.int v1]) (rest := []) C hw (kX13_wrong l v1) yy_X13_wrong yv_X13_wrong ml_X13_292 hf tbM_0 rfl rfl rfl rfl (Nat.le_of_ble_eq_true rfl) (by decide) hl.1 dX13_act_347 (fun S23 H locs hw hf => ?_)
    refine lv_iload_n C.1 C.2.1 dX13_act_350 rfl (lv_at hl 2 rfl) ?_
    exact sh_ri C hw hr hf dX13_act_351
def fX13_act_290 (S : sh_St) (v1 : Int32) (t0 : Int32) : Option (Int32 × sh_St) :=
    fX13_act_341 S v1 t0
set_option maxRecDepth 100000 in
set_option maxHeartbeats 4000000 in
theorem wX13_act_290 {p : Program} {l : Launch} {e : Env} {s : State} {m : MethodId} {args : Array Value} {below : List Frame} {meth : Method} {c : Code} {G : sh_Ev} {A : Nat → Prop} {res : Int32 × sh_St} (C : sh_Cx p s m args meth c cX13_act 7 RX13 G A) (hr : meth.sig.returnType = some .int) : ∀ (S : sh_St) (v1 : Int32) (t0 : Int32), fX13_act_290 S v1 t0 = some res → ∀ (H : Heap) (locs : List Loc) (ls : Array Slot), sh_Wx G tbM A s H locs S → lv_has ls 7 [(0, .ref (G.2.1 0)), (1, .int v1)] → W p l e (sh_rm 11) s m args below meth c H locs 0 0 (sh_Qi below args s G tbM A res) (F0 m 290 ls [.int t0]) := by
  intro S v1 t0 hf H locs ls hw hl
  rw [fX13_act_290] at hf
  refine lv_istore_n (lv' := [(2, .int t0), (0, .ref (G.2.1 0)), (1, .int v1)]) C.1 C.2.1 dX13_act_290 rfl hl (by decide) rfl (fun ls hl => ?_)
  refine lv_goto (tgt := 341) C.1 C.2.1 dX13_act_291 (by decide) ?_
  exact wX13_act_341 C hr S v1 t0 hf _ _ _ hw (lv_sub hl [1, 2, 0] rfl)
def fX13_act_211 (S : sh_St) (v1 : Int32) (t0 : Int32) : Option (Int32 × sh_St) :=
    fX13_act_341 S v1 t0
set_option maxRecDepth 100000 in
set_option maxHeartbeats 4000000 in
theorem wX13_act_211 {p : Program} {l : Launch} {e : Env} {s : State} {m : MethodId} {args : Array Value} {below : List Frame} {meth : Method} {c : Code} {G : sh_Ev} {A : Nat → Prop} {res : Int32 × sh_St} (C : sh_Cx p s m args meth c cX13_act 7 RX13 G A) (hr : meth.sig.returnType = some .int) : ∀ (S : sh_St) (v1 : Int32) (t0 : Int32), fX13_act_211 S v1 t0 = some res → ∀ (H : Heap) (locs : List Loc) (ls : Array Slot), sh_Wx G tbM A s H locs S → lv_has ls 7 [(0, .ref (G.2.1 0)), (1, .int v1)] → W p l e (sh_rm 11) s m args below meth c H locs 0 0 (sh_Qi below args s G tbM A res) (F0 m 211 ls [.int t0]) := by
  intro S v1 t0 hf H locs ls hw hl
  rw [fX13_act_211] at hf
  refine lv_istore_n (lv' := [(2, .int t0), (0, .ref (G.2.1 0)), (1, .int v1)]) C.1 C.2.1 dX13_act_211 rfl hl (by decide) rfl (fun ls hl => ?_)
  refine lv_goto (tgt := 341) C.1 C.2.1 dX13_act_212 (by decide) ?_
  exact wX13_act_341 C hr S v1 t0 hf _ _ _ hw (lv_sub hl [1, 2, 0] rfl)
def fX13_act_171 (S : sh_St) (v1 : Int32) (t0 : Int32) : Option (Int32 × sh_St) :=
    fX13_act_341 S v1 t0
set_option maxRecDepth 100000 in
set_option maxHeartbeats 4000000 in
theorem wX13_act_171 {p : Program} {l : Launch} {e : Env} {s : State} {m : MethodId} {args : Array Value} {below : List Frame} {meth : Method} {c : Code} {G : sh_Ev} {A : Nat → Prop} {res : Int32 × sh_St} (C : sh_Cx p s m args meth c cX13_act 7 RX13 G A) (hr : meth.sig.returnType = some .int) : ∀ (S : sh_St) (v1 : Int32) (t0 : Int32), fX13_act_171 S v1 t0 = some res → ∀ (H : Heap) (locs : List Loc) (ls : Array Slot), sh_Wx G tbM A s H locs S → lv_has ls 7 [(0, .ref (G.2.1 0)), (1, .int v1)] → W p l e (sh_rm 11) s m args below meth c H locs 0 0 (sh_Qi below args s G tbM A res) (F0 m 171 ls [.int t0]) := by
  intro S v1 t0 hf H locs ls hw hl
  rw [fX13_act_171] at hf
  refine lv_istore_n (lv' := [(2, .int t0), (0, .ref (G.2.1 0)), (1, .int v1)]) C.1 C.2.1 dX13_act_171 rfl hl (by decide) rfl (fun ls hl => ?_)
  refine lv_goto (tgt := 341) C.1 C.2.1 dX13_act_172 (by decide) ?_
  exact wX13_act_341 C hr S v1 t0 hf _ _ _ hw (lv_sub hl [1, 2, 0] rfl)
def fX13_act_131 (S : sh_St) (v1 : Int32) (t0 : Int32) : Option (Int32 × sh_St) :=
    fX13_act_341 S v1 t0
set_option maxRecDepth 100000 in
set_option maxHeartbeats 4000000 in
theorem wX13_act_131 {p : Program} {l : Launch} {e : Env} {s : State} {m : MethodId} {args : Array Value} {below : List Frame} {meth : Method} {c : Code} {G : sh_Ev} {A : Nat → Prop} {res : Int32 × sh_St} (C : sh_Cx p s m args meth c cX13_act 7 RX13 G A) (hr : meth.sig.returnType = some .int) : ∀ (S : sh_St) (v1 : Int32) (t0 : Int32), fX13_act_131 S v1 t0 = some res → ∀ (H : Heap) (locs : List Loc) (ls : Array Slot), sh_Wx G tbM A s H locs S → lv_has ls 7 [(0, .ref (G.2.1 0)), (1, .int v1)] → W p l e (sh_rm 11) s m args below meth c H locs 0 0 (sh_Qi below args s G tbM A res) (F0 m 131 ls [.int t0]) := by
  intro S v1 t0 hf H locs ls hw hl
  rw [fX13_act_131] at hf
  refine lv_istore_n (lv' := [(2, .int t0), (0, .ref (G.2.1 0)), (1, .int v1)]) C.1 C.2.1 dX13_act_131 rfl hl (by decide) rfl (fun ls hl => ?_)
  refine lv_goto (tgt := 341) C.1 C.2.1 dX13_act_132 (by decide) ?_
  exact wX13_act_341 C hr S v1 t0 hf _ _ _ hw (lv_sub hl [1, 2, 0] rfl)
def fX13_act_87 (S : sh_St) (v1 : Int32) (t0 : Int32) : Option (Int32 × sh_St) :=
    fX13_act_341 S v1 t0
set_option maxRecDepth 100000 in
set_option maxHeartbeats 4000000 in
theorem wX13_act_87 {p : Program} {l : Launch} {e : Env} {s : State} {m : MethodId} {args : Array Value} {below : List Frame} {meth : Method} {c : Code} {G : sh_Ev} {A : Nat → Prop} {res : Int32 × sh_St} (C : sh_Cx p s m args meth c cX13_act 7 RX13 G A) (hr : meth.sig.returnType = some .int) : ∀ (S : sh_St) (v1 : Int32) (t0 : Int32), fX13_act_87 S v1 t0 = some res → ∀ (H : Heap) (locs : List Loc) (ls : Array Slot), sh_Wx G tbM A s H locs S → lv_has ls 7 [(0, .ref (G.2.1 0)), (1, .int v1)] → W p l e (sh_rm 11) s m args below meth c H locs 0 0 (sh_Qi below args s G tbM A res) (F0 m 87 ls [.int t0]) := by
  intro S v1 t0 hf H locs ls hw hl
  rw [fX13_act_87] at hf
  refine lv_istore_n (lv' := [(2, .int t0), (0, .ref (G.2.1 0)), (1, .int v1)]) C.1 C.2.1 dX13_act_87 rfl hl (by decide) rfl (fun ls hl => ?_)
  refine lv_goto (tgt := 341) C.1 C.2.1 dX13_act_88 (by decide) ?_
  exact wX13_act_341 C hr S v1 t0 hf _ _ _ hw (lv_sub hl [1, 2, 0] rfl)
def fX13_act_51 (S : sh_St) (v1 : Int32) (t0 : Int32) : Option (Int32 × sh_St) :=
    fX13_act_341 S v1 t0
set_option maxRecDepth 100000 in
set_option maxHeartbeats 4000000 in
theorem wX13_act_51 {p : Program} {l : Launch} {e : Env} {s : State} {m : MethodId} {args : Array Value} {below : List Frame} {meth : Method} {c : Code} {G : sh_Ev} {A : Nat → Prop} {res : Int32 × sh_St} (C : sh_Cx p s m args meth c cX13_act 7 RX13 G A) (hr : meth.sig.returnType = some .int) : ∀ (S : sh_St) (v1 : Int32) (t0 : Int32), fX13_act_51 S v1 t0 = some res → ∀ (H : Heap) (locs : List Loc) (ls : Array Slot), sh_Wx G tbM A s H locs S → lv_has ls 7 [(0, .ref (G.2.1 0)), (1, .int v1)] → W p l e (sh_rm 11) s m args below meth c H locs 0 0 (sh_Qi below args s G tbM A res) (F0 m 51 ls [.int t0]) := by
  intro S v1 t0 hf H locs ls hw hl
  rw [fX13_act_51] at hf
  refine lv_istore_n (lv' := [(2, .int t0), (0, .ref (G.2.1 0)), (1, .int v1)]) C.1 C.2.1 dX13_act_51 rfl hl (by decide) rfl (fun ls hl => ?_)
  refine lv_goto (tgt := 341) C.1 C.2.1 dX13_act_52 (by decide) ?_
  exact wX13_act_341 C hr S v1 t0 hf _ _ _ hw (lv_sub hl [1, 2, 0] rfl)
def fX13_act (S : sh_St) : Option (Int32 × sh_St) :=
    sh_c (fX13_here S ) fun r2 S1 =>
    sh_c (fX13_has S1 0) fun r4 S3 =>
    if r4 = 0 then (sh_c (fX13_has S3 1) fun r6 S5 =>
    if r6 = 0 then (sh_c (fX13_has S5 2) fun r8 S7 =>
    if r8 = 0 then (sh_c (fX13_has S7 3) fun r10 S9 =>
    if r10 = 0 then (sh_c (fX13_has S9 4) fun r12 S11 =>
    if r12 = 0 then (sh_c (fX13_has S11 5) fun r14 S13 =>
    if r14 = 0 then (sh_c (fX13_has S13 6) fun r16 S15 =>
    if r16 = 0 then (sh_c (fX13_has S15 7) fun r18 S17 =>
    if r18 = 0 then (sh_c (fX13_has S17 8) fun r20 S19 =>
    if r20 = 0 then (sh_c (fX13_wrong S19 r2) fun _ S21 =>
    fX13_act_341 S21 r2 0)
    else (sh_g 1081 1084 (sh_g 1082 1084 (sh_g 1083 1084 (sh_c (fX13_build0 S19 (S19.1 1 (1081 : Int32).toNatClampNeg) (S19.1 1 (1082 : Int32).toNatClampNeg) (S19.1 1 (1083 : Int32).toNatClampNeg)) fun r26 S25 =>
    fX13_act_341 S25 r2 r26)))))
    else (sh_c (fX13_number S17 0 39) fun r28 S27 =>
    if (S27.1 0 20) = (-1) then (sh_c (fX13_tear0 S27 r28) fun r30 S29 =>
    fX13_act_290 S29 r2 r30)
    else (fX13_act_290 S27 r2 0)))
    else (sh_c (fX13_tune0 S15 2 0) fun r32 S31 =>
    fX13_act_341 S31 r2 r32))
    else (sh_c (fX13_tune0 S13 2 1) fun r34 S33 =>
    fX13_act_341 S33 r2 r34))
    else (sh_c (fX13_number S11 0 65535) fun r36 S35 =>
    if (S35.1 0 20) = (-1) then (sh_c (fX13_tune0 S35 1 r36) fun r38 S37 =>
    fX13_act_211 S37 r2 r38)
    else (fX13_act_211 S35 r2 0)))
    else (sh_c (fX13_number S9 1 12) fun r40 S39 =>
    if (S39.1 0 20) = (-1) then (sh_c (fX13_tune0 S39 0 r40) fun r42 S41 =>
    fX13_act_171 S41 r2 r42)
    else (fX13_act_171 S39 r2 0)))
    else (sh_c (fX13_name S7 ) fun r44 S43 =>
    sh_c (fX13_name S43 ) fun r46 S45 =>
    if (S45.1 0 20) = (-1) then (sh_c (fX13_turn0 S45 r44 r46) fun r48 S47 =>
    fX13_act_131 S47 r2 r48)
    else (fX13_act_131 S45 r2 0)))
    else (sh_c (fX13_name S5 ) fun r50 S49 =>
    if (S49.1 0 20) = (-1) then (sh_c (fX13_cut0 S49 r50) fun r52 S51 =>
    fX13_act_87 S51 r2 r52)
    else (fX13_act_87 S49 r2 0)))
    else (sh_c (fX13_name S3 ) fun r54 S53 =>
    sh_c (fX13_number S53 0 999) fun r56 S55 =>
    if (S55.1 0 20) = (-1) then (sh_c (fX13_put0 S55 r54 r56) fun r58 S57 =>
    fX13_act_51 S57 r2 r58)
    else (fX13_act_51 S55 r2 0))
set_option maxRecDepth 100000 in
set_option maxHeartbeats 4000000 in
theorem kX13_act (l : Launch) : sh_Mi l yX13_act cX13_act 7 .int 11 tbM (fun G => [.ref (G.2.1 0)]) (fun S => fX13_act S) := by
  refine sh_mki (by decide) (fun G => Nat.le_of_ble_eq_true rfl) ?_
  intro p e s m args below meth c G A S res ls hf C hr hw hl
  have C : sh_Cx p s m args meth c cX13_act 7 RX13 G A := C
  have hl : lv_has ls 7 [(0, .ref (G.2.1 0))] := hl
  replace hf : fX13_act S = some res := hf
  rw [fX13_act] at hf
  refine lv_aload_n C.1 C.2.1 dX13_act_0 rfl (lv_at hl 0 rfl) ?_
  refine sh_Vi (As := []) (rest := []) C hw (kX13_here l ) yy_X13_here yv_X13_here ml_X13_273 hf tbM_0 rfl rfl rfl rfl (Nat.le_of_ble_eq_true rfl) (by decide) hl.1 dX13_act_1 (fun r2 S1 H locs hw hf => ?_)
  refine lv_istore_n (lv' := [(1, .int r2), (0, .ref (G.2.1 0))]) C.1 C.2.1 dX13_act_4 rfl hl (by decide) rfl (fun ls hl => ?_)
  refine lv_iconst (v := 0) C.1 C.2.1 dX13_act_5 (by decide) ?_
  refine lv_istore_n (lv' := [(2, .int 0), (1, .int r2), (0, .ref (G.2.1 0))]) C.1 C.2.1 dX13_act_6 rfl hl (by decide) rfl (fun ls hl => ?_)
  refine lv_aload_n C.1 C.2.1 dX13_act_7 rfl (lv_at hl 2 rfl) ?_
  refine sh_ldcW (z := 0) (k := 0) (text := "put") C (by decide) (by decide +kernel) dX13_act_8 ?_
  refine sh_Vi (As := [.ref (G.2.2.2.2 (0 : Int32).toNatClampNeg)]) (rest := []) C hw (kX13_has l 0) yy_X13_has yv_X13_has ml_X13_297 hf tbM_0 rfl rfl rfl rfl (Nat.le_of_ble_eq_true rfl) (by decide) hl.1 dX13_act_11 (fun r4 S3 H locs hw hf => ?_)
  refine sh_if_eq (tgt := 55) C hf dX13_act_14 (by decide) (fun hf => ?_) (fun hf => ?_)
  · refine lv_aload_n C.1 C.2.1 dX13_act_55 rfl (lv_at hl 2 rfl) ?_
    refine sh_ldcW (z := 1) (k := 1) (text := "cut") C (by decide) (by decide +kernel) dX13_act_56 ?_
    refine sh_Vi (As := [.ref (G.2.2.2.2 (1 : Int32).toNatClampNeg)]) (rest := []) C hw (kX13_has l 1) yy_X13_has yv_X13_has ml_X13_297 hf tbM_0 rfl rfl rfl rfl (Nat.le_of_ble_eq_true rfl) (by decide) hl.1 dX13_act_59 (fun r6 S5 H locs hw hf => ?_)
    refine sh_if_eq (tgt := 91) C hf dX13_act_62 (by decide) (fun hf => ?_) (fun hf => ?_)
    · refine lv_aload_n C.1 C.2.1 dX13_act_91 rfl (lv_at hl 2 rfl) ?_
      refine sh_ldcW (z := 2) (k := 2) (text := "turn") C (by decide) (by decide +kernel) dX13_act_92 ?_
      refine sh_Vi (As := [.ref (G.2.2.2.2 (2 : Int32).toNatClampNeg)]) (rest := []) C hw (kX13_has l 2) yy_X13_has yv_X13_has ml_X13_297 hf tbM_0 rfl rfl rfl rfl (Nat.le_of_ble_eq_true rfl) (by decide) hl.1 dX13_act_95 (fun r8 S7 H locs hw hf => ?_)
      refine sh_if_eq (tgt := 135) C hf dX13_act_98 (by decide) (fun hf => ?_) (fun hf => ?_)
      · refine lv_aload_n C.1 C.2.1 dX13_act_135 rfl (lv_at hl 2 rfl) ?_
        refine sh_ldcW (z := 3) (k := 3) (text := "bits") C (by decide) (by decide +kernel) dX13_act_136 ?_
        refine sh_Vi (As := [.ref (G.2.2.2.2 (3 : Int32).toNatClampNeg)]) (rest := []) C hw (kX13_has l 3) yy_X13_has yv_X13_has ml_X13_297 hf tbM_0 rfl rfl rfl rfl (Nat.le_of_ble_eq_true rfl) (by decide) hl.1 dX13_act_139 (fun r10 S9 H locs hw hf => ?_)
        refine sh_if_eq (tgt := 175) C hf dX13_act_142 (by decide) (fun hf => ?_) (fun hf => ?_)
        · refine lv_aload_n C.1 C.2.1 dX13_act_175 rfl (lv_at hl 2 rfl) ?_
          refine sh_ldcW (z := 4) (k := 4) (text := "key") C (by decide) (by decide +kernel) dX13_act_176 ?_
          refine sh_Vi (As := [.ref (G.2.2.2.2 (4 : Int32).toNatClampNeg)]) (rest := []) C hw (kX13_has l 4) yy_X13_has yv_X13_has ml_X13_297 hf tbM_0 rfl rfl rfl rfl (Nat.le_of_ble_eq_true rfl) (by decide) hl.1 dX13_act_179 (fun r12 S11 H locs hw hf => ?_)
          refine sh_if_eq (tgt := 215) C hf dX13_act_182 (by decide) (fun hf => ?_) (fun hf => ?_)
          · refine lv_aload_n C.1 C.2.1 dX13_act_215 rfl (lv_at hl 2 rfl) ?_
            refine sh_ldcW (z := 5) (k := 5) (text := "fold") C (by decide) (by decide +kernel) dX13_act_216 ?_
            refine sh_Vi (As := [.ref (G.2.2.2.2 (5 : Int32).toNatClampNeg)]) (rest := []) C hw (kX13_has l 5) yy_X13_has yv_X13_has ml_X13_297 hf tbM_0 rfl rfl rfl rfl (Nat.le_of_ble_eq_true rfl) (by decide) hl.1 dX13_act_219 (fun r14 S13 H locs hw hf => ?_)
            refine sh_if_eq (tgt := 235) C hf dX13_act_222 (by decide) (fun hf => ?_) (fun hf => ?_)
            · refine lv_aload_n C.1 C.2.1 dX13_act_235 rfl (lv_at hl 2 rfl) ?_
              refine sh_ldcW (z := 6) (k := 6) (text := "plain") C (by decide) (by decide +kernel) dX13_act_236 ?_
              refine sh_Vi (As := [.ref (G.2.2.2.2 (6 : Int32).toNatClampNeg)]) (rest := []) C hw (kX13_has l 6) yy_X13_has yv_X13_has ml_X13_297 hf tbM_0 rfl rfl rfl rfl (Nat.le_of_ble_eq_true rfl) (by decide) hl.1 dX13_act_239 (fun r16 S15 H locs hw hf => ?_)
              refine sh_if_eq (tgt := 255) C hf dX13_act_242 (by decide) (fun hf => ?_) (fun hf => ?_)
              · refine lv_aload_n C.1 C.2.1 dX13_act_255 rfl (lv_at hl 2 rfl) ?_
                refine sh_ldcW (z := 7) (k := 7) (text := "tear") C (by decide) (by decide +kernel) dX13_act_256 ?_
                refine sh_Vi (As := [.ref (G.2.2.2.2 (7 : Int32).toNatClampNeg)]) (rest := []) C hw (kX13_has l 7) yy_X13_has yv_X13_has ml_X13_297 hf tbM_0 rfl rfl rfl rfl (Nat.le_of_ble_eq_true rfl) (by decide) hl.1 dX13_act_259 (fun r18 S17 H locs hw hf => ?_)
                refine sh_if_eq (tgt := 294) C hf dX13_act_262 (by decide) (fun hf => ?_) (fun hf => ?_)
                · refine lv_aload_n C.1 C.2.1 dX13_act_294 rfl (lv_at hl 2 rfl) ?_
                  refine sh_ldcW (z := 8) (k := 8) (text := "build") C (by decide) (by decide +kernel) dX13_act_295 ?_
                  refine sh_Vi (As := [.ref (G.2.2.2.2 (8 : Int32).toNatClampNeg)]) (rest := []) C hw (kX13_has l 8) yy_X13_has yv_X13_has ml_X13_297 hf tbM_0 rfl rfl rfl rfl (Nat.le_of_ble_eq_true rfl) (by decide) hl.1 dX13_act_298 (fun r20 S19 H locs hw hf => ?_)
                  refine sh_if_eq (tgt := 336) C hf dX13_act_301 (by decide) (fun hf => ?_) (fun hf => ?_)
                  · refine lv_aload_n C.1 C.2.1 dX13_act_336 rfl (lv_at hl 2 rfl) ?_
                    refine lv_iload_n C.1 C.2.1 dX13_act_337 rfl (lv_at hl 1 rfl) ?_
                    refine sh_Vv (As := [.int r2]) (rest := []) C hw (kX13_wrong l r2) yy_X13_wrong yv_X13_wrong ml_X13_292 hf tbM_0 rfl rfl rfl rfl (Nat.le_of_ble_eq_true rfl) (by decide) hl.1 dX13_act_338 (fun S21 H locs hw hf => ?_)
                    exact wX13_act_341 C hr S21 r2 0 hf _ _ _ hw (lv_sub hl [2, 1, 0] rfl)
                  · refine lv_aload_n C.1 C.2.1 dX13_act_304 rfl (lv_at hl 2 rfl) ?_
                    refine lv_aload_n C.1 C.2.1 dX13_act_305 rfl (lv_at hl 2 rfl) ?_
                    refine sh_getr C hw fl_X13_7 tbM_0 rfl dX13_act_306 ?_
                    refine lv_sipush (v := 1081) C.1 C.2.1 dX13_act_309 (by decide) ?_
                    refine sh_iald C hw hf tbM_1 dX13_act_312 (fun hf => ?_)
                    refine lv_aload_n C.1 C.2.1 dX13_act_313 rfl (lv_at hl 2 rfl) ?_
                    refine sh_getr C hw fl_X13_7 tbM_0 rfl dX13_act_314 ?_
                    refine lv_sipush (v := 1082) C.1 C.2.1 dX13_act_317 (by decide) ?_
                    refine sh_iald C hw hf tbM_1 dX13_act_320 (fun hf => ?_)
                    refine lv_aload_n C.1 C.2.1 dX13_act_321 rfl (lv_at hl 2 rfl) ?_
                    refine sh_getr C hw fl_X13_7 tbM_0 rfl dX13_act_322 ?_
                    refine lv_sipush (v := 1083) C.1 C.2.1 dX13_act_325 (by decide) ?_
                    refine sh_iald C hw hf tbM_1 dX13_act_328 (fun hf => ?_)
                    refine sh_Vi (As := [.int (S19.1 1 (1081 : Int32).toNatClampNeg), .int (S19.1 1 (1082 : Int32).toNatClampNeg), .int (S19.1 1 (1083 : Int32).toNatClampNeg)]) (rest := []) C hw (kX13_build0 l (S19.1 1 (1081 : Int32).toNatClampNeg) (S19.1 1 (1082 : Int32).toNatClampNeg) (S19.1 1 (1083 : Int32).toNatClampNeg)) yy_X13_build0 yv_X13_build0 ml_X13_248 hf tbM_0 rfl rfl rfl rfl (Nat.le_of_ble_eq_true rfl) (by decide) hl.1 dX13_act_329 (fun r26 S25 H locs hw hf => ?_)
                    refine lv_istore_n (lv' := [(2, .int r26), (1, .int r2), (0, .ref (G.2.1 0))]) C.1 C.2.1 dX13_act_332 rfl hl (by decide) rfl (fun ls hl => ?_)
                    refine lv_goto (tgt := 341) C.1 C.2.1 dX13_act_333 (by decide) ?_
                    exact wX13_act_341 C hr S25 r2 r26 hf _ _ _ hw (lv_sub hl [2, 1, 0] rfl)
                · refine lv_aload_n C.1 C.2.1 dX13_act_265 rfl (lv_at hl 2 rfl) ?_
                  refine lv_iconst (v := 0) C.1 C.2.1 dX13_act_266 (by decide) ?_
                  refine lv_bipush (v := 39) C.1 C.2.1 dX13_act_267 (by decide) ?_
                  refine sh_Vi (As := [.int 0, .int 39]) (rest := []) C hw (kX13_number l 0 39) yy_X13_number yv_X13_number ml_X13_305 hf tbM_0 rfl rfl rfl rfl (Nat.le_of_ble_eq_true rfl) (by decide) hl.1 dX13_act_269 (fun r28 S27 H locs hw hf => ?_)
                  refine lv_istore_n (lv' := [(3, .int r28), (2, .int 0), (1, .int r2), (0, .ref (G.2.1 0))]) C.1 C.2.1 dX13_act_272 rfl hl (by decide) rfl (fun ls hl => ?_)
                  refine lv_aload_n C.1 C.2.1 dX13_act_273 rfl (lv_at hl 3 rfl) ?_
                  refine sh_geti C hw fl_X13_54 tbM_0 rfl dX13_act_274 ?_
                  refine lv_iconst (v := -1) C.1 C.2.1 dX13_act_277 (by decide) ?_
                  refine sh_icmp_ne (tgt := 289) C hf dX13_act_278 (by decide) (fun hf => ?_) (fun hf => ?_)
                  · refine lv_iconst (v := 0) C.1 C.2.1 dX13_act_289 (by decide) ?_
                    exact wX13_act_290 C hr S27 r2 0 hf _ _ _ hw (lv_sub hl [3, 2] rfl)
                  · refine lv_aload_n C.1 C.2.1 dX13_act_281 rfl (lv_at hl 3 rfl) ?_
                    refine lv_iload_n C.1 C.2.1 dX13_act_282 rfl (lv_at hl 0 rfl) ?_
                    refine sh_Vi (As := [.int r28]) (rest := []) C hw (kX13_tear0 l r28) yy_X13_tear0 yv_X13_tear0 ml_X13_335 hf tbM_0 rfl rfl rfl rfl (Nat.le_of_ble_eq_true rfl) (by decide) hl.1 dX13_act_283 (fun r30 S29 H locs hw hf => ?_)
                    refine lv_goto (tgt := 290) C.1 C.2.1 dX13_act_286 (by decide) ?_
                    exact wX13_act_290 C hr S29 r2 r30 hf _ _ _ hw (lv_sub hl [3, 2] rfl)
              · refine lv_aload_n C.1 C.2.1 dX13_act_245 rfl (lv_at hl 2 rfl) ?_
                refine lv_iconst (v := 2) C.1 C.2.1 dX13_act_246 (by decide) ?_
                refine lv_iconst (v := 0) C.1 C.2.1 dX13_act_247 (by decide) ?_
                refine sh_Vi (As := [.int 2, .int 0]) (rest := []) C hw (kX13_tune0 l 2 0) yy_X13_tune0 yv_X13_tune0 ml_X13_324 hf tbM_0 rfl rfl rfl rfl (Nat.le_of_ble_eq_true rfl) (by decide) hl.1 dX13_act_248 (fun r32 S31 H locs hw hf => ?_)
                refine lv_istore_n (lv' := [(2, .int r32), (1, .int r2), (0, .ref (G.2.1 0))]) C.1 C.2.1 dX13_act_251 rfl hl (by decide) rfl (fun ls hl => ?_)
                refine lv_goto (tgt := 341) C.1 C.2.1 dX13_act_252 (by decide) ?_
                exact wX13_act_341 C hr S31 r2 r32 hf _ _ _ hw (lv_sub hl [2, 1, 0] rfl)
            · refine lv_aload_n C.1 C.2.1 dX13_act_225 rfl (lv_at hl 2 rfl) ?_
              refine lv_iconst (v := 2) C.1 C.2.1 dX13_act_226 (by decide) ?_
              refine lv_iconst (v := 1) C.1 C.2.1 dX13_act_227 (by decide) ?_
              refine sh_Vi (As := [.int 2, .int 1]) (rest := []) C hw (kX13_tune0 l 2 1) yy_X13_tune0 yv_X13_tune0 ml_X13_324 hf tbM_0 rfl rfl rfl rfl (Nat.le_of_ble_eq_true rfl) (by decide) hl.1 dX13_act_228 (fun r34 S33 H locs hw hf => ?_)
              refine lv_istore_n (lv' := [(2, .int r34), (1, .int r2), (0, .ref (G.2.1 0))]) C.1 C.2.1 dX13_act_231 rfl hl (by decide) rfl (fun ls hl => ?_)
              refine lv_goto (tgt := 341) C.1 C.2.1 dX13_act_232 (by decide) ?_
              exact wX13_act_341 C hr S33 r2 r34 hf _ _ _ hw (lv_sub hl [2, 1, 0] rfl)
          · refine lv_aload_n C.1 C.2.1 dX13_act_185 rfl (lv_at hl 2 rfl) ?_
            refine lv_iconst (v := 0) C.1 C.2.1 dX13_act_186 (by decide) ?_
            refine lv_ldc C.1 C.2.1 C.2.2.2.1 (C.2.2.2.2.1 _ kc_X13_109) dX13_act_187 ?_
            refine sh_Vi (As := [.int 0, .int 65535]) (rest := []) C hw (kX13_number l 0 65535) yy_X13_number yv_X13_number ml_X13_305 hf tbM_0 rfl rfl rfl rfl (Nat.le_of_ble_eq_true rfl) (by decide) hl.1 dX13_act_189 (fun r36 S35 H locs hw hf => ?_)
            refine lv_istore_n (lv' := [(3, .int r36), (2, .int 0), (1, .int r2), (0, .ref (G.2.1 0))]) C.1 C.2.1 dX13_act_192 rfl hl (by decide) rfl (fun ls hl => ?_)
            refine lv_aload_n C.1 C.2.1 dX13_act_193 rfl (lv_at hl 3 rfl) ?_
            refine sh_geti C hw fl_X13_54 tbM_0 rfl dX13_act_194 ?_
            refine lv_iconst (v := -1) C.1 C.2.1 dX13_act_197 (by decide) ?_
            refine sh_icmp_ne (tgt := 210) C hf dX13_act_198 (by decide) (fun hf => ?_) (fun hf => ?_)
            · refine lv_iconst (v := 0) C.1 C.2.1 dX13_act_210 (by decide) ?_
              exact wX13_act_211 C hr S35 r2 0 hf _ _ _ hw (lv_sub hl [3, 2] rfl)
            · refine lv_aload_n C.1 C.2.1 dX13_act_201 rfl (lv_at hl 3 rfl) ?_
              refine lv_iconst (v := 1) C.1 C.2.1 dX13_act_202 (by decide) ?_
              refine lv_iload_n C.1 C.2.1 dX13_act_203 rfl (lv_at hl 0 rfl) ?_
              refine sh_Vi (As := [.int 1, .int r36]) (rest := []) C hw (kX13_tune0 l 1 r36) yy_X13_tune0 yv_X13_tune0 ml_X13_324 hf tbM_0 rfl rfl rfl rfl (Nat.le_of_ble_eq_true rfl) (by decide) hl.1 dX13_act_204 (fun r38 S37 H locs hw hf => ?_)
              refine lv_goto (tgt := 211) C.1 C.2.1 dX13_act_207 (by decide) ?_
              exact wX13_act_211 C hr S37 r2 r38 hf _ _ _ hw (lv_sub hl [3, 2] rfl)
        · refine lv_aload_n C.1 C.2.1 dX13_act_145 rfl (lv_at hl 2 rfl) ?_
          refine lv_iconst (v := 1) C.1 C.2.1 dX13_act_146 (by decide) ?_
          refine lv_bipush (v := 12) C.1 C.2.1 dX13_act_147 (by decide) ?_
          refine sh_Vi (As := [.int 1, .int 12]) (rest := []) C hw (kX13_number l 1 12) yy_X13_number yv_X13_number ml_X13_305 hf tbM_0 rfl rfl rfl rfl (Nat.le_of_ble_eq_true rfl) (by decide) hl.1 dX13_act_149 (fun r40 S39 H locs hw hf => ?_)
          refine lv_istore_n (lv' := [(3, .int r40), (2, .int 0), (1, .int r2), (0, .ref (G.2.1 0))]) C.1 C.2.1 dX13_act_152 rfl hl (by decide) rfl (fun ls hl => ?_)
          refine lv_aload_n C.1 C.2.1 dX13_act_153 rfl (lv_at hl 3 rfl) ?_
          refine sh_geti C hw fl_X13_54 tbM_0 rfl dX13_act_154 ?_
          refine lv_iconst (v := -1) C.1 C.2.1 dX13_act_157 (by decide) ?_
          refine sh_icmp_ne (tgt := 170) C hf dX13_act_158 (by decide) (fun hf => ?_) (fun hf => ?_)
          · refine lv_iconst (v := 0) C.1 C.2.1 dX13_act_170 (by decide) ?_
            exact wX13_act_171 C hr S39 r2 0 hf _ _ _ hw (lv_sub hl [3, 2] rfl)
          · refine lv_aload_n C.1 C.2.1 dX13_act_161 rfl (lv_at hl 3 rfl) ?_
            refine lv_iconst (v := 0) C.1 C.2.1 dX13_act_162 (by decide) ?_
            refine lv_iload_n C.1 C.2.1 dX13_act_163 rfl (lv_at hl 0 rfl) ?_
            refine sh_Vi (As := [.int 0, .int r40]) (rest := []) C hw (kX13_tune0 l 0 r40) yy_X13_tune0 yv_X13_tune0 ml_X13_324 hf tbM_0 rfl rfl rfl rfl (Nat.le_of_ble_eq_true rfl) (by decide) hl.1 dX13_act_164 (fun r42 S41 H locs hw hf => ?_)
            refine lv_goto (tgt := 171) C.1 C.2.1 dX13_act_167 (by decide) ?_
            exact wX13_act_171 C hr S41 r2 r42 hf _ _ _ hw (lv_sub hl [3, 2] rfl)
      · refine lv_aload_n C.1 C.2.1 dX13_act_101 rfl (lv_at hl 2 rfl) ?_
        refine sh_Vl (As := []) (rest := []) C hw (kX13_name l ) yy_X13_name yv_X13_name ml_X13_301 hf tbM_0 rfl rfl rfl rfl (Nat.le_of_ble_eq_true rfl) (by decide) hl.1 dX13_act_102 (fun r44 S43 H locs hw hf => ?_)
        refine lv_lstore_n (lv' := [(3, .long r44), (2, .int 0), (1, .int r2), (0, .ref (G.2.1 0))]) C.1 C.2.1 dX13_act_105 rfl hl (by decide) rfl (fun ls hl => ?_)
        refine lv_aload_n C.1 C.2.1 dX13_act_106 rfl (lv_at hl 3 rfl) ?_
        refine sh_Vl (As := []) (rest := []) C hw (kX13_name l ) yy_X13_name yv_X13_name ml_X13_301 hf tbM_0 rfl rfl rfl rfl (Nat.le_of_ble_eq_true rfl) (by decide) hl.1 dX13_act_107 (fun r46 S45 H locs hw hf => ?_)
        refine lv_lstore (lv' := [(5, .long r46), (3, .long r44), (2, .int 0), (1, .int r2), (0, .ref (G.2.1 0))]) C.1 C.2.1 dX13_act_110 hl (by decide) rfl (fun ls hl => ?_)
        refine lv_aload_n C.1 C.2.1 dX13_act_112 rfl (lv_at hl 4 rfl) ?_
        refine sh_geti C hw fl_X13_54 tbM_0 rfl dX13_act_113 ?_
        refine lv_iconst (v := -1) C.1 C.2.1 dX13_act_116 (by decide) ?_
        refine sh_icmp_ne (tgt := 130) C hf dX13_act_117 (by decide) (fun hf => ?_) (fun hf => ?_)
        · refine lv_iconst (v := 0) C.1 C.2.1 dX13_act_130 (by decide) ?_
          exact wX13_act_131 C hr S45 r2 0 hf _ _ _ hw (lv_sub hl [4, 3] rfl)
        · refine lv_aload_n C.1 C.2.1 dX13_act_120 rfl (lv_at hl 4 rfl) ?_
          refine lv_lload_n C.1 C.2.1 dX13_act_121 rfl (lv_at hl 1 rfl) ?_
          refine lv_lload C.1 C.2.1 dX13_act_122 (lv_at hl 0 rfl) ?_
          refine sh_Vi (As := [.long r44, .long r46]) (rest := []) C hw (kX13_turn0 l r44 r46) yy_X13_turn0 yv_X13_turn0 ml_X13_318 hf tbM_0 rfl rfl rfl rfl (Nat.le_of_ble_eq_true rfl) (by decide) hl.1 dX13_act_124 (fun r48 S47 H locs hw hf => ?_)
          refine lv_goto (tgt := 131) C.1 C.2.1 dX13_act_127 (by decide) ?_
          exact wX13_act_131 C hr S47 r2 r48 hf _ _ _ hw (lv_sub hl [4, 3] rfl)
    · refine lv_aload_n C.1 C.2.1 dX13_act_65 rfl (lv_at hl 2 rfl) ?_
      refine sh_Vl (As := []) (rest := []) C hw (kX13_name l ) yy_X13_name yv_X13_name ml_X13_301 hf tbM_0 rfl rfl rfl rfl (Nat.le_of_ble_eq_true rfl) (by decide) hl.1 dX13_act_66 (fun r50 S49 H locs hw hf => ?_)
      refine lv_lstore_n (lv' := [(3, .long r50), (2, .int 0), (1, .int r2), (0, .ref (G.2.1 0))]) C.1 C.2.1 dX13_act_69 rfl hl (by decide) rfl (fun ls hl => ?_)
      refine lv_aload_n C.1 C.2.1 dX13_act_70 rfl (lv_at hl 3 rfl) ?_
      refine sh_geti C hw fl_X13_54 tbM_0 rfl dX13_act_71 ?_
      refine lv_iconst (v := -1) C.1 C.2.1 dX13_act_74 (by decide) ?_
      refine sh_icmp_ne (tgt := 86) C hf dX13_act_75 (by decide) (fun hf => ?_) (fun hf => ?_)
      · refine lv_iconst (v := 0) C.1 C.2.1 dX13_act_86 (by decide) ?_
        exact wX13_act_87 C hr S49 r2 0 hf _ _ _ hw (lv_sub hl [3, 2] rfl)
      · refine lv_aload_n C.1 C.2.1 dX13_act_78 rfl (lv_at hl 3 rfl) ?_
        refine lv_lload_n C.1 C.2.1 dX13_act_79 rfl (lv_at hl 0 rfl) ?_
        refine sh_Vi (As := [.long r50]) (rest := []) C hw (kX13_cut0 l r50) yy_X13_cut0 yv_X13_cut0 ml_X13_313 hf tbM_0 rfl rfl rfl rfl (Nat.le_of_ble_eq_true rfl) (by decide) hl.1 dX13_act_80 (fun r52 S51 H locs hw hf => ?_)
        refine lv_goto (tgt := 87) C.1 C.2.1 dX13_act_83 (by decide) ?_
        exact wX13_act_87 C hr S51 r2 r52 hf _ _ _ hw (lv_sub hl [3, 2] rfl)
  · refine lv_aload_n C.1 C.2.1 dX13_act_17 rfl (lv_at hl 2 rfl) ?_
    refine sh_Vl (As := []) (rest := []) C hw (kX13_name l ) yy_X13_name yv_X13_name ml_X13_301 hf tbM_0 rfl rfl rfl rfl (Nat.le_of_ble_eq_true rfl) (by decide) hl.1 dX13_act_18 (fun r54 S53 H locs hw hf => ?_)
    refine lv_lstore_n (lv' := [(3, .long r54), (2, .int 0), (1, .int r2), (0, .ref (G.2.1 0))]) C.1 C.2.1 dX13_act_21 rfl hl (by decide) rfl (fun ls hl => ?_)
    refine lv_aload_n C.1 C.2.1 dX13_act_22 rfl (lv_at hl 3 rfl) ?_
    refine lv_iconst (v := 0) C.1 C.2.1 dX13_act_23 (by decide) ?_
    refine lv_sipush (v := 999) C.1 C.2.1 dX13_act_24 (by decide) ?_
    refine sh_Vi (As := [.int 0, .int 999]) (rest := []) C hw (kX13_number l 0 999) yy_X13_number yv_X13_number ml_X13_305 hf tbM_0 rfl rfl rfl rfl (Nat.le_of_ble_eq_true rfl) (by decide) hl.1 dX13_act_27 (fun r56 S55 H locs hw hf => ?_)
    refine lv_istore (lv' := [(5, .int r56), (3, .long r54), (2, .int 0), (1, .int r2), (0, .ref (G.2.1 0))]) C.1 C.2.1 dX13_act_30 hl (by decide) rfl (fun ls hl => ?_)
    refine lv_aload_n C.1 C.2.1 dX13_act_32 rfl (lv_at hl 4 rfl) ?_
    refine sh_geti C hw fl_X13_54 tbM_0 rfl dX13_act_33 ?_
    refine lv_iconst (v := -1) C.1 C.2.1 dX13_act_36 (by decide) ?_
    refine sh_icmp_ne (tgt := 50) C hf dX13_act_37 (by decide) (fun hf => ?_) (fun hf => ?_)
    · refine lv_iconst (v := 0) C.1 C.2.1 dX13_act_50 (by decide) ?_
      exact wX13_act_51 C hr S55 r2 0 hf _ _ _ hw (lv_sub hl [4, 3] rfl)
    · refine lv_aload_n C.1 C.2.1 dX13_act_40 rfl (lv_at hl 4 rfl) ?_
      refine lv_lload_n C.1 C.2.1 dX13_act_41 rfl (lv_at hl 1 rfl) ?_
      refine lv_iload C.1 C.2.1 dX13_act_42 (lv_at hl 0 rfl) ?_
      refine sh_Vi (As := [.long r54, .int r56]) (rest := []) C hw (kX13_put0 l r54 r56) yy_X13_put0 yv_X13_put0 ml_X13_308 hf tbM_0 rfl rfl rfl rfl (Nat.le_of_ble_eq_true rfl) (by decide) hl.1 dX13_act_44 (fun r58 S57 H locs hw hf => ?_)
      refine lv_goto (tgt := 51) C.1 C.2.1 dX13_act_47 (by decide) ?_
      exact wX13_act_51 C hr S57 r2 r58 hf _ _ _ hw (lv_sub hl [4, 3] rfl)
def fX13_acts_121 : Nat → sh_St → Int32 → Option (Int32 × sh_St)
  | 0, _, _ => none
  | n + 1, S, v3 =>
    if 4 ≤ v3 then (sh_c (fX13_comesBack S ) fun _ S9 =>
    some (0, S9))
    else (sh_g v3 4 (sh_g v3 4 (sh_b (S.1 21 v3.toNatClampNeg) (sh_t (sh_I S 9 v3.toNatClampNeg (S.1 21 v3.toNatClampNeg)) fun S11 =>
    sh_t (v3 + 1) fun y12 =>
    (fX13_acts_121 n) S11 y12))))
set_option maxRecDepth 100000 in
set_option maxHeartbeats 4000000 in
theorem wX13_acts_121 {p : Program} {l : Launch} {e : Env} {s : State} {m : MethodId} {args : Array Value} {below : List Frame} {meth : Method} {c : Code} {G : sh_Ev} {A : Nat → Prop} {res : Int32 × sh_St} (C : sh_Cx p s m args meth c cX13_acts 4 RX13 G A) (hr : meth.sig.returnType = some .int) : ∀ (n : Nat) (S : sh_St) (v3 : Int32), fX13_acts_121 n S v3 = some res → ∀ (H : Heap) (locs : List Loc) (ls : Array Slot), sh_Wx G tbM A s H locs S → lv_has ls 4 [(0, .ref (G.2.1 0)), (3, .int v3)] → W p l e (sh_rm 12) s m args below meth c H locs 0 0 (sh_Qi below args s G tbM A res) (F0 m 121 ls []) := by
  intro n
  induction n with
  | zero => intro S v3 hf; exact nomatch (show (none : Option (Int32 × sh_St)) = some res from hf)
  | succ n ih =>
    intro S v3 hf H locs ls hw hl
    have hr121 := ih
    rw [fX13_acts_121] at hf
    refine lv_iload_n C.1 C.2.1 dX13_acts_121 rfl (lv_at hl 1 rfl) ?_
    refine lv_iconst (v := 4) C.1 C.2.1 dX13_acts_122 (by decide) ?_
    refine sh_icmp_ge (tgt := 144) C hf dX13_acts_123 (by decide) (fun hf => ?_) (fun hf => ?_)
    · refine lv_aload_n C.1 C.2.1 dX13_acts_144 rfl (lv_at hl 0 rfl) ?_
      refine sh_Vv (As := []) (rest := []) C hw (kX13_comesBack l ) yy_X13_comesBack yv_X13_comesBack ml_X13_352 hf tbM_0 rfl rfl rfl rfl (Nat.le_of_ble_eq_true rfl) (by decide) hl.1 dX13_acts_145 (fun S9 H locs hw hf => ?_)
      refine lv_iconst (v := 0) C.1 C.2.1 dX13_acts_148 (by decide) ?_
      exact sh_ri C hw hr hf dX13_acts_149
    · refine lv_aload_n C.1 C.2.1 dX13_acts_126 rfl (lv_at hl 0 rfl) ?_
      refine sh_getr C hw fl_X13_35 tbM_0 rfl dX13_acts_127 ?_
      refine lv_iload_n C.1 C.2.1 dX13_acts_130 rfl (lv_at hl 1 rfl) ?_
      refine lv_aload_n C.1 C.2.1 dX13_acts_131 rfl (lv_at hl 0 rfl) ?_
      refine sh_getr C hw fl_X13_76 tbM_0 rfl dX13_acts_132 ?_
      refine lv_iload_n C.1 C.2.1 dX13_acts_135 rfl (lv_at hl 1 rfl) ?_
      refine sh_zald C hw hf tbM_21 dX13_acts_136 (fun hf => ?_)
      refine sh_zast C hw hf tbM_9 dX13_acts_137 (fun S11 H locs hw hf => ?_)
      obtain ⟨y12, ey12, hf⟩ := sh_nm hf
      refine lv_iinc (v := y12) (lv' := [(3, .int y12), (0, .ref (G.2.1 0))]) C.1 C.2.1 dX13_acts_138 hl (k := 1) rfl (by rw [← ey12]; rfl) (by decide) rfl (fun ls hl => ?_)
      refine lv_goto (tgt := 121) C.1 C.2.1 dX13_acts_141 (by decide) ?_
      exact hr121 S11 y12 hf _ _ _ hw (lv_sub hl [1, 0] rfl)
def fX13_acts_116 (S : sh_St) (t0 : Int32) : Option (Int32 × sh_St) :=
    sh_t (sh_I S 0 21 t0) fun S8 =>
    fX13_acts_121 sh_FU S8 0
set_option maxRecDepth 100000 in
set_option maxHeartbeats 4000000 in
theorem wX13_acts_116 {p : Program} {l : Launch} {e : Env} {s : State} {m : MethodId} {args : Array Value} {below : List Frame} {meth : Method} {c : Code} {G : sh_Ev} {A : Nat → Prop} {res : Int32 × sh_St} (C : sh_Cx p s m args meth c cX13_acts 4 RX13 G A) (hr : meth.sig.returnType = some .int) : ∀ (S : sh_St) (t0 : Int32), fX13_acts_116 S t0 = some res → ∀ (H : Heap) (locs : List Loc) (ls : Array Slot), sh_Wx G tbM A s H locs S → lv_has ls 4 [(0, .ref (G.2.1 0))] → W p l e (sh_rm 12) s m args below meth c H locs 0 0 (sh_Qi below args s G tbM A res) (F0 m 116 ls [.int t0, .ref (G.2.1 0)]) := by
  intro S t0 hf H locs ls hw hl
  rw [fX13_acts_116] at hf
  refine sh_puti C hw fl_X13_254 fp_11_21 hf tbM_0 rfl dX13_acts_116 (fun S8 H locs hw hf => ?_)
  refine lv_iconst (v := 0) C.1 C.2.1 dX13_acts_119 (by decide) ?_
  refine lv_istore_n (lv' := [(3, .int 0), (0, .ref (G.2.1 0))]) C.1 C.2.1 dX13_acts_120 rfl hl (by decide) rfl (fun ls hl => ?_)
  exact wX13_acts_121 C hr _ S8 0 hf _ _ _ hw (lv_sub hl [1, 0] rfl)
def fX13_acts_93 (S : sh_St) (v1 : Int32) (t0 : Int32) : Option (Int32 × sh_St) :=
    sh_t (sh_I S 0 21 t0) fun S13 =>
    sh_t (sh_I S13 0 5 0) fun S14 =>
    some (v1, S14)
set_option maxRecDepth 100000 in
set_option maxHeartbeats 4000000 in
theorem wX13_acts_93 {p : Program} {l : Launch} {e : Env} {s : State} {m : MethodId} {args : Array Value} {below : List Frame} {meth : Method} {c : Code} {G : sh_Ev} {A : Nat → Prop} {res : Int32 × sh_St} (C : sh_Cx p s m args meth c cX13_acts 4 RX13 G A) (hr : meth.sig.returnType = some .int) : ∀ (S : sh_St) (v1 : Int32) (t0 : Int32), fX13_acts_93 S v1 t0 = some res → ∀ (H : Heap) (locs : List Loc) (ls : Array Slot), sh_Wx G tbM A s H locs S → lv_has ls 4 [(0, .ref (G.2.1 0)), (1, .int v1)] → W p l e (sh_rm 12) s m args below meth c H locs 0 0 (sh_Qi below args s G tbM A res) (F0 m 93 ls [.int t0, .ref (G.2.1 0)]) := by
  intro S v1 t0 hf H locs ls hw hl
  rw [fX13_acts_93] at hf
  refine sh_puti C hw fl_X13_254 fp_11_21 hf tbM_0 rfl dX13_acts_93 (fun S13 H locs hw hf => ?_)
  refine lv_aload_n C.1 C.2.1 dX13_acts_96 rfl (lv_at hl 0 rfl) ?_
  refine lv_iconst (v := 0) C.1 C.2.1 dX13_acts_97 (by decide) ?_
  refine sh_puti C hw fl_X13_251 fp_11_5 hf tbM_0 rfl dX13_acts_98 (fun S14 H locs hw hf => ?_)
  refine lv_iload_n C.1 C.2.1 dX13_acts_101 rfl (lv_at hl 1 rfl) ?_
  exact sh_ri C hw hr hf dX13_acts_102
def fX13_acts_70 (S : sh_St) (v1 : Int32) (v2 : Int32) (t0 : Int32) : Option (Int32 × sh_St) :=
    sh_t (sh_I S 0 0 t0) fun S7 =>
    if (S7.1 0 0) = 0 then (if v1 ≤ 0 then (fX13_acts_93 S7 v1 (S7.1 0 21))
    else (fX13_acts_93 S7 v1 0))
    else (if v2 ≤ 0 then (fX13_acts_116 S7 (S7.1 0 21))
    else (fX13_acts_116 S7 v2))
set_option maxRecDepth 100000 in
set_option maxHeartbeats 4000000 in
theorem wX13_acts_70 {p : Program} {l : Launch} {e : Env} {s : State} {m : MethodId} {args : Array Value} {below : List Frame} {meth : Method} {c : Code} {G : sh_Ev} {A : Nat → Prop} {res : Int32 × sh_St} (C : sh_Cx p s m args meth c cX13_acts 4 RX13 G A) (hr : meth.sig.returnType = some .int) : ∀ (S : sh_St) (v1 : Int32) (v2 : Int32) (t0 : Int32), fX13_acts_70 S v1 v2 t0 = some res → ∀ (H : Heap) (locs : List Loc) (ls : Array Slot), sh_Wx G tbM A s H locs S → lv_has ls 4 [(0, .ref (G.2.1 0)), (1, .int v1), (2, .int v2)] → W p l e (sh_rm 12) s m args below meth c H locs 0 0 (sh_Qi below args s G tbM A res) (F0 m 70 ls [.int t0, .ref (G.2.1 0)]) := by
  intro S v1 v2 t0 hf H locs ls hw hl
  rw [fX13_acts_70] at hf
  refine sh_puti C hw fl_X13_79 fp_11_0 hf tbM_0 rfl dX13_acts_70 (fun S7 H locs hw hf => ?_)
  refine lv_aload_n C.1 C.2.1 dX13_acts_73 rfl (lv_at hl 0 rfl) ?_
  refine sh_geti C hw fl_X13_79 tbM_0 rfl dX13_acts_74 ?_
  refine sh_if_ne (tgt := 103) C hf dX13_acts_77 (by decide) (fun hf => ?_) (fun hf => ?_)
  · refine lv_aload_n C.1 C.2.1 dX13_acts_103 rfl (lv_at hl 0 rfl) ?_
    refine lv_iload_n C.1 C.2.1 dX13_acts_104 rfl (lv_at hl 2 rfl) ?_
    refine sh_if_le (tgt := 112) C hf dX13_acts_105 (by decide) (fun hf => ?_) (fun hf => ?_)
    · refine lv_aload_n C.1 C.2.1 dX13_acts_112 rfl (lv_at hl 0 rfl) ?_
      refine sh_geti C hw fl_X13_254 tbM_0 rfl dX13_acts_113 ?_
      exact wX13_acts_116 C hr S7 (S7.1 0 21) hf _ _ _ hw (lv_sub hl [0] rfl)
    · refine lv_iload_n C.1 C.2.1 dX13_acts_108 rfl (lv_at hl 2 rfl) ?_
      refine lv_goto (tgt := 116) C.1 C.2.1 dX13_acts_109 (by decide) ?_
      exact wX13_acts_116 C hr S7 v2 hf _ _ _ hw (lv_sub hl [0] rfl)
  · refine lv_aload_n C.1 C.2.1 dX13_acts_80 rfl (lv_at hl 0 rfl) ?_
    refine lv_iload_n C.1 C.2.1 dX13_acts_81 rfl (lv_at hl 1 rfl) ?_
    refine sh_if_le (tgt := 89) C hf dX13_acts_82 (by decide) (fun hf => ?_) (fun hf => ?_)
    · refine lv_aload_n C.1 C.2.1 dX13_acts_89 rfl (lv_at hl 0 rfl) ?_
      refine sh_geti C hw fl_X13_254 tbM_0 rfl dX13_acts_90 ?_
      exact wX13_acts_93 C hr S7 v1 (S7.1 0 21) hf _ _ _ hw (lv_sub hl [0, 1] rfl)
    · refine lv_iconst (v := 0) C.1 C.2.1 dX13_acts_85 (by decide) ?_
      refine lv_goto (tgt := 93) C.1 C.2.1 dX13_acts_86 (by decide) ?_
      exact wX13_acts_93 C hr S7 v1 0 hf _ _ _ hw (lv_sub hl [0, 1] rfl)
def fX13_acts_37 : Nat → sh_St → Int32 → Int32 → Option (Int32 × sh_St)
  | 0, _, _, _ => none
  | n + 1, S, v1, v2 =>
    sh_c (fX13_comesMore S v1) fun r6 S5 =>
    if r6 = 0 then (if (S5.1 0 20) = (-1) then (fX13_acts_70 S5 v1 v2 0)
    else (fX13_acts_70 S5 v1 v2 1))
    else (sh_c (fX13_act S5 ) fun r16 S15 =>
    sh_t (v1 + 1) fun y17 =>
    (fX13_acts_37 n) S15 y17 r16)
set_option maxRecDepth 100000 in
set_option maxHeartbeats 4000000 in
theorem wX13_acts_37 {p : Program} {l : Launch} {e : Env} {s : State} {m : MethodId} {args : Array Value} {below : List Frame} {meth : Method} {c : Code} {G : sh_Ev} {A : Nat → Prop} {res : Int32 × sh_St} (C : sh_Cx p s m args meth c cX13_acts 4 RX13 G A) (hr : meth.sig.returnType = some .int) : ∀ (n : Nat) (S : sh_St) (v1 : Int32) (v2 : Int32), fX13_acts_37 n S v1 v2 = some res → ∀ (H : Heap) (locs : List Loc) (ls : Array Slot), sh_Wx G tbM A s H locs S → lv_has ls 4 [(0, .ref (G.2.1 0)), (1, .int v1), (2, .int v2)] → W p l e (sh_rm 12) s m args below meth c H locs 0 0 (sh_Qi below args s G tbM A res) (F0 m 37 ls []) := by
  intro n
  induction n with
  | zero => intro S v1 v2 hf; exact nomatch (show (none : Option (Int32 × sh_St)) = some res from hf)
  | succ n ih =>
    intro S v1 v2 hf H locs ls hw hl
    have hr37 := ih
    rw [fX13_acts_37] at hf
    refine lv_aload_n C.1 C.2.1 dX13_acts_37 rfl (lv_at hl 0 rfl) ?_
    refine lv_iload_n C.1 C.2.1 dX13_acts_38 rfl (lv_at hl 1 rfl) ?_
    refine sh_Vi (As := [.int v1]) (rest := []) C hw (kX13_comesMore l v1) yy_X13_comesMore yv_X13_comesMore ml_X13_346 hf tbM_0 rfl rfl rfl rfl (Nat.le_of_ble_eq_true rfl) (by decide) hl.1 dX13_acts_39 (fun r6 S5 H locs hw hf => ?_)
    refine sh_if_eq (tgt := 56) C hf dX13_acts_42 (by decide) (fun hf => ?_) (fun hf => ?_)
    · refine lv_aload_n C.1 C.2.1 dX13_acts_56 rfl (lv_at hl 0 rfl) ?_
      refine lv_aload_n C.1 C.2.1 dX13_acts_57 rfl (lv_at hl 0 rfl) ?_
      refine sh_geti C hw fl_X13_54 tbM_0 rfl dX13_acts_58 ?_
      refine lv_iconst (v := -1) C.1 C.2.1 dX13_acts_61 (by decide) ?_
      refine sh_icmp_ne (tgt := 69) C hf dX13_acts_62 (by decide) (fun hf => ?_) (fun hf => ?_)
      · refine lv_iconst (v := 1) C.1 C.2.1 dX13_acts_69 (by decide) ?_
        exact wX13_acts_70 C hr S5 v1 v2 1 hf _ _ _ hw (lv_sub hl [0, 1, 2] rfl)
      · refine lv_iconst (v := 0) C.1 C.2.1 dX13_acts_65 (by decide) ?_
        refine lv_goto (tgt := 70) C.1 C.2.1 dX13_acts_66 (by decide) ?_
        exact wX13_acts_70 C hr S5 v1 v2 0 hf _ _ _ hw (lv_sub hl [0, 1, 2] rfl)
    · refine lv_aload_n C.1 C.2.1 dX13_acts_45 rfl (lv_at hl 0 rfl) ?_
      refine sh_Vi (As := []) (rest := []) C hw (kX13_act l ) yy_X13_act yv_X13_act ml_X13_349 hf tbM_0 rfl rfl rfl rfl (Nat.le_of_ble_eq_true rfl) (by decide) hl.1 dX13_acts_46 (fun r16 S15 H locs hw hf => ?_)
      refine lv_istore_n (lv' := [(2, .int r16), (0, .ref (G.2.1 0)), (1, .int v1)]) C.1 C.2.1 dX13_acts_49 rfl hl (by decide) rfl (fun ls hl => ?_)
      obtain ⟨y17, ey17, hf⟩ := sh_nm hf
      refine lv_iinc (v := y17) (lv' := [(1, .int y17), (2, .int r16), (0, .ref (G.2.1 0))]) C.1 C.2.1 dX13_acts_50 hl (k := 2) rfl (by rw [← ey17]; rfl) (by decide) rfl (fun ls hl => ?_)
      refine lv_goto (tgt := 37) C.1 C.2.1 dX13_acts_53 (by decide) ?_
      exact hr37 S15 y17 r16 hf _ _ _ hw (lv_sub hl [2, 0, 1] rfl)
def fX13_acts_10 : Nat → sh_St → Int32 → Option (Int32 × sh_St)
  | 0, _, _ => none
  | n + 1, S, v1 =>
    if 4 ≤ v1 then (fX13_acts_37 sh_FU S 0 0)
    else (sh_g v1 4 (sh_g v1 4 (sh_b (S.1 9 v1.toNatClampNeg) (sh_t (sh_I S 21 v1.toNatClampNeg (S.1 9 v1.toNatClampNeg)) fun S18 =>
    sh_t (v1 + 1) fun y19 =>
    (fX13_acts_10 n) S18 y19))))
set_option maxRecDepth 100000 in
set_option maxHeartbeats 4000000 in
theorem wX13_acts_10 {p : Program} {l : Launch} {e : Env} {s : State} {m : MethodId} {args : Array Value} {below : List Frame} {meth : Method} {c : Code} {G : sh_Ev} {A : Nat → Prop} {res : Int32 × sh_St} (C : sh_Cx p s m args meth c cX13_acts 4 RX13 G A) (hr : meth.sig.returnType = some .int) : ∀ (n : Nat) (S : sh_St) (v1 : Int32), fX13_acts_10 n S v1 = some res → ∀ (H : Heap) (locs : List Loc) (ls : Array Slot), sh_Wx G tbM A s H locs S → lv_has ls 4 [(0, .ref (G.2.1 0)), (1, .int v1)] → W p l e (sh_rm 12) s m args below meth c H locs 0 0 (sh_Qi below args s G tbM A res) (F0 m 10 ls []) := by
  intro n
  induction n with
  | zero => intro S v1 hf; exact nomatch (show (none : Option (Int32 × sh_St)) = some res from hf)
  | succ n ih =>
    intro S v1 hf H locs ls hw hl
    have hr10 := ih
    rw [fX13_acts_10] at hf
    refine lv_iload_n C.1 C.2.1 dX13_acts_10 rfl (lv_at hl 1 rfl) ?_
    refine lv_iconst (v := 4) C.1 C.2.1 dX13_acts_11 (by decide) ?_
    refine sh_icmp_ge (tgt := 33) C hf dX13_acts_12 (by decide) (fun hf => ?_) (fun hf => ?_)
    · refine lv_iconst (v := 0) C.1 C.2.1 dX13_acts_33 (by decide) ?_
      refine lv_istore_n (lv' := [(1, .int 0), (0, .ref (G.2.1 0))]) C.1 C.2.1 dX13_acts_34 rfl hl (by decide) rfl (fun ls hl => ?_)
      refine lv_iconst (v := 0) C.1 C.2.1 dX13_acts_35 (by decide) ?_
      refine lv_istore_n (lv' := [(2, .int 0), (1, .int 0), (0, .ref (G.2.1 0))]) C.1 C.2.1 dX13_acts_36 rfl hl (by decide) rfl (fun ls hl => ?_)
      exact wX13_acts_37 C hr _ S 0 0 hf _ _ _ hw (lv_sub hl [2, 1, 0] rfl)
    · refine lv_aload_n C.1 C.2.1 dX13_acts_15 rfl (lv_at hl 0 rfl) ?_
      refine sh_getr C hw fl_X13_76 tbM_0 rfl dX13_acts_16 ?_
      refine lv_iload_n C.1 C.2.1 dX13_acts_19 rfl (lv_at hl 1 rfl) ?_
      refine lv_aload_n C.1 C.2.1 dX13_acts_20 rfl (lv_at hl 0 rfl) ?_
      refine sh_getr C hw fl_X13_35 tbM_0 rfl dX13_acts_21 ?_
      refine lv_iload_n C.1 C.2.1 dX13_acts_24 rfl (lv_at hl 1 rfl) ?_
      refine sh_zald C hw hf tbM_9 dX13_acts_25 (fun hf => ?_)
      refine sh_zast C hw hf tbM_21 dX13_acts_26 (fun S18 H locs hw hf => ?_)
      obtain ⟨y19, ey19, hf⟩ := sh_nm hf
      refine lv_iinc (v := y19) (lv' := [(1, .int y19), (0, .ref (G.2.1 0))]) C.1 C.2.1 dX13_acts_27 hl (k := 1) rfl (by rw [← ey19]; rfl) (by decide) rfl (fun ls hl => ?_)
      refine lv_goto (tgt := 10) C.1 C.2.1 dX13_acts_30 (by decide) ?_
      exact hr10 S18 y19 hf _ _ _ hw (lv_sub hl [1, 0] rfl)
def fX13_acts (S : sh_St) : Option (Int32 × sh_St) :=
    sh_c (fX13_begins S ) fun _ S1 =>
    sh_c (fX13_putsAside S1 ) fun _ S3 =>
    fX13_acts_10 sh_FU S3 0
set_option maxRecDepth 100000 in
set_option maxHeartbeats 4000000 in
theorem kX13_acts (l : Launch) : sh_Mi l yX13_acts cX13_acts 4 .int 12 tbM (fun G => [.ref (G.2.1 0)]) (fun S => fX13_acts S) := by
  refine sh_mki (by decide) (fun G => Nat.le_of_ble_eq_true rfl) ?_
  intro p e s m args below meth c G A S res ls hf C hr hw hl
  have C : sh_Cx p s m args meth c cX13_acts 4 RX13 G A := C
  have hl : lv_has ls 4 [(0, .ref (G.2.1 0))] := hl
  replace hf : fX13_acts S = some res := hf
  rw [fX13_acts] at hf
  refine lv_aload_n C.1 C.2.1 dX13_acts_0 rfl (lv_at hl 0 rfl) ?_
  refine sh_Vv (As := []) (rest := []) C hw (kX13_begins l ) yy_X13_begins yv_X13_begins ml_X13_340 hf tbM_0 rfl rfl rfl rfl (Nat.le_of_ble_eq_true rfl) (by decide) hl.1 dX13_acts_1 (fun S1 H locs hw hf => ?_)
  refine lv_aload_n C.1 C.2.1 dX13_acts_4 rfl (lv_at hl 0 rfl) ?_
  refine sh_Vv (As := []) (rest := []) C hw (kX13_putsAside l ) yy_X13_putsAside yv_X13_putsAside ml_X13_343 hf tbM_0 rfl rfl rfl rfl (Nat.le_of_ble_eq_true rfl) (by decide) hl.1 dX13_acts_5 (fun S3 H locs hw hf => ?_)
  refine lv_iconst (v := 0) C.1 C.2.1 dX13_acts_8 (by decide) ?_
  refine lv_istore_n (lv' := [(1, .int 0), (0, .ref (G.2.1 0))]) C.1 C.2.1 dX13_acts_9 rfl hl (by decide) rfl (fun ls hl => ?_)
  exact wX13_acts_10 C hr _ S3 0 hf _ _ _ hw (lv_sub hl [1, 0] rfl)
def fX10_actNumber_2 : Nat → sh_St → Int32 → Int32 → Int32 → Option (Int32 × sh_St)
  | 0, _, _, _, _ => none
  | n + 1, S, v1, v2, v3 =>
    if 9 ≤ v3 then (some ((-1), S))
    else (sh_g v3 9 (sh_g v3 9 (sh_c (fX10_isWord S v3 v1 v2) fun r2 S1 =>
    if r2 = 0 then (sh_t (v3 + 1) fun y3 =>
    (fX10_actNumber_2 n) S1 v1 v2 y3)
    else (some (v3, S1)))))
set_option maxRecDepth 100000 in
set_option maxHeartbeats 4000000 in
theorem wX10_actNumber_2 {p : Program} {l : Launch} {e : Env} {s : State} {m : MethodId} {args : Array Value} {below : List Frame} {meth : Method} {c : Code} {G : sh_Ev} {A : Nat → Prop} {res : Int32 × sh_St} (C : sh_Cx p s m args meth c cX10_actNumber 4 RX10 G A) (hr : meth.sig.returnType = some .int) : ∀ (n : Nat) (S : sh_St) (v1 : Int32) (v2 : Int32) (v3 : Int32), fX10_actNumber_2 n S v1 v2 v3 = some res → ∀ (H : Heap) (locs : List Loc) (ls : Array Slot), sh_Wx G tbX A s H locs S → lv_has ls 4 [(0, .ref (G.2.1 3)), (1, .int v1), (2, .int v2), (3, .int v3)] → W p l e (sh_rm 6) s m args below meth c H locs 0 0 (sh_Qi below args s G tbX A res) (F0 m 2 ls []) := by
  intro n
  induction n with
  | zero => intro S v1 v2 v3 hf; exact nomatch (show (none : Option (Int32 × sh_St)) = some res from hf)
  | succ n ih =>
    intro S v1 v2 v3 hf H locs ls hw hl
    have hr2 := ih
    rw [fX10_actNumber_2] at hf
    refine lv_iload_n C.1 C.2.1 dX10_actNumber_2 rfl (lv_at hl 3 rfl) ?_
    refine sh_aaG C hw dX10_actNumber_3 ?_
    refine sh_aaL C hw dX10_actNumber_6 ?_
    refine sh_icmp_ge (tgt := 35) C hf dX10_actNumber_7 (by decide) (fun hf => ?_) (fun hf => ?_)
    · refine lv_iconst (v := -1) C.1 C.2.1 dX10_actNumber_35 (by decide) ?_
      exact sh_ri C hw hr hf dX10_actNumber_36
    · refine lv_aload_n C.1 C.2.1 dX10_actNumber_10 rfl (lv_at hl 0 rfl) ?_
      refine sh_aaG C hw dX10_actNumber_11 ?_
      refine lv_iload_n C.1 C.2.1 dX10_actNumber_14 rfl (lv_at hl 3 rfl) ?_
      refine sh_aaA C hw hf dX10_actNumber_15 (fun hf => ?_)
      refine sh_getW C hw hf al_X10_96 dX10_actNumber_16 (fun hf => ?_)
      refine lv_iload_n C.1 C.2.1 dX10_actNumber_19 rfl (lv_at hl 1 rfl) ?_
      refine lv_iload_n C.1 C.2.1 dX10_actNumber_20 rfl (lv_at hl 2 rfl) ?_
      refine sh_Vi (As := [.ref (G.2.2.2.2 v3.toNatClampNeg), .int v1, .int v2]) (rest := []) C hw (kX10_isWord l v3 v1 v2) yy_X10_isWord yv_X10_isWord ml_X10_100 hf tbX_3 rfl rfl rfl rfl (Nat.le_of_ble_eq_true rfl) (by decide) hl.1 dX10_actNumber_21 (fun r2 S1 H locs hw hf => ?_)
      refine sh_if_eq (tgt := 29) C hf dX10_actNumber_24 (by decide) (fun hf => ?_) (fun hf => ?_)
      · obtain ⟨y3, ey3, hf⟩ := sh_nm hf
        refine lv_iinc (v := y3) (lv' := [(3, .int y3), (0, .ref (G.2.1 3)), (1, .int v1), (2, .int v2)]) C.1 C.2.1 dX10_actNumber_29 hl (k := 3) rfl (by rw [← ey3]; rfl) (by decide) rfl (fun ls hl => ?_)
        refine lv_goto (tgt := 2) C.1 C.2.1 dX10_actNumber_32 (by decide) ?_
        exact hr2 S1 v1 v2 y3 hf _ _ _ hw (lv_sub hl [1, 2, 3, 0] rfl)
      · refine lv_iload_n C.1 C.2.1 dX10_actNumber_27 rfl (lv_at hl 3 rfl) ?_
        exact sh_ri C hw hr hf dX10_actNumber_28
def fX10_actNumber (S : sh_St) (v1 : Int32) (v2 : Int32) : Option (Int32 × sh_St) :=
    fX10_actNumber_2 sh_FU S v1 v2 0
set_option maxRecDepth 100000 in
set_option maxHeartbeats 4000000 in
theorem kX10_actNumber (l : Launch) (v1 : Int32) (v2 : Int32) : sh_Mi l yX10_actNumber cX10_actNumber 4 .int 6 tbX (fun G => [.ref (G.2.1 3), .int v1, .int v2]) (fun S => fX10_actNumber S v1 v2) := by
  refine sh_mki (by decide) (fun G => Nat.le_of_ble_eq_true rfl) ?_
  intro p e s m args below meth c G A S res ls hf C hr hw hl
  have C : sh_Cx p s m args meth c cX10_actNumber 4 RX10 G A := C
  have hl : lv_has ls 4 [(0, .ref (G.2.1 3)), (1, .int v1), (2, .int v2)] := hl
  replace hf : fX10_actNumber S v1 v2 = some res := hf
  rw [fX10_actNumber] at hf
  refine lv_iconst (v := 0) C.1 C.2.1 dX10_actNumber_0 (by decide) ?_
  refine lv_istore_n (lv' := [(3, .int 0), (0, .ref (G.2.1 3)), (1, .int v1), (2, .int v2)]) C.1 C.2.1 dX10_actNumber_1 rfl hl (by decide) rfl (fun ls hl => ?_)
  exact wX10_actNumber_2 C hr _ S v1 v2 0 hf _ _ _ hw (lv_sub hl [1, 2, 3, 0] rfl)
def fX10_readAct_127 (S : sh_St) (t0 : Int32) : Option (Int32 × sh_St) :=
    sh_t (sh_I S 3 8 t0) fun S13 =>
    if (S13.1 3 3) = (-1) then (sh_b 1 (some (1, S13)))
    else (sh_b 0 (some (0, S13)))
set_option maxRecDepth 100000 in
set_option maxHeartbeats 4000000 in
theorem wX10_readAct_127 {p : Program} {l : Launch} {e : Env} {s : State} {m : MethodId} {args : Array Value} {below : List Frame} {meth : Method} {c : Code} {G : sh_Ev} {A : Nat → Prop} {res : Int32 × sh_St} (C : sh_Cx p s m args meth c cX10_readAct 2 RX10 G A) (hr : meth.sig.returnType = some .boolean) : ∀ (S : sh_St) (t0 : Int32), fX10_readAct_127 S t0 = some res → ∀ (H : Heap) (locs : List Loc) (ls : Array Slot), sh_Wx G tbX A s H locs S → lv_has ls 2 [(0, .ref (G.2.1 3))] → W p l e (sh_rm 7) s m args below meth c H locs 0 0 (sh_Qi below args s G tbX A res) (F0 m 127 ls [.int t0, .ref (G.2.1 3)]) := by
  intro S t0 hf H locs ls hw hl
  rw [fX10_readAct_127] at hf
  refine sh_puti C hw fl_X10_40 fp_8_8 hf tbX_3 rfl dX10_readAct_127 (fun S13 H locs hw hf => ?_)
  refine lv_aload_n C.1 C.2.1 dX10_readAct_130 rfl (lv_at hl 0 rfl) ?_
  refine sh_geti C hw fl_X10_18 tbX_3 rfl dX10_readAct_131 ?_
  refine lv_iconst (v := -1) C.1 C.2.1 dX10_readAct_134 (by decide) ?_
  refine sh_icmp_ne (tgt := 142) C hf dX10_readAct_135 (by decide) (fun hf => ?_) (fun hf => ?_)
  · refine lv_iconst (v := 0) C.1 C.2.1 dX10_readAct_142 (by decide) ?_
    exact sh_rz C hw hr hf dX10_readAct_143
  · refine lv_iconst (v := 1) C.1 C.2.1 dX10_readAct_138 (by decide) ?_
    refine lv_goto (tgt := 143) C.1 C.2.1 dX10_readAct_139 (by decide) ?_
    exact sh_rz C hw hr hf dX10_readAct_143
def fX10_readAct_91 (S : sh_St) (t0 : Int64) : Option (Int32 × sh_St) :=
    sh_t (sh_L S 3 7 t0) fun S10 =>
    sh_g (S10.1 3 5) 9 (sh_c (fX1_takesNumber S10 (S10.1 3 5)) fun r11 S12 =>
    if r11 = 0 then (fX10_readAct_127 S12 0)
    else (sh_g (S12.1 3 5) 9 (sh_g (S12.1 3 5) 9 (sh_c (fX10_readNumber S12 (([0, 0, 0, 1, 0, 0, 0, 0, 0] : List Int32).getD (S12.1 3 5).toNatClampNeg 0) (([999, -1, -1, 12, 65535, -1, -1, 39, -1] : List Int32).getD (S12.1 3 5).toNatClampNeg 0)) fun r15 S14 =>
    fX10_readAct_127 S14 r15))))
set_option maxRecDepth 100000 in
set_option maxHeartbeats 4000000 in
theorem wX10_readAct_91 {p : Program} {l : Launch} {e : Env} {s : State} {m : MethodId} {args : Array Value} {below : List Frame} {meth : Method} {c : Code} {G : sh_Ev} {A : Nat → Prop} {res : Int32 × sh_St} (C : sh_Cx p s m args meth c cX10_readAct 2 RX10 G A) (hr : meth.sig.returnType = some .boolean) : ∀ (S : sh_St) (t0 : Int64), fX10_readAct_91 S t0 = some res → ∀ (H : Heap) (locs : List Loc) (ls : Array Slot), sh_Wx G tbX A s H locs S → lv_has ls 2 [(0, .ref (G.2.1 3))] → W p l e (sh_rm 7) s m args below meth c H locs 0 0 (sh_Qi below args s G tbX A res) (F0 m 91 ls [.long t0, .ref (G.2.1 3)]) := by
  intro S t0 hf H locs ls hw hl
  rw [fX10_readAct_91] at hf
  refine sh_putl C hw fl_X10_37 fp_8_7 hf tbX_3 rfl dX10_readAct_91 (fun S10 H locs hw hf => ?_)
  refine lv_aload_n C.1 C.2.1 dX10_readAct_94 rfl (lv_at hl 0 rfl) ?_
  refine lv_aload_n C.1 C.2.1 dX10_readAct_95 rfl (lv_at hl 0 rfl) ?_
  refine sh_geta C hw fl_X10_30 tbX_3 rfl dX10_readAct_96 ?_
  refine sh_Ai C hw hf ml_X10_84 (Nat.le_of_ble_eq_true rfl) (by decide) hl.1 dX10_readAct_99 (fun r11 S12 H locs hw hf => ?_)
  refine sh_if_eq (tgt := 126) C hf dX10_readAct_102 (by decide) (fun hf => ?_) (fun hf => ?_)
  · refine lv_iconst (v := 0) C.1 C.2.1 dX10_readAct_126 (by decide) ?_
    exact wX10_readAct_127 C hr S12 0 hf _ _ _ hw (lv_sub hl [0] rfl)
  · refine lv_aload_n C.1 C.2.1 dX10_readAct_105 rfl (lv_at hl 0 rfl) ?_
    refine lv_aload_n C.1 C.2.1 dX10_readAct_106 rfl (lv_at hl 0 rfl) ?_
    refine sh_geta C hw fl_X10_30 tbX_3 rfl dX10_readAct_107 ?_
    refine sh_getF C hw ("SteadyShelf$Act", "least", "I", [0, 0, 0, 1, 0, 0, 0, 0, 0]) (by decide) hf al_X10_87 dX10_readAct_110 (fun hf => ?_)
    refine lv_aload_n C.1 C.2.1 dX10_readAct_113 rfl (lv_at hl 0 rfl) ?_
    refine sh_geta C hw fl_X10_30 tbX_3 rfl dX10_readAct_114 ?_
    refine sh_getF C hw ("SteadyShelf$Act", "most", "I", [999, -1, -1, 12, 65535, -1, -1, 39, -1]) (by decide) hf al_X10_90 dX10_readAct_117 (fun hf => ?_)
    refine sh_Vi (As := [.int (([0, 0, 0, 1, 0, 0, 0, 0, 0] : List Int32).getD (S12.1 3 5).toNatClampNeg 0), .int (([999, -1, -1, 12, 65535, -1, -1, 39, -1] : List Int32).getD (S12.1 3 5).toNatClampNeg 0)]) (rest := [.ref (G.2.1 3)]) C hw (kX10_readNumber l (([0, 0, 0, 1, 0, 0, 0, 0, 0] : List Int32).getD (S12.1 3 5).toNatClampNeg 0) (([999, -1, -1, 12, 65535, -1, -1, 39, -1] : List Int32).getD (S12.1 3 5).toNatClampNeg 0)) yy_X10_readNumber yv_X10_readNumber ml_X10_93 hf tbX_3 rfl rfl rfl rfl (Nat.le_of_ble_eq_true rfl) (by decide) hl.1 dX10_readAct_120 (fun r15 S14 H locs hw hf => ?_)
    refine lv_goto (tgt := 127) C.1 C.2.1 dX10_readAct_123 (by decide) ?_
    exact wX10_readAct_127 C hr S14 r15 hf _ _ _ hw (lv_sub hl [0] rfl)
def fX10_readAct_68 (S : sh_St) (t0 : Int64) : Option (Int32 × sh_St) :=
    sh_t (sh_L S 3 6 t0) fun S9 =>
    sh_g (S9.1 3 5) 9 (if (([1, 1, 2, 0, 0, 0, 0, 0, 0] : List Int32).getD (S9.1 3 5).toNatClampNeg 0) ≤ 1 then (fX10_readAct_91 S9 0)
    else (sh_c (fX10_readName S9 ) fun r17 S16 =>
    fX10_readAct_91 S16 r17))
set_option maxRecDepth 100000 in
set_option maxHeartbeats 4000000 in
theorem wX10_readAct_68 {p : Program} {l : Launch} {e : Env} {s : State} {m : MethodId} {args : Array Value} {below : List Frame} {meth : Method} {c : Code} {G : sh_Ev} {A : Nat → Prop} {res : Int32 × sh_St} (C : sh_Cx p s m args meth c cX10_readAct 2 RX10 G A) (hr : meth.sig.returnType = some .boolean) : ∀ (S : sh_St) (t0 : Int64), fX10_readAct_68 S t0 = some res → ∀ (H : Heap) (locs : List Loc) (ls : Array Slot), sh_Wx G tbX A s H locs S → lv_has ls 2 [(0, .ref (G.2.1 3))] → W p l e (sh_rm 7) s m args below meth c H locs 0 0 (sh_Qi below args s G tbX A res) (F0 m 68 ls [.long t0, .ref (G.2.1 3)]) := by
  intro S t0 hf H locs ls hw hl
  rw [fX10_readAct_68] at hf
  refine sh_putl C hw fl_X10_33 fp_8_6 hf tbX_3 rfl dX10_readAct_68 (fun S9 H locs hw hf => ?_)
  refine lv_aload_n C.1 C.2.1 dX10_readAct_71 rfl (lv_at hl 0 rfl) ?_
  refine lv_aload_n C.1 C.2.1 dX10_readAct_72 rfl (lv_at hl 0 rfl) ?_
  refine sh_geta C hw fl_X10_30 tbX_3 rfl dX10_readAct_73 ?_
  refine sh_getF C hw ("SteadyShelf$Act", "nameCount", "I", [1, 1, 2, 0, 0, 0, 0, 0, 0]) (by decide) hf al_X10_77 dX10_readAct_76 (fun hf => ?_)
  refine lv_iconst (v := 1) C.1 C.2.1 dX10_readAct_79 (by decide) ?_
  refine sh_icmp_le (tgt := 90) C hf dX10_readAct_80 (by decide) (fun hf => ?_) (fun hf => ?_)
  · refine lv_lconst (v := 0) C.1 C.2.1 dX10_readAct_90 (by decide) ?_
    exact wX10_readAct_91 C hr S9 0 hf _ _ _ hw (lv_sub hl [0] rfl)
  · refine lv_aload_n C.1 C.2.1 dX10_readAct_83 rfl (lv_at hl 0 rfl) ?_
    refine sh_Vl (As := []) (rest := [.ref (G.2.1 3)]) C hw (kX10_readName l ) yy_X10_readName yv_X10_readName ml_X10_80 hf tbX_3 rfl rfl rfl rfl (Nat.le_of_ble_eq_true rfl) (by decide) hl.1 dX10_readAct_84 (fun r17 S16 H locs hw hf => ?_)
    refine lv_goto (tgt := 91) C.1 C.2.1 dX10_readAct_87 (by decide) ?_
    exact wX10_readAct_91 C hr S16 r17 hf _ _ _ hw (lv_sub hl [0] rfl)
def fX10_readAct (S : sh_St) : Option (Int32 × sh_St) :=
    sh_c (fX10_skipBlanks S ) fun _ S1 =>
    sh_t (sh_I S1 3 4 (S1.1 3 2)) fun S3 =>
    sh_c (fX10_passLetters S3 ) fun r5 S4 =>
    sh_c (fX10_actNumber S4 (S3.1 3 4) r5) fun r7 S6 =>
    if r7 = (-1) then (sh_c (fX10_markWrong S6 (S6.1 3 4)) fun _ S20 =>
    sh_b 0 (some (0, S20)))
    else (sh_g r7 9 (sh_t (sh_I S6 3 5 r7) fun S8 =>
    sh_g (S8.1 3 5) 9 (if (([1, 1, 2, 0, 0, 0, 0, 0, 0] : List Int32).getD (S8.1 3 5).toNatClampNeg 0) ≤ 0 then (fX10_readAct_68 S8 0)
    else (sh_c (fX10_readName S8 ) fun r19 S18 =>
    fX10_readAct_68 S18 r19))))
set_option maxRecDepth 100000 in
set_option maxHeartbeats 4000000 in
theorem kX10_readAct (l : Launch) : sh_Mi l yX10_readAct cX10_readAct 2 .boolean 7 tbX (fun G => [.ref (G.2.1 3)]) (fun S => fX10_readAct S) := by
  refine sh_mki (by decide) (fun G => Nat.le_of_ble_eq_true rfl) ?_
  intro p e s m args below meth c G A S res ls hf C hr hw hl
  have C : sh_Cx p s m args meth c cX10_readAct 2 RX10 G A := C
  have hl : lv_has ls 2 [(0, .ref (G.2.1 3))] := hl
  replace hf : fX10_readAct S = some res := hf
  rw [fX10_readAct] at hf
  refine lv_aload_n C.1 C.2.1 dX10_readAct_0 rfl (lv_at hl 0 rfl) ?_
  refine sh_Vv (As := []) (rest := []) C hw (kX10_skipBlanks l ) yy_X10_skipBlanks yv_X10_skipBlanks ml_X10_51 hf tbX_3 rfl rfl rfl rfl (Nat.le_of_ble_eq_true rfl) (by decide) hl.1 dX10_readAct_1 (fun S1 H locs hw hf => ?_)
  refine lv_aload_n C.1 C.2.1 dX10_readAct_4 rfl (lv_at hl 0 rfl) ?_
  refine lv_aload_n C.1 C.2.1 dX10_readAct_5 rfl (lv_at hl 0 rfl) ?_
  refine sh_geti C hw fl_X10_15 tbX_3 rfl dX10_readAct_6 ?_
  refine sh_puti C hw fl_X10_21 fp_8_4 hf tbX_3 rfl dX10_readAct_9 (fun S3 H locs hw hf => ?_)
  refine lv_aload_n C.1 C.2.1 dX10_readAct_12 rfl (lv_at hl 0 rfl) ?_
  refine lv_aload_n C.1 C.2.1 dX10_readAct_13 rfl (lv_at hl 0 rfl) ?_
  refine sh_geti C hw fl_X10_21 tbX_3 rfl dX10_readAct_14 ?_
  refine lv_aload_n C.1 C.2.1 dX10_readAct_17 rfl (lv_at hl 0 rfl) ?_
  refine sh_Vi (As := []) (rest := [.int (S3.1 3 4), .ref (G.2.1 3)]) C hw (kX10_passLetters l ) yy_X10_passLetters yv_X10_passLetters ml_X10_62 hf tbX_3 rfl rfl rfl rfl (Nat.le_of_ble_eq_true rfl) (by decide) hl.1 dX10_readAct_18 (fun r5 S4 H locs hw hf => ?_)
  refine sh_Vi (As := [.int (S3.1 3 4), .int r5]) (rest := []) C hw (kX10_actNumber l (S3.1 3 4) r5) yy_X10_actNumber yv_X10_actNumber ml_X10_69 hf tbX_3 rfl rfl rfl rfl (Nat.le_of_ble_eq_true rfl) (by decide) hl.1 dX10_readAct_21 (fun r7 S6 H locs hw hf => ?_)
  refine lv_istore_n (lv' := [(1, .int r7), (0, .ref (G.2.1 3))]) C.1 C.2.1 dX10_readAct_24 rfl hl (by decide) rfl (fun ls hl => ?_)
  refine lv_iload_n C.1 C.2.1 dX10_readAct_25 rfl (lv_at hl 0 rfl) ?_
  refine lv_iconst (v := -1) C.1 C.2.1 dX10_readAct_26 (by decide) ?_
  refine sh_icmp_ne (tgt := 40) C hf dX10_readAct_27 (by decide) (fun hf => ?_) (fun hf => ?_)
  · refine lv_aload_n C.1 C.2.1 dX10_readAct_40 rfl (lv_at hl 1 rfl) ?_
    refine sh_aaG C hw dX10_readAct_41 ?_
    refine lv_iload_n C.1 C.2.1 dX10_readAct_44 rfl (lv_at hl 0 rfl) ?_
    refine sh_aaA C hw hf dX10_readAct_45 (fun hf => ?_)
    refine sh_puta C hw fl_X10_30 fp_8_5 hf tbX_3 rfl dX10_readAct_46 (fun S8 H locs hw hf => ?_)
    refine lv_aload_n C.1 C.2.1 dX10_readAct_49 rfl (lv_at hl 1 rfl) ?_
    refine lv_aload_n C.1 C.2.1 dX10_readAct_50 rfl (lv_at hl 1 rfl) ?_
    refine sh_geta C hw fl_X10_30 tbX_3 rfl dX10_readAct_51 ?_
    refine sh_getF C hw ("SteadyShelf$Act", "nameCount", "I", [1, 1, 2, 0, 0, 0, 0, 0, 0]) (by decide) hf al_X10_77 dX10_readAct_54 (fun hf => ?_)
    refine sh_if_le (tgt := 67) C hf dX10_readAct_57 (by decide) (fun hf => ?_) (fun hf => ?_)
    · refine lv_lconst (v := 0) C.1 C.2.1 dX10_readAct_67 (by decide) ?_
      exact wX10_readAct_68 C hr S8 0 hf _ _ _ hw (lv_sub hl [1] rfl)
    · refine lv_aload_n C.1 C.2.1 dX10_readAct_60 rfl (lv_at hl 1 rfl) ?_
      refine sh_Vl (As := []) (rest := [.ref (G.2.1 3)]) C hw (kX10_readName l ) yy_X10_readName yv_X10_readName ml_X10_80 hf tbX_3 rfl rfl rfl rfl (Nat.le_of_ble_eq_true rfl) (by decide) hl.1 dX10_readAct_61 (fun r19 S18 H locs hw hf => ?_)
      refine lv_goto (tgt := 68) C.1 C.2.1 dX10_readAct_64 (by decide) ?_
      exact wX10_readAct_68 C hr S18 r19 hf _ _ _ hw (lv_sub hl [1] rfl)
  · refine lv_aload_n C.1 C.2.1 dX10_readAct_30 rfl (lv_at hl 1 rfl) ?_
    refine lv_aload_n C.1 C.2.1 dX10_readAct_31 rfl (lv_at hl 1 rfl) ?_
    refine sh_geti C hw fl_X10_21 tbX_3 rfl dX10_readAct_32 ?_
    refine sh_Vv (As := [.int (S6.1 3 4)]) (rest := []) C hw (kX10_markWrong l (S6.1 3 4)) yy_X10_markWrong yv_X10_markWrong ml_X10_58 hf tbX_3 rfl rfl rfl rfl (Nat.le_of_ble_eq_true rfl) (by decide) hl.1 dX10_readAct_35 (fun S20 H locs hw hf => ?_)
    refine lv_iconst (v := 0) C.1 C.2.1 dX10_readAct_38 (by decide) ?_
    exact sh_rz C hw hr hf dX10_readAct_39
def fX12_doText_153 (rk16 : sh_St → Int32 → Int32 → Option (Int32 × sh_St)) (S : sh_St) (v2 : Int32) (t0 : Int32) : Option (Int32 × sh_St) :=
    sh_c (fX10_passSemicolon S ) fun r14 S13 =>
    if r14 = 0 then (sh_c (fX12_endText S13 t0 v2) fun r17 S16 =>
    some (r17, S16))
    else (sh_t (v2 + 1) fun y15 =>
    rk16 S13 t0 y15)
set_option maxRecDepth 100000 in
set_option maxHeartbeats 4000000 in
theorem wX12_doText_153 {p : Program} {l : Launch} {e : Env} {s : State} {m : MethodId} {args : Array Value} {below : List Frame} {meth : Method} {c : Code} {G : sh_Ev} {A : Nat → Prop} {res : Int32 × sh_St} (C : sh_Cx p s m args meth c cX12_doText 4 RX12 G A) (hr : meth.sig.returnType = some .int) (rk16 : sh_St → Int32 → Int32 → Option (Int32 × sh_St)) (hr16 : ∀ (S : sh_St) (v1 : Int32) (v2 : Int32), rk16 S v1 v2 = some res → ∀ (H : Heap) (locs : List Loc) (ls : Array Slot), sh_Wx G tbX A s H locs S → lv_has ls 4 [(0, .ref (G.2.1 0)), (1, .int v1), (2, .int v2)] → W p l e (sh_rm 8) s m args below meth c H locs 0 0 (sh_Qi below args s G tbX A res) (F0 m 16 ls [])) : ∀ (S : sh_St) (v2 : Int32) (t0 : Int32), fX12_doText_153 rk16 S v2 t0 = some res → ∀ (H : Heap) (locs : List Loc) (ls : Array Slot), sh_Wx G tbX A s H locs S → lv_has ls 4 [(0, .ref (G.2.1 0)), (2, .int v2)] → W p l e (sh_rm 8) s m args below meth c H locs 0 0 (sh_Qi below args s G tbX A res) (F0 m 153 ls [.int t0]) := by
  intro S v2 t0 hf H locs ls hw hl
  rw [fX12_doText_153] at hf
  refine lv_istore_n (lv' := [(1, .int t0), (0, .ref (G.2.1 0)), (2, .int v2)]) C.1 C.2.1 dX12_doText_153 rfl hl (by decide) rfl (fun ls hl => ?_)
  refine lv_aload_n C.1 C.2.1 dX12_doText_154 rfl (lv_at hl 1 rfl) ?_
  refine sh_getr C hw fl_X12_21 tbX_0 rfl dX12_doText_155 ?_
  refine sh_Vi (As := []) (rest := []) C hw (kX10_passSemicolon l ) yy_X10_passSemicolon yv_X10_passSemicolon ml_X12_403 hf tbX_3 rfl rfl rfl rfl (Nat.le_of_ble_eq_true rfl) (by decide) hl.1 dX12_doText_158 (fun r14 S13 H locs hw hf => ?_)
  refine sh_if_ne (tgt := 171) C hf dX12_doText_161 (by decide) (fun hf => ?_) (fun hf => ?_)
  · obtain ⟨y15, ey15, hf⟩ := sh_nm hf
    refine lv_iinc (v := y15) (lv' := [(2, .int y15), (1, .int t0), (0, .ref (G.2.1 0))]) C.1 C.2.1 dX12_doText_171 hl (k := 2) rfl (by rw [← ey15]; rfl) (by decide) rfl (fun ls hl => ?_)
    refine lv_goto (tgt := 16) C.1 C.2.1 dX12_doText_174 (by decide) ?_
    exact hr16 S13 t0 y15 hf _ _ _ hw (lv_sub hl [2, 1, 0] rfl)
  · refine lv_aload_n C.1 C.2.1 dX12_doText_164 rfl (lv_at hl 1 rfl) ?_
    refine lv_iload_n C.1 C.2.1 dX12_doText_165 rfl (lv_at hl 0 rfl) ?_
    refine lv_iload_n C.1 C.2.1 dX12_doText_166 rfl (lv_at hl 2 rfl) ?_
    refine sh_Vi (As := [.int t0, .int v2]) (rest := []) C hw (kX12_endText l t0 v2) yy_X12_endText yv_X12_endText ml_X12_406 hf tbX_0 rfl rfl rfl rfl (Nat.le_of_ble_eq_true rfl) (by decide) hl.1 dX12_doText_167 (fun r17 S16 H locs hw hf => ?_)
    exact sh_ri C hw hr hf dX12_doText_170
def fX12_doText_148 (rk16 : sh_St → Int32 → Int32 → Option (Int32 × sh_St)) (S : sh_St) (v2 : Int32) : Option (Int32 × sh_St) :=
    fX12_doText_153 rk16 S v2 1
set_option maxRecDepth 100000 in
set_option maxHeartbeats 4000000 in
theorem wX12_doText_148 {p : Program} {l : Launch} {e : Env} {s : State} {m : MethodId} {args : Array Value} {below : List Frame} {meth : Method} {c : Code} {G : sh_Ev} {A : Nat → Prop} {res : Int32 × sh_St} (C : sh_Cx p s m args meth c cX12_doText 4 RX12 G A) (hr : meth.sig.returnType = some .int) (rk16 : sh_St → Int32 → Int32 → Option (Int32 × sh_St)) (hr16 : ∀ (S : sh_St) (v1 : Int32) (v2 : Int32), rk16 S v1 v2 = some res → ∀ (H : Heap) (locs : List Loc) (ls : Array Slot), sh_Wx G tbX A s H locs S → lv_has ls 4 [(0, .ref (G.2.1 0)), (1, .int v1), (2, .int v2)] → W p l e (sh_rm 8) s m args below meth c H locs 0 0 (sh_Qi below args s G tbX A res) (F0 m 16 ls [])) : ∀ (S : sh_St) (v2 : Int32), fX12_doText_148 rk16 S v2 = some res → ∀ (H : Heap) (locs : List Loc) (ls : Array Slot), sh_Wx G tbX A s H locs S → lv_has ls 4 [(0, .ref (G.2.1 0)), (2, .int v2)] → W p l e (sh_rm 8) s m args below meth c H locs 0 0 (sh_Qi below args s G tbX A res) (F0 m 148 ls []) := by
  intro S v2 hf H locs ls hw hl
  rw [fX12_doText_148] at hf
  refine lv_iconst (v := 1) C.1 C.2.1 dX12_doText_148 (by decide) ?_
  refine lv_goto (tgt := 153) C.1 C.2.1 dX12_doText_149 (by decide) ?_
  exact wX12_doText_153 C hr rk16 hr16 S v2 1 hf _ _ _ hw (lv_sub hl [0, 1] rfl)
def fX12_doText_16 : Nat → sh_St → Int32 → Int32 → Option (Int32 × sh_St)
  | 0, _, _, _ => none
  | n + 1, S, v1, v2 =>
    if 14 < v2 then (sh_c (fX10_skipBlanks S ) fun _ S3 =>
    sh_c (fX10_markWrong S3 (S3.1 3 2)) fun _ S5 =>
    some ((-1), S5))
    else (sh_c (fX10_readAct S ) fun r8 S7 =>
    if r8 = 0 then (some ((-1), S7))
    else (sh_c (fX4_refusalOf S7 (S7.1 3 5) (S7.2 3 6) (S7.2 3 7) (S7.1 3 8)) fun r10 S9 =>
    if r10 = 0 then (sh_c (fX4_carryOut S9 (S9.1 3 5) (S9.2 3 6) (S9.2 3 7) (S9.1 3 8)) fun r12 S11 =>
    if v1 = 0 then (sh_g (S11.1 3 5) 9 (if (([0, 0, 0, 1, 1, 1, 1, 0, 0] : List Int32).getD (S11.1 3 5).toNatClampNeg 0) = 0 then (fX12_doText_153 (fX12_doText_16 n) S11 v2 0)
    else (fX12_doText_148 (fX12_doText_16 n) S11 v2)))
    else (fX12_doText_148 (fX12_doText_16 n) S11 v2))
    else (sh_t (sh_I S9 0 10 r10) fun S18 =>
    sh_c (fX10_markWrong S18 (S18.1 3 4)) fun _ S19 =>
    some ((-1), S19))))
set_option maxRecDepth 100000 in
set_option maxHeartbeats 4000000 in
theorem wX12_doText_16 {p : Program} {l : Launch} {e : Env} {s : State} {m : MethodId} {args : Array Value} {below : List Frame} {meth : Method} {c : Code} {G : sh_Ev} {A : Nat → Prop} {res : Int32 × sh_St} (C : sh_Cx p s m args meth c cX12_doText 4 RX12 G A) (hr : meth.sig.returnType = some .int) : ∀ (n : Nat) (S : sh_St) (v1 : Int32) (v2 : Int32), fX12_doText_16 n S v1 v2 = some res → ∀ (H : Heap) (locs : List Loc) (ls : Array Slot), sh_Wx G tbX A s H locs S → lv_has ls 4 [(0, .ref (G.2.1 0)), (1, .int v1), (2, .int v2)] → W p l e (sh_rm 8) s m args below meth c H locs 0 0 (sh_Qi below args s G tbX A res) (F0 m 16 ls []) := by
  intro n
  induction n with
  | zero => intro S v1 v2 hf; exact nomatch (show (none : Option (Int32 × sh_St)) = some res from hf)
  | succ n ih =>
    intro S v1 v2 hf H locs ls hw hl
    have hr16 := ih
    rw [fX12_doText_16] at hf
    refine lv_iload_n C.1 C.2.1 dX12_doText_16 rfl (lv_at hl 2 rfl) ?_
    refine lv_bipush (v := 14) C.1 C.2.1 dX12_doText_17 (by decide) ?_
    refine sh_icmp_gt (tgt := 177) C hf dX12_doText_19 (by decide) (fun hf => ?_) (fun hf => ?_)
    · refine lv_aload_n C.1 C.2.1 dX12_doText_177 rfl (lv_at hl 0 rfl) ?_
      refine sh_getr C hw fl_X12_21 tbX_0 rfl dX12_doText_178 ?_
      refine sh_Vv (As := []) (rest := []) C hw (kX10_skipBlanks l ) yy_X10_skipBlanks yv_X10_skipBlanks ml_X12_410 hf tbX_3 rfl rfl rfl rfl (Nat.le_of_ble_eq_true rfl) (by decide) hl.1 dX12_doText_181 (fun S3 H locs hw hf => ?_)
      refine lv_aload_n C.1 C.2.1 dX12_doText_184 rfl (lv_at hl 0 rfl) ?_
      refine sh_getr C hw fl_X12_21 tbX_0 rfl dX12_doText_185 ?_
      refine lv_aload_n C.1 C.2.1 dX12_doText_188 rfl (lv_at hl 0 rfl) ?_
      refine sh_getr C hw fl_X12_21 tbX_0 rfl dX12_doText_189 ?_
      refine sh_geti C hw fl_X12_413 tbX_3 rfl dX12_doText_192 ?_
      refine sh_Vv (As := [.int (S3.1 3 2)]) (rest := []) C hw (kX10_markWrong l (S3.1 3 2)) yy_X10_markWrong yv_X10_markWrong ml_X12_400 hf tbX_3 rfl rfl rfl rfl (Nat.le_of_ble_eq_true rfl) (by decide) hl.1 dX12_doText_195 (fun S5 H locs hw hf => ?_)
      refine lv_iconst (v := -1) C.1 C.2.1 dX12_doText_198 (by decide) ?_
      exact sh_ri C hw hr hf dX12_doText_199
    · refine lv_aload_n C.1 C.2.1 dX12_doText_22 rfl (lv_at hl 0 rfl) ?_
      refine sh_getr C hw fl_X12_21 tbX_0 rfl dX12_doText_23 ?_
      refine sh_Vi (As := []) (rest := []) C hw (kX10_readAct l ) yy_X10_readAct yv_X10_readAct ml_X12_381 hf tbX_3 rfl rfl rfl rfl (Nat.le_of_ble_eq_true rfl) (by decide) hl.1 dX12_doText_26 (fun r8 S7 H locs hw hf => ?_)
      refine sh_if_ne (tgt := 34) C hf dX12_doText_29 (by decide) (fun hf => ?_) (fun hf => ?_)
      · refine lv_aload_n C.1 C.2.1 dX12_doText_34 rfl (lv_at hl 0 rfl) ?_
        refine sh_getr C hw fl_X12_50 tbX_0 rfl dX12_doText_35 ?_
        refine lv_aload_n C.1 C.2.1 dX12_doText_38 rfl (lv_at hl 0 rfl) ?_
        refine sh_getr C hw fl_X12_21 tbX_0 rfl dX12_doText_39 ?_
        refine sh_geta C hw fl_X12_384 tbX_3 rfl dX12_doText_42 ?_
        refine lv_aload_n C.1 C.2.1 dX12_doText_45 rfl (lv_at hl 0 rfl) ?_
        refine sh_getr C hw fl_X12_21 tbX_0 rfl dX12_doText_46 ?_
        refine sh_getl C hw fl_X12_387 tbX_3 rfl dX12_doText_49 ?_
        refine lv_aload_n C.1 C.2.1 dX12_doText_52 rfl (lv_at hl 0 rfl) ?_
        refine sh_getr C hw fl_X12_21 tbX_0 rfl dX12_doText_53 ?_
        refine sh_getl C hw fl_X12_391 tbX_3 rfl dX12_doText_56 ?_
        refine lv_aload_n C.1 C.2.1 dX12_doText_59 rfl (lv_at hl 0 rfl) ?_
        refine sh_getr C hw fl_X12_21 tbX_0 rfl dX12_doText_60 ?_
        refine sh_geti C hw fl_X12_394 tbX_3 rfl dX12_doText_63 ?_
        refine sh_Vi (As := [.ref (G.2.2.1 (S7.1 3 5).toNatClampNeg), .long (S7.2 3 6), .long (S7.2 3 7), .int (S7.1 3 8)]) (rest := []) C hw (kX4_refusalOf l (S7.1 3 5) (S7.2 3 6) (S7.2 3 7) (S7.1 3 8)) yy_X4_refusalOf yv_X4_refusalOf ml_X12_364 hf tbX_116 rfl rfl rfl rfl (Nat.le_of_ble_eq_true rfl) (by decide) hl.1 dX12_doText_66 (fun r10 S9 H locs hw hf => ?_)
        refine lv_istore_n (lv' := [(3, .int r10), (0, .ref (G.2.1 0)), (1, .int v1), (2, .int v2)]) C.1 C.2.1 dX12_doText_69 rfl hl (by decide) rfl (fun ls hl => ?_)
        refine lv_iload_n C.1 C.2.1 dX12_doText_70 rfl (lv_at hl 0 rfl) ?_
        refine sh_if_eq (tgt := 95) C hf dX12_doText_71 (by decide) (fun hf => ?_) (fun hf => ?_)
        · refine lv_aload_n C.1 C.2.1 dX12_doText_95 rfl (lv_at hl 1 rfl) ?_
          refine sh_getr C hw fl_X12_50 tbX_0 rfl dX12_doText_96 ?_
          refine lv_aload_n C.1 C.2.1 dX12_doText_99 rfl (lv_at hl 1 rfl) ?_
          refine sh_getr C hw fl_X12_21 tbX_0 rfl dX12_doText_100 ?_
          refine sh_geta C hw fl_X12_384 tbX_3 rfl dX12_doText_103 ?_
          refine lv_aload_n C.1 C.2.1 dX12_doText_106 rfl (lv_at hl 1 rfl) ?_
          refine sh_getr C hw fl_X12_21 tbX_0 rfl dX12_doText_107 ?_
          refine sh_getl C hw fl_X12_387 tbX_3 rfl dX12_doText_110 ?_
          refine lv_aload_n C.1 C.2.1 dX12_doText_113 rfl (lv_at hl 1 rfl) ?_
          refine sh_getr C hw fl_X12_21 tbX_0 rfl dX12_doText_114 ?_
          refine sh_getl C hw fl_X12_391 tbX_3 rfl dX12_doText_117 ?_
          refine lv_aload_n C.1 C.2.1 dX12_doText_120 rfl (lv_at hl 1 rfl) ?_
          refine sh_getr C hw fl_X12_21 tbX_0 rfl dX12_doText_121 ?_
          refine sh_geti C hw fl_X12_394 tbX_3 rfl dX12_doText_124 ?_
          refine sh_Vi (As := [.ref (G.2.2.1 (S9.1 3 5).toNatClampNeg), .long (S9.2 3 6), .long (S9.2 3 7), .int (S9.1 3 8)]) (rest := []) C hw (kX4_carryOut l (S9.1 3 5) (S9.2 3 6) (S9.2 3 7) (S9.1 3 8)) yy_X4_carryOut yv_X4_carryOut ml_X12_372 hf tbX_116 rfl rfl rfl rfl (Nat.le_of_ble_eq_true rfl) (by decide) hl.1 dX12_doText_127 (fun r12 S11 H locs hw hf => ?_)
          refine lv_pop C.1 C.2.1 dX12_doText_130 rfl ?_
          refine lv_iload_n C.1 C.2.1 dX12_doText_131 rfl (lv_at hl 2 rfl) ?_
          refine sh_if_ne (tgt := 148) C hf dX12_doText_132 (by decide) (fun hf => ?_) (fun hf => ?_)
          · exact wX12_doText_148 C hr (fX12_doText_16 n) hr16 S11 v2 hf _ _ _ hw (lv_sub hl [1, 3] rfl)
          · refine lv_aload_n C.1 C.2.1 dX12_doText_135 rfl (lv_at hl 1 rfl) ?_
            refine sh_getr C hw fl_X12_21 tbX_0 rfl dX12_doText_136 ?_
            refine sh_geta C hw fl_X12_384 tbX_3 rfl dX12_doText_139 ?_
            refine sh_getF C hw ("SteadyShelf$Act", "tunes", "Z", [0, 0, 0, 1, 1, 1, 1, 0, 0]) (by decide) hf al_X12_375 dX12_doText_142 (fun hf => ?_)
            refine sh_if_eq (tgt := 152) C hf dX12_doText_145 (by decide) (fun hf => ?_) (fun hf => ?_)
            · refine lv_iconst (v := 0) C.1 C.2.1 dX12_doText_152 (by decide) ?_
              exact wX12_doText_153 C hr (fX12_doText_16 n) hr16 S11 v2 0 hf _ _ _ hw (lv_sub hl [1, 3] rfl)
            · exact wX12_doText_148 C hr (fX12_doText_16 n) hr16 S11 v2 hf _ _ _ hw (lv_sub hl [1, 3] rfl)
        · refine lv_aload_n C.1 C.2.1 dX12_doText_74 rfl (lv_at hl 1 rfl) ?_
          refine lv_iload_n C.1 C.2.1 dX12_doText_75 rfl (lv_at hl 0 rfl) ?_
          refine sh_puti C hw fl_X12_73 fp_10_10 hf tbX_0 rfl dX12_doText_76 (fun S18 H locs hw hf => ?_)
          refine lv_aload_n C.1 C.2.1 dX12_doText_79 rfl (lv_at hl 1 rfl) ?_
          refine sh_getr C hw fl_X12_21 tbX_0 rfl dX12_doText_80 ?_
          refine lv_aload_n C.1 C.2.1 dX12_doText_83 rfl (lv_at hl 1 rfl) ?_
          refine sh_getr C hw fl_X12_21 tbX_0 rfl dX12_doText_84 ?_
          refine sh_geti C hw fl_X12_397 tbX_3 rfl dX12_doText_87 ?_
          refine sh_Vv (As := [.int (S18.1 3 4)]) (rest := []) C hw (kX10_markWrong l (S18.1 3 4)) yy_X10_markWrong yv_X10_markWrong ml_X12_400 hf tbX_3 rfl rfl rfl rfl (Nat.le_of_ble_eq_true rfl) (by decide) hl.1 dX12_doText_90 (fun S19 H locs hw hf => ?_)
          refine lv_iconst (v := -1) C.1 C.2.1 dX12_doText_93 (by decide) ?_
          exact sh_ri C hw hr hf dX12_doText_94
      · refine lv_iconst (v := -1) C.1 C.2.1 dX12_doText_32 (by decide) ?_
        exact sh_ri C hw hr hf dX12_doText_33
def fX12_doText (S : sh_St) : Option (Int32 × sh_St) :=
    sh_c (fX10_isOver S ) fun r2 S1 =>
    if r2 = 0 then (fX12_doText_16 sh_FU S1 0 1)
    else (some (0, S1))
set_option maxRecDepth 100000 in
set_option maxHeartbeats 4000000 in
theorem kX12_doText (l : Launch) : sh_Mi l yX12_doText cX12_doText 4 .int 8 tbX (fun G => [.ref (G.2.1 0)]) (fun S => fX12_doText S) := by
  refine sh_mki (by decide) (fun G => Nat.le_of_ble_eq_true rfl) ?_
  intro p e s m args below meth c G A S res ls hf C hr hw hl
  have C : sh_Cx p s m args meth c cX12_doText 4 RX12 G A := C
  have hl : lv_has ls 4 [(0, .ref (G.2.1 0))] := hl
  replace hf : fX12_doText S = some res := hf
  rw [fX12_doText] at hf
  refine lv_aload_n C.1 C.2.1 dX12_doText_0 rfl (lv_at hl 0 rfl) ?_
  refine sh_getr C hw fl_X12_21 tbX_0 rfl dX12_doText_1 ?_
  refine sh_Vi (As := []) (rest := []) C hw (kX10_isOver l ) yy_X10_isOver yv_X10_isOver ml_X12_378 hf tbX_3 rfl rfl rfl rfl (Nat.le_of_ble_eq_true rfl) (by decide) hl.1 dX12_doText_4 (fun r2 S1 H locs hw hf => ?_)
  refine sh_if_eq (tgt := 12) C hf dX12_doText_7 (by decide) (fun hf => ?_) (fun hf => ?_)
  · refine lv_iconst (v := 0) C.1 C.2.1 dX12_doText_12 (by decide) ?_
    refine lv_istore_n (lv' := [(1, .int 0), (0, .ref (G.2.1 0))]) C.1 C.2.1 dX12_doText_13 rfl hl (by decide) rfl (fun ls hl => ?_)
    refine lv_iconst (v := 1) C.1 C.2.1 dX12_doText_14 (by decide) ?_
    refine lv_istore_n (lv' := [(2, .int 1), (1, .int 0), (0, .ref (G.2.1 0))]) C.1 C.2.1 dX12_doText_15 rfl hl (by decide) rfl (fun ls hl => ?_)
    exact wX12_doText_16 C hr _ S1 0 1 hf _ _ _ hw (lv_sub hl [2, 1, 0] rfl)
  · refine lv_iconst (v := 0) C.1 C.2.1 dX12_doText_10 (by decide) ?_
    exact sh_ri C hw hr hf dX12_doText_11
def fX12_acts_65 (S : sh_St) (v1 : Int32) : Option ((Int32 ⊕ String) × sh_St) :=
    sh_c (fX3_forget S ) fun _ S9 =>
    some (.inl v1, S9)
set_option maxRecDepth 100000 in
set_option maxHeartbeats 4000000 in
theorem wX12_acts_65 {p : Program} {l : Launch} {e : Env} {s : State} {m : MethodId} {args : Array Value} {below : List Frame} {meth : Method} {c : Code} {G : sh_Ev} {A : Nat → Prop} {res : (Int32 ⊕ String) × sh_St} (hst : l.stackTraces = false) (hno : ∀ x ∈ c.exceptionTable.toList, False) (C : sh_Cx p s m args meth c cX12_acts 2 RX12 G A) (hr : meth.sig.returnType = some .int) : ∀ (S : sh_St) (v1 : Int32), fX12_acts_65 S v1 = some res → ∀ (H : Heap) (locs : List Loc) (ls : Array Slot), sh_Wx G tbX A s H locs S → lv_has ls 2 [(0, .ref (G.2.1 0)), (1, .int v1)] → W p l e (sh_rx 10 1 6) s m args below meth c H locs 0 0 (sh_Qti below args s G tbX A 1 6 res) (F0 m 65 ls []) := by
  intro S v1 hf H locs ls hw hl
  rw [fX12_acts_65] at hf
  refine lv_aload_n C.1 C.2.1 dX12_acts_65 rfl (lv_at hl 0 rfl) ?_
  refine sh_getr C hw fl_X12_41 tbX_0 rfl dX12_acts_66 ?_
  refine sh_xVv (As := []) (rest := []) C hw (kX3_forget l ) yy_X3_forget yv_X3_forget ml_X12_105 hf tbX_34 rfl rfl rfl rfl (Nat.le_of_ble_eq_true rfl) (by decide) (by decide) (by decide) hl.1 dX12_acts_69 (fun S9 H locs hw hf => ?_)
  refine lv_iload_n C.1 C.2.1 dX12_acts_72 rfl (lv_at hl 1 rfl) ?_
  exact sh_tri C hw hr hf (by decide) (by decide) dX12_acts_73
def fX12_acts (S : sh_St) : Option ((Int32 ⊕ String) × sh_St) :=
    sh_c (fX9_useUp S ) fun r2 S1 =>
    sh_c (fX10_begin S1 r2) fun _ S3 =>
    sh_c (fX7_copyFrom S3 14 4) fun _ S5 =>
    sh_c (fX12_doText S5 ) fun r8 S7 =>
    if r8 = (-1) then (sh_c (fX7_copyFrom S7 4 14) fun _ S12 =>
    some (.inr "java/lang/IllegalArgumentException", S12))
    else (if r8 ≤ 0 then (fX12_acts_65 S7 r8)
    else (sh_t (sh_I S7 0 10 0) fun S11 =>
    fX12_acts_65 S11 r8))
set_option maxRecDepth 100000 in
set_option maxHeartbeats 4000000 in
theorem kX12_acts (l : Launch) (hst : l.stackTraces = false) : sh_Ti l yX12_acts cX12_acts 2 .int 10 1 6 tbX (fun G => [.ref (G.2.1 0)]) (fun S => fX12_acts S) := by
  refine sh_mkti (by decide) (fun G => Nat.le_of_ble_eq_true rfl) ?_
  intro p e s m args below meth c G A S res ls hf C hr hno hw hl
  have C : sh_Cx p s m args meth c cX12_acts 2 RX12 G A := C
  have hl : lv_has ls 2 [(0, .ref (G.2.1 0))] := hl
  replace hf : fX12_acts S = some res := hf
  rw [fX12_acts] at hf
  refine lv_aload_n C.1 C.2.1 dX12_acts_0 rfl (lv_at hl 0 rfl) ?_
  refine sh_getr C hw fl_X12_21 tbX_0 rfl dX12_acts_1 ?_
  refine lv_aload_n C.1 C.2.1 dX12_acts_4 rfl (lv_at hl 0 rfl) ?_
  refine sh_getr C hw fl_X12_12 tbX_0 rfl dX12_acts_5 ?_
  refine sh_xVi (As := []) (rest := [.ref (G.2.1 3)]) C hw (kX9_useUp l ) yy_X9_useUp yv_X9_useUp ml_X12_85 hf tbX_1 rfl rfl rfl rfl (Nat.le_of_ble_eq_true rfl) (by decide) (by decide) (by decide) hl.1 dX12_acts_8 (fun r2 S1 H locs hw hf => ?_)
  refine sh_xVv (As := [.int r2]) (rest := []) C hw (kX10_begin l r2) yy_X10_begin yv_X10_begin ml_X12_89 hf tbX_3 rfl rfl rfl rfl (Nat.le_of_ble_eq_true rfl) (by decide) (by decide) (by decide) hl.1 dX12_acts_11 (fun S3 H locs hw hf => ?_)
  refine lv_aload_n C.1 C.2.1 dX12_acts_14 rfl (lv_at hl 0 rfl) ?_
  refine sh_getr C hw fl_X12_32 tbX_0 rfl dX12_acts_15 ?_
  refine lv_aload_n C.1 C.2.1 dX12_acts_18 rfl (lv_at hl 0 rfl) ?_
  refine sh_getr C hw fl_X12_28 tbX_0 rfl dX12_acts_19 ?_
  refine sh_xVv (As := [.ref (G.2.1 4)]) (rest := []) C hw (kX7_copyFrom l isS_14 isS_4 ) yy_X7_copyFrom yv_X7_copyFrom ml_X12_92 hf isS_14.1 rfl rfl rfl rfl (Nat.le_of_ble_eq_true rfl) (by decide) (by decide) (by decide) hl.1 dX12_acts_22 (fun S5 H locs hw hf => ?_)
  refine lv_aload_n C.1 C.2.1 dX12_acts_25 rfl (lv_at hl 0 rfl) ?_
  refine sh_xVi (As := []) (rest := []) C hw (kX12_doText l ) yy_X12_doText yv_X12_doText ml_X12_95 hf tbX_0 rfl rfl rfl rfl (Nat.le_of_ble_eq_true rfl) (by decide) (by decide) (by decide) hl.1 dX12_acts_26 (fun r8 S7 H locs hw hf => ?_)
  refine lv_istore_n (lv' := [(1, .int r8), (0, .ref (G.2.1 0))]) C.1 C.2.1 dX12_acts_29 rfl hl (by decide) rfl (fun ls hl => ?_)
  refine lv_iload_n C.1 C.2.1 dX12_acts_30 rfl (lv_at hl 0 rfl) ?_
  refine lv_iconst (v := -1) C.1 C.2.1 dX12_acts_31 (by decide) ?_
  refine sh_icmp_ne (tgt := 56) C hf dX12_acts_32 (by decide) (fun hf => ?_) (fun hf => ?_)
  · refine lv_iload_n C.1 C.2.1 dX12_acts_56 rfl (lv_at hl 0 rfl) ?_
    refine sh_if_le (tgt := 65) C hf dX12_acts_57 (by decide) (fun hf => ?_) (fun hf => ?_)
    · exact wX12_acts_65 hst hno C hr S7 r8 hf _ _ _ hw (lv_sub hl [1, 0] rfl)
    · refine lv_aload_n C.1 C.2.1 dX12_acts_60 rfl (lv_at hl 1 rfl) ?_
      refine lv_iconst (v := 0) C.1 C.2.1 dX12_acts_61 (by decide) ?_
      refine sh_puti C hw fl_X12_73 fp_10_10 hf tbX_0 rfl dX12_acts_62 (fun S11 H locs hw hf => ?_)
      exact wX12_acts_65 hst hno C hr S11 r8 hf _ _ _ hw (lv_sub hl [1, 0] rfl)
  · refine lv_aload_n C.1 C.2.1 dX12_acts_35 rfl (lv_at hl 1 rfl) ?_
    refine sh_getr C hw fl_X12_28 tbX_0 rfl dX12_acts_36 ?_
    refine lv_aload_n C.1 C.2.1 dX12_acts_39 rfl (lv_at hl 1 rfl) ?_
    refine sh_getr C hw fl_X12_32 tbX_0 rfl dX12_acts_40 ?_
    refine sh_xVv (As := [.ref (G.2.1 14)]) (rest := []) C hw (kX7_copyFrom l isS_4 isS_14 ) yy_X7_copyFrom yv_X7_copyFrom ml_X12_92 hf isS_4.1 rfl rfl rfl rfl (Nat.le_of_ble_eq_true rfl) (by decide) (by decide) (by decide) hl.1 dX12_acts_43 (fun S12 H locs hw hf => ?_)
    exact sh_thri hst C hw hno (tx_IA (text := "the text is wrong") (by decide +kernel)) hf (by decide) (by decide) (by decide) hl.1 (Nat.le_of_ble_eq_true rfl) dX12_acts_46 dX12_acts_49 dX12_acts_50 dX12_acts_52 dX12_acts_55
