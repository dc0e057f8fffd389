def fX13_begins (S : sh_St) : Option (Unit × sh_St) :=
    sh_t (sh_I S 0 20 (-1)) fun S1 =>
    sh_t (sh_I S1 0 18 (S1.1 0 17)) fun S2 =>
    sh_t (sh_I S2 0 17 0) fun S3 =>
    sh_t (sh_I S3 0 19 0) fun S4 =>
    some ((), S4)
set_option maxRecDepth 100000 in
set_option maxHeartbeats 4000000 in
theorem kX13_begins (l : Launch) : sh_Mv l yX13_begins cX13_begins 1 1 tbM (fun G => [.ref (G.2.1 0)]) (fun S => fX13_begins S) := by
  refine sh_mkv (by decide) (fun G => Nat.le_of_ble_eq_true rfl) ?_
  intro p e s m args below meth c G A S res ls hf C hr hw hl
  have C : sh_Cx p s m args meth c cX13_begins 1 RX13 G A := C
  have hl : lv_has ls 1 [(0, .ref (G.2.1 0))] := hl
  replace hf : fX13_begins S = some res := hf
  rw [fX13_begins] at hf
  refine lv_aload_n C.1 C.2.1 dX13_begins_0 rfl (lv_at hl 0 rfl) ?_
  refine lv_iconst (v := -1) C.1 C.2.1 dX13_begins_1 (by decide) ?_
  refine sh_puti C hw fl_X13_54 fp_11_20 hf tbM_0 rfl dX13_begins_2 (fun S1 H locs hw hf => ?_)
  refine lv_aload_n C.1 C.2.1 dX13_begins_5 rfl (lv_at hl 0 rfl) ?_
  refine lv_aload_n C.1 C.2.1 dX13_begins_6 rfl (lv_at hl 0 rfl) ?_
  refine sh_geti C hw fl_X13_260 tbM_0 rfl dX13_begins_7 ?_
  refine sh_puti C hw fl_X13_267 fp_11_18 hf tbM_0 rfl dX13_begins_10 (fun S2 H locs hw hf => ?_)
  refine lv_aload_n C.1 C.2.1 dX13_begins_13 rfl (lv_at hl 0 rfl) ?_
  refine lv_iconst (v := 0) C.1 C.2.1 dX13_begins_14 (by decide) ?_
  refine sh_puti C hw fl_X13_260 fp_11_17 hf tbM_0 rfl dX13_begins_15 (fun S3 H locs hw hf => ?_)
  refine lv_aload_n C.1 C.2.1 dX13_begins_18 rfl (lv_at hl 0 rfl) ?_
  refine lv_iconst (v := 0) C.1 C.2.1 dX13_begins_19 (by decide) ?_
  refine sh_puti C hw fl_X13_270 fp_11_19 hf tbM_0 rfl dX13_begins_20 (fun S4 H locs hw hf => ?_)
  exact sh_rv C hw hr hf dX13_begins_23
def fX13_here_0 : Nat → sh_St → Option (Int32 × sh_St)
  | 0, _ => none
  | n + 1, S =>
    if (S.1 0 18) ≤ (S.1 0 19) then (some (S.1 0 19, S))
    else (sh_g (S.1 0 19) 400 (if (S.1 14 (S.1 0 19).toNatClampNeg) = 32 then (sh_t (sh_I S 0 19 ((S.1 0 19) + 1)) fun S1 =>
    (fX13_here_0 n) S1)
    else (some (S.1 0 19, S))))
set_option maxRecDepth 100000 in
set_option maxHeartbeats 4000000 in
theorem wX13_here_0 {p : Program} {l : Launch} {e : Env} {s : State} {m : MethodId} {args : Array Value} {below : List Frame} {meth : Method} {c : Code} {G : sh_Ev} {A : Nat → Prop} {res : Int32 × sh_St} (C : sh_Cx p s m args meth c cX13_here 1 RX13 G A) (hr : meth.sig.returnType = some .int) : ∀ (n : Nat) (S : sh_St), fX13_here_0 n S = some res → ∀ (H : Heap) (locs : List Loc) (ls : Array Slot), sh_Wx G tbM A s H locs S → lv_has ls 1 [(0, .ref (G.2.1 0))] → W p l e (sh_rm 1) s m args below meth c H locs 0 0 (sh_Qi below args s G tbM A res) (F0 m 0 ls []) := by
  intro n
  induction n with
  | zero => intro S hf; exact nomatch (show (none : Option (Int32 × sh_St)) = some res from hf)
  | succ n ih =>
    intro S hf H locs ls hw hl
    have hr0 := ih
    rw [fX13_here_0] at hf
    refine lv_aload_n C.1 C.2.1 dX13_here_0 rfl (lv_at hl 0 rfl) ?_
    refine sh_geti C hw fl_X13_270 tbM_0 rfl dX13_here_1 ?_
    refine lv_aload_n C.1 C.2.1 dX13_here_4 rfl (lv_at hl 0 rfl) ?_
    refine sh_geti C hw fl_X13_267 tbM_0 rfl dX13_here_5 ?_
    refine sh_icmp_ge (tgt := 38) C hf dX13_here_8 (by decide) (fun hf => ?_) (fun hf => ?_)
    · refine lv_aload_n C.1 C.2.1 dX13_here_38 rfl (lv_at hl 0 rfl) ?_
      refine sh_geti C hw fl_X13_270 tbM_0 rfl dX13_here_39 ?_
      exact sh_ri C hw hr hf dX13_here_42
    · refine lv_aload_n C.1 C.2.1 dX13_here_11 rfl (lv_at hl 0 rfl) ?_
      refine sh_getr C hw fl_X13_51 tbM_0 rfl dX13_here_12 ?_
      refine lv_aload_n C.1 C.2.1 dX13_here_15 rfl (lv_at hl 0 rfl) ?_
      refine sh_geti C hw fl_X13_270 tbM_0 rfl dX13_here_16 ?_
      refine sh_iald C hw hf tbM_14 dX13_here_19 (fun hf => ?_)
      refine lv_bipush (v := 32) C.1 C.2.1 dX13_here_20 (by decide) ?_
      refine sh_icmp_ne (tgt := 38) C hf dX13_here_22 (by decide) (fun hf => ?_) (fun hf => ?_)
      · refine lv_aload_n C.1 C.2.1 dX13_here_38 rfl (lv_at hl 0 rfl) ?_
        refine sh_geti C hw fl_X13_270 tbM_0 rfl dX13_here_39 ?_
        exact sh_ri C hw hr hf dX13_here_42
      · refine lv_aload_n C.1 C.2.1 dX13_here_25 rfl (lv_at hl 0 rfl) ?_
        refine lv_dup C.1 C.2.1 dX13_here_26 rfl ?_
        refine sh_geti C hw fl_X13_270 tbM_0 rfl dX13_here_27 ?_
        refine lv_iconst (v := 1) C.1 C.2.1 dX13_here_30 (by decide) ?_
        refine lv_iadd C.1 C.2.1 dX13_here_31 ?_
        refine sh_puti C hw fl_X13_270 fp_11_19 hf tbM_0 rfl dX13_here_32 (fun S1 H locs hw hf => ?_)
        refine lv_goto (tgt := 0) C.1 C.2.1 dX13_here_35 (by decide) ?_
        exact hr0 S1  hf _ _ _ hw (lv_sub hl [0] rfl)
def fX13_here (S : sh_St) : Option (Int32 × sh_St) :=
    fX13_here_0 sh_FU S
set_option maxRecDepth 100000 in
set_option maxHeartbeats 4000000 in
theorem kX13_here (l : Launch) : sh_Mi l yX13_here cX13_here 1 .int 1 tbM (fun G => [.ref (G.2.1 0)]) (fun S => fX13_here S) := by
  refine sh_mki (by decide) (fun G => Nat.le_of_ble_eq_true rfl) ?_
  intro p e s m args below meth c G A S res ls hf C hr hw hl
  have C : sh_Cx p s m args meth c cX13_here 1 RX13 G A := C
  have hl : lv_has ls 1 [(0, .ref (G.2.1 0))] := hl
  replace hf : fX13_here S = some res := hf
  rw [fX13_here] at hf
  exact wX13_here_0 C hr _ S  hf _ _ _ hw (lv_sub hl [0] rfl)
def fX13_wrong (S : sh_St) (v1 : Int32) : Option (Unit × sh_St) :=
    if (S.1 0 20) = (-1) then (sh_t (sh_I S 0 20 v1) fun S1 =>
    some ((), S1))
    else (some ((), S))
set_option maxRecDepth 100000 in
set_option maxHeartbeats 4000000 in
theorem kX13_wrong (l : Launch) (v1 : Int32) : sh_Mv l yX13_wrong cX13_wrong 2 1 tbM (fun G => [.ref (G.2.1 0), .int v1]) (fun S => fX13_wrong S v1) := by
  refine sh_mkv (by decide) (fun G => Nat.le_of_ble_eq_true rfl) ?_
  intro p e s m args below meth c G A S res ls hf C hr hw hl
  have C : sh_Cx p s m args meth c cX13_wrong 2 RX13 G A := C
  have hl : lv_has ls 2 [(0, .ref (G.2.1 0)), (1, .int v1)] := hl
  replace hf : fX13_wrong S v1 = some res := hf
  rw [fX13_wrong] at hf
  refine lv_aload_n C.1 C.2.1 dX13_wrong_0 rfl (lv_at hl 0 rfl) ?_
  refine sh_geti C hw fl_X13_54 tbM_0 rfl dX13_wrong_1 ?_
  refine lv_iconst (v := -1) C.1 C.2.1 dX13_wrong_4 (by decide) ?_
  refine sh_icmp_ne (tgt := 13) C hf dX13_wrong_5 (by decide) (fun hf => ?_) (fun hf => ?_)
  · exact sh_rv C hw hr hf dX13_wrong_13
  · refine lv_aload_n C.1 C.2.1 dX13_wrong_8 rfl (lv_at hl 0 rfl) ?_
    refine lv_iload_n C.1 C.2.1 dX13_wrong_9 rfl (lv_at hl 1 rfl) ?_
    refine sh_puti C hw fl_X13_54 fp_11_20 hf tbM_0 rfl dX13_wrong_10 (fun S1 H locs hw hf => ?_)
    exact sh_rv C hw hr hf dX13_wrong_13
def fX13_isLetter_22 (S : sh_St) : Option (Int32 × sh_St) :=
    sh_b 1 (some (1, S))
set_option maxRecDepth 100000 in
set_option maxHeartbeats 4000000 in
theorem wX13_isLetter_22 {p : Program} {l : Launch} {e : Env} {s : State} {m : MethodId} {args : Array Value} {below : List Frame} {meth : Method} {c : Code} {G : sh_Ev} {A : Nat → Prop} {res : Int32 × sh_St} (C : sh_Cx p s m args meth c cX13_isLetter 1 RX13 G A) (hr : meth.sig.returnType = some .boolean) : ∀ (S : sh_St), fX13_isLetter_22 S = some res → ∀ (H : Heap) (locs : List Loc) (ls : Array Slot), sh_Wx G tbM A s H locs S → lv_has ls 1 [] → W p l e (sh_rm 2) s m args below meth c H locs 0 0 (sh_Qi below args s G tbM A res) (F0 m 22 ls []) := by
  intro S hf H locs ls hw hl
  rw [fX13_isLetter_22] at hf
  refine lv_iconst (v := 1) C.1 C.2.1 dX13_isLetter_22 (by decide) ?_
  refine lv_goto (tgt := 27) C.1 C.2.1 dX13_isLetter_23 (by decide) ?_
  exact sh_rz C hw hr hf dX13_isLetter_27
def fX13_isLetter (S : sh_St) (v0 : Int32) : Option (Int32 × sh_St) :=
    sh_c (fX13_isIn S v0 97 122) fun r2 S1 =>
    if r2 = 0 then (sh_c (fX13_isIn S1 v0 65 90) fun r4 S3 =>
    if r4 = 0 then (sh_b 0 (some (0, S3)))
    else (fX13_isLetter_22 S3))
    else (fX13_isLetter_22 S1)
set_option maxRecDepth 100000 in
set_option maxHeartbeats 4000000 in
theorem kX13_isLetter (l : Launch) (v0 : Int32) : sh_Mi l yX13_isLetter cX13_isLetter 1 .boolean 2 tbM (fun G => [.int v0]) (fun S => fX13_isLetter S v0) := by
  refine sh_mki (by decide) (fun G => Nat.le_of_ble_eq_true rfl) ?_
  intro p e s m args below meth c G A S res ls hf C hr hw hl
  have C : sh_Cx p s m args meth c cX13_isLetter 1 RX13 G A := C
  have hl : lv_has ls 1 [(0, .int v0)] := hl
  replace hf : fX13_isLetter S v0 = some res := hf
  rw [fX13_isLetter] at hf
  refine lv_iload_n C.1 C.2.1 dX13_isLetter_0 rfl (lv_at hl 0 rfl) ?_
  refine lv_bipush (v := 97) C.1 C.2.1 dX13_isLetter_1 (by decide) ?_
  refine lv_bipush (v := 122) C.1 C.2.1 dX13_isLetter_3 (by decide) ?_
  refine sh_Si (As := [.int v0, .int 97, .int 122]) (rest := []) C hw (kX13_isIn l v0 97 122) yy_X13_isIn ys_X13_isIn ml_X13_263 rfl hf rfl rfl rfl (Nat.le_of_ble_eq_true rfl) (by decide) hl.1 dX13_isLetter_5 (fun r2 S1 H locs hw hf => ?_)
  refine sh_if_ne (tgt := 22) C hf dX13_isLetter_8 (by decide) (fun hf => ?_) (fun hf => ?_)
  · exact wX13_isLetter_22 C hr S1  hf _ _ _ hw (lv_sub hl [] rfl)
  · refine lv_iload_n C.1 C.2.1 dX13_isLetter_11 rfl (lv_at hl 0 rfl) ?_
    refine lv_bipush (v := 65) C.1 C.2.1 dX13_isLetter_12 (by decide) ?_
    refine lv_bipush (v := 90) C.1 C.2.1 dX13_isLetter_14 (by decide) ?_
    refine sh_Si (As := [.int v0, .int 65, .int 90]) (rest := []) C hw (kX13_isIn l v0 65 90) yy_X13_isIn ys_X13_isIn ml_X13_263 rfl hf rfl rfl rfl (Nat.le_of_ble_eq_true rfl) (by decide) hl.1 dX13_isLetter_16 (fun r4 S3 H locs hw hf => ?_)
    refine sh_if_eq (tgt := 26) C hf dX13_isLetter_19 (by decide) (fun hf => ?_) (fun hf => ?_)
    · refine lv_iconst (v := 0) C.1 C.2.1 dX13_isLetter_26 (by decide) ?_
      exact sh_rz C hw hr hf dX13_isLetter_27
    · exact wX13_isLetter_22 C hr S3  hf _ _ _ hw (lv_sub hl [] rfl)
def fX13_wordEnd_5 : Nat → sh_St → Int32 → Option (Int32 × sh_St)
  | 0, _, _ => none
  | n + 1, S, v1 =>
    if (S.1 0 18) ≤ v1 then (some (v1, S))
    else (sh_g v1 400 (sh_c (fX13_isLetter S (S.1 14 v1.toNatClampNeg)) fun r4 S3 =>
    if r4 = 0 then (some (v1, S3))
    else (sh_t (v1 + 1) fun y5 =>
    (fX13_wordEnd_5 n) S3 y5)))
set_option maxRecDepth 100000 in
set_option maxHeartbeats 4000000 in
theorem wX13_wordEnd_5 {p : Program} {l : Launch} {e : Env} {s : State} {m : MethodId} {args : Array Value} {below : List Frame} {meth : Method} {c : Code} {G : sh_Ev} {A : Nat → Prop} {res : Int32 × sh_St} (C : sh_Cx p s m args meth c cX13_wordEnd 2 RX13 G A) (hr : meth.sig.returnType = some .int) : ∀ (n : Nat) (S : sh_St) (v1 : Int32), fX13_wordEnd_5 n S v1 = some res → ∀ (H : Heap) (locs : List Loc) (ls : Array Slot), sh_Wx G tbM A s H locs S → lv_has ls 2 [(0, .ref (G.2.1 0)), (1, .int v1)] → W p l e (sh_rm 3) s m args below meth c H locs 0 0 (sh_Qi below args s G tbM A res) (F0 m 5 ls []) := by
  intro n
  induction n with
  | zero => intro S v1 hf; exact nomatch (show (none : Option (Int32 × sh_St)) = some res from hf)
  | succ n ih =>
    intro S v1 hf H locs ls hw hl
    have hr5 := ih
    rw [fX13_wordEnd_5] at hf
    refine lv_iload_n C.1 C.2.1 dX13_wordEnd_5 rfl (lv_at hl 1 rfl) ?_
    refine lv_aload_n C.1 C.2.1 dX13_wordEnd_6 rfl (lv_at hl 0 rfl) ?_
    refine sh_geti C hw fl_X13_267 tbM_0 rfl dX13_wordEnd_7 ?_
    refine sh_icmp_ge (tgt := 31) C hf dX13_wordEnd_10 (by decide) (fun hf => ?_) (fun hf => ?_)
    · refine lv_iload_n C.1 C.2.1 dX13_wordEnd_31 rfl (lv_at hl 1 rfl) ?_
      exact sh_ri C hw hr hf dX13_wordEnd_32
    · refine lv_aload_n C.1 C.2.1 dX13_wordEnd_13 rfl (lv_at hl 0 rfl) ?_
      refine sh_getr C hw fl_X13_51 tbM_0 rfl dX13_wordEnd_14 ?_
      refine lv_iload_n C.1 C.2.1 dX13_wordEnd_17 rfl (lv_at hl 1 rfl) ?_
      refine sh_iald C hw hf tbM_14 dX13_wordEnd_18 (fun hf => ?_)
      refine sh_Si (As := [.int (S.1 14 v1.toNatClampNeg)]) (rest := []) C hw (kX13_isLetter l (S.1 14 v1.toNatClampNeg)) yy_X13_isLetter ys_X13_isLetter ml_X13_276 rfl hf rfl rfl rfl (Nat.le_of_ble_eq_true rfl) (by decide) hl.1 dX13_wordEnd_19 (fun r4 S3 H locs hw hf => ?_)
      refine sh_if_eq (tgt := 31) C hf dX13_wordEnd_22 (by decide) (fun hf => ?_) (fun hf => ?_)
      · refine lv_iload_n C.1 C.2.1 dX13_wordEnd_31 rfl (lv_at hl 1 rfl) ?_
        exact sh_ri C hw hr hf dX13_wordEnd_32
      · obtain ⟨y5, ey5, hf⟩ := sh_nm hf
        refine lv_iinc (v := y5) (lv' := [(1, .int y5), (0, .ref (G.2.1 0))]) C.1 C.2.1 dX13_wordEnd_25 hl (k := 1) rfl (by rw [← ey5]; rfl) (by decide) rfl (fun ls hl => ?_)
        refine lv_goto (tgt := 5) C.1 C.2.1 dX13_wordEnd_28 (by decide) ?_
        exact hr5 S3 y5 hf _ _ _ hw (lv_sub hl [1, 0] rfl)
def fX13_wordEnd (S : sh_St) : Option (Int32 × sh_St) :=
    sh_c (fX13_here S ) fun r2 S1 =>
    fX13_wordEnd_5 sh_FU S1 r2
set_option maxRecDepth 100000 in
set_option maxHeartbeats 4000000 in
theorem kX13_wordEnd (l : Launch) : sh_Mi l yX13_wordEnd cX13_wordEnd 2 .int 3 tbM (fun G => [.ref (G.2.1 0)]) (fun S => fX13_wordEnd S) := by
  refine sh_mki (by decide) (fun G => Nat.le_of_ble_eq_true rfl) ?_
  intro p e s m args below meth c G A S res ls hf C hr hw hl
  have C : sh_Cx p s m args meth c cX13_wordEnd 2 RX13 G A := C
  have hl : lv_has ls 2 [(0, .ref (G.2.1 0))] := hl
  replace hf : fX13_wordEnd S = some res := hf
  rw [fX13_wordEnd] at hf
  refine lv_aload_n C.1 C.2.1 dX13_wordEnd_0 rfl (lv_at hl 0 rfl) ?_
  refine sh_Vi (As := []) (rest := []) C hw (kX13_here l ) yy_X13_here yv_X13_here ml_X13_273 hf tbM_0 rfl rfl rfl rfl (Nat.le_of_ble_eq_true rfl) (by decide) hl.1 dX13_wordEnd_1 (fun r2 S1 H locs hw hf => ?_)
  refine lv_istore_n (lv' := [(1, .int r2), (0, .ref (G.2.1 0))]) C.1 C.2.1 dX13_wordEnd_4 rfl hl (by decide) rfl (fun ls hl => ?_)
  exact wX13_wordEnd_5 C hr _ S1 r2 hf _ _ _ hw (lv_sub hl [1, 0] rfl)
def fX13_name_34 (S : sh_St) : Option (Int64 × sh_St) :=
    sh_c (fX13_wrong S (S.1 0 19)) fun _ S3 =>
    some (0, S3)
set_option maxRecDepth 100000 in
set_option maxHeartbeats 4000000 in
theorem wX13_name_34 {p : Program} {l : Launch} {e : Env} {s : State} {m : MethodId} {args : Array Value} {below : List Frame} {meth : Method} {c : Code} {G : sh_Ev} {A : Nat → Prop} {res : Int64 × sh_St} (C : sh_Cx p s m args meth c cX13_name 5 RX13 G A) (hr : meth.sig.returnType = some .long) : ∀ (S : sh_St), fX13_name_34 S = some res → ∀ (H : Heap) (locs : List Loc) (ls : Array Slot), sh_Wx G tbM A s H locs S → lv_has ls 5 [(0, .ref (G.2.1 0))] → W p l e (sh_rm 4) s m args below meth c H locs 0 0 (sh_Ql below args s G tbM A res) (F0 m 34 ls []) := by
  intro S hf H locs ls hw hl
  rw [fX13_name_34] at hf
  refine lv_aload_n C.1 C.2.1 dX13_name_34 rfl (lv_at hl 0 rfl) ?_
  refine lv_aload_n C.1 C.2.1 dX13_name_35 rfl (lv_at hl 0 rfl) ?_
  refine sh_geti C hw fl_X13_270 tbM_0 rfl dX13_name_36 ?_
  refine sh_Vv (As := [.int (S.1 0 19)]) (rest := []) C hw (kX13_wrong l (S.1 0 19)) yy_X13_wrong yv_X13_wrong ml_X13_292 hf tbM_0 rfl rfl rfl rfl (Nat.le_of_ble_eq_true rfl) (by decide) hl.1 dX13_name_39 (fun S3 H locs hw hf => ?_)
  refine lv_lconst (v := 0) C.1 C.2.1 dX13_name_42 (by decide) ?_
  exact sh_rl C hw hr hf dX13_name_43
def fX13_name_87 (rk49 : sh_St → Int32 → Int64 → Int32 → Option (Int64 × sh_St)) (S : sh_St) (v1 : Int32) (v4 : Int32) (t0 : Int32) (t1 : Int64) : Option (Int64 × sh_St) :=
    sh_t (t1 ||| (Int32.toInt64 t0)) fun y6 =>
    sh_t (v4 + 1) fun y7 =>
    rk49 S v1 y6 y7
set_option maxRecDepth 100000 in
set_option maxHeartbeats 4000000 in
theorem wX13_name_87 {p : Program} {l : Launch} {e : Env} {s : State} {m : MethodId} {args : Array Value} {below : List Frame} {meth : Method} {c : Code} {G : sh_Ev} {A : Nat → Prop} {res : Int64 × sh_St} (C : sh_Cx p s m args meth c cX13_name 5 RX13 G A) (hr : meth.sig.returnType = some .long) (rk49 : sh_St → Int32 → Int64 → Int32 → Option (Int64 × sh_St)) (hr49 : ∀ (S : sh_St) (v1 : Int32) (v2 : Int64) (v4 : Int32), rk49 S v1 v2 v4 = some res → ∀ (H : Heap) (locs : List Loc) (ls : Array Slot), sh_Wx G tbM A s H locs S → lv_has ls 5 [(0, .ref (G.2.1 0)), (1, .int v1), (2, .long v2), (4, .int v4)] → W p l e (sh_rm 4) s m args below meth c H locs 0 0 (sh_Ql below args s G tbM A res) (F0 m 49 ls [])) : ∀ (S : sh_St) (v1 : Int32) (v4 : Int32) (t0 : Int32) (t1 : Int64), fX13_name_87 rk49 S v1 v4 t0 t1 = some res → ∀ (H : Heap) (locs : List Loc) (ls : Array Slot), sh_Wx G tbM A s H locs S → lv_has ls 5 [(0, .ref (G.2.1 0)), (1, .int v1), (4, .int v4)] → W p l e (sh_rm 4) s m args below meth c H locs 0 0 (sh_Ql below args s G tbM A res) (F0 m 87 ls [.int t0, .long t1]) := by
  intro S v1 v4 t0 t1 hf H locs ls hw hl
  rw [fX13_name_87] at hf
  refine lv_i2l C.1 C.2.1 dX13_name_87 rfl ?_
  refine lv_lor C.1 C.2.1 dX13_name_88 ?_
  refine sh_nl hf (fun y6 hf => ?_)
  refine lv_lstore_n (lv' := [(2, .long y6), (0, .ref (G.2.1 0)), (1, .int v1), (4, .int v4)]) C.1 C.2.1 dX13_name_89 rfl hl (by decide) rfl (fun ls hl => ?_)
  obtain ⟨y7, ey7, hf⟩ := sh_nm hf
  refine lv_iinc (v := y7) (lv' := [(4, .int y7), (2, .long y6), (0, .ref (G.2.1 0)), (1, .int v1)]) C.1 C.2.1 dX13_name_90 hl (k := 3) rfl (by rw [← ey7]; rfl) (by decide) rfl (fun ls hl => ?_)
  refine lv_goto (tgt := 49) C.1 C.2.1 dX13_name_93 (by decide) ?_
  exact hr49 S v1 y6 y7 hf _ _ _ hw (lv_sub hl [2, 3, 1, 0] rfl)
def fX13_name_49 : Nat → sh_St → Int32 → Int64 → Int32 → Option (Int64 × sh_St)
  | 0, _, _, _, _ => none
  | n + 1, S, v1, v2, v4 =>
    if 8 ≤ v4 then (sh_t (sh_I S 0 19 v1) fun S5 =>
    some (v2, S5))
    else (if v1 ≤ ((S.1 0 19) + v4) then (fX13_name_87 (fX13_name_49 n) S v1 v4 0 (v2 <<< ((Int32.toInt64 8) &&& 63)))
    else (sh_g ((S.1 0 19) + v4) 400 (fX13_name_87 (fX13_name_49 n) S v1 v4 (S.1 14 ((S.1 0 19) + v4).toNatClampNeg) (v2 <<< ((Int32.toInt64 8) &&& 63)))))
set_option maxRecDepth 100000 in
set_option maxHeartbeats 4000000 in
theorem wX13_name_49 {p : Program} {l : Launch} {e : Env} {s : State} {m : MethodId} {args : Array Value} {below : List Frame} {meth : Method} {c : Code} {G : sh_Ev} {A : Nat → Prop} {res : Int64 × sh_St} (C : sh_Cx p s m args meth c cX13_name 5 RX13 G A) (hr : meth.sig.returnType = some .long) : ∀ (n : Nat) (S : sh_St) (v1 : Int32) (v2 : Int64) (v4 : Int32), fX13_name_49 n S v1 v2 v4 = some res → ∀ (H : Heap) (locs : List Loc) (ls : Array Slot), sh_Wx G tbM A s H locs S → lv_has ls 5 [(0, .ref (G.2.1 0)), (1, .int v1), (2, .long v2), (4, .int v4)] → W p l e (sh_rm 4) s m args below meth c H locs 0 0 (sh_Ql below args s G tbM A res) (F0 m 49 ls []) := by
  intro n
  induction n with
  | zero => intro S v1 v2 v4 hf; exact nomatch (show (none : Option (Int64 × sh_St)) = some res from hf)
  | succ n ih =>
    intro S v1 v2 v4 hf H locs ls hw hl
    have hr49 := ih
    rw [fX13_name_49] at hf
    refine lv_iload C.1 C.2.1 dX13_name_49 (lv_at hl 3 rfl) ?_
    refine lv_bipush (v := 8) C.1 C.2.1 dX13_name_51 (by decide) ?_
    refine sh_icmp_ge (tgt := 96) C hf dX13_name_53 (by decide) (fun hf => ?_) (fun hf => ?_)
    · refine lv_aload_n C.1 C.2.1 dX13_name_96 rfl (lv_at hl 0 rfl) ?_
      refine lv_iload_n C.1 C.2.1 dX13_name_97 rfl (lv_at hl 1 rfl) ?_
      refine sh_puti C hw fl_X13_270 fp_11_19 hf tbM_0 rfl dX13_name_98 (fun S5 H locs hw hf => ?_)
      refine lv_lload_n C.1 C.2.1 dX13_name_101 rfl (lv_at hl 2 rfl) ?_
      exact sh_rl C hw hr hf dX13_name_102
    · refine lv_lload_n C.1 C.2.1 dX13_name_56 rfl (lv_at hl 2 rfl) ?_
      refine lv_bipush (v := 8) C.1 C.2.1 dX13_name_57 (by decide) ?_
      refine lv_lshl C.1 C.2.1 dX13_name_59 rfl ?_
      refine lv_aload_n C.1 C.2.1 dX13_name_60 rfl (lv_at hl 0 rfl) ?_
      refine sh_geti C hw fl_X13_270 tbM_0 rfl dX13_name_61 ?_
      refine lv_iload C.1 C.2.1 dX13_name_64 (lv_at hl 3 rfl) ?_
      refine lv_iadd C.1 C.2.1 dX13_name_66 ?_
      refine lv_iload_n C.1 C.2.1 dX13_name_67 rfl (lv_at hl 1 rfl) ?_
      refine sh_icmp_ge (tgt := 86) C hf dX13_name_68 (by decide) (fun hf => ?_) (fun hf => ?_)
      · refine lv_iconst (v := 0) C.1 C.2.1 dX13_name_86 (by decide) ?_
        exact wX13_name_87 C hr (fX13_name_49 n) hr49 S v1 v4 0 (v2 <<< ((Int32.toInt64 8) &&& 63)) hf _ _ _ hw (lv_sub hl [0, 1, 3] rfl)
      · refine lv_aload_n C.1 C.2.1 dX13_name_71 rfl (lv_at hl 0 rfl) ?_
        refine sh_getr C hw fl_X13_51 tbM_0 rfl dX13_name_72 ?_
        refine lv_aload_n C.1 C.2.1 dX13_name_75 rfl (lv_at hl 0 rfl) ?_
        refine sh_geti C hw fl_X13_270 tbM_0 rfl dX13_name_76 ?_
        refine lv_iload C.1 C.2.1 dX13_name_79 (lv_at hl 3 rfl) ?_
        refine lv_iadd C.1 C.2.1 dX13_name_81 ?_
        refine sh_iald C hw hf tbM_14 dX13_name_82 (fun hf => ?_)
        refine lv_goto (tgt := 87) C.1 C.2.1 dX13_name_83 (by decide) ?_
        exact wX13_name_87 C hr (fX13_name_49 n) hr49 S v1 v4 (S.1 14 ((S.1 0 19) + v4).toNatClampNeg) (v2 <<< ((Int32.toInt64 8) &&& 63)) hf _ _ _ hw (lv_sub hl [0, 1, 3] rfl)
def fX13_name (S : sh_St) : Option (Int64 × sh_St) :=
    if (S.1 0 20) = (-1) then (sh_c (fX13_wordEnd S ) fun r2 S1 =>
    if r2 = (S1.1 0 19) then (fX13_name_34 S1)
    else (if (r2 - (S1.1 0 19)) ≤ 8 then (fX13_name_49 sh_FU S1 r2 0 0)
    else (fX13_name_34 S1)))
    else (some (0, S))
set_option maxRecDepth 100000 in
set_option maxHeartbeats 4000000 in
theorem kX13_name (l : Launch) : sh_Ml l yX13_name cX13_name 5 4 tbM (fun G => [.ref (G.2.1 0)]) (fun S => fX13_name S) := by
  refine sh_mkl (by decide) (fun G => Nat.le_of_ble_eq_true rfl) ?_
  intro p e s m args below meth c G A S res ls hf C hr hw hl
  have C : sh_Cx p s m args meth c cX13_name 5 RX13 G A := C
  have hl : lv_has ls 5 [(0, .ref (G.2.1 0))] := hl
  replace hf : fX13_name S = some res := hf
  rw [fX13_name] at hf
  refine lv_aload_n C.1 C.2.1 dX13_name_0 rfl (lv_at hl 0 rfl) ?_
  refine sh_geti C hw fl_X13_54 tbM_0 rfl dX13_name_1 ?_
  refine lv_iconst (v := -1) C.1 C.2.1 dX13_name_4 (by decide) ?_
  refine sh_icmp_eq (tgt := 10) C hf dX13_name_5 (by decide) (fun hf => ?_) (fun hf => ?_)
  · refine lv_aload_n C.1 C.2.1 dX13_name_10 rfl (lv_at hl 0 rfl) ?_
    refine sh_Vi (As := []) (rest := []) C hw (kX13_wordEnd l ) yy_X13_wordEnd yv_X13_wordEnd ml_X13_280 hf tbM_0 rfl rfl rfl rfl (Nat.le_of_ble_eq_true rfl) (by decide) hl.1 dX13_name_11 (fun r2 S1 H locs hw hf => ?_)
    refine lv_istore_n (lv' := [(1, .int r2), (0, .ref (G.2.1 0))]) C.1 C.2.1 dX13_name_14 rfl hl (by decide) rfl (fun ls hl => ?_)
    refine lv_iload_n C.1 C.2.1 dX13_name_15 rfl (lv_at hl 0 rfl) ?_
    refine lv_aload_n C.1 C.2.1 dX13_name_16 rfl (lv_at hl 1 rfl) ?_
    refine sh_geti C hw fl_X13_270 tbM_0 rfl dX13_name_17 ?_
    refine sh_icmp_eq (tgt := 34) C hf dX13_name_20 (by decide) (fun hf => ?_) (fun hf => ?_)
    · exact wX13_name_34 C hr S1  hf _ _ _ hw (lv_sub hl [1] rfl)
    · refine lv_iload_n C.1 C.2.1 dX13_name_23 rfl (lv_at hl 0 rfl) ?_
      refine lv_aload_n C.1 C.2.1 dX13_name_24 rfl (lv_at hl 1 rfl) ?_
      refine sh_geti C hw fl_X13_270 tbM_0 rfl dX13_name_25 ?_
      refine lv_isub C.1 C.2.1 dX13_name_28 ?_
      refine lv_bipush (v := 8) C.1 C.2.1 dX13_name_29 (by decide) ?_
      refine sh_icmp_le (tgt := 44) C hf dX13_name_31 (by decide) (fun hf => ?_) (fun hf => ?_)
      · refine lv_lconst (v := 0) C.1 C.2.1 dX13_name_44 (by decide) ?_
        refine lv_lstore_n (lv' := [(2, .long 0), (1, .int r2), (0, .ref (G.2.1 0))]) C.1 C.2.1 dX13_name_45 rfl hl (by decide) rfl (fun ls hl => ?_)
        refine lv_iconst (v := 0) C.1 C.2.1 dX13_name_46 (by decide) ?_
        refine lv_istore (lv' := [(4, .int 0), (2, .long 0), (1, .int r2), (0, .ref (G.2.1 0))]) C.1 C.2.1 dX13_name_47 hl (by decide) rfl (fun ls hl => ?_)
        exact wX13_name_49 C hr _ S1 r2 0 0 hf _ _ _ hw (lv_sub hl [3, 2, 1, 0] rfl)
      · exact wX13_name_34 C hr S1  hf _ _ _ hw (lv_sub hl [1] rfl)
  · refine lv_lconst (v := 0) C.1 C.2.1 dX13_name_8 (by decide) ?_
    exact sh_rl C hw hr hf dX13_name_9
def fX13_number_121 (S : sh_St) (v3 : Int32) (v4 : Int32) : Option (Int32 × sh_St) :=
    sh_c (fX13_wrong S v3) fun _ S3 =>
    some (v4, S3)
set_option maxRecDepth 100000 in
set_option maxHeartbeats 4000000 in
theorem wX13_number_121 {p : Program} {l : Launch} {e : Env} {s : State} {m : MethodId} {args : Array Value} {below : List Frame} {meth : Method} {c : Code} {G : sh_Ev} {A : Nat → Prop} {res : Int32 × sh_St} (C : sh_Cx p s m args meth c cX13_number 5 RX13 G A) (hr : meth.sig.returnType = some .int) : ∀ (S : sh_St) (v3 : Int32) (v4 : Int32), fX13_number_121 S v3 v4 = some res → ∀ (H : Heap) (locs : List Loc) (ls : Array Slot), sh_Wx G tbM A s H locs S → lv_has ls 5 [(0, .ref (G.2.1 0)), (3, .int v3), (4, .int v4)] → W p l e (sh_rm 2) s m args below meth c H locs 0 0 (sh_Qi below args s G tbM A res) (F0 m 121 ls []) := by
  intro S v3 v4 hf H locs ls hw hl
  rw [fX13_number_121] at hf
  refine lv_aload_n C.1 C.2.1 dX13_number_121 rfl (lv_at hl 0 rfl) ?_
  refine lv_iload_n C.1 C.2.1 dX13_number_122 rfl (lv_at hl 1 rfl) ?_
  refine sh_Vv (As := [.int v3]) (rest := []) C hw (kX13_wrong l v3) yy_X13_wrong yv_X13_wrong ml_X13_292 hf tbM_0 rfl rfl rfl rfl (Nat.le_of_ble_eq_true rfl) (by decide) hl.1 dX13_number_123 (fun S3 H locs hw hf => ?_)
  refine lv_iload C.1 C.2.1 dX13_number_126 (lv_at hl 2 rfl) ?_
  exact sh_ri C hw hr hf dX13_number_128
def fX13_number_91 (S : sh_St) (v1 : Int32) (v2 : Int32) (v3 : Int32) (v4 : Int32) : Option (Int32 × sh_St) :=
    if (S.1 0 19) = v3 then (fX13_number_121 S v3 v4)
    else (if 5 < ((S.1 0 19) - v3) then (fX13_number_121 S v3 v4)
    else (if v4 < v1 then (fX13_number_121 S v3 v4)
    else (if v4 ≤ v2 then (some (v4, S))
    else (fX13_number_121 S v3 v4))))
set_option maxRecDepth 100000 in
set_option maxHeartbeats 4000000 in
theorem wX13_number_91 {p : Program} {l : Launch} {e : Env} {s : State} {m : MethodId} {args : Array Value} {below : List Frame} {meth : Method} {c : Code} {G : sh_Ev} {A : Nat → Prop} {res : Int32 × sh_St} (C : sh_Cx p s m args meth c cX13_number 5 RX13 G A) (hr : meth.sig.returnType = some .int) : ∀ (S : sh_St) (v1 : Int32) (v2 : Int32) (v3 : Int32) (v4 : Int32), fX13_number_91 S v1 v2 v3 v4 = some res → ∀ (H : Heap) (locs : List Loc) (ls : Array Slot), sh_Wx G tbM A s H locs S → lv_has ls 5 [(0, .ref (G.2.1 0)), (1, .int v1), (2, .int v2), (3, .int v3), (4, .int v4)] → W p l e (sh_rm 2) s m args below meth c H locs 0 0 (sh_Qi below args s G tbM A res) (F0 m 91 ls []) := by
  intro S v1 v2 v3 v4 hf H locs ls hw hl
  rw [fX13_number_91] at hf
  refine lv_aload_n C.1 C.2.1 dX13_number_91 rfl (lv_at hl 0 rfl) ?_
  refine sh_geti C hw fl_X13_270 tbM_0 rfl dX13_number_92 ?_
  refine lv_iload_n C.1 C.2.1 dX13_number_95 rfl (lv_at hl 3 rfl) ?_
  refine sh_icmp_eq (tgt := 121) C hf dX13_number_96 (by decide) (fun hf => ?_) (fun hf => ?_)
  · exact wX13_number_121 C hr S v3 v4 hf _ _ _ hw (lv_sub hl [0, 3, 4] rfl)
  · refine lv_aload_n C.1 C.2.1 dX13_number_99 rfl (lv_at hl 0 rfl) ?_
    refine sh_geti C hw fl_X13_270 tbM_0 rfl dX13_number_100 ?_
    refine lv_iload_n C.1 C.2.1 dX13_number_103 rfl (lv_at hl 3 rfl) ?_
    refine lv_isub C.1 C.2.1 dX13_number_104 ?_
    refine lv_iconst (v := 5) C.1 C.2.1 dX13_number_105 (by decide) ?_
    refine sh_icmp_gt (tgt := 121) C hf dX13_number_106 (by decide) (fun hf => ?_) (fun hf => ?_)
    · exact wX13_number_121 C hr S v3 v4 hf _ _ _ hw (lv_sub hl [0, 3, 4] rfl)
    · refine lv_iload C.1 C.2.1 dX13_number_109 (lv_at hl 4 rfl) ?_
      refine lv_iload_n C.1 C.2.1 dX13_number_111 rfl (lv_at hl 1 rfl) ?_
      refine sh_icmp_lt (tgt := 121) C hf dX13_number_112 (by decide) (fun hf => ?_) (fun hf => ?_)
      · exact wX13_number_121 C hr S v3 v4 hf _ _ _ hw (lv_sub hl [0, 3, 4] rfl)
      · refine lv_iload C.1 C.2.1 dX13_number_115 (lv_at hl 4 rfl) ?_
        refine lv_iload_n C.1 C.2.1 dX13_number_117 rfl (lv_at hl 2 rfl) ?_
        refine sh_icmp_le (tgt := 126) C hf dX13_number_118 (by decide) (fun hf => ?_) (fun hf => ?_)
        · refine lv_iload C.1 C.2.1 dX13_number_126 (lv_at hl 4 rfl) ?_
          exact sh_ri C hw hr hf dX13_number_128
        · exact wX13_number_121 C hr S v3 v4 hf _ _ _ hw (lv_sub hl [0, 3, 4] rfl)
def fX13_number_18 : Nat → sh_St → Int32 → Int32 → Int32 → Int32 → Option (Int32 × sh_St)
  | 0, _, _, _, _, _ => none
  | n + 1, S, v1, v2, v3, v4 =>
    if (S.1 0 18) ≤ (S.1 0 19) then (fX13_number_91 S v1 v2 v3 v4)
    else (sh_g (S.1 0 19) 400 (sh_c (fX13_isIn S (S.1 14 (S.1 0 19).toNatClampNeg) 48 57) fun r6 S5 =>
    if r6 = 0 then (fX13_number_91 S5 v1 v2 v3 v4)
    else (if 5 < ((S5.1 0 19) - v3) then (fX13_number_91 S5 v1 v2 v3 v4)
    else (sh_g (S5.1 0 19) 400 (sh_t (((10 * v4) + (S5.1 14 (S5.1 0 19).toNatClampNeg)) - 48) fun y7 =>
    sh_t (sh_I S5 0 19 ((S5.1 0 19) + 1)) fun S8 =>
    (fX13_number_18 n) S8 v1 v2 v3 y7)))))
set_option maxRecDepth 100000 in
set_option maxHeartbeats 4000000 in
theorem wX13_number_18 {p : Program} {l : Launch} {e : Env} {s : State} {m : MethodId} {args : Array Value} {below : List Frame} {meth : Method} {c : Code} {G : sh_Ev} {A : Nat → Prop} {res : Int32 × sh_St} (C : sh_Cx p s m args meth c cX13_number 5 RX13 G A) (hr : meth.sig.returnType = some .int) : ∀ (n : Nat) (S : sh_St) (v1 : Int32) (v2 : Int32) (v3 : Int32) (v4 : Int32), fX13_number_18 n S v1 v2 v3 v4 = some res → ∀ (H : Heap) (locs : List Loc) (ls : Array Slot), sh_Wx G tbM A s H locs S → lv_has ls 5 [(0, .ref (G.2.1 0)), (1, .int v1), (2, .int v2), (3, .int v3), (4, .int v4)] → W p l e (sh_rm 2) s m args below meth c H locs 0 0 (sh_Qi below args s G tbM A res) (F0 m 18 ls []) := by
  intro n
  induction n with
  | zero => intro S v1 v2 v3 v4 hf; exact nomatch (show (none : Option (Int32 × sh_St)) = some res from hf)
  | succ n ih =>
    intro S v1 v2 v3 v4 hf H locs ls hw hl
    have hr18 := ih
    rw [fX13_number_18] at hf
    refine lv_aload_n C.1 C.2.1 dX13_number_18 rfl (lv_at hl 0 rfl) ?_
    refine sh_geti C hw fl_X13_270 tbM_0 rfl dX13_number_19 ?_
    refine lv_aload_n C.1 C.2.1 dX13_number_22 rfl (lv_at hl 0 rfl) ?_
    refine sh_geti C hw fl_X13_267 tbM_0 rfl dX13_number_23 ?_
    refine sh_icmp_ge (tgt := 91) C hf dX13_number_26 (by decide) (fun hf => ?_) (fun hf => ?_)
    · exact wX13_number_91 C hr S v1 v2 v3 v4 hf _ _ _ hw (lv_sub hl [0, 1, 2, 3, 4] rfl)
    · refine lv_aload_n C.1 C.2.1 dX13_number_29 rfl (lv_at hl 0 rfl) ?_
      refine sh_getr C hw fl_X13_51 tbM_0 rfl dX13_number_30 ?_
      refine lv_aload_n C.1 C.2.1 dX13_number_33 rfl (lv_at hl 0 rfl) ?_
      refine sh_geti C hw fl_X13_270 tbM_0 rfl dX13_number_34 ?_
      refine sh_iald C hw hf tbM_14 dX13_number_37 (fun hf => ?_)
      refine lv_bipush (v := 48) C.1 C.2.1 dX13_number_38 (by decide) ?_
      refine lv_bipush (v := 57) C.1 C.2.1 dX13_number_40 (by decide) ?_
      refine sh_Si (As := [.int (S.1 14 (S.1 0 19).toNatClampNeg), .int 48, .int 57]) (rest := []) C hw (kX13_isIn l (S.1 14 (S.1 0 19).toNatClampNeg) 48 57) yy_X13_isIn ys_X13_isIn ml_X13_263 rfl hf rfl rfl rfl (Nat.le_of_ble_eq_true rfl) (by decide) hl.1 dX13_number_42 (fun r6 S5 H locs hw hf => ?_)
      refine sh_if_eq (tgt := 91) C hf dX13_number_45 (by decide) (fun hf => ?_) (fun hf => ?_)
      · exact wX13_number_91 C hr S5 v1 v2 v3 v4 hf _ _ _ hw (lv_sub hl [0, 1, 2, 3, 4] rfl)
      · refine lv_aload_n C.1 C.2.1 dX13_number_48 rfl (lv_at hl 0 rfl) ?_
        refine sh_geti C hw fl_X13_270 tbM_0 rfl dX13_number_49 ?_
        refine lv_iload_n C.1 C.2.1 dX13_number_52 rfl (lv_at hl 3 rfl) ?_
        refine lv_isub C.1 C.2.1 dX13_number_53 ?_
        refine lv_iconst (v := 5) C.1 C.2.1 dX13_number_54 (by decide) ?_
        refine sh_icmp_gt (tgt := 91) C hf dX13_number_55 (by decide) (fun hf => ?_) (fun hf => ?_)
        · exact wX13_number_91 C hr S5 v1 v2 v3 v4 hf _ _ _ hw (lv_sub hl [0, 1, 2, 3, 4] rfl)
        · refine lv_bipush (v := 10) C.1 C.2.1 dX13_number_58 (by decide) ?_
          refine lv_iload C.1 C.2.1 dX13_number_60 (lv_at hl 4 rfl) ?_
          refine lv_imul C.1 C.2.1 dX13_number_62 ?_
          refine lv_aload_n C.1 C.2.1 dX13_number_63 rfl (lv_at hl 0 rfl) ?_
          refine sh_getr C hw fl_X13_51 tbM_0 rfl dX13_number_64 ?_
          refine lv_aload_n C.1 C.2.1 dX13_number_67 rfl (lv_at hl 0 rfl) ?_
          refine sh_geti C hw fl_X13_270 tbM_0 rfl dX13_number_68 ?_
          refine sh_iald C hw hf tbM_14 dX13_number_71 (fun hf => ?_)
          refine lv_iadd C.1 C.2.1 dX13_number_72 ?_
          refine lv_bipush (v := 48) C.1 C.2.1 dX13_number_73 (by decide) ?_
          refine lv_isub C.1 C.2.1 dX13_number_75 ?_
          refine sh_ni hf (fun y7 hf => ?_)
          refine lv_istore (lv' := [(4, .int y7), (0, .ref (G.2.1 0)), (1, .int v1), (2, .int v2), (3, .int v3)]) C.1 C.2.1 dX13_number_76 hl (by decide) rfl (fun ls hl => ?_)
          refine lv_aload_n C.1 C.2.1 dX13_number_78 rfl (lv_at hl 1 rfl) ?_
          refine lv_dup C.1 C.2.1 dX13_number_79 rfl ?_
          refine sh_geti C hw fl_X13_270 tbM_0 rfl dX13_number_80 ?_
          refine lv_iconst (v := 1) C.1 C.2.1 dX13_number_83 (by decide) ?_
          refine lv_iadd C.1 C.2.1 dX13_number_84 ?_
          refine sh_puti C hw fl_X13_270 fp_11_19 hf tbM_0 rfl dX13_number_85 (fun S8 H locs hw hf => ?_)
          refine lv_goto (tgt := 18) C.1 C.2.1 dX13_number_88 (by decide) ?_
          exact hr18 S8 v1 v2 v3 y7 hf _ _ _ hw (lv_sub hl [1, 2, 3, 4, 0] rfl)
def fX13_number (S : sh_St) (v1 : Int32) (v2 : Int32) : Option (Int32 × sh_St) :=
    if (S.1 0 20) = (-1) then (sh_c (fX13_here S ) fun r2 S1 =>
    fX13_number_18 sh_FU S1 v1 v2 r2 0)
    else (some (0, S))
set_option maxRecDepth 100000 in
set_option maxHeartbeats 4000000 in
theorem kX13_number (l : Launch) (v1 : Int32) (v2 : Int32) : sh_Mi l yX13_number cX13_number 5 .int 2 tbM (fun G => [.ref (G.2.1 0), .int v1, .int v2]) (fun S => fX13_number S v1 v2) := by
  refine sh_mki (by decide) (fun G => Nat.le_of_ble_eq_true rfl) ?_
  intro p e s m args below meth c G A S res ls hf C hr hw hl
  have C : sh_Cx p s m args meth c cX13_number 5 RX13 G A := C
  have hl : lv_has ls 5 [(0, .ref (G.2.1 0)), (1, .int v1), (2, .int v2)] := hl
  replace hf : fX13_number S v1 v2 = some res := hf
  rw [fX13_number] at hf
  refine lv_aload_n C.1 C.2.1 dX13_number_0 rfl (lv_at hl 0 rfl) ?_
  refine sh_geti C hw fl_X13_54 tbM_0 rfl dX13_number_1 ?_
  refine lv_iconst (v := -1) C.1 C.2.1 dX13_number_4 (by decide) ?_
  refine sh_icmp_eq (tgt := 10) C hf dX13_number_5 (by decide) (fun hf => ?_) (fun hf => ?_)
  · refine lv_aload_n C.1 C.2.1 dX13_number_10 rfl (lv_at hl 0 rfl) ?_
    refine sh_Vi (As := []) (rest := []) C hw (kX13_here l ) yy_X13_here yv_X13_here ml_X13_273 hf tbM_0 rfl rfl rfl rfl (Nat.le_of_ble_eq_true rfl) (by decide) hl.1 dX13_number_11 (fun r2 S1 H locs hw hf => ?_)
    refine lv_istore_n (lv' := [(3, .int r2), (0, .ref (G.2.1 0)), (1, .int v1), (2, .int v2)]) C.1 C.2.1 dX13_number_14 rfl hl (by decide) rfl (fun ls hl => ?_)
    refine lv_iconst (v := 0) C.1 C.2.1 dX13_number_15 (by decide) ?_
    refine lv_istore (lv' := [(4, .int 0), (3, .int r2), (0, .ref (G.2.1 0)), (1, .int v1), (2, .int v2)]) C.1 C.2.1 dX13_number_16 hl (by decide) rfl (fun ls hl => ?_)
    exact wX13_number_18 C hr _ S1 v1 v2 r2 0 hf _ _ _ hw (lv_sub hl [2, 3, 4, 1, 0] rfl)
  · refine lv_iconst (v := 0) C.1 C.2.1 dX13_number_8 (by decide) ?_
    exact sh_ri C hw hr hf dX13_number_9
def fX13_comesMore_101 (S : sh_St) : Option (Int32 × sh_St) :=
    if (S.1 0 20) = (-1) then (sh_b 1 (some (1, S)))
    else (sh_b 0 (some (0, S)))
set_option maxRecDepth 100000 in
set_option maxHeartbeats 4000000 in
theorem wX13_comesMore_101 {p : Program} {l : Launch} {e : Env} {s : State} {m : MethodId} {args : Array Value} {below : List Frame} {meth : Method} {c : Code} {G : sh_Ev} {A : Nat → Prop} {res : Int32 × sh_St} (C : sh_Cx p s m args meth c cX13_comesMore 2 RX13 G A) (hr : meth.sig.returnType = some .boolean) : ∀ (S : sh_St), fX13_comesMore_101 S = some res → ∀ (H : Heap) (locs : List Loc) (ls : Array Slot), sh_Wx G tbM A s H locs S → lv_has ls 2 [(0, .ref (G.2.1 0))] → W p l e (sh_rm 2) s m args below meth c H locs 0 0 (sh_Qi below args s G tbM A res) (F0 m 101 ls []) := by
  intro S hf H locs ls hw hl
  rw [fX13_comesMore_101] at hf
  refine lv_aload_n C.1 C.2.1 dX13_comesMore_101 rfl (lv_at hl 0 rfl) ?_
  refine sh_geti C hw fl_X13_54 tbM_0 rfl dX13_comesMore_102 ?_
  refine lv_iconst (v := -1) C.1 C.2.1 dX13_comesMore_105 (by decide) ?_
  refine sh_icmp_ne (tgt := 113) C hf dX13_comesMore_106 (by decide) (fun hf => ?_) (fun hf => ?_)
  · refine lv_iconst (v := 0) C.1 C.2.1 dX13_comesMore_113 (by decide) ?_
    exact sh_rz C hw hr hf dX13_comesMore_114
  · refine lv_iconst (v := 1) C.1 C.2.1 dX13_comesMore_109 (by decide) ?_
    refine lv_goto (tgt := 114) C.1 C.2.1 dX13_comesMore_110 (by decide) ?_
    exact sh_rz C hw hr hf dX13_comesMore_114
def fX13_comesMore_79 (S : sh_St) (v1 : Int32) : Option (Int32 × sh_St) :=
    if (S.1 0 20) = (-1) then (if v1 = 14 then (sh_c (fX13_here S ) fun r5 S4 =>
    sh_c (fX13_wrong S4 r5) fun _ S6 =>
    fX13_comesMore_101 S6)
    else (fX13_comesMore_101 S))
    else (fX13_comesMore_101 S)
set_option maxRecDepth 100000 in
set_option maxHeartbeats 4000000 in
theorem wX13_comesMore_79 {p : Program} {l : Launch} {e : Env} {s : State} {m : MethodId} {args : Array Value} {below : List Frame} {meth : Method} {c : Code} {G : sh_Ev} {A : Nat → Prop} {res : Int32 × sh_St} (C : sh_Cx p s m args meth c cX13_comesMore 2 RX13 G A) (hr : meth.sig.returnType = some .boolean) : ∀ (S : sh_St) (v1 : Int32), fX13_comesMore_79 S v1 = some res → ∀ (H : Heap) (locs : List Loc) (ls : Array Slot), sh_Wx G tbM A s H locs S → lv_has ls 2 [(0, .ref (G.2.1 0)), (1, .int v1)] → W p l e (sh_rm 2) s m args below meth c H locs 0 0 (sh_Qi below args s G tbM A res) (F0 m 79 ls []) := by
  intro S v1 hf H locs ls hw hl
  rw [fX13_comesMore_79] at hf
  refine lv_aload_n C.1 C.2.1 dX13_comesMore_79 rfl (lv_at hl 0 rfl) ?_
  refine sh_geti C hw fl_X13_54 tbM_0 rfl dX13_comesMore_80 ?_
  refine lv_iconst (v := -1) C.1 C.2.1 dX13_comesMore_83 (by decide) ?_
  refine sh_icmp_ne (tgt := 101) C hf dX13_comesMore_84 (by decide) (fun hf => ?_) (fun hf => ?_)
  · exact wX13_comesMore_101 C hr S  hf _ _ _ hw (lv_sub hl [0] rfl)
  · refine lv_iload_n C.1 C.2.1 dX13_comesMore_87 rfl (lv_at hl 1 rfl) ?_
    refine lv_bipush (v := 14) C.1 C.2.1 dX13_comesMore_88 (by decide) ?_
    refine sh_icmp_ne (tgt := 101) C hf dX13_comesMore_90 (by decide) (fun hf => ?_) (fun hf => ?_)
    · exact wX13_comesMore_101 C hr S  hf _ _ _ hw (lv_sub hl [0] rfl)
    · refine lv_aload_n C.1 C.2.1 dX13_comesMore_93 rfl (lv_at hl 0 rfl) ?_
      refine lv_aload_n C.1 C.2.1 dX13_comesMore_94 rfl (lv_at hl 0 rfl) ?_
      refine sh_Vi (As := []) (rest := [.ref (G.2.1 0)]) C hw (kX13_here l ) yy_X13_here yv_X13_here ml_X13_273 hf tbM_0 rfl rfl rfl rfl (Nat.le_of_ble_eq_true rfl) (by decide) hl.1 dX13_comesMore_95 (fun r5 S4 H locs hw hf => ?_)
      refine sh_Vv (As := [.int r5]) (rest := []) C hw (kX13_wrong l r5) yy_X13_wrong yv_X13_wrong ml_X13_292 hf tbM_0 rfl rfl rfl rfl (Nat.le_of_ble_eq_true rfl) (by decide) hl.1 dX13_comesMore_98 (fun S6 H locs hw hf => ?_)
      exact wX13_comesMore_101 C hr S6  hf _ _ _ hw (lv_sub hl [0] rfl)
def fX13_comesMore (S : sh_St) (v1 : Int32) : Option (Int32 × sh_St) :=
    if (S.1 0 20) = (-1) then (if v1 = 0 then (sh_c (fX13_here S ) fun r11 S10 =>
    if (S10.1 0 18) ≤ r11 then (sh_b 0 (some (0, S10)))
    else (sh_b 1 (some (1, S10))))
    else (sh_c (fX13_here S ) fun r2 S1 =>
    if r2 = (S1.1 0 18) then (sh_b 0 (some (0, S1)))
    else (sh_g (S1.1 0 19) 400 (if (S1.1 14 (S1.1 0 19).toNatClampNeg) = 59 then (sh_t (sh_I S1 0 19 ((S1.1 0 19) + 1)) fun S3 =>
    fX13_comesMore_79 S3 v1)
    else (sh_c (fX13_wrong S1 (S1.1 0 19)) fun _ S8 =>
    fX13_comesMore_79 S8 v1)))))
    else (sh_b 0 (some (0, S)))
set_option maxRecDepth 100000 in
set_option maxHeartbeats 4000000 in
theorem kX13_comesMore (l : Launch) (v1 : Int32) : sh_Mi l yX13_comesMore cX13_comesMore 2 .boolean 2 tbM (fun G => [.ref (G.2.1 0), .int v1]) (fun S => fX13_comesMore S v1) := by
  refine sh_mki (by decide) (fun G => Nat.le_of_ble_eq_true rfl) ?_
  intro p e s m args below meth c G A S res ls hf C hr hw hl
  have C : sh_Cx p s m args meth c cX13_comesMore 2 RX13 G A := C
  have hl : lv_has ls 2 [(0, .ref (G.2.1 0)), (1, .int v1)] := hl
  replace hf : fX13_comesMore S v1 = some res := hf
  rw [fX13_comesMore] at hf
  refine lv_aload_n C.1 C.2.1 dX13_comesMore_0 rfl (lv_at hl 0 rfl) ?_
  refine sh_geti C hw fl_X13_54 tbM_0 rfl dX13_comesMore_1 ?_
  refine lv_iconst (v := -1) C.1 C.2.1 dX13_comesMore_4 (by decide) ?_
  refine sh_icmp_eq (tgt := 10) C hf dX13_comesMore_5 (by decide) (fun hf => ?_) (fun hf => ?_)
  · refine lv_iload_n C.1 C.2.1 dX13_comesMore_10 rfl (lv_at hl 1 rfl) ?_
    refine sh_if_ne (tgt := 31) C hf dX13_comesMore_11 (by decide) (fun hf => ?_) (fun hf => ?_)
    · refine lv_aload_n C.1 C.2.1 dX13_comesMore_31 rfl (lv_at hl 0 rfl) ?_
      refine sh_Vi (As := []) (rest := []) C hw (kX13_here l ) yy_X13_here yv_X13_here ml_X13_273 hf tbM_0 rfl rfl rfl rfl (Nat.le_of_ble_eq_true rfl) (by decide) hl.1 dX13_comesMore_32 (fun r2 S1 H locs hw hf => ?_)
      refine lv_aload_n C.1 C.2.1 dX13_comesMore_35 rfl (lv_at hl 0 rfl) ?_
      refine sh_geti C hw fl_X13_267 tbM_0 rfl dX13_comesMore_36 ?_
      refine sh_icmp_ne (tgt := 44) C hf dX13_comesMore_39 (by decide) (fun hf => ?_) (fun hf => ?_)
      · refine lv_aload_n C.1 C.2.1 dX13_comesMore_44 rfl (lv_at hl 0 rfl) ?_
        refine sh_getr C hw fl_X13_51 tbM_0 rfl dX13_comesMore_45 ?_
        refine lv_aload_n C.1 C.2.1 dX13_comesMore_48 rfl (lv_at hl 0 rfl) ?_
        refine sh_geti C hw fl_X13_270 tbM_0 rfl dX13_comesMore_49 ?_
        refine sh_iald C hw hf tbM_14 dX13_comesMore_52 (fun hf => ?_)
        refine lv_bipush (v := 59) C.1 C.2.1 dX13_comesMore_53 (by decide) ?_
        refine sh_icmp_eq (tgt := 69) C hf dX13_comesMore_55 (by decide) (fun hf => ?_) (fun hf => ?_)
        · refine lv_aload_n C.1 C.2.1 dX13_comesMore_69 rfl (lv_at hl 0 rfl) ?_
          refine lv_dup C.1 C.2.1 dX13_comesMore_70 rfl ?_
          refine sh_geti C hw fl_X13_270 tbM_0 rfl dX13_comesMore_71 ?_
          refine lv_iconst (v := 1) C.1 C.2.1 dX13_comesMore_74 (by decide) ?_
          refine lv_iadd C.1 C.2.1 dX13_comesMore_75 ?_
          refine sh_puti C hw fl_X13_270 fp_11_19 hf tbM_0 rfl dX13_comesMore_76 (fun S3 H locs hw hf => ?_)
          exact wX13_comesMore_79 C hr S3 v1 hf _ _ _ hw (lv_sub hl [0, 1] rfl)
        · refine lv_aload_n C.1 C.2.1 dX13_comesMore_58 rfl (lv_at hl 0 rfl) ?_
          refine lv_aload_n C.1 C.2.1 dX13_comesMore_59 rfl (lv_at hl 0 rfl) ?_
          refine sh_geti C hw fl_X13_270 tbM_0 rfl dX13_comesMore_60 ?_
          refine sh_Vv (As := [.int (S1.1 0 19)]) (rest := []) C hw (kX13_wrong l (S1.1 0 19)) yy_X13_wrong yv_X13_wrong ml_X13_292 hf tbM_0 rfl rfl rfl rfl (Nat.le_of_ble_eq_true rfl) (by decide) hl.1 dX13_comesMore_63 (fun S8 H locs hw hf => ?_)
          refine lv_goto (tgt := 79) C.1 C.2.1 dX13_comesMore_66 (by decide) ?_
          exact wX13_comesMore_79 C hr S8 v1 hf _ _ _ hw (lv_sub hl [0, 1] rfl)
      · refine lv_iconst (v := 0) C.1 C.2.1 dX13_comesMore_42 (by decide) ?_
        exact sh_rz C hw hr hf dX13_comesMore_43
    · refine lv_aload_n C.1 C.2.1 dX13_comesMore_14 rfl (lv_at hl 0 rfl) ?_
      refine sh_Vi (As := []) (rest := []) C hw (kX13_here l ) yy_X13_here yv_X13_here ml_X13_273 hf tbM_0 rfl rfl rfl rfl (Nat.le_of_ble_eq_true rfl) (by decide) hl.1 dX13_comesMore_15 (fun r11 S10 H locs hw hf => ?_)
      refine lv_aload_n C.1 C.2.1 dX13_comesMore_18 rfl (lv_at hl 0 rfl) ?_
      refine sh_geti C hw fl_X13_267 tbM_0 rfl dX13_comesMore_19 ?_
      refine sh_icmp_ge (tgt := 29) C hf dX13_comesMore_22 (by decide) (fun hf => ?_) (fun hf => ?_)
      · refine lv_iconst (v := 0) C.1 C.2.1 dX13_comesMore_29 (by decide) ?_
        exact sh_rz C hw hr hf dX13_comesMore_30
      · refine lv_iconst (v := 1) C.1 C.2.1 dX13_comesMore_25 (by decide) ?_
        refine lv_goto (tgt := 30) C.1 C.2.1 dX13_comesMore_26 (by decide) ?_
        exact sh_rz C hw hr hf dX13_comesMore_30
  · refine lv_iconst (v := 0) C.1 C.2.1 dX13_comesMore_8 (by decide) ?_
    exact sh_rz C hw hr hf dX13_comesMore_9
def fX13_isName_65 (S : sh_St) (t0 : Int32) : Option (Int32 × sh_St) :=
    sh_t (sh_I S 0 0 t0) fun S6 =>
    if (S6.1 0 20) = (-1) then (sh_b 1 (some (1, S6)))
    else (sh_b 0 (some (0, S6)))
set_option maxRecDepth 100000 in
set_option maxHeartbeats 4000000 in
theorem wX13_isName_65 {p : Program} {l : Launch} {e : Env} {s : State} {m : MethodId} {args : Array Value} {below : List Frame} {meth : Method} {c : Code} {G : sh_Ev} {A : Nat → Prop} {res : Int32 × sh_St} (C : sh_Cx p s m args meth c cX13_isName 2 RX13 G A) (hr : meth.sig.returnType = some .boolean) : ∀ (S : sh_St) (t0 : Int32), fX13_isName_65 S t0 = some res → ∀ (H : Heap) (locs : List Loc) (ls : Array Slot), sh_Wx G tbM A s H locs S → lv_has ls 2 [(0, .ref (G.2.1 0))] → W p l e (sh_rm 5) s m args below meth c H locs 0 0 (sh_Qi below args s G tbM A res) (F0 m 65 ls [.int t0, .ref (G.2.1 0)]) := by
  intro S t0 hf H locs ls hw hl
  rw [fX13_isName_65] at hf
  refine sh_puti C hw fl_X13_79 fp_11_0 hf tbM_0 rfl dX13_isName_65 (fun S6 H locs hw hf => ?_)
  refine lv_aload_n C.1 C.2.1 dX13_isName_68 rfl (lv_at hl 0 rfl) ?_
  refine sh_geti C hw fl_X13_54 tbM_0 rfl dX13_isName_69 ?_
  refine lv_iconst (v := -1) C.1 C.2.1 dX13_isName_72 (by decide) ?_
  refine sh_icmp_ne (tgt := 80) C hf dX13_isName_73 (by decide) (fun hf => ?_) (fun hf => ?_)
  · refine lv_iconst (v := 0) C.1 C.2.1 dX13_isName_80 (by decide) ?_
    exact sh_rz C hw hr hf dX13_isName_81
  · refine lv_iconst (v := 1) C.1 C.2.1 dX13_isName_76 (by decide) ?_
    refine lv_goto (tgt := 81) C.1 C.2.1 dX13_isName_77 (by decide) ?_
    exact sh_rz C hw hr hf dX13_isName_81
def fX13_isName_51 (S : sh_St) : Option (Int32 × sh_St) :=
    if (S.1 0 20) = (-1) then (fX13_isName_65 S 0)
    else (fX13_isName_65 S 1)
set_option maxRecDepth 100000 in
set_option maxHeartbeats 4000000 in
theorem wX13_isName_51 {p : Program} {l : Launch} {e : Env} {s : State} {m : MethodId} {args : Array Value} {below : List Frame} {meth : Method} {c : Code} {G : sh_Ev} {A : Nat → Prop} {res : Int32 × sh_St} (C : sh_Cx p s m args meth c cX13_isName 2 RX13 G A) (hr : meth.sig.returnType = some .boolean) : ∀ (S : sh_St), fX13_isName_51 S = some res → ∀ (H : Heap) (locs : List Loc) (ls : Array Slot), sh_Wx G tbM A s H locs S → lv_has ls 2 [(0, .ref (G.2.1 0))] → W p l e (sh_rm 5) s m args below meth c H locs 0 0 (sh_Qi below args s G tbM A res) (F0 m 51 ls []) := by
  intro S hf H locs ls hw hl
  rw [fX13_isName_51] at hf
  refine lv_aload_n C.1 C.2.1 dX13_isName_51 rfl (lv_at hl 0 rfl) ?_
  refine lv_aload_n C.1 C.2.1 dX13_isName_52 rfl (lv_at hl 0 rfl) ?_
  refine sh_geti C hw fl_X13_54 tbM_0 rfl dX13_isName_53 ?_
  refine lv_iconst (v := -1) C.1 C.2.1 dX13_isName_56 (by decide) ?_
  refine sh_icmp_ne (tgt := 64) C hf dX13_isName_57 (by decide) (fun hf => ?_) (fun hf => ?_)
  · refine lv_iconst (v := 1) C.1 C.2.1 dX13_isName_64 (by decide) ?_
    exact wX13_isName_65 C hr S 1 hf _ _ _ hw (lv_sub hl [0] rfl)
  · refine lv_iconst (v := 0) C.1 C.2.1 dX13_isName_60 (by decide) ?_
    refine lv_goto (tgt := 65) C.1 C.2.1 dX13_isName_61 (by decide) ?_
    exact wX13_isName_65 C hr S 0 hf _ _ _ hw (lv_sub hl [0] rfl)
def fX13_isName_24 (S : sh_St) : Option (Int32 × sh_St) :=
    if (S.1 0 20) = (-1) then (sh_c (fX13_here S ) fun r8 S7 =>
    if (S7.1 0 18) ≤ r8 then (fX13_isName_51 S7)
    else (sh_c (fX13_wrong S7 (S7.1 0 19)) fun _ S9 =>
    fX13_isName_51 S9))
    else (fX13_isName_51 S)
set_option maxRecDepth 100000 in
set_option maxHeartbeats 4000000 in
theorem wX13_isName_24 {p : Program} {l : Launch} {e : Env} {s : State} {m : MethodId} {args : Array Value} {below : List Frame} {meth : Method} {c : Code} {G : sh_Ev} {A : Nat → Prop} {res : Int32 × sh_St} (C : sh_Cx p s m args meth c cX13_isName 2 RX13 G A) (hr : meth.sig.returnType = some .boolean) : ∀ (S : sh_St), fX13_isName_24 S = some res → ∀ (H : Heap) (locs : List Loc) (ls : Array Slot), sh_Wx G tbM A s H locs S → lv_has ls 2 [(0, .ref (G.2.1 0))] → W p l e (sh_rm 5) s m args below meth c H locs 0 0 (sh_Qi below args s G tbM A res) (F0 m 24 ls []) := by
  intro S hf H locs ls hw hl
  rw [fX13_isName_24] at hf
  refine lv_aload_n C.1 C.2.1 dX13_isName_24 rfl (lv_at hl 0 rfl) ?_
  refine sh_geti C hw fl_X13_54 tbM_0 rfl dX13_isName_25 ?_
  refine lv_iconst (v := -1) C.1 C.2.1 dX13_isName_28 (by decide) ?_
  refine sh_icmp_ne (tgt := 51) C hf dX13_isName_29 (by decide) (fun hf => ?_) (fun hf => ?_)
  · exact wX13_isName_51 C hr S  hf _ _ _ hw (lv_sub hl [0] rfl)
  · refine lv_aload_n C.1 C.2.1 dX13_isName_32 rfl (lv_at hl 0 rfl) ?_
    refine sh_Vi (As := []) (rest := []) C hw (kX13_here l ) yy_X13_here yv_X13_here ml_X13_273 hf tbM_0 rfl rfl rfl rfl (Nat.le_of_ble_eq_true rfl) (by decide) hl.1 dX13_isName_33 (fun r8 S7 H locs hw hf => ?_)
    refine lv_aload_n C.1 C.2.1 dX13_isName_36 rfl (lv_at hl 0 rfl) ?_
    refine sh_geti C hw fl_X13_267 tbM_0 rfl dX13_isName_37 ?_
    refine sh_icmp_ge (tgt := 51) C hf dX13_isName_40 (by decide) (fun hf => ?_) (fun hf => ?_)
    · exact wX13_isName_51 C hr S7  hf _ _ _ hw (lv_sub hl [0] rfl)
    · refine lv_aload_n C.1 C.2.1 dX13_isName_43 rfl (lv_at hl 0 rfl) ?_
      refine lv_aload_n C.1 C.2.1 dX13_isName_44 rfl (lv_at hl 0 rfl) ?_
      refine sh_geti C hw fl_X13_270 tbM_0 rfl dX13_isName_45 ?_
      refine sh_Vv (As := [.int (S7.1 0 19)]) (rest := []) C hw (kX13_wrong l (S7.1 0 19)) yy_X13_wrong yv_X13_wrong ml_X13_292 hf tbM_0 rfl rfl rfl rfl (Nat.le_of_ble_eq_true rfl) (by decide) hl.1 dX13_isName_48 (fun S9 H locs hw hf => ?_)
      exact wX13_isName_51 C hr S9  hf _ _ _ hw (lv_sub hl [0] rfl)
def fX13_isName (S : sh_St) (v1 : Int32) : Option (Int32 × sh_St) :=
    sh_c (fX13_begins S ) fun _ S1 =>
    sh_c (fX13_name S1 ) fun r4 S3 =>
    sh_t (sh_L S3 0 22 r4) fun S5 =>
    if v1 = 0 then (fX13_isName_24 S5)
    else (sh_c (fX13_name S5 ) fun r12 S11 =>
    sh_t (sh_L S11 0 23 r12) fun S13 =>
    fX13_isName_24 S13)
set_option maxRecDepth 100000 in
set_option maxHeartbeats 4000000 in
theorem kX13_isName (l : Launch) (v1 : Int32) : sh_Mi l yX13_isName cX13_isName 2 .boolean 5 tbM (fun G => [.ref (G.2.1 0), .int v1]) (fun S => fX13_isName S v1) := by
  refine sh_mki (by decide) (fun G => Nat.le_of_ble_eq_true rfl) ?_
  intro p e s m args below meth c G A S res ls hf C hr hw hl
  have C : sh_Cx p s m args meth c cX13_isName 2 RX13 G A := C
  have hl : lv_has ls 2 [(0, .ref (G.2.1 0)), (1, .int v1)] := hl
  replace hf : fX13_isName S v1 = some res := hf
  rw [fX13_isName] at hf
  refine lv_aload_n C.1 C.2.1 dX13_isName_0 rfl (lv_at hl 0 rfl) ?_
  refine sh_Vv (As := []) (rest := []) C hw (kX13_begins l ) yy_X13_begins yv_X13_begins ml_X13_340 hf tbM_0 rfl rfl rfl rfl (Nat.le_of_ble_eq_true rfl) (by decide) hl.1 dX13_isName_1 (fun S1 H locs hw hf => ?_)
  refine lv_aload_n C.1 C.2.1 dX13_isName_4 rfl (lv_at hl 0 rfl) ?_
  refine lv_aload_n C.1 C.2.1 dX13_isName_5 rfl (lv_at hl 0 rfl) ?_
  refine sh_Vl (As := []) (rest := [.ref (G.2.1 0)]) C hw (kX13_name l ) yy_X13_name yv_X13_name ml_X13_301 hf tbM_0 rfl rfl rfl rfl (Nat.le_of_ble_eq_true rfl) (by decide) hl.1 dX13_isName_6 (fun r4 S3 H locs hw hf => ?_)
  refine sh_putl C hw fl_X13_355 fp_11_22 hf tbM_0 rfl dX13_isName_9 (fun S5 H locs hw hf => ?_)
  refine lv_iload_n C.1 C.2.1 dX13_isName_12 rfl (lv_at hl 1 rfl) ?_
  refine sh_if_eq (tgt := 24) C hf dX13_isName_13 (by decide) (fun hf => ?_) (fun hf => ?_)
  · exact wX13_isName_24 C hr S5  hf _ _ _ hw (lv_sub hl [0] rfl)
  · refine lv_aload_n C.1 C.2.1 dX13_isName_16 rfl (lv_at hl 0 rfl) ?_
    refine lv_aload_n C.1 C.2.1 dX13_isName_17 rfl (lv_at hl 0 rfl) ?_
    refine sh_Vl (As := []) (rest := [.ref (G.2.1 0)]) C hw (kX13_name l ) yy_X13_name yv_X13_name ml_X13_301 hf tbM_0 rfl rfl rfl rfl (Nat.le_of_ble_eq_true rfl) (by decide) hl.1 dX13_isName_18 (fun r12 S11 H locs hw hf => ?_)
    refine sh_putl C hw fl_X13_359 fp_11_23 hf tbM_0 rfl dX13_isName_21 (fun S13 H locs hw hf => ?_)
    exact wX13_isName_24 C hr S13  hf _ _ _ hw (lv_sub hl [0] rfl)
def fX13_fault (S : sh_St) : Option (Int32 × sh_St) :=
    sh_t (sh_I S 0 0 0) fun S1 =>
    some (S1.1 0 20, S1)
set_option maxRecDepth 100000 in
set_option maxHeartbeats 4000000 in
theorem kX13_fault (l : Launch) : sh_Mi l yX13_fault cX13_fault 1 .int 1 tbM (fun G => [.ref (G.2.1 0)]) (fun S => fX13_fault S) := by
  refine sh_mki (by decide) (fun G => Nat.le_of_ble_eq_true rfl) ?_
  intro p e s m args below meth c G A S res ls hf C hr hw hl
  have C : sh_Cx p s m args meth c cX13_fault 1 RX13 G A := C
  have hl : lv_has ls 1 [(0, .ref (G.2.1 0))] := hl
  replace hf : fX13_fault S = some res := hf
  rw [fX13_fault] at hf
  refine lv_aload_n C.1 C.2.1 dX13_fault_0 rfl (lv_at hl 0 rfl) ?_
  refine lv_iconst (v := 0) C.1 C.2.1 dX13_fault_1 (by decide) ?_
  refine sh_puti C hw fl_X13_79 fp_11_0 hf tbM_0 rfl dX13_fault_2 (fun S1 H locs hw hf => ?_)
  refine lv_aload_n C.1 C.2.1 dX13_fault_5 rfl (lv_at hl 0 rfl) ?_
  refine sh_geti C hw fl_X13_54 tbM_0 rfl dX13_fault_6 ?_
  exact sh_ri C hw hr hf dX13_fault_9
def fX13_why (S : sh_St) : Option (Int32 × sh_St) :=
    sh_t (sh_I S 0 0 0) fun S1 =>
    some (S1.1 0 21, S1)
set_option maxRecDepth 100000 in
set_option maxHeartbeats 4000000 in
theorem kX13_why (l : Launch) : sh_Mi l yX13_why cX13_why 1 .int 1 tbM (fun G => [.ref (G.2.1 0)]) (fun S => fX13_why S) := by
  refine sh_mki (by decide) (fun G => Nat.le_of_ble_eq_true rfl) ?_
  intro p e s m args below meth c G A S res ls hf C hr hw hl
  have C : sh_Cx p s m args meth c cX13_why 1 RX13 G A := C
  have hl : lv_has ls 1 [(0, .ref (G.2.1 0))] := hl
  replace hf : fX13_why S = some res := hf
  rw [fX13_why] at hf
  refine lv_aload_n C.1 C.2.1 dX13_why_0 rfl (lv_at hl 0 rfl) ?_
  refine lv_iconst (v := 0) C.1 C.2.1 dX13_why_1 (by decide) ?_
  refine sh_puti C hw fl_X13_79 fp_11_0 hf tbM_0 rfl dX13_why_2 (fun S1 H locs hw hf => ?_)
  refine lv_aload_n C.1 C.2.1 dX13_why_5 rfl (lv_at hl 0 rfl) ?_
  refine sh_geti C hw fl_X13_254 tbM_0 rfl dX13_why_6 ?_
  exact sh_ri C hw hr hf dX13_why_9
def fX13_cut_51 (S : sh_St) (t0 : Int32) : Option (Int32 × sh_St) :=
    sh_c (fX13_cut0 S (S.2 0 22)) fun r8 S7 =>
    sh_c (fX13_isDone S7 r8 2) fun r10 S9 =>
    if r10 = 0 then (some (0, S9))
    else (some (t0, S9))
set_option maxRecDepth 100000 in
set_option maxHeartbeats 4000000 in
theorem wX13_cut_51 {p : Program} {l : Launch} {e : Env} {s : State} {m : MethodId} {args : Array Value} {below : List Frame} {meth : Method} {c : Code} {G : sh_Ev} {A : Nat → Prop} {res : Int32 × sh_St} (C : sh_Cx p s m args meth c cX13_cut 3 RX13 G A) (hr : meth.sig.returnType = some .int) : ∀ (S : sh_St) (t0 : Int32), fX13_cut_51 S t0 = some res → ∀ (H : Heap) (locs : List Loc) (ls : Array Slot), sh_Wx G tbM A s H locs S → lv_has ls 3 [(0, .ref (G.2.1 0))] → W p l e (sh_rm 7) s m args below meth c H locs 0 0 (sh_Qi below args s G tbM A res) (F0 m 51 ls [.int t0]) := by
  intro S t0 hf H locs ls hw hl
  rw [fX13_cut_51] at hf
  refine lv_istore_n (lv' := [(2, .int t0), (0, .ref (G.2.1 0))]) C.1 C.2.1 dX13_cut_51 rfl hl (by decide) rfl (fun ls hl => ?_)
  refine lv_aload_n C.1 C.2.1 dX13_cut_52 rfl (lv_at hl 1 rfl) ?_
  refine lv_aload_n C.1 C.2.1 dX13_cut_53 rfl (lv_at hl 1 rfl) ?_
  refine lv_aload_n C.1 C.2.1 dX13_cut_54 rfl (lv_at hl 1 rfl) ?_
  refine sh_getl C hw fl_X13_355 tbM_0 rfl dX13_cut_55 ?_
  refine sh_Vi (As := [.long (S.2 0 22)]) (rest := [.ref (G.2.1 0)]) C hw (kX13_cut0 l (S.2 0 22)) yy_X13_cut0 yv_X13_cut0 ml_X13_313 hf tbM_0 rfl rfl rfl rfl (Nat.le_of_ble_eq_true rfl) (by decide) hl.1 dX13_cut_58 (fun r8 S7 H locs hw hf => ?_)
  refine lv_iconst (v := 2) C.1 C.2.1 dX13_cut_61 (by decide) ?_
  refine sh_Vi (As := [.int r8, .int 2]) (rest := []) C hw (kX13_isDone l r8 2) yy_X13_isDone yv_X13_isDone ml_X13_366 hf tbM_0 rfl rfl rfl rfl (Nat.le_of_ble_eq_true rfl) (by decide) hl.1 dX13_cut_62 (fun r10 S9 H locs hw hf => ?_)
  refine sh_if_eq (tgt := 72) C hf dX13_cut_65 (by decide) (fun hf => ?_) (fun hf => ?_)
  · refine lv_iconst (v := 0) C.1 C.2.1 dX13_cut_72 (by decide) ?_
    exact sh_ri C hw hr hf dX13_cut_73
  · refine lv_iload_n C.1 C.2.1 dX13_cut_68 rfl (lv_at hl 0 rfl) ?_
    refine lv_goto (tgt := 73) C.1 C.2.1 dX13_cut_69 (by decide) ?_
    exact sh_ri C hw hr hf dX13_cut_73
def fX13_cut (S : sh_St) : Option (Int32 × sh_St) :=
    sh_c (fX13_isName S 0) fun r2 S1 =>
    if r2 = 0 then (some (0, S1))
    else (sh_c (fX13_putsAside S1 ) fun _ S3 =>
    sh_c (fX13_seeks S3 (S3.2 0 22)) fun r6 S5 =>
    if r6 = 0 then (fX13_cut_51 S5 0)
    else (sh_c (fX13_slotAt S5 (S5.1 0 30) (S5.1 0 31)) fun r12 S11 =>
    sh_g (840 + r12) 1084 (fX13_cut_51 S11 (S11.1 1 (840 + r12).toNatClampNeg))))
set_option maxRecDepth 100000 in
set_option maxHeartbeats 4000000 in
theorem kX13_cut (l : Launch) : sh_Mi l yX13_cut cX13_cut 3 .int 7 tbM (fun G => [.ref (G.2.1 0)]) (fun S => fX13_cut S) := by
  refine sh_mki (by decide) (fun G => Nat.le_of_ble_eq_true rfl) ?_
  intro p e s m args below meth c G A S res ls hf C hr hw hl
  have C : sh_Cx p s m args meth c cX13_cut 3 RX13 G A := C
  have hl : lv_has ls 3 [(0, .ref (G.2.1 0))] := hl
  replace hf : fX13_cut S = some res := hf
  rw [fX13_cut] at hf
  refine lv_aload_n C.1 C.2.1 dX13_cut_0 rfl (lv_at hl 0 rfl) ?_
  refine lv_iconst (v := 0) C.1 C.2.1 dX13_cut_1 (by decide) ?_
  refine sh_Vi (As := [.int 0]) (rest := []) C hw (kX13_isName l 0) yy_X13_isName yv_X13_isName ml_X13_362 hf tbM_0 rfl rfl rfl rfl (Nat.le_of_ble_eq_true rfl) (by decide) hl.1 dX13_cut_2 (fun r2 S1 H locs hw hf => ?_)
  refine sh_if_ne (tgt := 10) C hf dX13_cut_5 (by decide) (fun hf => ?_) (fun hf => ?_)
  · refine lv_aload_n C.1 C.2.1 dX13_cut_10 rfl (lv_at hl 0 rfl) ?_
    refine sh_Vv (As := []) (rest := []) C hw (kX13_putsAside l ) yy_X13_putsAside yv_X13_putsAside ml_X13_343 hf tbM_0 rfl rfl rfl rfl (Nat.le_of_ble_eq_true rfl) (by decide) hl.1 dX13_cut_11 (fun S3 H locs hw hf => ?_)
    refine lv_aload_n C.1 C.2.1 dX13_cut_14 rfl (lv_at hl 0 rfl) ?_
    refine lv_aload_n C.1 C.2.1 dX13_cut_15 rfl (lv_at hl 0 rfl) ?_
    refine sh_getl C hw fl_X13_355 tbM_0 rfl dX13_cut_16 ?_
    refine sh_Vi (As := [.long (S3.2 0 22)]) (rest := []) C hw (kX13_seeks l (S3.2 0 22)) yy_X13_seeks yv_X13_seeks ml_X13_226 hf tbM_0 rfl rfl rfl rfl (Nat.le_of_ble_eq_true rfl) (by decide) hl.1 dX13_cut_19 (fun r6 S5 H locs hw hf => ?_)
    refine lv_istore_n (lv' := [(1, .int r6), (0, .ref (G.2.1 0))]) C.1 C.2.1 dX13_cut_22 rfl hl (by decide) rfl (fun ls hl => ?_)
    refine lv_iload_n C.1 C.2.1 dX13_cut_23 rfl (lv_at hl 0 rfl) ?_
    refine sh_if_eq (tgt := 50) C hf dX13_cut_24 (by decide) (fun hf => ?_) (fun hf => ?_)
    · refine lv_iconst (v := 0) C.1 C.2.1 dX13_cut_50 (by decide) ?_
      exact wX13_cut_51 C hr S5 0 hf _ _ _ hw (lv_sub hl [1] rfl)
    · refine lv_aload_n C.1 C.2.1 dX13_cut_27 rfl (lv_at hl 1 rfl) ?_
      refine sh_getr C hw fl_X13_7 tbM_0 rfl dX13_cut_28 ?_
      refine lv_sipush (v := 840) C.1 C.2.1 dX13_cut_31 (by decide) ?_
      refine lv_aload_n C.1 C.2.1 dX13_cut_34 rfl (lv_at hl 1 rfl) ?_
      refine sh_geti C hw fl_X13_150 tbM_0 rfl dX13_cut_35 ?_
      refine lv_aload_n C.1 C.2.1 dX13_cut_38 rfl (lv_at hl 1 rfl) ?_
      refine sh_geti C hw fl_X13_153 tbM_0 rfl dX13_cut_39 ?_
      refine sh_Si (As := [.int (S5.1 0 30), .int (S5.1 0 31)]) (rest := [.int 840, .ref (G.2.1 1)]) C hw (kX13_slotAt l (S5.1 0 30) (S5.1 0 31)) yy_X13_slotAt ys_X13_slotAt ml_X13_82 rfl hf rfl rfl rfl (Nat.le_of_ble_eq_true rfl) (by decide) hl.1 dX13_cut_42 (fun r12 S11 H locs hw hf => ?_)
      refine lv_iadd C.1 C.2.1 dX13_cut_45 ?_
      refine sh_iald C hw hf tbM_1 dX13_cut_46 (fun hf => ?_)
      refine lv_goto (tgt := 51) C.1 C.2.1 dX13_cut_47 (by decide) ?_
      exact wX13_cut_51 C hr S11 (S11.1 1 (840 + r12).toNatClampNeg) hf _ _ _ hw (lv_sub hl [1] rfl)
  · refine lv_iconst (v := 0) C.1 C.2.1 dX13_cut_8 (by decide) ?_
    exact sh_ri C hw hr hf dX13_cut_9
def fX13_build (S : sh_St) : Option (Int32 × sh_St) :=
    sh_c (fX13_putsAside S ) fun _ S1 =>
    sh_g 1081 1084 (sh_g 1082 1084 (sh_g 1083 1084 (sh_c (fX13_build0 S1 (S1.1 1 (1081 : Int32).toNatClampNeg) (S1.1 1 (1082 : Int32).toNatClampNeg) (S1.1 1 (1083 : Int32).toNatClampNeg)) fun r4 S3 =>
    sh_c (fX13_isDone S3 r4 1) fun r6 S5 =>
    if r6 = 0 then (some (0, S5))
    else (sh_c (fX13_countOf S5 0 0) fun r8 S7 =>
    some (40 - r8, S7)))))
set_option maxRecDepth 100000 in
set_option maxHeartbeats 4000000 in
theorem kX13_build (l : Launch) : sh_Mi l yX13_build cX13_build 1 .int 6 tbM (fun G => [.ref (G.2.1 0)]) (fun S => fX13_build S) := by
  refine sh_mki (by decide) (fun G => Nat.le_of_ble_eq_true rfl) ?_
  intro p e s m args below meth c G A S res ls hf C hr hw hl
  have C : sh_Cx p s m args meth c cX13_build 1 RX13 G A := C
  have hl : lv_has ls 1 [(0, .ref (G.2.1 0))] := hl
  replace hf : fX13_build S = some res := hf
  rw [fX13_build] at hf
  refine lv_aload_n C.1 C.2.1 dX13_build_0 rfl (lv_at hl 0 rfl) ?_
  refine sh_Vv (As := []) (rest := []) C hw (kX13_putsAside l ) yy_X13_putsAside yv_X13_putsAside ml_X13_343 hf tbM_0 rfl rfl rfl rfl (Nat.le_of_ble_eq_true rfl) (by decide) hl.1 dX13_build_1 (fun S1 H locs hw hf => ?_)
  refine lv_aload_n C.1 C.2.1 dX13_build_4 rfl (lv_at hl 0 rfl) ?_
  refine lv_aload_n C.1 C.2.1 dX13_build_5 rfl (lv_at hl 0 rfl) ?_
  refine lv_aload_n C.1 C.2.1 dX13_build_6 rfl (lv_at hl 0 rfl) ?_
  refine sh_getr C hw fl_X13_7 tbM_0 rfl dX13_build_7 ?_
  refine lv_sipush (v := 1081) C.1 C.2.1 dX13_build_10 (by decide) ?_
  refine sh_iald C hw hf tbM_1 dX13_build_13 (fun hf => ?_)
  refine lv_aload_n C.1 C.2.1 dX13_build_14 rfl (lv_at hl 0 rfl) ?_
  refine sh_getr C hw fl_X13_7 tbM_0 rfl dX13_build_15 ?_
  refine lv_sipush (v := 1082) C.1 C.2.1 dX13_build_18 (by decide) ?_
  refine sh_iald C hw hf tbM_1 dX13_build_21 (fun hf => ?_)
  refine lv_aload_n C.1 C.2.1 dX13_build_22 rfl (lv_at hl 0 rfl) ?_
  refine sh_getr C hw fl_X13_7 tbM_0 rfl dX13_build_23 ?_
  refine lv_sipush (v := 1083) C.1 C.2.1 dX13_build_26 (by decide) ?_
  refine sh_iald C hw hf tbM_1 dX13_build_29 (fun hf => ?_)
  refine sh_Vi (As := [.int (S1.1 1 (1081 : Int32).toNatClampNeg), .int (S1.1 1 (1082 : Int32).toNatClampNeg), .int (S1.1 1 (1083 : Int32).toNatClampNeg)]) (rest := [.ref (G.2.1 0)]) C hw (kX13_build0 l (S1.1 1 (1081 : Int32).toNatClampNeg) (S1.1 1 (1082 : Int32).toNatClampNeg) (S1.1 1 (1083 : Int32).toNatClampNeg)) yy_X13_build0 yv_X13_build0 ml_X13_248 hf tbM_0 rfl rfl rfl rfl (Nat.le_of_ble_eq_true rfl) (by decide) hl.1 dX13_build_30 (fun r4 S3 H locs hw hf => ?_)
  refine lv_iconst (v := 1) C.1 C.2.1 dX13_build_33 (by decide) ?_
  refine sh_Vi (As := [.int r4, .int 1]) (rest := []) C hw (kX13_isDone l r4 1) yy_X13_isDone yv_X13_isDone ml_X13_366 hf tbM_0 rfl rfl rfl rfl (Nat.le_of_ble_eq_true rfl) (by decide) hl.1 dX13_build_34 (fun r6 S5 H locs hw hf => ?_)
  refine sh_if_eq (tgt := 52) C hf dX13_build_37 (by decide) (fun hf => ?_) (fun hf => ?_)
  · refine lv_iconst (v := 0) C.1 C.2.1 dX13_build_52 (by decide) ?_
    exact sh_ri C hw hr hf dX13_build_53
  · refine lv_bipush (v := 40) C.1 C.2.1 dX13_build_40 (by decide) ?_
    refine lv_aload_n C.1 C.2.1 dX13_build_42 rfl (lv_at hl 0 rfl) ?_
    refine lv_iconst (v := 0) C.1 C.2.1 dX13_build_43 (by decide) ?_
    refine lv_iconst (v := 0) C.1 C.2.1 dX13_build_44 (by decide) ?_
    refine sh_Vi (As := [.int 0, .int 0]) (rest := [.int 40]) C hw (kX13_countOf l 0 0) yy_X13_countOf yv_X13_countOf ml_X13_90 hf tbM_0 rfl rfl rfl rfl (Nat.le_of_ble_eq_true rfl) (by decide) hl.1 dX13_build_45 (fun r8 S7 H locs hw hf => ?_)
    refine lv_isub C.1 C.2.1 dX13_build_48 ?_
    refine lv_goto (tgt := 53) C.1 C.2.1 dX13_build_49 (by decide) ?_
    exact sh_ri C hw hr hf dX13_build_53
def fX13_tune_71 (S : sh_St) (v1 : Int32) (v2 : Int32) (t0 : Int32) : Option (Int32 × sh_St) :=
    sh_t (sh_I S 0 0 t0) fun S6 =>
    if (S6.1 0 0) ≤ 0 then (sh_c (fX13_putsAside S6 ) fun _ S7 =>
    sh_g (1081 + v1) 1084 (sh_t (S7.1 1 (1081 + v1).toNatClampNeg) fun y9 =>
    sh_c (fX13_tune0 S7 v1 v2) fun r11 S10 =>
    sh_c (fX13_isDone S10 r11 3) fun r13 S12 =>
    if r13 = 0 then (some (0, S12))
    else (some (y9, S12))))
    else (some (0, S6))
set_option maxRecDepth 100000 in
set_option maxHeartbeats 4000000 in
theorem wX13_tune_71 {p : Program} {l : Launch} {e : Env} {s : State} {m : MethodId} {args : Array Value} {below : List Frame} {meth : Method} {c : Code} {G : sh_Ev} {A : Nat → Prop} {res : Int32 × sh_St} (C : sh_Cx p s m args meth c cX13_tune 5 RX13 G A) (hr : meth.sig.returnType = some .int) : ∀ (S : sh_St) (v1 : Int32) (v2 : Int32) (t0 : Int32), fX13_tune_71 S v1 v2 t0 = some res → ∀ (H : Heap) (locs : List Loc) (ls : Array Slot), sh_Wx G tbM A s H locs S → lv_has ls 5 [(0, .ref (G.2.1 0)), (1, .int v1), (2, .int v2)] → W p l e (sh_rm 7) s m args below meth c H locs 0 0 (sh_Qi below args s G tbM A res) (F0 m 71 ls [.int t0, .ref (G.2.1 0)]) := by
  intro S v1 v2 t0 hf H locs ls hw hl
  rw [fX13_tune_71] at hf
  refine sh_puti C hw fl_X13_79 fp_11_0 hf tbM_0 rfl dX13_tune_71 (fun S6 H locs hw hf => ?_)
  refine lv_aload_n C.1 C.2.1 dX13_tune_74 rfl (lv_at hl 0 rfl) ?_
  refine sh_geti C hw fl_X13_79 tbM_0 rfl dX13_tune_75 ?_
  refine sh_if_le (tgt := 83) C hf dX13_tune_78 (by decide) (fun hf => ?_) (fun hf => ?_)
  · refine lv_aload_n C.1 C.2.1 dX13_tune_83 rfl (lv_at hl 0 rfl) ?_
    refine sh_Vv (As := []) (rest := []) C hw (kX13_putsAside l ) yy_X13_putsAside yv_X13_putsAside ml_X13_343 hf tbM_0 rfl rfl rfl rfl (Nat.le_of_ble_eq_true rfl) (by decide) hl.1 dX13_tune_84 (fun S7 H locs hw hf => ?_)
    refine lv_aload_n C.1 C.2.1 dX13_tune_87 rfl (lv_at hl 0 rfl) ?_
    refine sh_getr C hw fl_X13_7 tbM_0 rfl dX13_tune_88 ?_
    refine lv_sipush (v := 1081) C.1 C.2.1 dX13_tune_91 (by decide) ?_
    refine lv_iload_n C.1 C.2.1 dX13_tune_94 rfl (lv_at hl 1 rfl) ?_
    refine lv_iadd C.1 C.2.1 dX13_tune_95 ?_
    refine sh_iald C hw hf tbM_1 dX13_tune_96 (fun hf => ?_)
    refine sh_ni hf (fun y9 hf => ?_)
    refine lv_istore (lv' := [(4, .int y9), (0, .ref (G.2.1 0)), (1, .int v1), (2, .int v2)]) C.1 C.2.1 dX13_tune_97 hl (by decide) rfl (fun ls hl => ?_)
    refine lv_aload_n C.1 C.2.1 dX13_tune_99 rfl (lv_at hl 1 rfl) ?_
    refine lv_aload_n C.1 C.2.1 dX13_tune_100 rfl (lv_at hl 1 rfl) ?_
    refine lv_iload_n C.1 C.2.1 dX13_tune_101 rfl (lv_at hl 2 rfl) ?_
    refine lv_iload_n C.1 C.2.1 dX13_tune_102 rfl (lv_at hl 3 rfl) ?_
    refine sh_Vi (As := [.int v1, .int v2]) (rest := [.ref (G.2.1 0)]) C hw (kX13_tune0 l v1 v2) yy_X13_tune0 yv_X13_tune0 ml_X13_324 hf tbM_0 rfl rfl rfl rfl (Nat.le_of_ble_eq_true rfl) (by decide) hl.1 dX13_tune_103 (fun r11 S10 H locs hw hf => ?_)
    refine lv_iconst (v := 3) C.1 C.2.1 dX13_tune_106 (by decide) ?_
    refine sh_Vi (As := [.int r11, .int 3]) (rest := []) C hw (kX13_isDone l r11 3) yy_X13_isDone yv_X13_isDone ml_X13_366 hf tbM_0 rfl rfl rfl rfl (Nat.le_of_ble_eq_true rfl) (by decide) hl.1 dX13_tune_107 (fun r13 S12 H locs hw hf => ?_)
    refine sh_if_eq (tgt := 118) C hf dX13_tune_110 (by decide) (fun hf => ?_) (fun hf => ?_)
    · refine lv_iconst (v := 0) C.1 C.2.1 dX13_tune_118 (by decide) ?_
      exact sh_ri C hw hr hf dX13_tune_119
    · refine lv_iload C.1 C.2.1 dX13_tune_113 (lv_at hl 0 rfl) ?_
      refine lv_goto (tgt := 119) C.1 C.2.1 dX13_tune_115 (by decide) ?_
      exact sh_ri C hw hr hf dX13_tune_119
  · refine lv_iconst (v := 0) C.1 C.2.1 dX13_tune_81 (by decide) ?_
    exact sh_ri C hw hr hf dX13_tune_82
def fX13_tune_59 (S : sh_St) (v1 : Int32) (v2 : Int32) (v3 : Int32) (t0 : Int32) (t1 : Int32) : Option (Int32 × sh_St) :=
    sh_c (fX13_isIn S t1 t0 v3) fun r5 S4 =>
    if r5 = 0 then (fX13_tune_71 S4 v1 v2 2)
    else (fX13_tune_71 S4 v1 v2 0)
set_option maxRecDepth 100000 in
set_option maxHeartbeats 4000000 in
theorem wX13_tune_59 {p : Program} {l : Launch} {e : Env} {s : State} {m : MethodId} {args : Array Value} {below : List Frame} {meth : Method} {c : Code} {G : sh_Ev} {A : Nat → Prop} {res : Int32 × sh_St} (C : sh_Cx p s m args meth c cX13_tune 5 RX13 G A) (hr : meth.sig.returnType = some .int) : ∀ (S : sh_St) (v1 : Int32) (v2 : Int32) (v3 : Int32) (t0 : Int32) (t1 : Int32), fX13_tune_59 S v1 v2 v3 t0 t1 = some res → ∀ (H : Heap) (locs : List Loc) (ls : Array Slot), sh_Wx G tbM A s H locs S → lv_has ls 5 [(0, .ref (G.2.1 0)), (1, .int v1), (2, .int v2), (3, .int v3)] → W p l e (sh_rm 7) s m args below meth c H locs 0 0 (sh_Qi below args s G tbM A res) (F0 m 59 ls [.int t0, .int t1, .ref (G.2.1 0)]) := by
  intro S v1 v2 v3 t0 t1 hf H locs ls hw hl
  rw [fX13_tune_59] at hf
  refine lv_iload_n C.1 C.2.1 dX13_tune_59 rfl (lv_at hl 3 rfl) ?_
  refine sh_Si (As := [.int t1, .int t0, .int v3]) (rest := [.ref (G.2.1 0)]) C hw (kX13_isIn l t1 t0 v3) yy_X13_isIn ys_X13_isIn ml_X13_263 rfl hf rfl rfl rfl (Nat.le_of_ble_eq_true rfl) (by decide) hl.1 dX13_tune_60 (fun r5 S4 H locs hw hf => ?_)
  refine sh_if_eq (tgt := 70) C hf dX13_tune_63 (by decide) (fun hf => ?_) (fun hf => ?_)
  · refine lv_iconst (v := 2) C.1 C.2.1 dX13_tune_70 (by decide) ?_
    exact wX13_tune_71 C hr S4 v1 v2 2 hf _ _ _ hw (lv_sub hl [0, 1, 2] rfl)
  · refine lv_iconst (v := 0) C.1 C.2.1 dX13_tune_66 (by decide) ?_
    refine lv_goto (tgt := 71) C.1 C.2.1 dX13_tune_67 (by decide) ?_
    exact wX13_tune_71 C hr S4 v1 v2 0 hf _ _ _ hw (lv_sub hl [0, 1, 2] rfl)
def fX13_tune_47 (S : sh_St) (v1 : Int32) (v2 : Int32) (t0 : Int32) : Option (Int32 × sh_St) :=
    if v1 = 0 then (fX13_tune_59 S v1 v2 t0 1 v2)
    else (fX13_tune_59 S v1 v2 t0 0 v2)
set_option maxRecDepth 100000 in
set_option maxHeartbeats 4000000 in
theorem wX13_tune_47 {p : Program} {l : Launch} {e : Env} {s : State} {m : MethodId} {args : Array Value} {below : List Frame} {meth : Method} {c : Code} {G : sh_Ev} {A : Nat → Prop} {res : Int32 × sh_St} (C : sh_Cx p s m args meth c cX13_tune 5 RX13 G A) (hr : meth.sig.returnType = some .int) : ∀ (S : sh_St) (v1 : Int32) (v2 : Int32) (t0 : Int32), fX13_tune_47 S v1 v2 t0 = some res → ∀ (H : Heap) (locs : List Loc) (ls : Array Slot), sh_Wx G tbM A s H locs S → lv_has ls 5 [(0, .ref (G.2.1 0)), (1, .int v1), (2, .int v2)] → W p l e (sh_rm 7) s m args below meth c H locs 0 0 (sh_Qi below args s G tbM A res) (F0 m 47 ls [.int t0]) := by
  intro S v1 v2 t0 hf H locs ls hw hl
  rw [fX13_tune_47] at hf
  refine lv_istore_n (lv' := [(3, .int t0), (0, .ref (G.2.1 0)), (1, .int v1), (2, .int v2)]) C.1 C.2.1 dX13_tune_47 rfl hl (by decide) rfl (fun ls hl => ?_)
  refine lv_aload_n C.1 C.2.1 dX13_tune_48 rfl (lv_at hl 1 rfl) ?_
  refine lv_iload_n C.1 C.2.1 dX13_tune_49 rfl (lv_at hl 3 rfl) ?_
  refine lv_iload_n C.1 C.2.1 dX13_tune_50 rfl (lv_at hl 2 rfl) ?_
  refine sh_if_ne (tgt := 58) C hf dX13_tune_51 (by decide) (fun hf => ?_) (fun hf => ?_)
  · refine lv_iconst (v := 0) C.1 C.2.1 dX13_tune_58 (by decide) ?_
    exact wX13_tune_59 C hr S v1 v2 t0 0 v2 hf _ _ _ hw (lv_sub hl [1, 2, 3, 0] rfl)
  · refine lv_iconst (v := 1) C.1 C.2.1 dX13_tune_54 (by decide) ?_
    refine lv_goto (tgt := 59) C.1 C.2.1 dX13_tune_55 (by decide) ?_
    exact wX13_tune_59 C hr S v1 v2 t0 1 v2 hf _ _ _ hw (lv_sub hl [1, 2, 3, 0] rfl)
def fX13_tune_15 (S : sh_St) (v1 : Int32) (v2 : Int32) (t0 : Int32) : Option (Int32 × sh_St) :=
    sh_t (sh_I S 0 0 t0) fun S3 =>
    if (S3.1 0 0) ≤ 0 then (if v1 = 0 then (fX13_tune_47 S3 v1 v2 12)
    else (if v1 = 1 then (fX13_tune_47 S3 v1 v2 65535)
    else (fX13_tune_47 S3 v1 v2 1)))
    else (some (0, S3))
set_option maxRecDepth 100000 in
set_option maxHeartbeats 4000000 in
theorem wX13_tune_15 {p : Program} {l : Launch} {e : Env} {s : State} {m : MethodId} {args : Array Value} {below : List Frame} {meth : Method} {c : Code} {G : sh_Ev} {A : Nat → Prop} {res : Int32 × sh_St} (C : sh_Cx p s m args meth c cX13_tune 5 RX13 G A) (hr : meth.sig.returnType = some .int) : ∀ (S : sh_St) (v1 : Int32) (v2 : Int32) (t0 : Int32), fX13_tune_15 S v1 v2 t0 = some res → ∀ (H : Heap) (locs : List Loc) (ls : Array Slot), sh_Wx G tbM A s H locs S → lv_has ls 5 [(0, .ref (G.2.1 0)), (1, .int v1), (2, .int v2)] → W p l e (sh_rm 7) s m args below meth c H locs 0 0 (sh_Qi below args s G tbM A res) (F0 m 15 ls [.int t0, .ref (G.2.1 0)]) := by
  intro S v1 v2 t0 hf H locs ls hw hl
  rw [fX13_tune_15] at hf
  refine sh_puti C hw fl_X13_79 fp_11_0 hf tbM_0 rfl dX13_tune_15 (fun S3 H locs hw hf => ?_)
  refine lv_aload_n C.1 C.2.1 dX13_tune_18 rfl (lv_at hl 0 rfl) ?_
  refine sh_geti C hw fl_X13_79 tbM_0 rfl dX13_tune_19 ?_
  refine sh_if_le (tgt := 27) C hf dX13_tune_22 (by decide) (fun hf => ?_) (fun hf => ?_)
  · refine lv_iload_n C.1 C.2.1 dX13_tune_27 rfl (lv_at hl 1 rfl) ?_
    refine sh_if_ne (tgt := 36) C hf dX13_tune_28 (by decide) (fun hf => ?_) (fun hf => ?_)
    · refine lv_iload_n C.1 C.2.1 dX13_tune_36 rfl (lv_at hl 1 rfl) ?_
      refine lv_iconst (v := 1) C.1 C.2.1 dX13_tune_37 (by decide) ?_
      refine sh_icmp_ne (tgt := 46) C hf dX13_tune_38 (by decide) (fun hf => ?_) (fun hf => ?_)
      · refine lv_iconst (v := 1) C.1 C.2.1 dX13_tune_46 (by decide) ?_
        exact wX13_tune_47 C hr S3 v1 v2 1 hf _ _ _ hw (lv_sub hl [0, 1, 2] rfl)
      · refine lv_ldc C.1 C.2.1 C.2.2.2.1 (C.2.2.2.2.1 _ kc_X13_109) dX13_tune_41 ?_
        refine lv_goto (tgt := 47) C.1 C.2.1 dX13_tune_43 (by decide) ?_
        exact wX13_tune_47 C hr S3 v1 v2 65535 hf _ _ _ hw (lv_sub hl [0, 1, 2] rfl)
    · refine lv_bipush (v := 12) C.1 C.2.1 dX13_tune_31 (by decide) ?_
      refine lv_goto (tgt := 47) C.1 C.2.1 dX13_tune_33 (by decide) ?_
      exact wX13_tune_47 C hr S3 v1 v2 12 hf _ _ _ hw (lv_sub hl [0, 1, 2] rfl)
  · refine lv_iconst (v := 0) C.1 C.2.1 dX13_tune_25 (by decide) ?_
    exact sh_ri C hw hr hf dX13_tune_26
def fX13_tune (S : sh_St) (v1 : Int32) (v2 : Int32) : Option (Int32 × sh_St) :=
    sh_c (fX13_isIn S v1 0 2) fun r2 S1 =>
    if r2 = 0 then (fX13_tune_15 S1 v1 v2 1)
    else (fX13_tune_15 S1 v1 v2 0)
set_option maxRecDepth 100000 in
set_option maxHeartbeats 4000000 in
theorem kX13_tune (l : Launch) (v1 : Int32) (v2 : Int32) : sh_Mi l yX13_tune cX13_tune 5 .int 7 tbM (fun G => [.ref (G.2.1 0), .int v1, .int v2]) (fun S => fX13_tune S v1 v2) := by
  refine sh_mki (by decide) (fun G => Nat.le_of_ble_eq_true rfl) ?_
  intro p e s m args below meth c G A S res ls hf C hr hw hl
  have C : sh_Cx p s m args meth c cX13_tune 5 RX13 G A := C
  have hl : lv_has ls 5 [(0, .ref (G.2.1 0)), (1, .int v1), (2, .int v2)] := hl
  replace hf : fX13_tune S v1 v2 = some res := hf
  rw [fX13_tune] at hf
  refine lv_aload_n C.1 C.2.1 dX13_tune_0 rfl (lv_at hl 0 rfl) ?_
  refine lv_iload_n C.1 C.2.1 dX13_tune_1 rfl (lv_at hl 1 rfl) ?_
  refine lv_iconst (v := 0) C.1 C.2.1 dX13_tune_2 (by decide) ?_
  refine lv_iconst (v := 2) C.1 C.2.1 dX13_tune_3 (by decide) ?_
  refine sh_Si (As := [.int v1, .int 0, .int 2]) (rest := [.ref (G.2.1 0)]) C hw (kX13_isIn l v1 0 2) yy_X13_isIn ys_X13_isIn ml_X13_263 rfl hf rfl rfl rfl (Nat.le_of_ble_eq_true rfl) (by decide) hl.1 dX13_tune_4 (fun r2 S1 H locs hw hf => ?_)
  refine sh_if_eq (tgt := 14) C hf dX13_tune_7 (by decide) (fun hf => ?_) (fun hf => ?_)
  · refine lv_iconst (v := 1) C.1 C.2.1 dX13_tune_14 (by decide) ?_
    exact wX13_tune_15 C hr S1 v1 v2 1 hf _ _ _ hw (lv_sub hl [0, 1, 2] rfl)
  · refine lv_iconst (v := 0) C.1 C.2.1 dX13_tune_10 (by decide) ?_
    refine lv_goto (tgt := 15) C.1 C.2.1 dX13_tune_11 (by decide) ?_
    exact wX13_tune_15 C hr S1 v1 v2 0 hf _ _ _ hw (lv_sub hl [0, 1, 2] rfl)
def fX13_isBlock (S : sh_St) (v0 : Int32) : Option (Int32 × sh_St) :=
    sh_c (fX13_isIn S v0 0 39) fun r2 S1 =>
    sh_b r2 (some (r2, S1))
set_option maxRecDepth 100000 in
set_option maxHeartbeats 4000000 in
theorem kX13_isBlock (l : Launch) (v0 : Int32) : sh_Mi l yX13_isBlock cX13_isBlock 1 .boolean 2 tbM (fun G => [.int v0]) (fun S => fX13_isBlock S v0) := by
  refine sh_mki (by decide) (fun G => Nat.le_of_ble_eq_true rfl) ?_
  intro p e s m args below meth c G A S res ls hf C hr hw hl
  have C : sh_Cx p s m args meth c cX13_isBlock 1 RX13 G A := C
  have hl : lv_has ls 1 [(0, .int v0)] := hl
  replace hf : fX13_isBlock S v0 = some res := hf
  rw [fX13_isBlock] at hf
  refine lv_iload_n C.1 C.2.1 dX13_isBlock_0 rfl (lv_at hl 0 rfl) ?_
  refine lv_iconst (v := 0) C.1 C.2.1 dX13_isBlock_1 (by decide) ?_
  refine lv_bipush (v := 39) C.1 C.2.1 dX13_isBlock_2 (by decide) ?_
  refine sh_Si (As := [.int v0, .int 0, .int 39]) (rest := []) C hw (kX13_isIn l v0 0 39) yy_X13_isIn ys_X13_isIn ml_X13_263 rfl hf rfl rfl rfl (Nat.le_of_ble_eq_true rfl) (by decide) hl.1 dX13_isBlock_4 (fun r2 S1 H locs hw hf => ?_)
  exact sh_rz C hw hr hf dX13_isBlock_7
def fX13_tear_13 (S : sh_St) (v1 : Int32) (t0 : Int32) : Option (Int32 × sh_St) :=
    sh_t (sh_I S 0 0 t0) fun S3 =>
    if (S3.1 0 0) ≤ 0 then (sh_c (fX13_putsAside S3 ) fun _ S4 =>
    sh_c (fX13_tear0 S4 v1) fun r7 S6 =>
    sh_c (fX13_isDone S6 r7 2) fun r9 S8 =>
    if r9 = 0 then (some (0, S8))
    else (sh_c (fX13_countOf S8 40 1) fun r11 S10 =>
    some (r11, S10)))
    else (some (0, S3))
set_option maxRecDepth 100000 in
set_option maxHeartbeats 4000000 in
theorem wX13_tear_13 {p : Program} {l : Launch} {e : Env} {s : State} {m : MethodId} {args : Array Value} {below : List Frame} {meth : Method} {c : Code} {G : sh_Ev} {A : Nat → Prop} {res : Int32 × sh_St} (C : sh_Cx p s m args meth c cX13_tear 2 RX13 G A) (hr : meth.sig.returnType = some .int) : ∀ (S : sh_St) (v1 : Int32) (t0 : Int32), fX13_tear_13 S v1 t0 = some res → ∀ (H : Heap) (locs : List Loc) (ls : Array Slot), sh_Wx G tbM A s H locs S → lv_has ls 2 [(0, .ref (G.2.1 0)), (1, .int v1)] → W p l e (sh_rm 3) s m args below meth c H locs 0 0 (sh_Qi below args s G tbM A res) (F0 m 13 ls [.int t0, .ref (G.2.1 0)]) := by
  intro S v1 t0 hf H locs ls hw hl
  rw [fX13_tear_13] at hf
  refine sh_puti C hw fl_X13_79 fp_11_0 hf tbM_0 rfl dX13_tear_13 (fun S3 H locs hw hf => ?_)
  refine lv_aload_n C.1 C.2.1 dX13_tear_16 rfl (lv_at hl 0 rfl) ?_
  refine sh_geti C hw fl_X13_79 tbM_0 rfl dX13_tear_17 ?_
  refine sh_if_le (tgt := 25) C hf dX13_tear_20 (by decide) (fun hf => ?_) (fun hf => ?_)
  · refine lv_aload_n C.1 C.2.1 dX13_tear_25 rfl (lv_at hl 0 rfl) ?_
    refine sh_Vv (As := []) (rest := []) C hw (kX13_putsAside l ) yy_X13_putsAside yv_X13_putsAside ml_X13_343 hf tbM_0 rfl rfl rfl rfl (Nat.le_of_ble_eq_true rfl) (by decide) hl.1 dX13_tear_26 (fun S4 H locs hw hf => ?_)
    refine lv_aload_n C.1 C.2.1 dX13_tear_29 rfl (lv_at hl 0 rfl) ?_
    refine lv_aload_n C.1 C.2.1 dX13_tear_30 rfl (lv_at hl 0 rfl) ?_
    refine lv_iload_n C.1 C.2.1 dX13_tear_31 rfl (lv_at hl 1 rfl) ?_
    refine sh_Vi (As := [.int v1]) (rest := [.ref (G.2.1 0)]) C hw (kX13_tear0 l v1) yy_X13_tear0 yv_X13_tear0 ml_X13_335 hf tbM_0 rfl rfl rfl rfl (Nat.le_of_ble_eq_true rfl) (by decide) hl.1 dX13_tear_32 (fun r7 S6 H locs hw hf => ?_)
    refine lv_iconst (v := 2) C.1 C.2.1 dX13_tear_35 (by decide) ?_
    refine sh_Vi (As := [.int r7, .int 2]) (rest := []) C hw (kX13_isDone l r7 2) yy_X13_isDone yv_X13_isDone ml_X13_366 hf tbM_0 rfl rfl rfl rfl (Nat.le_of_ble_eq_true rfl) (by decide) hl.1 dX13_tear_36 (fun r9 S8 H locs hw hf => ?_)
    refine sh_if_eq (tgt := 52) C hf dX13_tear_39 (by decide) (fun hf => ?_) (fun hf => ?_)
    · refine lv_iconst (v := 0) C.1 C.2.1 dX13_tear_52 (by decide) ?_
      exact sh_ri C hw hr hf dX13_tear_53
    · refine lv_aload_n C.1 C.2.1 dX13_tear_42 rfl (lv_at hl 0 rfl) ?_
      refine lv_bipush (v := 40) C.1 C.2.1 dX13_tear_43 (by decide) ?_
      refine lv_iconst (v := 1) C.1 C.2.1 dX13_tear_45 (by decide) ?_
      refine sh_Vi (As := [.int 40, .int 1]) (rest := []) C hw (kX13_countOf l 40 1) yy_X13_countOf yv_X13_countOf ml_X13_90 hf tbM_0 rfl rfl rfl rfl (Nat.le_of_ble_eq_true rfl) (by decide) hl.1 dX13_tear_46 (fun r11 S10 H locs hw hf => ?_)
      refine lv_goto (tgt := 53) C.1 C.2.1 dX13_tear_49 (by decide) ?_
      exact sh_ri C hw hr hf dX13_tear_53
  · refine lv_iconst (v := 0) C.1 C.2.1 dX13_tear_23 (by decide) ?_
    exact sh_ri C hw hr hf dX13_tear_24
def fX13_tear (S : sh_St) (v1 : Int32) : Option (Int32 × sh_St) :=
    sh_c (fX13_isBlock S v1) fun r2 S1 =>
    if r2 = 0 then (fX13_tear_13 S1 v1 1)
    else (fX13_tear_13 S1 v1 0)
set_option maxRecDepth 100000 in
set_option maxHeartbeats 4000000 in
theorem kX13_tear (l : Launch) (v1 : Int32) : sh_Mi l yX13_tear cX13_tear 2 .int 3 tbM (fun G => [.ref (G.2.1 0), .int v1]) (fun S => fX13_tear S v1) := by
  refine sh_mki (by decide) (fun G => Nat.le_of_ble_eq_true rfl) ?_
  intro p e s m args below meth c G A S res ls hf C hr hw hl
  have C : sh_Cx p s m args meth c cX13_tear 2 RX13 G A := C
  have hl : lv_has ls 2 [(0, .ref (G.2.1 0)), (1, .int v1)] := hl
  replace hf : fX13_tear S v1 = some res := hf
  rw [fX13_tear] at hf
  refine lv_aload_n C.1 C.2.1 dX13_tear_0 rfl (lv_at hl 0 rfl) ?_
  refine lv_iload_n C.1 C.2.1 dX13_tear_1 rfl (lv_at hl 1 rfl) ?_
  refine sh_Si (As := [.int v1]) (rest := [.ref (G.2.1 0)]) C hw (kX13_isBlock l v1) yy_X13_isBlock ys_X13_isBlock ml_X13_369 rfl hf rfl rfl rfl (Nat.le_of_ble_eq_true rfl) (by decide) hl.1 dX13_tear_2 (fun r2 S1 H locs hw hf => ?_)
  refine sh_if_eq (tgt := 12) C hf dX13_tear_5 (by decide) (fun hf => ?_) (fun hf => ?_)
  · refine lv_iconst (v := 1) C.1 C.2.1 dX13_tear_12 (by decide) ?_
    exact wX13_tear_13 C hr S1 v1 1 hf _ _ _ hw (lv_sub hl [0, 1] rfl)
  · refine lv_iconst (v := 0) C.1 C.2.1 dX13_tear_8 (by decide) ?_
    refine lv_goto (tgt := 13) C.1 C.2.1 dX13_tear_9 (by decide) ?_
    exact wX13_tear_13 C hr S1 v1 0 hf _ _ _ hw (lv_sub hl [0, 1] rfl)
def fX13_undo_73 : Nat → sh_St → Int32 → Option (Int32 × sh_St)
  | 0, _, _ => none
  | n + 1, S, v1 =>
    if 240 ≤ v1 then (some (S.1 0 5, S))
    else (sh_g ((240 * (S.1 0 5)) + v1) 1920 (sh_g v1 240 (sh_t (sh_L S 2 v1.toNatClampNeg (S.2 4 ((240 * (S.1 0 5)) + v1).toNatClampNeg)) fun S3 =>
    sh_t (v1 + 1) fun y4 =>
    (fX13_undo_73 n) S3 y4)))
set_option maxRecDepth 100000 in
set_option maxHeartbeats 4000000 in
theorem wX13_undo_73 {p : Program} {l : Launch} {e : Env} {s : State} {m : MethodId} {args : Array Value} {below : List Frame} {meth : Method} {c : Code} {G : sh_Ev} {A : Nat → Prop} {res : Int32 × sh_St} (C : sh_Cx p s m args meth c cX13_undo 2 RX13 G A) (hr : meth.sig.returnType = some .int) : ∀ (n : Nat) (S : sh_St) (v1 : Int32), fX13_undo_73 n S v1 = some res → ∀ (H : Heap) (locs : List Loc) (ls : Array Slot), sh_Wx G tbM A s H locs S → lv_has ls 2 [(0, .ref (G.2.1 0)), (1, .int v1)] → W p l e (sh_rm 1) s m args below meth c H locs 0 0 (sh_Qi below args s G tbM A res) (F0 m 73 ls []) := by
  intro n
  induction n with
  | zero => intro S v1 hf; exact nomatch (show (none : Option (Int32 × sh_St)) = some res from hf)
  | succ n ih =>
    intro S v1 hf H locs ls hw hl
    have hr73 := ih
    rw [fX13_undo_73] at hf
    refine lv_iload_n C.1 C.2.1 dX13_undo_73 rfl (lv_at hl 1 rfl) ?_
    refine lv_sipush (v := 240) C.1 C.2.1 dX13_undo_74 (by decide) ?_
    refine sh_icmp_ge (tgt := 107) C hf dX13_undo_77 (by decide) (fun hf => ?_) (fun hf => ?_)
    · refine lv_aload_n C.1 C.2.1 dX13_undo_107 rfl (lv_at hl 0 rfl) ?_
      refine sh_geti C hw fl_X13_251 tbM_0 rfl dX13_undo_108 ?_
      exact sh_ri C hw hr hf dX13_undo_111
    · refine lv_aload_n C.1 C.2.1 dX13_undo_80 rfl (lv_at hl 0 rfl) ?_
      refine sh_getr C hw fl_X13_13 tbM_0 rfl dX13_undo_81 ?_
      refine lv_iload_n C.1 C.2.1 dX13_undo_84 rfl (lv_at hl 1 rfl) ?_
      refine lv_aload_n C.1 C.2.1 dX13_undo_85 rfl (lv_at hl 0 rfl) ?_
      refine sh_getr C hw fl_X13_20 tbM_0 rfl dX13_undo_86 ?_
      refine lv_sipush (v := 240) C.1 C.2.1 dX13_undo_89 (by decide) ?_
      refine lv_aload_n C.1 C.2.1 dX13_undo_92 rfl (lv_at hl 0 rfl) ?_
      refine sh_geti C hw fl_X13_251 tbM_0 rfl dX13_undo_93 ?_
      refine lv_imul C.1 C.2.1 dX13_undo_96 ?_
      refine lv_iload_n C.1 C.2.1 dX13_undo_97 rfl (lv_at hl 1 rfl) ?_
      refine lv_iadd C.1 C.2.1 dX13_undo_98 ?_
      refine sh_lald C hw hf tbM_4 dX13_undo_99 (fun hf => ?_)
      refine sh_last C hw hf tbM_2 dX13_undo_100 (fun S3 H locs hw hf => ?_)
      obtain ⟨y4, ey4, hf⟩ := sh_nm hf
      refine lv_iinc (v := y4) (lv' := [(1, .int y4), (0, .ref (G.2.1 0))]) C.1 C.2.1 dX13_undo_101 hl (k := 1) rfl (by rw [← ey4]; rfl) (by decide) rfl (fun ls hl => ?_)
      refine lv_goto (tgt := 73) C.1 C.2.1 dX13_undo_104 (by decide) ?_
      exact hr73 S3 y4 hf _ _ _ hw (lv_sub hl [1, 0] rfl)
def fX13_undo_37 : Nat → sh_St → Int32 → Option (Int32 × sh_St)
  | 0, _, _ => none
  | n + 1, S, v1 =>
    if 1084 ≤ v1 then (fX13_undo_73 sh_FU S 0)
    else (sh_g ((1084 * (S.1 0 5)) + v1) 8672 (sh_g v1 1084 (sh_t (sh_I S 1 v1.toNatClampNeg (S.1 3 ((1084 * (S.1 0 5)) + v1).toNatClampNeg)) fun S5 =>
    sh_t (v1 + 1) fun y6 =>
    (fX13_undo_37 n) S5 y6)))
set_option maxRecDepth 100000 in
set_option maxHeartbeats 4000000 in
theorem wX13_undo_37 {p : Program} {l : Launch} {e : Env} {s : State} {m : MethodId} {args : Array Value} {below : List Frame} {meth : Method} {c : Code} {G : sh_Ev} {A : Nat → Prop} {res : Int32 × sh_St} (C : sh_Cx p s m args meth c cX13_undo 2 RX13 G A) (hr : meth.sig.returnType = some .int) : ∀ (n : Nat) (S : sh_St) (v1 : Int32), fX13_undo_37 n S v1 = some res → ∀ (H : Heap) (locs : List Loc) (ls : Array Slot), sh_Wx G tbM A s H locs S → lv_has ls 2 [(0, .ref (G.2.1 0)), (1, .int v1)] → W p l e (sh_rm 1) s m args below meth c H locs 0 0 (sh_Qi below args s G tbM A res) (F0 m 37 ls []) := by
  intro n
  induction n with
  | zero => intro S v1 hf; exact nomatch (show (none : Option (Int32 × sh_St)) = some res from hf)
  | succ n ih =>
    intro S v1 hf H locs ls hw hl
    have hr37 := ih
    rw [fX13_undo_37] at hf
    refine lv_iload_n C.1 C.2.1 dX13_undo_37 rfl (lv_at hl 1 rfl) ?_
    refine lv_sipush (v := 1084) C.1 C.2.1 dX13_undo_38 (by decide) ?_
    refine sh_icmp_ge (tgt := 71) C hf dX13_undo_41 (by decide) (fun hf => ?_) (fun hf => ?_)
    · refine lv_iconst (v := 0) C.1 C.2.1 dX13_undo_71 (by decide) ?_
      refine lv_istore_n (lv' := [(1, .int 0), (0, .ref (G.2.1 0))]) C.1 C.2.1 dX13_undo_72 rfl hl (by decide) rfl (fun ls hl => ?_)
      exact wX13_undo_73 C hr _ S 0 hf _ _ _ hw (lv_sub hl [1, 0] rfl)
    · refine lv_aload_n C.1 C.2.1 dX13_undo_44 rfl (lv_at hl 0 rfl) ?_
      refine sh_getr C hw fl_X13_7 tbM_0 rfl dX13_undo_45 ?_
      refine lv_iload_n C.1 C.2.1 dX13_undo_48 rfl (lv_at hl 1 rfl) ?_
      refine lv_aload_n C.1 C.2.1 dX13_undo_49 rfl (lv_at hl 0 rfl) ?_
      refine sh_getr C hw fl_X13_17 tbM_0 rfl dX13_undo_50 ?_
      refine lv_sipush (v := 1084) C.1 C.2.1 dX13_undo_53 (by decide) ?_
      refine lv_aload_n C.1 C.2.1 dX13_undo_56 rfl (lv_at hl 0 rfl) ?_
      refine sh_geti C hw fl_X13_251 tbM_0 rfl dX13_undo_57 ?_
      refine lv_imul C.1 C.2.1 dX13_undo_60 ?_
      refine lv_iload_n C.1 C.2.1 dX13_undo_61 rfl (lv_at hl 1 rfl) ?_
      refine lv_iadd C.1 C.2.1 dX13_undo_62 ?_
      refine sh_iald C hw hf tbM_3 dX13_undo_63 (fun hf => ?_)
      refine sh_iast C hw hf tbM_1 dX13_undo_64 (fun S5 H locs hw hf => ?_)
      obtain ⟨y6, ey6, hf⟩ := sh_nm hf
      refine lv_iinc (v := y6) (lv' := [(1, .int y6), (0, .ref (G.2.1 0))]) C.1 C.2.1 dX13_undo_65 hl (k := 1) rfl (by rw [← ey6]; rfl) (by decide) rfl (fun ls hl => ?_)
      refine lv_goto (tgt := 37) C.1 C.2.1 dX13_undo_68 (by decide) ?_
      exact hr37 S5 y6 hf _ _ _ hw (lv_sub hl [1, 0] rfl)
def fX13_undo_13 (S : sh_St) (t0 : Int32) : Option (Int32 × sh_St) :=
    sh_t (sh_I S 0 0 t0) fun S1 =>
    if (S1.1 0 0) ≤ 0 then (sh_t (sh_I S1 0 5 ((S1.1 0 5) - 1)) fun S2 =>
    fX13_undo_37 sh_FU S2 0)
    else (some (0, S1))
set_option maxRecDepth 100000 in
set_option maxHeartbeats 4000000 in
theorem wX13_undo_13 {p : Program} {l : Launch} {e : Env} {s : State} {m : MethodId} {args : Array Value} {below : List Frame} {meth : Method} {c : Code} {G : sh_Ev} {A : Nat → Prop} {res : Int32 × sh_St} (C : sh_Cx p s m args meth c cX13_undo 2 RX13 G A) (hr : meth.sig.returnType = some .int) : ∀ (S : sh_St) (t0 : Int32), fX13_undo_13 S t0 = some res → ∀ (H : Heap) (locs : List Loc) (ls : Array Slot), sh_Wx G tbM A s H locs S → lv_has ls 2 [(0, .ref (G.2.1 0))] → W p l e (sh_rm 1) s m args below meth c H locs 0 0 (sh_Qi below args s G tbM A res) (F0 m 13 ls [.int t0, .ref (G.2.1 0)]) := by
  intro S t0 hf H locs ls hw hl
  rw [fX13_undo_13] at hf
  refine sh_puti C hw fl_X13_79 fp_11_0 hf tbM_0 rfl dX13_undo_13 (fun S1 H locs hw hf => ?_)
  refine lv_aload_n C.1 C.2.1 dX13_undo_16 rfl (lv_at hl 0 rfl) ?_
  refine sh_geti C hw fl_X13_79 tbM_0 rfl dX13_undo_17 ?_
  refine sh_if_le (tgt := 25) C hf dX13_undo_20 (by decide) (fun hf => ?_) (fun hf => ?_)
  · refine lv_aload_n C.1 C.2.1 dX13_undo_25 rfl (lv_at hl 0 rfl) ?_
    refine lv_dup C.1 C.2.1 dX13_undo_26 rfl ?_
    refine sh_geti C hw fl_X13_251 tbM_0 rfl dX13_undo_27 ?_
    refine lv_iconst (v := 1) C.1 C.2.1 dX13_undo_30 (by decide) ?_
    refine lv_isub C.1 C.2.1 dX13_undo_31 ?_
    refine sh_puti C hw fl_X13_251 fp_11_5 hf tbM_0 rfl dX13_undo_32 (fun S2 H locs hw hf => ?_)
    refine lv_iconst (v := 0) C.1 C.2.1 dX13_undo_35 (by decide) ?_
    refine lv_istore_n (lv' := [(1, .int 0), (0, .ref (G.2.1 0))]) C.1 C.2.1 dX13_undo_36 rfl hl (by decide) rfl (fun ls hl => ?_)
    exact wX13_undo_37 C hr _ S2 0 hf _ _ _ hw (lv_sub hl [1, 0] rfl)
  · refine lv_iconst (v := 0) C.1 C.2.1 dX13_undo_23 (by decide) ?_
    exact sh_ri C hw hr hf dX13_undo_24
def fX13_undo (S : sh_St) : Option (Int32 × sh_St) :=
    if (S.1 0 5) = 0 then (fX13_undo_13 S 1)
    else (fX13_undo_13 S 0)
set_option maxRecDepth 100000 in
set_option maxHeartbeats 4000000 in
theorem kX13_undo (l : Launch) : sh_Mi l yX13_undo cX13_undo 2 .int 1 tbM (fun G => [.ref (G.2.1 0)]) (fun S => fX13_undo S) := by
  refine sh_mki (by decide) (fun G => Nat.le_of_ble_eq_true rfl) ?_
  intro p e s m args below meth c G A S res ls hf C hr hw hl
  have C : sh_Cx p s m args meth c cX13_undo 2 RX13 G A := C
  have hl : lv_has ls 2 [(0, .ref (G.2.1 0))] := hl
  replace hf : fX13_undo S = some res := hf
  rw [fX13_undo] at hf
  refine lv_aload_n C.1 C.2.1 dX13_undo_0 rfl (lv_at hl 0 rfl) ?_
  refine lv_aload_n C.1 C.2.1 dX13_undo_1 rfl (lv_at hl 0 rfl) ?_
  refine sh_geti C hw fl_X13_251 tbM_0 rfl dX13_undo_2 ?_
  refine sh_if_ne (tgt := 12) C hf dX13_undo_5 (by decide) (fun hf => ?_) (fun hf => ?_)
  · refine lv_iconst (v := 0) C.1 C.2.1 dX13_undo_12 (by decide) ?_
    exact wX13_undo_13 C hr S 0 hf _ _ _ hw (lv_sub hl [0] rfl)
  · refine lv_iconst (v := 1) C.1 C.2.1 dX13_undo_8 (by decide) ?_
    refine lv_goto (tgt := 13) C.1 C.2.1 dX13_undo_9 (by decide) ?_
    exact wX13_undo_13 C hr S 1 hf _ _ _ hw (lv_sub hl [0] rfl)
def fX13_meets_45 (rk4 : sh_St → Int32 → Int32 → Int32 → Option (Int32 × sh_St)) (S : sh_St) (v1 : Int32) (v3 : Int32) (t0 : Int32) (t1 : Int32) : Option (Int32 × sh_St) :=
    sh_t (t1 + t0) fun y1 =>
    sh_t (v3 + 1) fun y2 =>
    rk4 S v1 y1 y2
set_option maxRecDepth 100000 in
set_option maxHeartbeats 4000000 in
theorem wX13_meets_45 {p : Program} {l : Launch} {e : Env} {s : State} {m : MethodId} {args : Array Value} {below : List Frame} {meth : Method} {c : Code} {G : sh_Ev} {A : Nat → Prop} {res : Int32 × sh_St} (C : sh_Cx p s m args meth c cX13_meets 4 RX13 G A) (hr : meth.sig.returnType = some .int) (rk4 : sh_St → Int32 → Int32 → Int32 → Option (Int32 × sh_St)) (hr4 : ∀ (S : sh_St) (v1 : Int32) (v2 : Int32) (v3 : Int32), rk4 S v1 v2 v3 = some res → ∀ (H : Heap) (locs : List Loc) (ls : Array Slot), sh_Wx G tbM A s H locs S → lv_has ls 4 [(0, .ref (G.2.1 0)), (1, .int v1), (2, .int v2), (3, .int v3)] → W p l e (sh_rm 5) s m args below meth c H locs 0 0 (sh_Qi below args s G tbM A res) (F0 m 4 ls [])) : ∀ (S : sh_St) (v1 : Int32) (v3 : Int32) (t0 : Int32) (t1 : Int32), fX13_meets_45 rk4 S v1 v3 t0 t1 = some res → ∀ (H : Heap) (locs : List Loc) (ls : Array Slot), sh_Wx G tbM A s H locs S → lv_has ls 4 [(0, .ref (G.2.1 0)), (1, .int v1), (3, .int v3)] → W p l e (sh_rm 5) s m args below meth c H locs 0 0 (sh_Qi below args s G tbM A res) (F0 m 45 ls [.int t0, .int t1]) := by
  intro S v1 v3 t0 t1 hf H locs ls hw hl
  rw [fX13_meets_45] at hf
  refine lv_iadd C.1 C.2.1 dX13_meets_45 ?_
  refine sh_ni hf (fun y1 hf => ?_)
  refine lv_istore_n (lv' := [(2, .int y1), (0, .ref (G.2.1 0)), (1, .int v1), (3, .int v3)]) C.1 C.2.1 dX13_meets_46 rfl hl (by decide) rfl (fun ls hl => ?_)
  obtain ⟨y2, ey2, hf⟩ := sh_nm hf
  refine lv_iinc (v := y2) (lv' := [(3, .int y2), (2, .int y1), (0, .ref (G.2.1 0)), (1, .int v1)]) C.1 C.2.1 dX13_meets_47 hl (k := 3) rfl (by rw [← ey2]; rfl) (by decide) rfl (fun ls hl => ?_)
  refine lv_goto (tgt := 4) C.1 C.2.1 dX13_meets_50 (by decide) ?_
  exact hr4 S v1 y1 y2 hf _ _ _ hw (lv_sub hl [2, 3, 1, 0] rfl)
def fX13_meets_44 (rk4 : sh_St → Int32 → Int32 → Int32 → Option (Int32 × sh_St)) (S : sh_St) (v1 : Int32) (v3 : Int32) (t0 : Int32) : Option (Int32 × sh_St) :=
    fX13_meets_45 rk4 S v1 v3 0 t0
set_option maxRecDepth 100000 in
set_option maxHeartbeats 4000000 in
theorem wX13_meets_44 {p : Program} {l : Launch} {e : Env} {s : State} {m : MethodId} {args : Array Value} {below : List Frame} {meth : Method} {c : Code} {G : sh_Ev} {A : Nat → Prop} {res : Int32 × sh_St} (C : sh_Cx p s m args meth c cX13_meets 4 RX13 G A) (hr : meth.sig.returnType = some .int) (rk4 : sh_St → Int32 → Int32 → Int32 → Option (Int32 × sh_St)) (hr4 : ∀ (S : sh_St) (v1 : Int32) (v2 : Int32) (v3 : Int32), rk4 S v1 v2 v3 = some res → ∀ (H : Heap) (locs : List Loc) (ls : Array Slot), sh_Wx G tbM A s H locs S → lv_has ls 4 [(0, .ref (G.2.1 0)), (1, .int v1), (2, .int v2), (3, .int v3)] → W p l e (sh_rm 5) s m args below meth c H locs 0 0 (sh_Qi below args s G tbM A res) (F0 m 4 ls [])) : ∀ (S : sh_St) (v1 : Int32) (v3 : Int32) (t0 : Int32), fX13_meets_44 rk4 S v1 v3 t0 = some res → ∀ (H : Heap) (locs : List Loc) (ls : Array Slot), sh_Wx G tbM A s H locs S → lv_has ls 4 [(0, .ref (G.2.1 0)), (1, .int v1), (3, .int v3)] → W p l e (sh_rm 5) s m args below meth c H locs 0 0 (sh_Qi below args s G tbM A res) (F0 m 44 ls [.int t0]) := by
  intro S v1 v3 t0 hf H locs ls hw hl
  rw [fX13_meets_44] at hf
  refine lv_iconst (v := 0) C.1 C.2.1 dX13_meets_44 (by decide) ?_
  exact wX13_meets_45 C hr rk4 hr4 S v1 v3 0 t0 hf _ _ _ hw (lv_sub hl [0, 1, 2] rfl)
def fX13_meets_4 : Nat → sh_St → Int32 → Int32 → Int32 → Option (Int32 × sh_St)
  | 0, _, _, _, _ => none
  | n + 1, S, v1, v2, v3 =>
    if 240 ≤ v3 then (some (v2, S))
    else (sh_g (840 + v3) 1084 (if (S.1 1 (840 + v3).toNatClampNeg) = (-1) then (fX13_meets_44 (fX13_meets_4 n) S v1 v3 v2)
    else (sh_g v3 240 (sh_c (fX13_hashOf S (S.2 2 v3.toNatClampNeg)) fun r4 S3 =>
    if r4 = v1 then (fX13_meets_45 (fX13_meets_4 n) S3 v1 v3 1 v2)
    else (fX13_meets_44 (fX13_meets_4 n) S3 v1 v3 v2)))))
set_option maxRecDepth 100000 in
set_option maxHeartbeats 4000000 in
theorem wX13_meets_4 {p : Program} {l : Launch} {e : Env} {s : State} {m : MethodId} {args : Array Value} {below : List Frame} {meth : Method} {c : Code} {G : sh_Ev} {A : Nat → Prop} {res : Int32 × sh_St} (C : sh_Cx p s m args meth c cX13_meets 4 RX13 G A) (hr : meth.sig.returnType = some .int) : ∀ (n : Nat) (S : sh_St) (v1 : Int32) (v2 : Int32) (v3 : Int32), fX13_meets_4 n S v1 v2 v3 = some res → ∀ (H : Heap) (locs : List Loc) (ls : Array Slot), sh_Wx G tbM A s H locs S → lv_has ls 4 [(0, .ref (G.2.1 0)), (1, .int v1), (2, .int v2), (3, .int v3)] → W p l e (sh_rm 5) s m args below meth c H locs 0 0 (sh_Qi below args s G tbM A res) (F0 m 4 ls []) := by
  intro n
  induction n with
  | zero => intro S v1 v2 v3 hf; exact nomatch (show (none : Option (Int32 × sh_St)) = some res from hf)
  | succ n ih =>
    intro S v1 v2 v3 hf H locs ls hw hl
    have hr4 := ih
    rw [fX13_meets_4] at hf
    refine lv_iload_n C.1 C.2.1 dX13_meets_4 rfl (lv_at hl 3 rfl) ?_
    refine lv_sipush (v := 240) C.1 C.2.1 dX13_meets_5 (by decide) ?_
    refine sh_icmp_ge (tgt := 53) C hf dX13_meets_8 (by decide) (fun hf => ?_) (fun hf => ?_)
    · refine lv_iload_n C.1 C.2.1 dX13_meets_53 rfl (lv_at hl 2 rfl) ?_
      exact sh_ri C hw hr hf dX13_meets_54
    · refine lv_iload_n C.1 C.2.1 dX13_meets_11 rfl (lv_at hl 2 rfl) ?_
      refine lv_aload_n C.1 C.2.1 dX13_meets_12 rfl (lv_at hl 0 rfl) ?_
      refine sh_getr C hw fl_X13_7 tbM_0 rfl dX13_meets_13 ?_
      refine lv_sipush (v := 840) C.1 C.2.1 dX13_meets_16 (by decide) ?_
      refine lv_iload_n C.1 C.2.1 dX13_meets_19 rfl (lv_at hl 3 rfl) ?_
      refine lv_iadd C.1 C.2.1 dX13_meets_20 ?_
      refine sh_iald C hw hf tbM_1 dX13_meets_21 (fun hf => ?_)
      refine lv_iconst (v := -1) C.1 C.2.1 dX13_meets_22 (by decide) ?_
      refine sh_icmp_eq (tgt := 44) C hf dX13_meets_23 (by decide) (fun hf => ?_) (fun hf => ?_)
      · exact wX13_meets_44 C hr (fX13_meets_4 n) hr4 S v1 v3 v2 hf _ _ _ hw (lv_sub hl [0, 1, 3] rfl)
      · refine lv_aload_n C.1 C.2.1 dX13_meets_26 rfl (lv_at hl 0 rfl) ?_
        refine lv_aload_n C.1 C.2.1 dX13_meets_27 rfl (lv_at hl 0 rfl) ?_
        refine sh_getr C hw fl_X13_13 tbM_0 rfl dX13_meets_28 ?_
        refine lv_iload_n C.1 C.2.1 dX13_meets_31 rfl (lv_at hl 3 rfl) ?_
        refine sh_lald C hw hf tbM_2 dX13_meets_32 (fun hf => ?_)
        refine sh_Vi (As := [.long (S.2 2 v3.toNatClampNeg)]) (rest := [.int v2]) C hw (kX13_hashOf l (S.2 2 v3.toNatClampNeg)) yy_X13_hashOf yv_X13_hashOf ml_X13_164 hf tbM_0 rfl rfl rfl rfl (Nat.le_of_ble_eq_true rfl) (by decide) hl.1 dX13_meets_33 (fun r4 S3 H locs hw hf => ?_)
        refine lv_iload_n C.1 C.2.1 dX13_meets_36 rfl (lv_at hl 1 rfl) ?_
        refine sh_icmp_ne (tgt := 44) C hf dX13_meets_37 (by decide) (fun hf => ?_) (fun hf => ?_)
        · exact wX13_meets_44 C hr (fX13_meets_4 n) hr4 S3 v1 v3 v2 hf _ _ _ hw (lv_sub hl [0, 1, 3] rfl)
        · refine lv_iconst (v := 1) C.1 C.2.1 dX13_meets_40 (by decide) ?_
          refine lv_goto (tgt := 45) C.1 C.2.1 dX13_meets_41 (by decide) ?_
          exact wX13_meets_45 C hr (fX13_meets_4 n) hr4 S3 v1 v3 1 v2 hf _ _ _ hw (lv_sub hl [0, 1, 3] rfl)
def fX13_meets (S : sh_St) (v1 : Int32) : Option (Int32 × sh_St) :=
    fX13_meets_4 sh_FU S v1 0 0
set_option maxRecDepth 100000 in
set_option maxHeartbeats 4000000 in
theorem kX13_meets (l : Launch) (v1 : Int32) : sh_Mi l yX13_meets cX13_meets 4 .int 5 tbM (fun G => [.ref (G.2.1 0), .int v1]) (fun S => fX13_meets S v1) := by
  refine sh_mki (by decide) (fun G => Nat.le_of_ble_eq_true rfl) ?_
  intro p e s m args below meth c G A S res ls hf C hr hw hl
  have C : sh_Cx p s m args meth c cX13_meets 4 RX13 G A := C
  have hl : lv_has ls 4 [(0, .ref (G.2.1 0)), (1, .int v1)] := hl
  replace hf : fX13_meets S v1 = some res := hf
  rw [fX13_meets] at hf
  refine lv_iconst (v := 0) C.1 C.2.1 dX13_meets_0 (by decide) ?_
  refine lv_istore_n (lv' := [(2, .int 0), (0, .ref (G.2.1 0)), (1, .int v1)]) C.1 C.2.1 dX13_meets_1 rfl hl (by decide) rfl (fun ls hl => ?_)
  refine lv_iconst (v := 0) C.1 C.2.1 dX13_meets_2 (by decide) ?_
  refine lv_istore_n (lv' := [(3, .int 0), (2, .int 0), (0, .ref (G.2.1 0)), (1, .int v1)]) C.1 C.2.1 dX13_meets_3 rfl hl (by decide) rfl (fun ls hl => ?_)
  exact wX13_meets_4 C hr _ S v1 0 0 hf _ _ _ hw (lv_sub hl [2, 3, 1, 0] rfl)
def fX13_room_9 : Nat → sh_St → Int32 → Int32 → Option (Int32 × sh_St)
  | 0, _, _, _ => none
  | n + 1, S, v2, v3 =>
    if (S.1 0 29) ≤ v3 then (some (v2, S))
    else (sh_g ((S.1 0 28) + v3) 40 (sh_c (fX13_entries S (S.1 15 ((S.1 0 28) + v3).toNatClampNeg)) fun r4 S3 =>
    sh_t (v2 + (6 - r4)) fun y5 =>
    sh_t (v3 + 1) fun y6 =>
    (fX13_room_9 n) S3 y5 y6))
set_option maxRecDepth 100000 in
set_option maxHeartbeats 4000000 in
theorem wX13_room_9 {p : Program} {l : Launch} {e : Env} {s : State} {m : MethodId} {args : Array Value} {below : List Frame} {meth : Method} {c : Code} {G : sh_Ev} {A : Nat → Prop} {res : Int32 × sh_St} (C : sh_Cx p s m args meth c cX13_room 4 RX13 G A) (hr : meth.sig.returnType = some .int) : ∀ (n : Nat) (S : sh_St) (v2 : Int32) (v3 : Int32), fX13_room_9 n S v2 v3 = some res → ∀ (H : Heap) (locs : List Loc) (ls : Array Slot), sh_Wx G tbM A s H locs S → lv_has ls 4 [(0, .ref (G.2.1 0)), (2, .int v2), (3, .int v3)] → W p l e (sh_rm 5) s m args below meth c H locs 0 0 (sh_Qi below args s G tbM A res) (F0 m 9 ls []) := by
  intro n
  induction n with
  | zero => intro S v2 v3 hf; exact nomatch (show (none : Option (Int32 × sh_St)) = some res from hf)
  | succ n ih =>
    intro S v2 v3 hf H locs ls hw hl
    have hr9 := ih
    rw [fX13_room_9] at hf
    refine lv_iload_n C.1 C.2.1 dX13_room_9 rfl (lv_at hl 2 rfl) ?_
    refine lv_aload_n C.1 C.2.1 dX13_room_10 rfl (lv_at hl 0 rfl) ?_
    refine sh_geti C hw fl_X13_140 tbM_0 rfl dX13_room_11 ?_
    refine sh_icmp_ge (tgt := 44) C hf dX13_room_14 (by decide) (fun hf => ?_) (fun hf => ?_)
    · refine lv_iload_n C.1 C.2.1 dX13_room_44 rfl (lv_at hl 1 rfl) ?_
      exact sh_ri C hw hr hf dX13_room_45
    · refine lv_iload_n C.1 C.2.1 dX13_room_17 rfl (lv_at hl 1 rfl) ?_
      refine lv_bipush (v := 6) C.1 C.2.1 dX13_room_18 (by decide) ?_
      refine lv_aload_n C.1 C.2.1 dX13_room_20 rfl (lv_at hl 0 rfl) ?_
      refine lv_aload_n C.1 C.2.1 dX13_room_21 rfl (lv_at hl 0 rfl) ?_
      refine sh_getr C hw fl_X13_58 tbM_0 rfl dX13_room_22 ?_
      refine lv_aload_n C.1 C.2.1 dX13_room_25 rfl (lv_at hl 0 rfl) ?_
      refine sh_geti C hw fl_X13_137 tbM_0 rfl dX13_room_26 ?_
      refine lv_iload_n C.1 C.2.1 dX13_room_29 rfl (lv_at hl 2 rfl) ?_
      refine lv_iadd C.1 C.2.1 dX13_room_30 ?_
      refine sh_iald C hw hf tbM_15 dX13_room_31 (fun hf => ?_)
      refine sh_Vi (As := [.int (S.1 15 ((S.1 0 28) + v3).toNatClampNeg)]) (rest := [.int 6, .int v2]) C hw (kX13_entries l (S.1 15 ((S.1 0 28) + v3).toNatClampNeg)) yy_X13_entries yv_X13_entries ml_X13_372 hf tbM_0 rfl rfl rfl rfl (Nat.le_of_ble_eq_true rfl) (by decide) hl.1 dX13_room_32 (fun r4 S3 H locs hw hf => ?_)
      refine lv_isub C.1 C.2.1 dX13_room_35 ?_
      refine lv_iadd C.1 C.2.1 dX13_room_36 ?_
      refine sh_ni hf (fun y5 hf => ?_)
      refine lv_istore_n (lv' := [(2, .int y5), (0, .ref (G.2.1 0)), (3, .int v3)]) C.1 C.2.1 dX13_room_37 rfl hl (by decide) rfl (fun ls hl => ?_)
      obtain ⟨y6, ey6, hf⟩ := sh_nm hf
      refine lv_iinc (v := y6) (lv' := [(3, .int y6), (2, .int y5), (0, .ref (G.2.1 0))]) C.1 C.2.1 dX13_room_38 hl (k := 2) rfl (by rw [← ey6]; rfl) (by decide) rfl (fun ls hl => ?_)
      refine lv_goto (tgt := 9) C.1 C.2.1 dX13_room_41 (by decide) ?_
      exact hr9 S3 y5 y6 hf _ _ _ hw (lv_sub hl [2, 1, 0] rfl)
def fX13_room (S : sh_St) (v1 : Int32) : Option (Int32 × sh_St) :=
    sh_c (fX13_goes S v1) fun _ S1 =>
    fX13_room_9 sh_FU S1 0 0
set_option maxRecDepth 100000 in
set_option maxHeartbeats 4000000 in
theorem kX13_room (l : Launch) (v1 : Int32) : sh_Mi l yX13_room cX13_room 4 .int 5 tbM (fun G => [.ref (G.2.1 0), .int v1]) (fun S => fX13_room S v1) := by
  refine sh_mki (by decide) (fun G => Nat.le_of_ble_eq_true rfl) ?_
  intro p e s m args below meth c G A S res ls hf C hr hw hl
  have C : sh_Cx p s m args meth c cX13_room 4 RX13 G A := C
  have hl : lv_has ls 4 [(0, .ref (G.2.1 0)), (1, .int v1)] := hl
  replace hf : fX13_room S v1 = some res := hf
  rw [fX13_room] at hf
  refine lv_aload_n C.1 C.2.1 dX13_room_0 rfl (lv_at hl 0 rfl) ?_
  refine lv_iload_n C.1 C.2.1 dX13_room_1 rfl (lv_at hl 1 rfl) ?_
  refine sh_Vv (As := [.int v1]) (rest := []) C hw (kX13_goes l v1) yy_X13_goes yv_X13_goes ml_X13_167 hf tbM_0 rfl rfl rfl rfl (Nat.le_of_ble_eq_true rfl) (by decide) hl.1 dX13_room_2 (fun S1 H locs hw hf => ?_)
  refine lv_iconst (v := 0) C.1 C.2.1 dX13_room_5 (by decide) ?_
  refine lv_istore_n (lv' := [(2, .int 0), (0, .ref (G.2.1 0)), (1, .int v1)]) C.1 C.2.1 dX13_room_6 rfl hl (by decide) rfl (fun ls hl => ?_)
  refine lv_iconst (v := 0) C.1 C.2.1 dX13_room_7 (by decide) ?_
  refine lv_istore_n (lv' := [(3, .int 0), (2, .int 0), (0, .ref (G.2.1 0)), (1, .int v1)]) C.1 C.2.1 dX13_room_8 rfl hl (by decide) rfl (fun ls hl => ?_)
  exact wX13_room_9 C hr _ S1 0 0 hf _ _ _ hw (lv_sub hl [2, 1, 0] rfl)
def fX13_needsOf (S : sh_St) (v1 : Int64) : Option (Int32 × sh_St) :=
    sh_c (fX13_seeks S v1) fun r2 S1 =>
    if r2 = 0 then (sh_c (fX13_isAnyTorn S1 ) fun r4 S3 =>
    if r4 = 0 then (sh_c (fX13_hashOf S3 v1) fun r6 S5 =>
    sh_c (fX13_goes S5 r6) fun _ S7 =>
    sh_c (fX13_needs S7 ) fun r10 S9 =>
    some (r10, S9))
    else (some ((-1), S3)))
    else (some ((-1), S1))
set_option maxRecDepth 100000 in
set_option maxHeartbeats 4000000 in
theorem kX13_needsOf (l : Launch) (v1 : Int64) : sh_Mi l yX13_needsOf cX13_needsOf 3 .int 6 tbM (fun G => [.ref (G.2.1 0), .long v1]) (fun S => fX13_needsOf S v1) := by
  refine sh_mki (by decide) (fun G => Nat.le_of_ble_eq_true rfl) ?_
  intro p e s m args below meth c G A S res ls hf C hr hw hl
  have C : sh_Cx p s m args meth c cX13_needsOf 3 RX13 G A := C
  have hl : lv_has ls 3 [(0, .ref (G.2.1 0)), (1, .long v1)] := hl
  replace hf : fX13_needsOf S v1 = some res := hf
  rw [fX13_needsOf] at hf
  refine lv_aload_n C.1 C.2.1 dX13_needsOf_0 rfl (lv_at hl 0 rfl) ?_
  refine lv_lload_n C.1 C.2.1 dX13_needsOf_1 rfl (lv_at hl 1 rfl) ?_
  refine sh_Vi (As := [.long v1]) (rest := []) C hw (kX13_seeks l v1) yy_X13_seeks yv_X13_seeks ml_X13_226 hf tbM_0 rfl rfl rfl rfl (Nat.le_of_ble_eq_true rfl) (by decide) hl.1 dX13_needsOf_2 (fun r2 S1 H locs hw hf => ?_)
  refine sh_if_ne (tgt := 15) C hf dX13_needsOf_5 (by decide) (fun hf => ?_) (fun hf => ?_)
  · refine lv_iconst (v := -1) C.1 C.2.1 dX13_needsOf_15 (by decide) ?_
    exact sh_ri C hw hr hf dX13_needsOf_16
  · refine lv_aload_n C.1 C.2.1 dX13_needsOf_8 rfl (lv_at hl 0 rfl) ?_
    refine sh_Vi (As := []) (rest := []) C hw (kX13_isAnyTorn l ) yy_X13_isAnyTorn yv_X13_isAnyTorn ml_X13_156 hf tbM_0 rfl rfl rfl rfl (Nat.le_of_ble_eq_true rfl) (by decide) hl.1 dX13_needsOf_9 (fun r4 S3 H locs hw hf => ?_)
    refine sh_if_eq (tgt := 17) C hf dX13_needsOf_12 (by decide) (fun hf => ?_) (fun hf => ?_)
    · refine lv_aload_n C.1 C.2.1 dX13_needsOf_17 rfl (lv_at hl 0 rfl) ?_
      refine lv_aload_n C.1 C.2.1 dX13_needsOf_18 rfl (lv_at hl 0 rfl) ?_
      refine lv_lload_n C.1 C.2.1 dX13_needsOf_19 rfl (lv_at hl 1 rfl) ?_
      refine sh_Vi (As := [.long v1]) (rest := [.ref (G.2.1 0)]) C hw (kX13_hashOf l v1) yy_X13_hashOf yv_X13_hashOf ml_X13_164 hf tbM_0 rfl rfl rfl rfl (Nat.le_of_ble_eq_true rfl) (by decide) hl.1 dX13_needsOf_20 (fun r6 S5 H locs hw hf => ?_)
      refine sh_Vv (As := [.int r6]) (rest := []) C hw (kX13_goes l r6) yy_X13_goes yv_X13_goes ml_X13_167 hf tbM_0 rfl rfl rfl rfl (Nat.le_of_ble_eq_true rfl) (by decide) hl.1 dX13_needsOf_23 (fun S7 H locs hw hf => ?_)
      refine lv_aload_n C.1 C.2.1 dX13_needsOf_26 rfl (lv_at hl 0 rfl) ?_
      refine sh_Vi (As := []) (rest := []) C hw (kX13_needs l ) yy_X13_needs yv_X13_needs ml_X13_218 hf tbM_0 rfl rfl rfl rfl (Nat.le_of_ble_eq_true rfl) (by decide) hl.1 dX13_needsOf_27 (fun r10 S9 H locs hw hf => ?_)
      exact sh_ri C hw hr hf dX13_needsOf_30
    · refine lv_iconst (v := -1) C.1 C.2.1 dX13_needsOf_15 (by decide) ?_
      exact sh_ri C hw hr hf dX13_needsOf_16
def fX13_mate_66 (rk9 : sh_St → Int32 → Int32 → Option (Int32 × sh_St)) (S : sh_St) (v3 : Int32) (v4 : Int32) : Option (Int32 × sh_St) :=
    sh_t (v4 + 1) fun y6 =>
    rk9 S v3 y6
set_option maxRecDepth 100000 in
set_option maxHeartbeats 4000000 in
theorem wX13_mate_66 {p : Program} {l : Launch} {e : Env} {s : State} {m : MethodId} {args : Array Value} {below : List Frame} {meth : Method} {c : Code} {G : sh_Ev} {A : Nat → Prop} {res : Int32 × sh_St} (C : sh_Cx p s m args meth c cX13_mate 7 RX13 G A) (hr : meth.sig.returnType = some .int) (rk9 : sh_St → Int32 → Int32 → Option (Int32 × sh_St)) (hr9 : ∀ (S : sh_St) (v3 : Int32) (v4 : Int32), rk9 S v3 v4 = some res → ∀ (H : Heap) (locs : List Loc) (ls : Array Slot), sh_Wx G tbM A s H locs S → lv_has ls 7 [(0, .ref (G.2.1 0)), (3, .int v3), (4, .int v4)] → W p l e (sh_rm 6) s m args below meth c H locs 0 0 (sh_Qi below args s G tbM A res) (F0 m 9 ls [])) : ∀ (S : sh_St) (v3 : Int32) (v4 : Int32), fX13_mate_66 rk9 S v3 v4 = some res → ∀ (H : Heap) (locs : List Loc) (ls : Array Slot), sh_Wx G tbM A s H locs S → lv_has ls 7 [(0, .ref (G.2.1 0)), (3, .int v3), (4, .int v4)] → W p l e (sh_rm 6) s m args below meth c H locs 0 0 (sh_Qi below args s G tbM A res) (F0 m 66 ls []) := by
  intro S v3 v4 hf H locs ls hw hl
  rw [fX13_mate_66] at hf
  obtain ⟨y6, ey6, hf⟩ := sh_nm hf
  refine lv_iinc (v := y6) (lv' := [(4, .int y6), (0, .ref (G.2.1 0)), (3, .int v3)]) C.1 C.2.1 dX13_mate_66 hl (k := 2) rfl (by rw [← ey6]; rfl) (by decide) rfl (fun ls hl => ?_)
  refine lv_goto (tgt := 9) C.1 C.2.1 dX13_mate_69 (by decide) ?_
  exact hr9 S v3 y6 hf _ _ _ hw (lv_sub hl [1, 2, 0] rfl)
def fX13_mate_9 : Nat → sh_St → Int32 → Int32 → Option (Int32 × sh_St)
  | 0, _, _, _ => none
  | n + 1, S, v3, v4 =>
    if 676 ≤ v4 then (some ((-1), S))
    else (sh_t (((Int32.toInt64 (97 + (v4 / 26))) <<< ((Int32.toInt64 56) &&& 63)) ||| ((Int32.toInt64 (97 + (v4 - v4 / 26 * 26))) <<< ((Int32.toInt64 48) &&& 63))) fun y3 =>
    sh_c (fX13_hashOf S y3) fun r5 S4 =>
    if r5 = v3 then (sh_c (fX13_seeks S4 y3) fun r8 S7 =>
    if r8 = 0 then (some (v4, S7))
    else (fX13_mate_66 (fX13_mate_9 n) S7 v3 v4))
    else (fX13_mate_66 (fX13_mate_9 n) S4 v3 v4))
set_option maxRecDepth 100000 in
set_option maxHeartbeats 4000000 in
theorem wX13_mate_9 {p : Program} {l : Launch} {e : Env} {s : State} {m : MethodId} {args : Array Value} {below : List Frame} {meth : Method} {c : Code} {G : sh_Ev} {A : Nat → Prop} {res : Int32 × sh_St} (C : sh_Cx p s m args meth c cX13_mate 7 RX13 G A) (hr : meth.sig.returnType = some .int) : ∀ (n : Nat) (S : sh_St) (v3 : Int32) (v4 : Int32), fX13_mate_9 n S v3 v4 = some res → ∀ (H : Heap) (locs : List Loc) (ls : Array Slot), sh_Wx G tbM A s H locs S → lv_has ls 7 [(0, .ref (G.2.1 0)), (3, .int v3), (4, .int v4)] → W p l e (sh_rm 6) s m args below meth c H locs 0 0 (sh_Qi below args s G tbM A res) (F0 m 9 ls []) := by
  intro n
  induction n with
  | zero => intro S v3 v4 hf; exact nomatch (show (none : Option (Int32 × sh_St)) = some res from hf)
  | succ n ih =>
    intro S v3 v4 hf H locs ls hw hl
    have hr9 := ih
    rw [fX13_mate_9] at hf
    refine lv_iload C.1 C.2.1 dX13_mate_9 (lv_at hl 2 rfl) ?_
    refine lv_sipush (v := 676) C.1 C.2.1 dX13_mate_11 (by decide) ?_
    refine sh_icmp_ge (tgt := 72) C hf dX13_mate_14 (by decide) (fun hf => ?_) (fun hf => ?_)
    · refine lv_iconst (v := -1) C.1 C.2.1 dX13_mate_72 (by decide) ?_
      exact sh_ri C hw hr hf dX13_mate_73
    · refine lv_bipush (v := 97) C.1 C.2.1 dX13_mate_17 (by decide) ?_
      refine lv_iload C.1 C.2.1 dX13_mate_19 (lv_at hl 2 rfl) ?_
      refine lv_bipush (v := 26) C.1 C.2.1 dX13_mate_21 (by decide) ?_
      refine lv_idiv C.1 C.2.1 dX13_mate_23 (by decide) ?_
      refine lv_iadd C.1 C.2.1 dX13_mate_24 ?_
      refine lv_i2l C.1 C.2.1 dX13_mate_25 rfl ?_
      refine lv_bipush (v := 56) C.1 C.2.1 dX13_mate_26 (by decide) ?_
      refine lv_lshl C.1 C.2.1 dX13_mate_28 rfl ?_
      refine lv_bipush (v := 97) C.1 C.2.1 dX13_mate_29 (by decide) ?_
      refine lv_iload C.1 C.2.1 dX13_mate_31 (lv_at hl 2 rfl) ?_
      refine lv_bipush (v := 26) C.1 C.2.1 dX13_mate_33 (by decide) ?_
      refine lv_irem C.1 C.2.1 dX13_mate_35 (by decide) ?_
      refine lv_iadd C.1 C.2.1 dX13_mate_36 ?_
      refine lv_i2l C.1 C.2.1 dX13_mate_37 rfl ?_
      refine lv_bipush (v := 48) C.1 C.2.1 dX13_mate_38 (by decide) ?_
      refine lv_lshl C.1 C.2.1 dX13_mate_40 rfl ?_
      refine lv_lor C.1 C.2.1 dX13_mate_41 ?_
      refine sh_nl hf (fun y3 hf => ?_)
      refine lv_lstore (lv' := [(5, .long y3), (0, .ref (G.2.1 0)), (3, .int v3), (4, .int v4)]) C.1 C.2.1 dX13_mate_42 hl (by decide) rfl (fun ls hl => ?_)
      refine lv_aload_n C.1 C.2.1 dX13_mate_44 rfl (lv_at hl 1 rfl) ?_
      refine lv_lload C.1 C.2.1 dX13_mate_45 (lv_at hl 0 rfl) ?_
      refine sh_Vi (As := [.long y3]) (rest := []) C hw (kX13_hashOf l y3) yy_X13_hashOf yv_X13_hashOf ml_X13_164 hf tbM_0 rfl rfl rfl rfl (Nat.le_of_ble_eq_true rfl) (by decide) hl.1 dX13_mate_47 (fun r5 S4 H locs hw hf => ?_)
      refine lv_iload_n C.1 C.2.1 dX13_mate_50 rfl (lv_at hl 2 rfl) ?_
      refine sh_icmp_ne (tgt := 66) C hf dX13_mate_51 (by decide) (fun hf => ?_) (fun hf => ?_)
      · exact wX13_mate_66 C hr (fX13_mate_9 n) hr9 S4 v3 v4 hf _ _ _ hw (lv_sub hl [1, 2, 3] rfl)
      · refine lv_aload_n C.1 C.2.1 dX13_mate_54 rfl (lv_at hl 1 rfl) ?_
        refine lv_lload C.1 C.2.1 dX13_mate_55 (lv_at hl 0 rfl) ?_
        refine sh_Vi (As := [.long y3]) (rest := []) C hw (kX13_seeks l y3) yy_X13_seeks yv_X13_seeks ml_X13_226 hf tbM_0 rfl rfl rfl rfl (Nat.le_of_ble_eq_true rfl) (by decide) hl.1 dX13_mate_57 (fun r8 S7 H locs hw hf => ?_)
        refine sh_if_ne (tgt := 66) C hf dX13_mate_60 (by decide) (fun hf => ?_) (fun hf => ?_)
        · exact wX13_mate_66 C hr (fX13_mate_9 n) hr9 S7 v3 v4 hf _ _ _ hw (lv_sub hl [1, 2, 3] rfl)
        · refine lv_iload C.1 C.2.1 dX13_mate_63 (lv_at hl 3 rfl) ?_
          exact sh_ri C hw hr hf dX13_mate_65
def fX13_mate (S : sh_St) (v1 : Int64) : Option (Int32 × sh_St) :=
    sh_c (fX13_hashOf S v1) fun r2 S1 =>
    fX13_mate_9 sh_FU S1 r2 0
set_option maxRecDepth 100000 in
set_option maxHeartbeats 4000000 in
theorem kX13_mate (l : Launch) (v1 : Int64) : sh_Mi l yX13_mate cX13_mate 7 .int 6 tbM (fun G => [.ref (G.2.1 0), .long v1]) (fun S => fX13_mate S v1) := by
  refine sh_mki (by decide) (fun G => Nat.le_of_ble_eq_true rfl) ?_
  intro p e s m args below meth c G A S res ls hf C hr hw hl
  have C : sh_Cx p s m args meth c cX13_mate 7 RX13 G A := C
  have hl : lv_has ls 7 [(0, .ref (G.2.1 0)), (1, .long v1)] := hl
  replace hf : fX13_mate S v1 = some res := hf
  rw [fX13_mate] at hf
  refine lv_aload_n C.1 C.2.1 dX13_mate_0 rfl (lv_at hl 0 rfl) ?_
  refine lv_lload_n C.1 C.2.1 dX13_mate_1 rfl (lv_at hl 1 rfl) ?_
  refine sh_Vi (As := [.long v1]) (rest := []) C hw (kX13_hashOf l v1) yy_X13_hashOf yv_X13_hashOf ml_X13_164 hf tbM_0 rfl rfl rfl rfl (Nat.le_of_ble_eq_true rfl) (by decide) hl.1 dX13_mate_2 (fun r2 S1 H locs hw hf => ?_)
  refine lv_istore_n (lv' := [(3, .int r2), (0, .ref (G.2.1 0)), (1, .long v1)]) C.1 C.2.1 dX13_mate_5 rfl hl (by decide) rfl (fun ls hl => ?_)
  refine lv_iconst (v := 0) C.1 C.2.1 dX13_mate_6 (by decide) ?_
  refine lv_istore (lv' := [(4, .int 0), (3, .int r2), (0, .ref (G.2.1 0)), (1, .long v1)]) C.1 C.2.1 dX13_mate_7 hl (by decide) rfl (fun ls hl => ?_)
  exact wX13_mate_9 C hr _ S1 r2 0 hf _ _ _ hw (lv_sub hl [2, 1, 0] rfl)
def fX13_blockOn_5 : Nat → sh_St → Int32 → Int32 → Int32 → Int32 → Option (Int32 × sh_St)
  | 0, _, _, _, _, _ => none
  | n + 1, S, v1, v2, v3, v4 =>
    sh_g 1080 1084 (if (S.1 1 (1080 : Int32).toNatClampNeg) ≤ v4 then (sh_c (fX13_goes S v1) fun _ S1 =>
    sh_g 1080 1084 (sh_t (v2 - (S1.1 1 (1080 : Int32).toNatClampNeg)) fun y3 =>
    sh_c (fX13_isIn S1 y3 0 ((S1.1 0 29) - 1)) fun r5 S4 =>
    if r5 = 0 then (some ((-1), S4))
    else (sh_g ((S4.1 0 28) + y3) 40 (some (S4.1 15 ((S4.1 0 28) + y3).toNatClampNeg, S4)))))
    else (if v4 = v2 then (some (v3, S))
    else (sh_c (fX13_rowFor S v3 v1) fun r7 S6 =>
    sh_c (fX13_rowAt S6 v3 r7 2) fun r9 S8 =>
    sh_g r9 1084 (sh_t (S8.1 1 r9.toNatClampNeg) fun y10 =>
    sh_t (v4 + 1) fun y11 =>
    (fX13_blockOn_5 n) S8 v1 v2 y10 y11))))
set_option maxRecDepth 100000 in
set_option maxHeartbeats 4000000 in
theorem wX13_blockOn_5 {p : Program} {l : Launch} {e : Env} {s : State} {m : MethodId} {args : Array Value} {below : List Frame} {meth : Method} {c : Code} {G : sh_Ev} {A : Nat → Prop} {res : Int32 × sh_St} (C : sh_Cx p s m args meth c cX13_blockOn 5 RX13 G A) (hr : meth.sig.returnType = some .int) : ∀ (n : Nat) (S : sh_St) (v1 : Int32) (v2 : Int32) (v3 : Int32) (v4 : Int32), fX13_blockOn_5 n S v1 v2 v3 v4 = some res → ∀ (H : Heap) (locs : List Loc) (ls : Array Slot), sh_Wx G tbM A s H locs S → lv_has ls 5 [(0, .ref (G.2.1 0)), (1, .int v1), (2, .int v2), (3, .int v3), (4, .int v4)] → W p l e (sh_rm 5) s m args below meth c H locs 0 0 (sh_Qi below args s G tbM A res) (F0 m 5 ls []) := by
  intro n
  induction n with
  | zero => intro S v1 v2 v3 v4 hf; exact nomatch (show (none : Option (Int32 × sh_St)) = some res from hf)
  | succ n ih =>
    intro S v1 v2 v3 v4 hf H locs ls hw hl
    have hr5 := ih
    rw [fX13_blockOn_5] at hf
    refine lv_iload C.1 C.2.1 dX13_blockOn_5 (lv_at hl 4 rfl) ?_
    refine lv_aload_n C.1 C.2.1 dX13_blockOn_7 rfl (lv_at hl 0 rfl) ?_
    refine sh_getr C hw fl_X13_7 tbM_0 rfl dX13_blockOn_8 ?_
    refine lv_sipush (v := 1080) C.1 C.2.1 dX13_blockOn_11 (by decide) ?_
    refine sh_iald C hw hf tbM_1 dX13_blockOn_14 (fun hf => ?_)
    refine sh_icmp_ge (tgt := 49) C hf dX13_blockOn_15 (by decide) (fun hf => ?_) (fun hf => ?_)
    · refine lv_aload_n C.1 C.2.1 dX13_blockOn_49 rfl (lv_at hl 0 rfl) ?_
      refine lv_iload_n C.1 C.2.1 dX13_blockOn_50 rfl (lv_at hl 1 rfl) ?_
      refine sh_Vv (As := [.int v1]) (rest := []) C hw (kX13_goes l v1) yy_X13_goes yv_X13_goes ml_X13_167 hf tbM_0 rfl rfl rfl rfl (Nat.le_of_ble_eq_true rfl) (by decide) hl.1 dX13_blockOn_51 (fun S1 H locs hw hf => ?_)
      refine lv_iload_n C.1 C.2.1 dX13_blockOn_54 rfl (lv_at hl 2 rfl) ?_
      refine lv_aload_n C.1 C.2.1 dX13_blockOn_55 rfl (lv_at hl 0 rfl) ?_
      refine sh_getr C hw fl_X13_7 tbM_0 rfl dX13_blockOn_56 ?_
      refine lv_sipush (v := 1080) C.1 C.2.1 dX13_blockOn_59 (by decide) ?_
      refine sh_iald C hw hf tbM_1 dX13_blockOn_62 (fun hf => ?_)
      refine lv_isub C.1 C.2.1 dX13_blockOn_63 ?_
      refine sh_ni hf (fun y3 hf => ?_)
      refine lv_istore (lv' := [(4, .int y3), (0, .ref (G.2.1 0)), (1, .int v1), (2, .int v2), (3, .int v3)]) C.1 C.2.1 dX13_blockOn_64 hl (by decide) rfl (fun ls hl => ?_)
      refine lv_iload C.1 C.2.1 dX13_blockOn_66 (lv_at hl 0 rfl) ?_
      refine lv_iconst (v := 0) C.1 C.2.1 dX13_blockOn_68 (by decide) ?_
      refine lv_aload_n C.1 C.2.1 dX13_blockOn_69 rfl (lv_at hl 1 rfl) ?_
      refine sh_geti C hw fl_X13_140 tbM_0 rfl dX13_blockOn_70 ?_
      refine lv_iconst (v := 1) C.1 C.2.1 dX13_blockOn_73 (by decide) ?_
      refine lv_isub C.1 C.2.1 dX13_blockOn_74 ?_
      refine sh_Si (As := [.int y3, .int 0, .int ((S1.1 0 29) - 1)]) (rest := []) C hw (kX13_isIn l y3 0 ((S1.1 0 29) - 1)) yy_X13_isIn ys_X13_isIn ml_X13_263 rfl hf rfl rfl rfl (Nat.le_of_ble_eq_true rfl) (by decide) hl.1 dX13_blockOn_75 (fun r5 S4 H locs hw hf => ?_)
      refine sh_if_eq (tgt := 96) C hf dX13_blockOn_78 (by decide) (fun hf => ?_) (fun hf => ?_)
      · refine lv_iconst (v := -1) C.1 C.2.1 dX13_blockOn_96 (by decide) ?_
        exact sh_ri C hw hr hf dX13_blockOn_97
      · refine lv_aload_n C.1 C.2.1 dX13_blockOn_81 rfl (lv_at hl 1 rfl) ?_
        refine sh_getr C hw fl_X13_58 tbM_0 rfl dX13_blockOn_82 ?_
        refine lv_aload_n C.1 C.2.1 dX13_blockOn_85 rfl (lv_at hl 1 rfl) ?_
        refine sh_geti C hw fl_X13_137 tbM_0 rfl dX13_blockOn_86 ?_
        refine lv_iload C.1 C.2.1 dX13_blockOn_89 (lv_at hl 0 rfl) ?_
        refine lv_iadd C.1 C.2.1 dX13_blockOn_91 ?_
        refine sh_iald C hw hf tbM_15 dX13_blockOn_92 (fun hf => ?_)
        refine lv_goto (tgt := 97) C.1 C.2.1 dX13_blockOn_93 (by decide) ?_
        exact sh_ri C hw hr hf dX13_blockOn_97
    · refine lv_iload C.1 C.2.1 dX13_blockOn_18 (lv_at hl 4 rfl) ?_
      refine lv_iload_n C.1 C.2.1 dX13_blockOn_20 rfl (lv_at hl 2 rfl) ?_
      refine sh_icmp_ne (tgt := 26) C hf dX13_blockOn_21 (by decide) (fun hf => ?_) (fun hf => ?_)
      · refine lv_aload_n C.1 C.2.1 dX13_blockOn_26 rfl (lv_at hl 0 rfl) ?_
        refine sh_getr C hw fl_X13_7 tbM_0 rfl dX13_blockOn_27 ?_
        refine lv_iload_n C.1 C.2.1 dX13_blockOn_30 rfl (lv_at hl 3 rfl) ?_
        refine lv_aload_n C.1 C.2.1 dX13_blockOn_31 rfl (lv_at hl 0 rfl) ?_
        refine lv_iload_n C.1 C.2.1 dX13_blockOn_32 rfl (lv_at hl 3 rfl) ?_
        refine lv_iload_n C.1 C.2.1 dX13_blockOn_33 rfl (lv_at hl 1 rfl) ?_
        refine sh_Vi (As := [.int v3, .int v1]) (rest := [.int v3, .ref (G.2.1 1)]) C hw (kX13_rowFor l v3 v1) yy_X13_rowFor yv_X13_rowFor ml_X13_125 hf tbM_0 rfl rfl rfl rfl (Nat.le_of_ble_eq_true rfl) (by decide) hl.1 dX13_blockOn_34 (fun r7 S6 H locs hw hf => ?_)
        refine lv_iconst (v := 2) C.1 C.2.1 dX13_blockOn_37 (by decide) ?_
        refine sh_Si (As := [.int v3, .int r7, .int 2]) (rest := [.ref (G.2.1 1)]) C hw (kX13_rowAt l v3 r7 2) yy_X13_rowAt ys_X13_rowAt ml_X13_117 rfl hf rfl rfl rfl (Nat.le_of_ble_eq_true rfl) (by decide) hl.1 dX13_blockOn_38 (fun r9 S8 H locs hw hf => ?_)
        refine sh_iald C hw hf tbM_1 dX13_blockOn_41 (fun hf => ?_)
        refine sh_ni hf (fun y10 hf => ?_)
        refine lv_istore_n (lv' := [(3, .int y10), (0, .ref (G.2.1 0)), (1, .int v1), (2, .int v2), (4, .int v4)]) C.1 C.2.1 dX13_blockOn_42 rfl hl (by decide) rfl (fun ls hl => ?_)
        obtain ⟨y11, ey11, hf⟩ := sh_nm hf
        refine lv_iinc (v := y11) (lv' := [(4, .int y11), (3, .int y10), (0, .ref (G.2.1 0)), (1, .int v1), (2, .int v2)]) C.1 C.2.1 dX13_blockOn_43 hl (k := 4) rfl (by rw [← ey11]; rfl) (by decide) rfl (fun ls hl => ?_)
        refine lv_goto (tgt := 5) C.1 C.2.1 dX13_blockOn_46 (by decide) ?_
        exact hr5 S8 v1 v2 y10 y11 hf _ _ _ hw (lv_sub hl [2, 3, 4, 1, 0] rfl)
      · refine lv_iload_n C.1 C.2.1 dX13_blockOn_24 rfl (lv_at hl 3 rfl) ?_
        exact sh_ri C hw hr hf dX13_blockOn_25
def fX13_blockOn (S : sh_St) (v1 : Int32) (v2 : Int32) : Option (Int32 × sh_St) :=
    fX13_blockOn_5 sh_FU S v1 v2 0 0
set_option maxRecDepth 100000 in
set_option maxHeartbeats 4000000 in
theorem kX13_blockOn (l : Launch) (v1 : Int32) (v2 : Int32) : sh_Mi l yX13_blockOn cX13_blockOn 5 .int 5 tbM (fun G => [.ref (G.2.1 0), .int v1, .int v2]) (fun S => fX13_blockOn S v1 v2) := by
  refine sh_mki (by decide) (fun G => Nat.le_of_ble_eq_true rfl) ?_
  intro p e s m args below meth c G A S res ls hf C hr hw hl
  have C : sh_Cx p s m args meth c cX13_blockOn 5 RX13 G A := C
  have hl : lv_has ls 5 [(0, .ref (G.2.1 0)), (1, .int v1), (2, .int v2)] := hl
  replace hf : fX13_blockOn S v1 v2 = some res := hf
  rw [fX13_blockOn] at hf
  refine lv_iconst (v := 0) C.1 C.2.1 dX13_blockOn_0 (by decide) ?_
  refine lv_istore_n (lv' := [(3, .int 0), (0, .ref (G.2.1 0)), (1, .int v1), (2, .int v2)]) C.1 C.2.1 dX13_blockOn_1 rfl hl (by decide) rfl (fun ls hl => ?_)
  refine lv_iconst (v := 0) C.1 C.2.1 dX13_blockOn_2 (by decide) ?_
  refine lv_istore (lv' := [(4, .int 0), (3, .int 0), (0, .ref (G.2.1 0)), (1, .int v1), (2, .int v2)]) C.1 C.2.1 dX13_blockOn_3 hl (by decide) rfl (fun ls hl => ?_)
  exact wX13_blockOn_5 C hr _ S v1 v2 0 0 hf _ _ _ hw (lv_sub hl [2, 3, 4, 1, 0] rfl)
def fX13_way (S : sh_St) (v1 : Int32) : Option (Int32 × sh_St) :=
    sh_c (fX13_isName S 0) fun r2 S1 =>
    if r2 = 0 then (some (0, S1))
    else (if 0 ≤ v1 then (sh_c (fX13_hashOf S1 (S1.2 0 22)) fun r4 S3 =>
    sh_c (fX13_blockOn S3 r4 v1) fun r6 S5 =>
    some (r6, S5))
    else (some ((-1), S1)))
set_option maxRecDepth 100000 in
set_option maxHeartbeats 4000000 in
theorem kX13_way (l : Launch) (v1 : Int32) : sh_Mi l yX13_way cX13_way 2 .int 6 tbM (fun G => [.ref (G.2.1 0), .int v1]) (fun S => fX13_way S v1) := by
  refine sh_mki (by decide) (fun G => Nat.le_of_ble_eq_true rfl) ?_
  intro p e s m args below meth c G A S res ls hf C hr hw hl
  have C : sh_Cx p s m args meth c cX13_way 2 RX13 G A := C
  have hl : lv_has ls 2 [(0, .ref (G.2.1 0)), (1, .int v1)] := hl
  replace hf : fX13_way S v1 = some res := hf
  rw [fX13_way] at hf
  refine lv_aload_n C.1 C.2.1 dX13_way_0 rfl (lv_at hl 0 rfl) ?_
  refine lv_iconst (v := 0) C.1 C.2.1 dX13_way_1 (by decide) ?_
  refine sh_Vi (As := [.int 0]) (rest := []) C hw (kX13_isName l 0) yy_X13_isName yv_X13_isName ml_X13_362 hf tbM_0 rfl rfl rfl rfl (Nat.le_of_ble_eq_true rfl) (by decide) hl.1 dX13_way_2 (fun r2 S1 H locs hw hf => ?_)
  refine sh_if_ne (tgt := 10) C hf dX13_way_5 (by decide) (fun hf => ?_) (fun hf => ?_)
  · refine lv_iload_n C.1 C.2.1 dX13_way_10 rfl (lv_at hl 1 rfl) ?_
    refine sh_if_ge (tgt := 18) C hf dX13_way_11 (by decide) (fun hf => ?_) (fun hf => ?_)
    · refine lv_aload_n C.1 C.2.1 dX13_way_18 rfl (lv_at hl 0 rfl) ?_
      refine lv_aload_n C.1 C.2.1 dX13_way_19 rfl (lv_at hl 0 rfl) ?_
      refine lv_aload_n C.1 C.2.1 dX13_way_20 rfl (lv_at hl 0 rfl) ?_
      refine sh_getl C hw fl_X13_355 tbM_0 rfl dX13_way_21 ?_
      refine sh_Vi (As := [.long (S1.2 0 22)]) (rest := [.ref (G.2.1 0)]) C hw (kX13_hashOf l (S1.2 0 22)) yy_X13_hashOf yv_X13_hashOf ml_X13_164 hf tbM_0 rfl rfl rfl rfl (Nat.le_of_ble_eq_true rfl) (by decide) hl.1 dX13_way_24 (fun r4 S3 H locs hw hf => ?_)
      refine lv_iload_n C.1 C.2.1 dX13_way_27 rfl (lv_at hl 1 rfl) ?_
      refine sh_Vi (As := [.int r4, .int v1]) (rest := []) C hw (kX13_blockOn l r4 v1) yy_X13_blockOn yv_X13_blockOn ml_X13_387 hf tbM_0 rfl rfl rfl rfl (Nat.le_of_ble_eq_true rfl) (by decide) hl.1 dX13_way_28 (fun r6 S5 H locs hw hf => ?_)
      exact sh_ri C hw hr hf dX13_way_31
    · refine lv_iconst (v := -1) C.1 C.2.1 dX13_way_14 (by decide) ?_
      refine lv_goto (tgt := 31) C.1 C.2.1 dX13_way_15 (by decide) ?_
      exact sh_ri C hw hr hf dX13_way_31
  · refine lv_iconst (v := 0) C.1 C.2.1 dX13_way_8 (by decide) ?_
    exact sh_ri C hw hr hf dX13_way_9
def fX13_hasEntry (S : sh_St) (v1 : Int32) (v2 : Int32) : Option (Int32 × sh_St) :=
    sh_g (0 + v1) 1084 (if (S.1 1 (0 + v1).toNatClampNeg) = 1 then (sh_c (fX13_isEmpty S v1 v2) fun r2 S1 =>
    if r2 = 0 then (sh_b 1 (some (1, S1)))
    else (sh_b 0 (some (0, S1))))
    else (sh_b 0 (some (0, S))))
set_option maxRecDepth 100000 in
set_option maxHeartbeats 4000000 in
theorem kX13_hasEntry (l : Launch) (v1 : Int32) (v2 : Int32) : sh_Mi l yX13_hasEntry cX13_hasEntry 3 .boolean 3 tbM (fun G => [.ref (G.2.1 0), .int v1, .int v2]) (fun S => fX13_hasEntry S v1 v2) := by
  refine sh_mki (by decide) (fun G => Nat.le_of_ble_eq_true rfl) ?_
  intro p e s m args below meth c G A S res ls hf C hr hw hl
  have C : sh_Cx p s m args meth c cX13_hasEntry 3 RX13 G A := C
  have hl : lv_has ls 3 [(0, .ref (G.2.1 0)), (1, .int v1), (2, .int v2)] := hl
  replace hf : fX13_hasEntry S v1 v2 = some res := hf
  rw [fX13_hasEntry] at hf
  refine lv_aload_n C.1 C.2.1 dX13_hasEntry_0 rfl (lv_at hl 0 rfl) ?_
  refine sh_getr C hw fl_X13_7 tbM_0 rfl dX13_hasEntry_1 ?_
  refine lv_iconst (v := 0) C.1 C.2.1 dX13_hasEntry_4 (by decide) ?_
  refine lv_iload_n C.1 C.2.1 dX13_hasEntry_5 rfl (lv_at hl 1 rfl) ?_
  refine lv_iadd C.1 C.2.1 dX13_hasEntry_6 ?_
  refine sh_iald C hw hf tbM_1 dX13_hasEntry_7 (fun hf => ?_)
  refine lv_iconst (v := 1) C.1 C.2.1 dX13_hasEntry_8 (by decide) ?_
  refine sh_icmp_ne (tgt := 25) C hf dX13_hasEntry_9 (by decide) (fun hf => ?_) (fun hf => ?_)
  · refine lv_iconst (v := 0) C.1 C.2.1 dX13_hasEntry_25 (by decide) ?_
    exact sh_rz C hw hr hf dX13_hasEntry_26
  · refine lv_aload_n C.1 C.2.1 dX13_hasEntry_12 rfl (lv_at hl 0 rfl) ?_
    refine lv_iload_n C.1 C.2.1 dX13_hasEntry_13 rfl (lv_at hl 1 rfl) ?_
    refine lv_iload_n C.1 C.2.1 dX13_hasEntry_14 rfl (lv_at hl 2 rfl) ?_
    refine sh_Vi (As := [.int v1, .int v2]) (rest := []) C hw (kX13_isEmpty l v1 v2) yy_X13_isEmpty yv_X13_isEmpty ml_X13_86 hf tbM_0 rfl rfl rfl rfl (Nat.le_of_ble_eq_true rfl) (by decide) hl.1 dX13_hasEntry_15 (fun r2 S1 H locs hw hf => ?_)
    refine sh_if_ne (tgt := 25) C hf dX13_hasEntry_18 (by decide) (fun hf => ?_) (fun hf => ?_)
    · refine lv_iconst (v := 0) C.1 C.2.1 dX13_hasEntry_25 (by decide) ?_
      exact sh_rz C hw hr hf dX13_hasEntry_26
    · refine lv_iconst (v := 1) C.1 C.2.1 dX13_hasEntry_21 (by decide) ?_
      refine lv_goto (tgt := 26) C.1 C.2.1 dX13_hasEntry_22 (by decide) ?_
      exact sh_rz C hw hr hf dX13_hasEntry_26
def fX13_isPlace (S : sh_St) (v0 : Int32) (v1 : Int32) : Option (Int32 × sh_St) :=
    sh_c (fX13_isBlock S v0) fun r2 S1 =>
    if r2 = 0 then (sh_b 0 (some (0, S1)))
    else (sh_c (fX13_isIn S1 v1 0 5) fun r4 S3 =>
    if r4 = 0 then (sh_b 0 (some (0, S3)))
    else (sh_b 1 (some (1, S3))))
set_option maxRecDepth 100000 in
set_option maxHeartbeats 4000000 in
theorem kX13_isPlace (l : Launch) (v0 : Int32) (v1 : Int32) : sh_Mi l yX13_isPlace cX13_isPlace 2 .boolean 3 tbM (fun G => [.int v0, .int v1]) (fun S => fX13_isPlace S v0 v1) := by
  refine sh_mki (by decide) (fun G => Nat.le_of_ble_eq_true rfl) ?_
  intro p e s m args below meth c G A S res ls hf C hr hw hl
  have C : sh_Cx p s m args meth c cX13_isPlace 2 RX13 G A := C
  have hl : lv_has ls 2 [(0, .int v0), (1, .int v1)] := hl
  replace hf : fX13_isPlace S v0 v1 = some res := hf
  rw [fX13_isPlace] at hf
  refine lv_iload_n C.1 C.2.1 dX13_isPlace_0 rfl (lv_at hl 0 rfl) ?_
  refine sh_Si (As := [.int v0]) (rest := []) C hw (kX13_isBlock l v0) yy_X13_isBlock ys_X13_isBlock ml_X13_369 rfl hf rfl rfl rfl (Nat.le_of_ble_eq_true rfl) (by decide) hl.1 dX13_isPlace_1 (fun r2 S1 H locs hw hf => ?_)
  refine sh_if_eq (tgt := 20) C hf dX13_isPlace_4 (by decide) (fun hf => ?_) (fun hf => ?_)
  · refine lv_iconst (v := 0) C.1 C.2.1 dX13_isPlace_20 (by decide) ?_
    exact sh_rz C hw hr hf dX13_isPlace_21
  · refine lv_iload_n C.1 C.2.1 dX13_isPlace_7 rfl (lv_at hl 1 rfl) ?_
    refine lv_iconst (v := 0) C.1 C.2.1 dX13_isPlace_8 (by decide) ?_
    refine lv_iconst (v := 5) C.1 C.2.1 dX13_isPlace_9 (by decide) ?_
    refine sh_Si (As := [.int v1, .int 0, .int 5]) (rest := []) C hw (kX13_isIn l v1 0 5) yy_X13_isIn ys_X13_isIn ml_X13_263 rfl hf rfl rfl rfl (Nat.le_of_ble_eq_true rfl) (by decide) hl.1 dX13_isPlace_10 (fun r4 S3 H locs hw hf => ?_)
    refine sh_if_eq (tgt := 20) C hf dX13_isPlace_13 (by decide) (fun hf => ?_) (fun hf => ?_)
    · refine lv_iconst (v := 0) C.1 C.2.1 dX13_isPlace_20 (by decide) ?_
      exact sh_rz C hw hr hf dX13_isPlace_21
    · refine lv_iconst (v := 1) C.1 C.2.1 dX13_isPlace_16 (by decide) ?_
      refine lv_goto (tgt := 21) C.1 C.2.1 dX13_isPlace_17 (by decide) ?_
      exact sh_rz C hw hr hf dX13_isPlace_21
def fX13_letter_33 (S : sh_St) : Option (Int32 × sh_St) :=
    if (S.1 0 0) ≤ 0 then (some ((-1), S))
    else (some (0, S))
set_option maxRecDepth 100000 in
set_option maxHeartbeats 4000000 in
theorem wX13_letter_33 {p : Program} {l : Launch} {e : Env} {s : State} {m : MethodId} {args : Array Value} {below : List Frame} {meth : Method} {c : Code} {G : sh_Ev} {A : Nat → Prop} {res : Int32 × sh_St} (C : sh_Cx p s m args meth c cX13_letter 6 RX13 G A) (hr : meth.sig.returnType = some .int) : ∀ (S : sh_St), fX13_letter_33 S = some res → ∀ (H : Heap) (locs : List Loc) (ls : Array Slot), sh_Wx G tbM A s H locs S → lv_has ls 6 [(0, .ref (G.2.1 0))] → W p l e (sh_rm 4) s m args below meth c H locs 0 0 (sh_Qi below args s G tbM A res) (F0 m 33 ls []) := by
  intro S hf H locs ls hw hl
  rw [fX13_letter_33] at hf
  refine lv_aload_n C.1 C.2.1 dX13_letter_33 rfl (lv_at hl 0 rfl) ?_
  refine sh_geti C hw fl_X13_79 tbM_0 rfl dX13_letter_34 ?_
  refine sh_if_le (tgt := 44) C hf dX13_letter_37 (by decide) (fun hf => ?_) (fun hf => ?_)
  · refine lv_iconst (v := -1) C.1 C.2.1 dX13_letter_44 (by decide) ?_
    exact sh_ri C hw hr hf dX13_letter_45
  · refine lv_iconst (v := 0) C.1 C.2.1 dX13_letter_40 (by decide) ?_
    refine lv_goto (tgt := 45) C.1 C.2.1 dX13_letter_41 (by decide) ?_
    exact sh_ri C hw hr hf dX13_letter_45
def fX13_letter_14 (S : sh_St) (v1 : Int32) (v2 : Int32) (v3 : Int32) (t0 : Int32) : Option (Int32 × sh_St) :=
    sh_t (sh_I S 0 0 t0) fun S3 =>
    if 0 < (S3.1 0 0) then (fX13_letter_33 S3)
    else (sh_c (fX13_hasEntry S3 v1 v2) fun r5 S4 =>
    if r5 = 0 then (fX13_letter_33 S4)
    else (sh_c (fX13_slotAt S4 v1 v2) fun r7 S6 =>
    sh_g r7 240 (sh_t (S6.2 2 r7.toNatClampNeg) fun y8 =>
    sh_c (fX13_longOf S6 y8) fun r10 S9 =>
    sh_c (fX13_isIn S9 v3 0 (r10 - 1)) fun r12 S11 =>
    if r12 = 0 then (some ((-1), S11))
    else (sh_c (fX13_letterOf S11 y8 v3) fun r14 S13 =>
    some (r14, S13)))))
set_option maxRecDepth 100000 in
set_option maxHeartbeats 4000000 in
theorem wX13_letter_14 {p : Program} {l : Launch} {e : Env} {s : State} {m : MethodId} {args : Array Value} {below : List Frame} {meth : Method} {c : Code} {G : sh_Ev} {A : Nat → Prop} {res : Int32 × sh_St} (C : sh_Cx p s m args meth c cX13_letter 6 RX13 G A) (hr : meth.sig.returnType = some .int) : ∀ (S : sh_St) (v1 : Int32) (v2 : Int32) (v3 : Int32) (t0 : Int32), fX13_letter_14 S v1 v2 v3 t0 = some res → ∀ (H : Heap) (locs : List Loc) (ls : Array Slot), sh_Wx G tbM A s H locs S → lv_has ls 6 [(0, .ref (G.2.1 0)), (1, .int v1), (2, .int v2), (3, .int v3)] → W p l e (sh_rm 4) s m args below meth c H locs 0 0 (sh_Qi below args s G tbM A res) (F0 m 14 ls [.int t0, .ref (G.2.1 0)]) := by
  intro S v1 v2 v3 t0 hf H locs ls hw hl
  rw [fX13_letter_14] at hf
  refine sh_puti C hw fl_X13_79 fp_11_0 hf tbM_0 rfl dX13_letter_14 (fun S3 H locs hw hf => ?_)
  refine lv_aload_n C.1 C.2.1 dX13_letter_17 rfl (lv_at hl 0 rfl) ?_
  refine sh_geti C hw fl_X13_79 tbM_0 rfl dX13_letter_18 ?_
  refine sh_if_gt (tgt := 33) C hf dX13_letter_21 (by decide) (fun hf => ?_) (fun hf => ?_)
  · exact wX13_letter_33 C hr S3  hf _ _ _ hw (lv_sub hl [0] rfl)
  · refine lv_aload_n C.1 C.2.1 dX13_letter_24 rfl (lv_at hl 0 rfl) ?_
    refine lv_iload_n C.1 C.2.1 dX13_letter_25 rfl (lv_at hl 1 rfl) ?_
    refine lv_iload_n C.1 C.2.1 dX13_letter_26 rfl (lv_at hl 2 rfl) ?_
    refine sh_Vi (As := [.int v1, .int v2]) (rest := []) C hw (kX13_hasEntry l v1 v2) yy_X13_hasEntry yv_X13_hasEntry ml_X13_393 hf tbM_0 rfl rfl rfl rfl (Nat.le_of_ble_eq_true rfl) (by decide) hl.1 dX13_letter_27 (fun r5 S4 H locs hw hf => ?_)
    refine sh_if_ne (tgt := 46) C hf dX13_letter_30 (by decide) (fun hf => ?_) (fun hf => ?_)
    · refine lv_aload_n C.1 C.2.1 dX13_letter_46 rfl (lv_at hl 0 rfl) ?_
      refine sh_getr C hw fl_X13_13 tbM_0 rfl dX13_letter_47 ?_
      refine lv_iload_n C.1 C.2.1 dX13_letter_50 rfl (lv_at hl 1 rfl) ?_
      refine lv_iload_n C.1 C.2.1 dX13_letter_51 rfl (lv_at hl 2 rfl) ?_
      refine sh_Si (As := [.int v1, .int v2]) (rest := [.ref (G.2.1 2)]) C hw (kX13_slotAt l v1 v2) yy_X13_slotAt ys_X13_slotAt ml_X13_82 rfl hf rfl rfl rfl (Nat.le_of_ble_eq_true rfl) (by decide) hl.1 dX13_letter_52 (fun r7 S6 H locs hw hf => ?_)
      refine sh_lald C hw hf tbM_2 dX13_letter_55 (fun hf => ?_)
      refine sh_nl hf (fun y8 hf => ?_)
      refine lv_lstore (lv' := [(4, .long y8), (0, .ref (G.2.1 0)), (1, .int v1), (2, .int v2), (3, .int v3)]) C.1 C.2.1 dX13_letter_56 hl (by decide) rfl (fun ls hl => ?_)
      refine lv_iload_n C.1 C.2.1 dX13_letter_58 rfl (lv_at hl 4 rfl) ?_
      refine lv_iconst (v := 0) C.1 C.2.1 dX13_letter_59 (by decide) ?_
      refine lv_lload C.1 C.2.1 dX13_letter_60 (lv_at hl 0 rfl) ?_
      refine sh_Si (As := [.long y8]) (rest := [.int 0, .int v3]) C hw (kX13_longOf l y8) yy_X13_longOf ys_X13_longOf ml_X13_105 rfl hf rfl rfl rfl (Nat.le_of_ble_eq_true rfl) (by decide) hl.1 dX13_letter_62 (fun r10 S9 H locs hw hf => ?_)
      refine lv_iconst (v := 1) C.1 C.2.1 dX13_letter_65 (by decide) ?_
      refine lv_isub C.1 C.2.1 dX13_letter_66 ?_
      refine sh_Si (As := [.int v3, .int 0, .int (r10 - 1)]) (rest := []) C hw (kX13_isIn l v3 0 (r10 - 1)) yy_X13_isIn ys_X13_isIn ml_X13_263 rfl hf rfl rfl rfl (Nat.le_of_ble_eq_true rfl) (by decide) hl.1 dX13_letter_67 (fun r12 S11 H locs hw hf => ?_)
      refine sh_if_eq (tgt := 82) C hf dX13_letter_70 (by decide) (fun hf => ?_) (fun hf => ?_)
      · refine lv_iconst (v := -1) C.1 C.2.1 dX13_letter_82 (by decide) ?_
        exact sh_ri C hw hr hf dX13_letter_83
      · refine lv_lload C.1 C.2.1 dX13_letter_73 (lv_at hl 0 rfl) ?_
        refine lv_iload_n C.1 C.2.1 dX13_letter_75 rfl (lv_at hl 4 rfl) ?_
        refine sh_Si (As := [.long y8, .int v3]) (rest := []) C hw (kX13_letterOf l y8 v3) yy_X13_letterOf ys_X13_letterOf ml_X13_93 rfl hf rfl rfl rfl (Nat.le_of_ble_eq_true rfl) (by decide) hl.1 dX13_letter_76 (fun r14 S13 H locs hw hf => ?_)
        refine lv_goto (tgt := 83) C.1 C.2.1 dX13_letter_79 (by decide) ?_
        exact sh_ri C hw hr hf dX13_letter_83
    · exact wX13_letter_33 C hr S4  hf _ _ _ hw (lv_sub hl [0] rfl)
def fX13_letter (S : sh_St) (v1 : Int32) (v2 : Int32) (v3 : Int32) : Option (Int32 × sh_St) :=
    sh_c (fX13_isPlace S v1 v2) fun r2 S1 =>
    if r2 = 0 then (fX13_letter_14 S1 v1 v2 v3 1)
    else (fX13_letter_14 S1 v1 v2 v3 0)
set_option maxRecDepth 100000 in
set_option maxHeartbeats 4000000 in
theorem kX13_letter (l : Launch) (v1 : Int32) (v2 : Int32) (v3 : Int32) : sh_Mi l yX13_letter cX13_letter 6 .int 4 tbM (fun G => [.ref (G.2.1 0), .int v1, .int v2, .int v3]) (fun S => fX13_letter S v1 v2 v3) := by
  refine sh_mki (by decide) (fun G => Nat.le_of_ble_eq_true rfl) ?_
  intro p e s m args below meth c G A S res ls hf C hr hw hl
  have C : sh_Cx p s m args meth c cX13_letter 6 RX13 G A := C
  have hl : lv_has ls 6 [(0, .ref (G.2.1 0)), (1, .int v1), (2, .int v2), (3, .int v3)] := hl
  replace hf : fX13_letter S v1 v2 v3 = some res := hf
  rw [fX13_letter] at hf
  refine lv_aload_n C.1 C.2.1 dX13_letter_0 rfl (lv_at hl 0 rfl) ?_
  refine lv_iload_n C.1 C.2.1 dX13_letter_1 rfl (lv_at hl 1 rfl) ?_
  refine lv_iload_n C.1 C.2.1 dX13_letter_2 rfl (lv_at hl 2 rfl) ?_
  refine sh_Si (As := [.int v1, .int v2]) (rest := [.ref (G.2.1 0)]) C hw (kX13_isPlace l v1 v2) yy_X13_isPlace ys_X13_isPlace ml_X13_390 rfl hf rfl rfl rfl (Nat.le_of_ble_eq_true rfl) (by decide) hl.1 dX13_letter_3 (fun r2 S1 H locs hw hf => ?_)
  refine sh_if_eq (tgt := 13) C hf dX13_letter_6 (by decide) (fun hf => ?_) (fun hf => ?_)
  · refine lv_iconst (v := 1) C.1 C.2.1 dX13_letter_13 (by decide) ?_
    exact wX13_letter_14 C hr S1 v1 v2 v3 1 hf _ _ _ hw (lv_sub hl [0, 1, 2, 3] rfl)
  · refine lv_iconst (v := 0) C.1 C.2.1 dX13_letter_9 (by decide) ?_
    refine lv_goto (tgt := 14) C.1 C.2.1 dX13_letter_10 (by decide) ?_
    exact wX13_letter_14 C hr S1 v1 v2 v3 0 hf _ _ _ hw (lv_sub hl [0, 1, 2, 3] rfl)
def fX13_row_57 (S : sh_St) (v1 : Int32) (v2 : Int32) (v3 : Int32) (t0 : Int32) : Option (Int32 × sh_St) :=
    sh_t (sh_I S 0 0 t0) fun S3 =>
    if (S3.1 0 0) ≤ 0 then (sh_c (fX13_rowAt S3 v1 v2 v3) fun r5 S4 =>
    sh_g r5 1084 (some (S4.1 1 r5.toNatClampNeg, S4)))
    else (some (0, S3))
set_option maxRecDepth 100000 in
set_option maxHeartbeats 4000000 in
theorem wX13_row_57 {p : Program} {l : Launch} {e : Env} {s : State} {m : MethodId} {args : Array Value} {below : List Frame} {meth : Method} {c : Code} {G : sh_Ev} {A : Nat → Prop} {res : Int32 × sh_St} (C : sh_Cx p s m args meth c cX13_row 4 RX13 G A) (hr : meth.sig.returnType = some .int) : ∀ (S : sh_St) (v1 : Int32) (v2 : Int32) (v3 : Int32) (t0 : Int32), fX13_row_57 S v1 v2 v3 t0 = some res → ∀ (H : Heap) (locs : List Loc) (ls : Array Slot), sh_Wx G tbM A s H locs S → lv_has ls 4 [(0, .ref (G.2.1 0)), (1, .int v1), (2, .int v2), (3, .int v3)] → W p l e (sh_rm 3) s m args below meth c H locs 0 0 (sh_Qi below args s G tbM A res) (F0 m 57 ls [.int t0, .ref (G.2.1 0)]) := by
  intro S v1 v2 v3 t0 hf H locs ls hw hl
  rw [fX13_row_57] at hf
  refine sh_puti C hw fl_X13_79 fp_11_0 hf tbM_0 rfl dX13_row_57 (fun S3 H locs hw hf => ?_)
  refine lv_aload_n C.1 C.2.1 dX13_row_60 rfl (lv_at hl 0 rfl) ?_
  refine sh_geti C hw fl_X13_79 tbM_0 rfl dX13_row_61 ?_
  refine sh_if_le (tgt := 71) C hf dX13_row_64 (by decide) (fun hf => ?_) (fun hf => ?_)
  · refine lv_aload_n C.1 C.2.1 dX13_row_71 rfl (lv_at hl 0 rfl) ?_
    refine sh_getr C hw fl_X13_7 tbM_0 rfl dX13_row_72 ?_
    refine lv_iload_n C.1 C.2.1 dX13_row_75 rfl (lv_at hl 1 rfl) ?_
    refine lv_iload_n C.1 C.2.1 dX13_row_76 rfl (lv_at hl 2 rfl) ?_
    refine lv_iload_n C.1 C.2.1 dX13_row_77 rfl (lv_at hl 3 rfl) ?_
    refine sh_Si (As := [.int v1, .int v2, .int v3]) (rest := [.ref (G.2.1 1)]) C hw (kX13_rowAt l v1 v2 v3) yy_X13_rowAt ys_X13_rowAt ml_X13_117 rfl hf rfl rfl rfl (Nat.le_of_ble_eq_true rfl) (by decide) hl.1 dX13_row_78 (fun r5 S4 H locs hw hf => ?_)
    refine sh_iald C hw hf tbM_1 dX13_row_81 (fun hf => ?_)
    exact sh_ri C hw hr hf dX13_row_82
  · refine lv_iconst (v := 0) C.1 C.2.1 dX13_row_67 (by decide) ?_
    refine lv_goto (tgt := 82) C.1 C.2.1 dX13_row_68 (by decide) ?_
    exact sh_ri C hw hr hf dX13_row_82
def fX13_row_39 (S : sh_St) (v1 : Int32) (v2 : Int32) (v3 : Int32) : Option (Int32 × sh_St) :=
    fX13_row_57 S v1 v2 v3 1
set_option maxRecDepth 100000 in
set_option maxHeartbeats 4000000 in
theorem wX13_row_39 {p : Program} {l : Launch} {e : Env} {s : State} {m : MethodId} {args : Array Value} {below : List Frame} {meth : Method} {c : Code} {G : sh_Ev} {A : Nat → Prop} {res : Int32 × sh_St} (C : sh_Cx p s m args meth c cX13_row 4 RX13 G A) (hr : meth.sig.returnType = some .int) : ∀ (S : sh_St) (v1 : Int32) (v2 : Int32) (v3 : Int32), fX13_row_39 S v1 v2 v3 = some res → ∀ (H : Heap) (locs : List Loc) (ls : Array Slot), sh_Wx G tbM A s H locs S → lv_has ls 4 [(0, .ref (G.2.1 0)), (1, .int v1), (2, .int v2), (3, .int v3)] → W p l e (sh_rm 3) s m args below meth c H locs 0 0 (sh_Qi below args s G tbM A res) (F0 m 39 ls [.ref (G.2.1 0)]) := by
  intro S v1 v2 v3 hf H locs ls hw hl
  rw [fX13_row_39] at hf
  refine lv_iconst (v := 1) C.1 C.2.1 dX13_row_39 (by decide) ?_
  refine lv_goto (tgt := 57) C.1 C.2.1 dX13_row_40 (by decide) ?_
  exact wX13_row_57 C hr S v1 v2 v3 1 hf _ _ _ hw (lv_sub hl [0, 1, 2, 3] rfl)
def fX13_row (S : sh_St) (v1 : Int32) (v2 : Int32) (v3 : Int32) : Option (Int32 × sh_St) :=
    sh_c (fX13_isBlock S v1) fun r2 S1 =>
    if r2 = 0 then (fX13_row_39 S1 v1 v2 v3)
    else (sh_g (0 + v1) 1084 (if (S1.1 1 (0 + v1).toNatClampNeg) = 2 then (sh_g (80 + v1) 1084 (sh_c (fX13_isIn S1 v2 0 ((S1.1 1 (80 + v1).toNatClampNeg) - 1)) fun r7 S6 =>
    if r7 = 0 then (fX13_row_39 S6 v1 v2 v3)
    else (sh_c (fX13_isIn S6 v3 0 2) fun r9 S8 =>
    if r9 = 0 then (fX13_row_57 S8 v1 v2 v3 2)
    else (fX13_row_57 S8 v1 v2 v3 0))))
    else (fX13_row_39 S1 v1 v2 v3)))
set_option maxRecDepth 100000 in
set_option maxHeartbeats 4000000 in
theorem kX13_row (l : Launch) (v1 : Int32) (v2 : Int32) (v3 : Int32) : sh_Mi l yX13_row cX13_row 4 .int 3 tbM (fun G => [.ref (G.2.1 0), .int v1, .int v2, .int v3]) (fun S => fX13_row S v1 v2 v3) := by
  refine sh_mki (by decide) (fun G => Nat.le_of_ble_eq_true rfl) ?_
  intro p e s m args below meth c G A S res ls hf C hr hw hl
  have C : sh_Cx p s m args meth c cX13_row 4 RX13 G A := C
  have hl : lv_has ls 4 [(0, .ref (G.2.1 0)), (1, .int v1), (2, .int v2), (3, .int v3)] := hl
  replace hf : fX13_row S v1 v2 v3 = some res := hf
  rw [fX13_row] at hf
  refine lv_aload_n C.1 C.2.1 dX13_row_0 rfl (lv_at hl 0 rfl) ?_
  refine lv_iload_n C.1 C.2.1 dX13_row_1 rfl (lv_at hl 1 rfl) ?_
  refine sh_Si (As := [.int v1]) (rest := [.ref (G.2.1 0)]) C hw (kX13_isBlock l v1) yy_X13_isBlock ys_X13_isBlock ml_X13_369 rfl hf rfl rfl rfl (Nat.le_of_ble_eq_true rfl) (by decide) hl.1 dX13_row_2 (fun r2 S1 H locs hw hf => ?_)
  refine sh_if_eq (tgt := 39) C hf dX13_row_5 (by decide) (fun hf => ?_) (fun hf => ?_)
  · exact wX13_row_39 C hr S1 v1 v2 v3 hf _ _ _ hw (lv_sub hl [0, 1, 2, 3] rfl)
  · refine lv_aload_n C.1 C.2.1 dX13_row_8 rfl (lv_at hl 0 rfl) ?_
    refine sh_getr C hw fl_X13_7 tbM_0 rfl dX13_row_9 ?_
    refine lv_iconst (v := 0) C.1 C.2.1 dX13_row_12 (by decide) ?_
    refine lv_iload_n C.1 C.2.1 dX13_row_13 rfl (lv_at hl 1 rfl) ?_
    refine lv_iadd C.1 C.2.1 dX13_row_14 ?_
    refine sh_iald C hw hf tbM_1 dX13_row_15 (fun hf => ?_)
    refine lv_iconst (v := 2) C.1 C.2.1 dX13_row_16 (by decide) ?_
    refine sh_icmp_ne (tgt := 39) C hf dX13_row_17 (by decide) (fun hf => ?_) (fun hf => ?_)
    · exact wX13_row_39 C hr S1 v1 v2 v3 hf _ _ _ hw (lv_sub hl [0, 1, 2, 3] rfl)
    · refine lv_iload_n C.1 C.2.1 dX13_row_20 rfl (lv_at hl 2 rfl) ?_
      refine lv_iconst (v := 0) C.1 C.2.1 dX13_row_21 (by decide) ?_
      refine lv_aload_n C.1 C.2.1 dX13_row_22 rfl (lv_at hl 0 rfl) ?_
      refine sh_getr C hw fl_X13_7 tbM_0 rfl dX13_row_23 ?_
      refine lv_bipush (v := 80) C.1 C.2.1 dX13_row_26 (by decide) ?_
      refine lv_iload_n C.1 C.2.1 dX13_row_28 rfl (lv_at hl 1 rfl) ?_
      refine lv_iadd C.1 C.2.1 dX13_row_29 ?_
      refine sh_iald C hw hf tbM_1 dX13_row_30 (fun hf => ?_)
      refine lv_iconst (v := 1) C.1 C.2.1 dX13_row_31 (by decide) ?_
      refine lv_isub C.1 C.2.1 dX13_row_32 ?_
      refine sh_Si (As := [.int v2, .int 0, .int ((S1.1 1 (80 + v1).toNatClampNeg) - 1)]) (rest := [.ref (G.2.1 0)]) C hw (kX13_isIn l v2 0 ((S1.1 1 (80 + v1).toNatClampNeg) - 1)) yy_X13_isIn ys_X13_isIn ml_X13_263 rfl hf rfl rfl rfl (Nat.le_of_ble_eq_true rfl) (by decide) hl.1 dX13_row_33 (fun r7 S6 H locs hw hf => ?_)
      refine sh_if_ne (tgt := 43) C hf dX13_row_36 (by decide) (fun hf => ?_) (fun hf => ?_)
      · refine lv_iload_n C.1 C.2.1 dX13_row_43 rfl (lv_at hl 3 rfl) ?_
        refine lv_iconst (v := 0) C.1 C.2.1 dX13_row_44 (by decide) ?_
        refine lv_iconst (v := 2) C.1 C.2.1 dX13_row_45 (by decide) ?_
        refine sh_Si (As := [.int v3, .int 0, .int 2]) (rest := [.ref (G.2.1 0)]) C hw (kX13_isIn l v3 0 2) yy_X13_isIn ys_X13_isIn ml_X13_263 rfl hf rfl rfl rfl (Nat.le_of_ble_eq_true rfl) (by decide) hl.1 dX13_row_46 (fun r9 S8 H locs hw hf => ?_)
        refine sh_if_ne (tgt := 56) C hf dX13_row_49 (by decide) (fun hf => ?_) (fun hf => ?_)
        · refine lv_iconst (v := 0) C.1 C.2.1 dX13_row_56 (by decide) ?_
          exact wX13_row_57 C hr S8 v1 v2 v3 0 hf _ _ _ hw (lv_sub hl [0, 1, 2, 3] rfl)
        · refine lv_iconst (v := 2) C.1 C.2.1 dX13_row_52 (by decide) ?_
          refine lv_goto (tgt := 57) C.1 C.2.1 dX13_row_53 (by decide) ?_
          exact wX13_row_57 C hr S8 v1 v2 v3 2 hf _ _ _ hw (lv_sub hl [0, 1, 2, 3] rfl)
      · exact wX13_row_39 C hr S6 v1 v2 v3 hf _ _ _ hw (lv_sub hl [0, 1, 2, 3] rfl)
def fX13_leaf (S : sh_St) (v1 : Int32) : Option (Int32 × sh_St) :=
    sh_t (sh_I S 0 0 0) fun S1 =>
    sh_c (fX13_laysLine S1 ) fun _ S2 =>
    sh_c (fX13_isIn S2 v1 0 ((S2.1 0 27) - 1)) fun r5 S4 =>
    if r5 = 0 then (some ((-1), S4))
    else (sh_g v1 40 (some (S4.1 15 v1.toNatClampNeg, S4)))
set_option maxRecDepth 100000 in
set_option maxHeartbeats 4000000 in
theorem kX13_leaf (l : Launch) (v1 : Int32) : sh_Mi l yX13_leaf cX13_leaf 2 .int 4 tbM (fun G => [.ref (G.2.1 0), .int v1]) (fun S => fX13_leaf S v1) := by
  refine sh_mki (by decide) (fun G => Nat.le_of_ble_eq_true rfl) ?_
  intro p e s m args below meth c G A S res ls hf C hr hw hl
  have C : sh_Cx p s m args meth c cX13_leaf 2 RX13 G A := C
  have hl : lv_has ls 2 [(0, .ref (G.2.1 0)), (1, .int v1)] := hl
  replace hf : fX13_leaf S v1 = some res := hf
  rw [fX13_leaf] at hf
  refine lv_aload_n C.1 C.2.1 dX13_leaf_0 rfl (lv_at hl 0 rfl) ?_
  refine lv_iconst (v := 0) C.1 C.2.1 dX13_leaf_1 (by decide) ?_
  refine sh_puti C hw fl_X13_79 fp_11_0 hf tbM_0 rfl dX13_leaf_2 (fun S1 H locs hw hf => ?_)
  refine lv_aload_n C.1 C.2.1 dX13_leaf_5 rfl (lv_at hl 0 rfl) ?_
  refine sh_Vv (As := []) (rest := []) C hw (kX13_laysLine l ) yy_X13_laysLine yv_X13_laysLine ml_X13_128 hf tbM_0 rfl rfl rfl rfl (Nat.le_of_ble_eq_true rfl) (by decide) hl.1 dX13_leaf_6 (fun S2 H locs hw hf => ?_)
  refine lv_iload_n C.1 C.2.1 dX13_leaf_9 rfl (lv_at hl 1 rfl) ?_
  refine lv_iconst (v := 0) C.1 C.2.1 dX13_leaf_10 (by decide) ?_
  refine lv_aload_n C.1 C.2.1 dX13_leaf_11 rfl (lv_at hl 0 rfl) ?_
  refine sh_geti C hw fl_X13_114 tbM_0 rfl dX13_leaf_12 ?_
  refine lv_iconst (v := 1) C.1 C.2.1 dX13_leaf_15 (by decide) ?_
  refine lv_isub C.1 C.2.1 dX13_leaf_16 ?_
  refine sh_Si (As := [.int v1, .int 0, .int ((S2.1 0 27) - 1)]) (rest := []) C hw (kX13_isIn l v1 0 ((S2.1 0 27) - 1)) yy_X13_isIn ys_X13_isIn ml_X13_263 rfl hf rfl rfl rfl (Nat.le_of_ble_eq_true rfl) (by decide) hl.1 dX13_leaf_17 (fun r5 S4 H locs hw hf => ?_)
  refine sh_if_eq (tgt := 32) C hf dX13_leaf_20 (by decide) (fun hf => ?_) (fun hf => ?_)
  · refine lv_iconst (v := -1) C.1 C.2.1 dX13_leaf_32 (by decide) ?_
    exact sh_ri C hw hr hf dX13_leaf_33
  · refine lv_aload_n C.1 C.2.1 dX13_leaf_23 rfl (lv_at hl 0 rfl) ?_
    refine sh_getr C hw fl_X13_58 tbM_0 rfl dX13_leaf_24 ?_
    refine lv_iload_n C.1 C.2.1 dX13_leaf_27 rfl (lv_at hl 1 rfl) ?_
    refine sh_iald C hw hf tbM_15 dX13_leaf_28 (fun hf => ?_)
    refine lv_goto (tgt := 33) C.1 C.2.1 dX13_leaf_29 (by decide) ?_
    exact sh_ri C hw hr hf dX13_leaf_33
def fX13_crowdBy_68 (rk28 : sh_St → Int32 → Int32 → Int32 → Option (Int32 × sh_St)) (S : sh_St) (v2 : Int32) (v4 : Int32) (t0 : Int32) : Option (Int32 × sh_St) :=
    sh_c (fX13_greater S v2 t0) fun r4 S3 =>
    sh_t (v4 + 1) fun y5 =>
    rk28 S3 r4 t0 y5
set_option maxRecDepth 100000 in
set_option maxHeartbeats 4000000 in
theorem wX13_crowdBy_68 {p : Program} {l : Launch} {e : Env} {s : State} {m : MethodId} {args : Array Value} {below : List Frame} {meth : Method} {c : Code} {G : sh_Ev} {A : Nat → Prop} {res : Int32 × sh_St} (C : sh_Cx p s m args meth c cX13_crowdBy 5 RX13 G A) (hr : meth.sig.returnType = some .int) (rk28 : sh_St → Int32 → Int32 → Int32 → Option (Int32 × sh_St)) (hr28 : ∀ (S : sh_St) (v2 : Int32) (v3 : Int32) (v4 : Int32), rk28 S v2 v3 v4 = some res → ∀ (H : Heap) (locs : List Loc) (ls : Array Slot), sh_Wx G tbM A s H locs S → lv_has ls 5 [(0, .ref (G.2.1 0)), (2, .int v2), (3, .int v3), (4, .int v4)] → W p l e (sh_rm 5) s m args below meth c H locs 0 0 (sh_Qi below args s G tbM A res) (F0 m 28 ls [])) : ∀ (S : sh_St) (v2 : Int32) (v4 : Int32) (t0 : Int32), fX13_crowdBy_68 rk28 S v2 v4 t0 = some res → ∀ (H : Heap) (locs : List Loc) (ls : Array Slot), sh_Wx G tbM A s H locs S → lv_has ls 5 [(0, .ref (G.2.1 0)), (2, .int v2), (4, .int v4)] → W p l e (sh_rm 5) s m args below meth c H locs 0 0 (sh_Qi below args s G tbM A res) (F0 m 68 ls [.int t0]) := by
  intro S v2 v4 t0 hf H locs ls hw hl
  rw [fX13_crowdBy_68] at hf
  refine lv_istore_n (lv' := [(3, .int t0), (0, .ref (G.2.1 0)), (2, .int v2), (4, .int v4)]) C.1 C.2.1 dX13_crowdBy_68 rfl hl (by decide) rfl (fun ls hl => ?_)
  refine lv_iload_n C.1 C.2.1 dX13_crowdBy_69 rfl (lv_at hl 2 rfl) ?_
  refine lv_iload_n C.1 C.2.1 dX13_crowdBy_70 rfl (lv_at hl 0 rfl) ?_
  refine sh_Si (As := [.int v2, .int t0]) (rest := []) C hw (kX13_greater l v2 t0) yy_X13_greater ys_X13_greater ml_X13_396 rfl hf rfl rfl rfl (Nat.le_of_ble_eq_true rfl) (by decide) hl.1 dX13_crowdBy_71 (fun r4 S3 H locs hw hf => ?_)
  refine lv_istore_n (lv' := [(2, .int r4), (3, .int t0), (0, .ref (G.2.1 0)), (4, .int v4)]) C.1 C.2.1 dX13_crowdBy_74 rfl hl (by decide) rfl (fun ls hl => ?_)
  obtain ⟨y5, ey5, hf⟩ := sh_nm hf
  refine lv_iinc (v := y5) (lv' := [(4, .int y5), (2, .int r4), (3, .int t0), (0, .ref (G.2.1 0))]) C.1 C.2.1 dX13_crowdBy_75 hl (k := 3) rfl (by rw [← ey5]; rfl) (by decide) rfl (fun ls hl => ?_)
  refine lv_goto (tgt := 28) C.1 C.2.1 dX13_crowdBy_78 (by decide) ?_
  exact hr28 S3 r4 t0 y5 hf _ _ _ hw (lv_sub hl [3, 1, 2, 0] rfl)
def fX13_crowdBy_67 (rk28 : sh_St → Int32 → Int32 → Int32 → Option (Int32 × sh_St)) (S : sh_St) (v2 : Int32) (v4 : Int32) : Option (Int32 × sh_St) :=
    fX13_crowdBy_68 rk28 S v2 v4 1
set_option maxRecDepth 100000 in
set_option maxHeartbeats 4000000 in
theorem wX13_crowdBy_67 {p : Program} {l : Launch} {e : Env} {s : State} {m : MethodId} {args : Array Value} {below : List Frame} {meth : Method} {c : Code} {G : sh_Ev} {A : Nat → Prop} {res : Int32 × sh_St} (C : sh_Cx p s m args meth c cX13_crowdBy 5 RX13 G A) (hr : meth.sig.returnType = some .int) (rk28 : sh_St → Int32 → Int32 → Int32 → Option (Int32 × sh_St)) (hr28 : ∀ (S : sh_St) (v2 : Int32) (v3 : Int32) (v4 : Int32), rk28 S v2 v3 v4 = some res → ∀ (H : Heap) (locs : List Loc) (ls : Array Slot), sh_Wx G tbM A s H locs S → lv_has ls 5 [(0, .ref (G.2.1 0)), (2, .int v2), (3, .int v3), (4, .int v4)] → W p l e (sh_rm 5) s m args below meth c H locs 0 0 (sh_Qi below args s G tbM A res) (F0 m 28 ls [])) : ∀ (S : sh_St) (v2 : Int32) (v4 : Int32), fX13_crowdBy_67 rk28 S v2 v4 = some res → ∀ (H : Heap) (locs : List Loc) (ls : Array Slot), sh_Wx G tbM A s H locs S → lv_has ls 5 [(0, .ref (G.2.1 0)), (2, .int v2), (4, .int v4)] → W p l e (sh_rm 5) s m args below meth c H locs 0 0 (sh_Qi below args s G tbM A res) (F0 m 67 ls []) := by
  intro S v2 v4 hf H locs ls hw hl
  rw [fX13_crowdBy_67] at hf
  refine lv_iconst (v := 1) C.1 C.2.1 dX13_crowdBy_67 (by decide) ?_
  exact wX13_crowdBy_68 C hr rk28 hr28 S v2 v4 1 hf _ _ _ hw (lv_sub hl [0, 1, 2] rfl)
def fX13_crowdBy_28 : Nat → sh_St → Int32 → Int32 → Int32 → Option (Int32 × sh_St)
  | 0, _, _, _, _ => none
  | n + 1, S, v2, v3, v4 =>
    if (S.1 0 36) ≤ v4 then (some (v2, S))
    else (if v4 ≤ 0 then (fX13_crowdBy_67 (fX13_crowdBy_28 n) S v2 v4)
    else (sh_g v4 240 (sh_g (v4 - 1) 240 (if (S.1 20 v4.toNatClampNeg) = (S.1 20 (v4 - 1).toNatClampNeg) then (fX13_crowdBy_68 (fX13_crowdBy_28 n) S v2 v4 (v3 + 1))
    else (fX13_crowdBy_67 (fX13_crowdBy_28 n) S v2 v4)))))
set_option maxRecDepth 100000 in
set_option maxHeartbeats 4000000 in
theorem wX13_crowdBy_28 {p : Program} {l : Launch} {e : Env} {s : State} {m : MethodId} {args : Array Value} {below : List Frame} {meth : Method} {c : Code} {G : sh_Ev} {A : Nat → Prop} {res : Int32 × sh_St} (C : sh_Cx p s m args meth c cX13_crowdBy 5 RX13 G A) (hr : meth.sig.returnType = some .int) : ∀ (n : Nat) (S : sh_St) (v2 : Int32) (v3 : Int32) (v4 : Int32), fX13_crowdBy_28 n S v2 v3 v4 = some res → ∀ (H : Heap) (locs : List Loc) (ls : Array Slot), sh_Wx G tbM A s H locs S → lv_has ls 5 [(0, .ref (G.2.1 0)), (2, .int v2), (3, .int v3), (4, .int v4)] → W p l e (sh_rm 5) s m args below meth c H locs 0 0 (sh_Qi below args s G tbM A res) (F0 m 28 ls []) := by
  intro n
  induction n with
  | zero => intro S v2 v3 v4 hf; exact nomatch (show (none : Option (Int32 × sh_St)) = some res from hf)
  | succ n ih =>
    intro S v2 v3 v4 hf H locs ls hw hl
    have hr28 := ih
    rw [fX13_crowdBy_28] at hf
    refine lv_iload C.1 C.2.1 dX13_crowdBy_28 (lv_at hl 3 rfl) ?_
    refine lv_aload_n C.1 C.2.1 dX13_crowdBy_30 rfl (lv_at hl 0 rfl) ?_
    refine sh_geti C hw fl_X13_188 tbM_0 rfl dX13_crowdBy_31 ?_
    refine sh_icmp_ge (tgt := 81) C hf dX13_crowdBy_34 (by decide) (fun hf => ?_) (fun hf => ?_)
    · refine lv_iload_n C.1 C.2.1 dX13_crowdBy_81 rfl (lv_at hl 1 rfl) ?_
      exact sh_ri C hw hr hf dX13_crowdBy_82
    · refine lv_iload C.1 C.2.1 dX13_crowdBy_37 (lv_at hl 3 rfl) ?_
      refine sh_if_le (tgt := 67) C hf dX13_crowdBy_39 (by decide) (fun hf => ?_) (fun hf => ?_)
      · exact wX13_crowdBy_67 C hr (fX13_crowdBy_28 n) hr28 S v2 v4 hf _ _ _ hw (lv_sub hl [0, 1, 3] rfl)
      · refine lv_aload_n C.1 C.2.1 dX13_crowdBy_42 rfl (lv_at hl 0 rfl) ?_
        refine sh_getr C hw fl_X13_73 tbM_0 rfl dX13_crowdBy_43 ?_
        refine lv_iload C.1 C.2.1 dX13_crowdBy_46 (lv_at hl 3 rfl) ?_
        refine sh_iald C hw hf tbM_20 dX13_crowdBy_48 (fun hf => ?_)
        refine lv_aload_n C.1 C.2.1 dX13_crowdBy_49 rfl (lv_at hl 0 rfl) ?_
        refine sh_getr C hw fl_X13_73 tbM_0 rfl dX13_crowdBy_50 ?_
        refine lv_iload C.1 C.2.1 dX13_crowdBy_53 (lv_at hl 3 rfl) ?_
        refine lv_iconst (v := 1) C.1 C.2.1 dX13_crowdBy_55 (by decide) ?_
        refine lv_isub C.1 C.2.1 dX13_crowdBy_56 ?_
        refine sh_iald C hw hf tbM_20 dX13_crowdBy_57 (fun hf => ?_)
        refine sh_icmp_ne (tgt := 67) C hf dX13_crowdBy_58 (by decide) (fun hf => ?_) (fun hf => ?_)
        · exact wX13_crowdBy_67 C hr (fX13_crowdBy_28 n) hr28 S v2 v4 hf _ _ _ hw (lv_sub hl [0, 1, 3] rfl)
        · refine lv_iload_n C.1 C.2.1 dX13_crowdBy_61 rfl (lv_at hl 2 rfl) ?_
          refine lv_iconst (v := 1) C.1 C.2.1 dX13_crowdBy_62 (by decide) ?_
          refine lv_iadd C.1 C.2.1 dX13_crowdBy_63 ?_
          refine lv_goto (tgt := 68) C.1 C.2.1 dX13_crowdBy_64 (by decide) ?_
          exact wX13_crowdBy_68 C hr (fX13_crowdBy_28 n) hr28 S v2 v4 (v3 + 1) hf _ _ _ hw (lv_sub hl [0, 1, 3] rfl)
def fX13_crowdBy (S : sh_St) (v1 : Int32) : Option (Int32 × sh_St) :=
    sh_g 1081 1084 (sh_g 1083 1084 (sh_c (fX13_sortsAll S (S.1 1 (1081 : Int32).toNatClampNeg) v1 (S.1 1 (1083 : Int32).toNatClampNeg)) fun _ S1 =>
    fX13_crowdBy_28 sh_FU S1 0 0 0))
set_option maxRecDepth 100000 in
set_option maxHeartbeats 4000000 in
theorem kX13_crowdBy (l : Launch) (v1 : Int32) : sh_Mi l yX13_crowdBy cX13_crowdBy 5 .int 5 tbM (fun G => [.ref (G.2.1 0), .int v1]) (fun S => fX13_crowdBy S v1) := by
  refine sh_mki (by decide) (fun G => Nat.le_of_ble_eq_true rfl) ?_
  intro p e s m args below meth c G A S res ls hf C hr hw hl
  have C : sh_Cx p s m args meth c cX13_crowdBy 5 RX13 G A := C
  have hl : lv_has ls 5 [(0, .ref (G.2.1 0)), (1, .int v1)] := hl
  replace hf : fX13_crowdBy S v1 = some res := hf
  rw [fX13_crowdBy] at hf
  refine lv_aload_n C.1 C.2.1 dX13_crowdBy_0 rfl (lv_at hl 0 rfl) ?_
  refine lv_aload_n C.1 C.2.1 dX13_crowdBy_1 rfl (lv_at hl 0 rfl) ?_
  refine sh_getr C hw fl_X13_7 tbM_0 rfl dX13_crowdBy_2 ?_
  refine lv_sipush (v := 1081) C.1 C.2.1 dX13_crowdBy_5 (by decide) ?_
  refine sh_iald C hw hf tbM_1 dX13_crowdBy_8 (fun hf => ?_)
  refine lv_iload_n C.1 C.2.1 dX13_crowdBy_9 rfl (lv_at hl 1 rfl) ?_
  refine lv_aload_n C.1 C.2.1 dX13_crowdBy_10 rfl (lv_at hl 0 rfl) ?_
  refine sh_getr C hw fl_X13_7 tbM_0 rfl dX13_crowdBy_11 ?_
  refine lv_sipush (v := 1083) C.1 C.2.1 dX13_crowdBy_14 (by decide) ?_
  refine sh_iald C hw hf tbM_1 dX13_crowdBy_17 (fun hf => ?_)
  refine sh_Vv (As := [.int (S.1 1 (1081 : Int32).toNatClampNeg), .int v1, .int (S.1 1 (1083 : Int32).toNatClampNeg)]) (rest := []) C hw (kX13_sortsAll l (S.1 1 (1081 : Int32).toNatClampNeg) v1 (S.1 1 (1083 : Int32).toNatClampNeg)) yy_X13_sortsAll yv_X13_sortsAll ml_X13_233 hf tbM_0 rfl rfl rfl rfl (Nat.le_of_ble_eq_true rfl) (by decide) hl.1 dX13_crowdBy_18 (fun S1 H locs hw hf => ?_)
  refine lv_iconst (v := 0) C.1 C.2.1 dX13_crowdBy_21 (by decide) ?_
  refine lv_istore_n (lv' := [(2, .int 0), (0, .ref (G.2.1 0)), (1, .int v1)]) C.1 C.2.1 dX13_crowdBy_22 rfl hl (by decide) rfl (fun ls hl => ?_)
  refine lv_iconst (v := 0) C.1 C.2.1 dX13_crowdBy_23 (by decide) ?_
  refine lv_istore_n (lv' := [(3, .int 0), (2, .int 0), (0, .ref (G.2.1 0)), (1, .int v1)]) C.1 C.2.1 dX13_crowdBy_24 rfl hl (by decide) rfl (fun ls hl => ?_)
  refine lv_iconst (v := 0) C.1 C.2.1 dX13_crowdBy_25 (by decide) ?_
  refine lv_istore (lv' := [(4, .int 0), (3, .int 0), (2, .int 0), (0, .ref (G.2.1 0)), (1, .int v1)]) C.1 C.2.1 dX13_crowdBy_26 hl (by decide) rfl (fun ls hl => ?_)
  exact wX13_crowdBy_28 C hr _ S1 0 0 0 hf _ _ _ hw (lv_sub hl [3, 2, 1, 0] rfl)
def fX13_chain_51 (rk4 : sh_St → Int32 → Int32 → Option (Int32 × sh_St)) (S : sh_St) (v1 : Int32) (v2 : Int32) : Option (Int32 × sh_St) :=
    sh_t (v2 + 1) fun y7 =>
    rk4 S v1 y7
set_option maxRecDepth 100000 in
set_option maxHeartbeats 4000000 in
theorem wX13_chain_51 {p : Program} {l : Launch} {e : Env} {s : State} {m : MethodId} {args : Array Value} {below : List Frame} {meth : Method} {c : Code} {G : sh_Ev} {A : Nat → Prop} {res : Int32 × sh_St} (C : sh_Cx p s m args meth c cX13_chain 3 RX13 G A) (hr : meth.sig.returnType = some .int) (rk4 : sh_St → Int32 → Int32 → Option (Int32 × sh_St)) (hr4 : ∀ (S : sh_St) (v1 : Int32) (v2 : Int32), rk4 S v1 v2 = some res → ∀ (H : Heap) (locs : List Loc) (ls : Array Slot), sh_Wx G tbM A s H locs S → lv_has ls 3 [(0, .ref (G.2.1 0)), (1, .int v1), (2, .int v2)] → W p l e (sh_rm 5) s m args below meth c H locs 0 0 (sh_Qi below args s G tbM A res) (F0 m 4 ls [])) : ∀ (S : sh_St) (v1 : Int32) (v2 : Int32), fX13_chain_51 rk4 S v1 v2 = some res → ∀ (H : Heap) (locs : List Loc) (ls : Array Slot), sh_Wx G tbM A s H locs S → lv_has ls 3 [(0, .ref (G.2.1 0)), (1, .int v1), (2, .int v2)] → W p l e (sh_rm 5) s m args below meth c H locs 0 0 (sh_Qi below args s G tbM A res) (F0 m 51 ls []) := by
  intro S v1 v2 hf H locs ls hw hl
  rw [fX13_chain_51] at hf
  obtain ⟨y7, ey7, hf⟩ := sh_nm hf
  refine lv_iinc (v := y7) (lv' := [(2, .int y7), (0, .ref (G.2.1 0)), (1, .int v1)]) C.1 C.2.1 dX13_chain_51 hl (k := 2) rfl (by rw [← ey7]; rfl) (by decide) rfl (fun ls hl => ?_)
  refine lv_goto (tgt := 4) C.1 C.2.1 dX13_chain_54 (by decide) ?_
  exact hr4 S v1 y7 hf _ _ _ hw (lv_sub hl [1, 2, 0] rfl)
def fX13_chain_4 : Nat → sh_St → Int32 → Int32 → Option (Int32 × sh_St)
  | 0, _, _, _ => none
  | n + 1, S, v1, v2 =>
    if 240 ≤ v2 then (some (v1, S))
    else (sh_g (840 + v2) 1084 (if (S.1 1 (840 + v2).toNatClampNeg) = (-1) then (fX13_chain_51 (fX13_chain_4 n) S v1 v2)
    else (sh_g v2 240 (sh_c (fX13_hashOf S (S.2 2 v2.toNatClampNeg)) fun r2 S1 =>
    sh_c (fX13_goes S1 r2) fun _ S3 =>
    sh_c (fX13_greater S3 v1 (S3.1 0 29)) fun r6 S5 =>
    fX13_chain_51 (fX13_chain_4 n) S5 r6 v2))))
set_option maxRecDepth 100000 in
set_option maxHeartbeats 4000000 in
theorem wX13_chain_4 {p : Program} {l : Launch} {e : Env} {s : State} {m : MethodId} {args : Array Value} {below : List Frame} {meth : Method} {c : Code} {G : sh_Ev} {A : Nat → Prop} {res : Int32 × sh_St} (C : sh_Cx p s m args meth c cX13_chain 3 RX13 G A) (hr : meth.sig.returnType = some .int) : ∀ (n : Nat) (S : sh_St) (v1 : Int32) (v2 : Int32), fX13_chain_4 n S v1 v2 = some res → ∀ (H : Heap) (locs : List Loc) (ls : Array Slot), sh_Wx G tbM A s H locs S → lv_has ls 3 [(0, .ref (G.2.1 0)), (1, .int v1), (2, .int v2)] → W p l e (sh_rm 5) s m args below meth c H locs 0 0 (sh_Qi below args s G tbM A res) (F0 m 4 ls []) := by
  intro n
  induction n with
  | zero => intro S v1 v2 hf; exact nomatch (show (none : Option (Int32 × sh_St)) = some res from hf)
  | succ n ih =>
    intro S v1 v2 hf H locs ls hw hl
    have hr4 := ih
    rw [fX13_chain_4] at hf
    refine lv_iload_n C.1 C.2.1 dX13_chain_4 rfl (lv_at hl 2 rfl) ?_
    refine lv_sipush (v := 240) C.1 C.2.1 dX13_chain_5 (by decide) ?_
    refine sh_icmp_ge (tgt := 57) C hf dX13_chain_8 (by decide) (fun hf => ?_) (fun hf => ?_)
    · refine lv_iload_n C.1 C.2.1 dX13_chain_57 rfl (lv_at hl 1 rfl) ?_
      exact sh_ri C hw hr hf dX13_chain_58
    · refine lv_aload_n C.1 C.2.1 dX13_chain_11 rfl (lv_at hl 0 rfl) ?_
      refine sh_getr C hw fl_X13_7 tbM_0 rfl dX13_chain_12 ?_
      refine lv_sipush (v := 840) C.1 C.2.1 dX13_chain_15 (by decide) ?_
      refine lv_iload_n C.1 C.2.1 dX13_chain_18 rfl (lv_at hl 2 rfl) ?_
      refine lv_iadd C.1 C.2.1 dX13_chain_19 ?_
      refine sh_iald C hw hf tbM_1 dX13_chain_20 (fun hf => ?_)
      refine lv_iconst (v := -1) C.1 C.2.1 dX13_chain_21 (by decide) ?_
      refine sh_icmp_ne (tgt := 28) C hf dX13_chain_22 (by decide) (fun hf => ?_) (fun hf => ?_)
      · refine lv_aload_n C.1 C.2.1 dX13_chain_28 rfl (lv_at hl 0 rfl) ?_
        refine lv_aload_n C.1 C.2.1 dX13_chain_29 rfl (lv_at hl 0 rfl) ?_
        refine lv_aload_n C.1 C.2.1 dX13_chain_30 rfl (lv_at hl 0 rfl) ?_
        refine sh_getr C hw fl_X13_13 tbM_0 rfl dX13_chain_31 ?_
        refine lv_iload_n C.1 C.2.1 dX13_chain_34 rfl (lv_at hl 2 rfl) ?_
        refine sh_lald C hw hf tbM_2 dX13_chain_35 (fun hf => ?_)
        refine sh_Vi (As := [.long (S.2 2 v2.toNatClampNeg)]) (rest := [.ref (G.2.1 0)]) C hw (kX13_hashOf l (S.2 2 v2.toNatClampNeg)) yy_X13_hashOf yv_X13_hashOf ml_X13_164 hf tbM_0 rfl rfl rfl rfl (Nat.le_of_ble_eq_true rfl) (by decide) hl.1 dX13_chain_36 (fun r2 S1 H locs hw hf => ?_)
        refine sh_Vv (As := [.int r2]) (rest := []) C hw (kX13_goes l r2) yy_X13_goes yv_X13_goes ml_X13_167 hf tbM_0 rfl rfl rfl rfl (Nat.le_of_ble_eq_true rfl) (by decide) hl.1 dX13_chain_39 (fun S3 H locs hw hf => ?_)
        refine lv_iload_n C.1 C.2.1 dX13_chain_42 rfl (lv_at hl 1 rfl) ?_
        refine lv_aload_n C.1 C.2.1 dX13_chain_43 rfl (lv_at hl 0 rfl) ?_
        refine sh_geti C hw fl_X13_140 tbM_0 rfl dX13_chain_44 ?_
        refine sh_Si (As := [.int v1, .int (S3.1 0 29)]) (rest := []) C hw (kX13_greater l v1 (S3.1 0 29)) yy_X13_greater ys_X13_greater ml_X13_396 rfl hf rfl rfl rfl (Nat.le_of_ble_eq_true rfl) (by decide) hl.1 dX13_chain_47 (fun r6 S5 H locs hw hf => ?_)
        refine lv_istore_n (lv' := [(1, .int r6), (0, .ref (G.2.1 0)), (2, .int v2)]) C.1 C.2.1 dX13_chain_50 rfl hl (by decide) rfl (fun ls hl => ?_)
        exact wX13_chain_51 C hr (fX13_chain_4 n) hr4 S5 r6 v2 hf _ _ _ hw (lv_sub hl [1, 0, 2] rfl)
      · refine lv_goto (tgt := 51) C.1 C.2.1 dX13_chain_25 (by decide) ?_
        exact wX13_chain_51 C hr (fX13_chain_4 n) hr4 S v1 v2 hf _ _ _ hw (lv_sub hl [0, 1, 2] rfl)
def fX13_chain (S : sh_St) : Option (Int32 × sh_St) :=
    fX13_chain_4 sh_FU S 0 0
set_option maxRecDepth 100000 in
set_option maxHeartbeats 4000000 in
theorem kX13_chain (l : Launch) : sh_Mi l yX13_chain cX13_chain 3 .int 5 tbM (fun G => [.ref (G.2.1 0)]) (fun S => fX13_chain S) := by
  refine sh_mki (by decide) (fun G => Nat.le_of_ble_eq_true rfl) ?_
  intro p e s m args below meth c G A S res ls hf C hr hw hl
  have C : sh_Cx p s m args meth c cX13_chain 3 RX13 G A := C
  have hl : lv_has ls 3 [(0, .ref (G.2.1 0))] := hl
  replace hf : fX13_chain S = some res := hf
  rw [fX13_chain] at hf
  refine lv_iconst (v := 0) C.1 C.2.1 dX13_chain_0 (by decide) ?_
  refine lv_istore_n (lv' := [(1, .int 0), (0, .ref (G.2.1 0))]) C.1 C.2.1 dX13_chain_1 rfl hl (by decide) rfl (fun ls hl => ?_)
  refine lv_iconst (v := 0) C.1 C.2.1 dX13_chain_2 (by decide) ?_
  refine lv_istore_n (lv' := [(2, .int 0), (1, .int 0), (0, .ref (G.2.1 0))]) C.1 C.2.1 dX13_chain_3 rfl hl (by decide) rfl (fun ls hl => ?_)
  exact wX13_chain_4 C hr _ S 0 0 hf _ _ _ hw (lv_sub hl [2, 1, 0] rfl)
def fX13_leafBy_58 (rk8 : sh_St → Int32 → Int32 → Int32 → Option (Int32 × sh_St)) (S : sh_St) (v1 : Int32) (v2 : Int32) (v3 : Int32) : Option (Int32 × sh_St) :=
    sh_t (v3 + 1) fun y8 =>
    rk8 S v1 v2 y8
set_option maxRecDepth 100000 in
set_option maxHeartbeats 4000000 in
theorem wX13_leafBy_58 {p : Program} {l : Launch} {e : Env} {s : State} {m : MethodId} {args : Array Value} {below : List Frame} {meth : Method} {c : Code} {G : sh_Ev} {A : Nat → Prop} {res : Int32 × sh_St} (C : sh_Cx p s m args meth c cX13_leafBy 5 RX13 G A) (hr : meth.sig.returnType = some .int) (rk8 : sh_St → Int32 → Int32 → Int32 → Option (Int32 × sh_St)) (hr8 : ∀ (S : sh_St) (v1 : Int32) (v2 : Int32) (v3 : Int32), rk8 S v1 v2 v3 = some res → ∀ (H : Heap) (locs : List Loc) (ls : Array Slot), sh_Wx G tbM A s H locs S → lv_has ls 5 [(0, .ref (G.2.1 0)), (1, .int v1), (2, .int v2), (3, .int v3)] → W p l e (sh_rm 4) s m args below meth c H locs 0 0 (sh_Qi below args s G tbM A res) (F0 m 8 ls [])) : ∀ (S : sh_St) (v1 : Int32) (v2 : Int32) (v3 : Int32), fX13_leafBy_58 rk8 S v1 v2 v3 = some res → ∀ (H : Heap) (locs : List Loc) (ls : Array Slot), sh_Wx G tbM A s H locs S → lv_has ls 5 [(0, .ref (G.2.1 0)), (1, .int v1), (2, .int v2), (3, .int v3)] → W p l e (sh_rm 4) s m args below meth c H locs 0 0 (sh_Qi below args s G tbM A res) (F0 m 58 ls []) := by
  intro S v1 v2 v3 hf H locs ls hw hl
  rw [fX13_leafBy_58] at hf
  obtain ⟨y8, ey8, hf⟩ := sh_nm hf
  refine lv_iinc (v := y8) (lv' := [(3, .int y8), (0, .ref (G.2.1 0)), (1, .int v1), (2, .int v2)]) C.1 C.2.1 dX13_leafBy_58 hl (k := 3) rfl (by rw [← ey8]; rfl) (by decide) rfl (fun ls hl => ?_)
  refine lv_goto (tgt := 8) C.1 C.2.1 dX13_leafBy_61 (by decide) ?_
  exact hr8 S v1 v2 y8 hf _ _ _ hw (lv_sub hl [1, 2, 3, 0] rfl)
def fX13_leafBy_56 (rk8 : sh_St → Int32 → Int32 → Int32 → Option (Int32 × sh_St)) (S : sh_St) (v1 : Int32) (v3 : Int32) : Option (Int32 × sh_St) :=
    fX13_leafBy_58 rk8 S v1 v3 v3
set_option maxRecDepth 100000 in
set_option maxHeartbeats 4000000 in
theorem wX13_leafBy_56 {p : Program} {l : Launch} {e : Env} {s : State} {m : MethodId} {args : Array Value} {below : List Frame} {meth : Method} {c : Code} {G : sh_Ev} {A : Nat → Prop} {res : Int32 × sh_St} (C : sh_Cx p s m args meth c cX13_leafBy 5 RX13 G A) (hr : meth.sig.returnType = some .int) (rk8 : sh_St → Int32 → Int32 → Int32 → Option (Int32 × sh_St)) (hr8 : ∀ (S : sh_St) (v1 : Int32) (v2 : Int32) (v3 : Int32), rk8 S v1 v2 v3 = some res → ∀ (H : Heap) (locs : List Loc) (ls : Array Slot), sh_Wx G tbM A s H locs S → lv_has ls 5 [(0, .ref (G.2.1 0)), (1, .int v1), (2, .int v2), (3, .int v3)] → W p l e (sh_rm 4) s m args below meth c H locs 0 0 (sh_Qi below args s G tbM A res) (F0 m 8 ls [])) : ∀ (S : sh_St) (v1 : Int32) (v3 : Int32), fX13_leafBy_56 rk8 S v1 v3 = some res → ∀ (H : Heap) (locs : List Loc) (ls : Array Slot), sh_Wx G tbM A s H locs S → lv_has ls 5 [(0, .ref (G.2.1 0)), (1, .int v1), (3, .int v3)] → W p l e (sh_rm 4) s m args below meth c H locs 0 0 (sh_Qi below args s G tbM A res) (F0 m 56 ls []) := by
  intro S v1 v3 hf H locs ls hw hl
  rw [fX13_leafBy_56] at hf
  refine lv_iload_n C.1 C.2.1 dX13_leafBy_56 rfl (lv_at hl 2 rfl) ?_
  refine lv_istore_n (lv' := [(2, .int v3), (0, .ref (G.2.1 0)), (1, .int v1), (3, .int v3)]) C.1 C.2.1 dX13_leafBy_57 rfl hl (by decide) rfl (fun ls hl => ?_)
  exact wX13_leafBy_58 C hr rk8 hr8 S v1 v3 v3 hf _ _ _ hw (lv_sub hl [1, 2, 0, 3] rfl)
def fX13_leafBy_8 : Nat → sh_St → Int32 → Int32 → Int32 → Option (Int32 × sh_St)
  | 0, _, _, _, _ => none
  | n + 1, S, v1, v2, v3 =>
    if (S.1 0 27) ≤ v3 then (some (v2, S))
    else (sh_g v3 40 (sh_c (fX13_entries S (S.1 15 v3.toNatClampNeg)) fun r4 S3 =>
    sh_g v2 40 (sh_c (fX13_entries S3 (S3.1 15 v2.toNatClampNeg)) fun r6 S5 =>
    sh_t (r4 - r6) fun y7 =>
    if v1 = 0 then (if 0 ≤ y7 then (fX13_leafBy_58 (fX13_leafBy_8 n) S5 v1 v2 v3)
    else (fX13_leafBy_56 (fX13_leafBy_8 n) S5 v1 v3))
    else (if y7 ≤ 0 then (fX13_leafBy_58 (fX13_leafBy_8 n) S5 v1 v2 v3)
    else (fX13_leafBy_56 (fX13_leafBy_8 n) S5 v1 v3)))))
set_option maxRecDepth 100000 in
set_option maxHeartbeats 4000000 in
theorem wX13_leafBy_8 {p : Program} {l : Launch} {e : Env} {s : State} {m : MethodId} {args : Array Value} {below : List Frame} {meth : Method} {c : Code} {G : sh_Ev} {A : Nat → Prop} {res : Int32 × sh_St} (C : sh_Cx p s m args meth c cX13_leafBy 5 RX13 G A) (hr : meth.sig.returnType = some .int) : ∀ (n : Nat) (S : sh_St) (v1 : Int32) (v2 : Int32) (v3 : Int32), fX13_leafBy_8 n S v1 v2 v3 = some res → ∀ (H : Heap) (locs : List Loc) (ls : Array Slot), sh_Wx G tbM A s H locs S → lv_has ls 5 [(0, .ref (G.2.1 0)), (1, .int v1), (2, .int v2), (3, .int v3)] → W p l e (sh_rm 4) s m args below meth c H locs 0 0 (sh_Qi below args s G tbM A res) (F0 m 8 ls []) := by
  intro n
  induction n with
  | zero => intro S v1 v2 v3 hf; exact nomatch (show (none : Option (Int32 × sh_St)) = some res from hf)
  | succ n ih =>
    intro S v1 v2 v3 hf H locs ls hw hl
    have hr8 := ih
    rw [fX13_leafBy_8] at hf
    refine lv_iload_n C.1 C.2.1 dX13_leafBy_8 rfl (lv_at hl 3 rfl) ?_
    refine lv_aload_n C.1 C.2.1 dX13_leafBy_9 rfl (lv_at hl 0 rfl) ?_
    refine sh_geti C hw fl_X13_114 tbM_0 rfl dX13_leafBy_10 ?_
    refine sh_icmp_ge (tgt := 64) C hf dX13_leafBy_13 (by decide) (fun hf => ?_) (fun hf => ?_)
    · refine lv_iload_n C.1 C.2.1 dX13_leafBy_64 rfl (lv_at hl 2 rfl) ?_
      exact sh_ri C hw hr hf dX13_leafBy_65
    · refine lv_aload_n C.1 C.2.1 dX13_leafBy_16 rfl (lv_at hl 0 rfl) ?_
      refine lv_aload_n C.1 C.2.1 dX13_leafBy_17 rfl (lv_at hl 0 rfl) ?_
      refine sh_getr C hw fl_X13_58 tbM_0 rfl dX13_leafBy_18 ?_
      refine lv_iload_n C.1 C.2.1 dX13_leafBy_21 rfl (lv_at hl 3 rfl) ?_
      refine sh_iald C hw hf tbM_15 dX13_leafBy_22 (fun hf => ?_)
      refine sh_Vi (As := [.int (S.1 15 v3.toNatClampNeg)]) (rest := []) C hw (kX13_entries l (S.1 15 v3.toNatClampNeg)) yy_X13_entries yv_X13_entries ml_X13_372 hf tbM_0 rfl rfl rfl rfl (Nat.le_of_ble_eq_true rfl) (by decide) hl.1 dX13_leafBy_23 (fun r4 S3 H locs hw hf => ?_)
      refine lv_aload_n C.1 C.2.1 dX13_leafBy_26 rfl (lv_at hl 0 rfl) ?_
      refine lv_aload_n C.1 C.2.1 dX13_leafBy_27 rfl (lv_at hl 0 rfl) ?_
      refine sh_getr C hw fl_X13_58 tbM_0 rfl dX13_leafBy_28 ?_
      refine lv_iload_n C.1 C.2.1 dX13_leafBy_31 rfl (lv_at hl 2 rfl) ?_
      refine sh_iald C hw hf tbM_15 dX13_leafBy_32 (fun hf => ?_)
      refine sh_Vi (As := [.int (S3.1 15 v2.toNatClampNeg)]) (rest := [.int r4]) C hw (kX13_entries l (S3.1 15 v2.toNatClampNeg)) yy_X13_entries yv_X13_entries ml_X13_372 hf tbM_0 rfl rfl rfl rfl (Nat.le_of_ble_eq_true rfl) (by decide) hl.1 dX13_leafBy_33 (fun r6 S5 H locs hw hf => ?_)
      refine lv_isub C.1 C.2.1 dX13_leafBy_36 ?_
      refine sh_ni hf (fun y7 hf => ?_)
      refine lv_istore (lv' := [(4, .int y7), (0, .ref (G.2.1 0)), (1, .int v1), (2, .int v2), (3, .int v3)]) C.1 C.2.1 dX13_leafBy_37 hl (by decide) rfl (fun ls hl => ?_)
      refine lv_iload_n C.1 C.2.1 dX13_leafBy_39 rfl (lv_at hl 2 rfl) ?_
      refine sh_if_eq (tgt := 51) C hf dX13_leafBy_40 (by decide) (fun hf => ?_) (fun hf => ?_)
      · refine lv_iload C.1 C.2.1 dX13_leafBy_51 (lv_at hl 0 rfl) ?_
        refine sh_if_ge (tgt := 58) C hf dX13_leafBy_53 (by decide) (fun hf => ?_) (fun hf => ?_)
        · exact wX13_leafBy_58 C hr (fX13_leafBy_8 n) hr8 S5 v1 v2 v3 hf _ _ _ hw (lv_sub hl [1, 2, 3, 4] rfl)
        · exact wX13_leafBy_56 C hr (fX13_leafBy_8 n) hr8 S5 v1 v3 hf _ _ _ hw (lv_sub hl [1, 2, 4] rfl)
      · refine lv_iload C.1 C.2.1 dX13_leafBy_43 (lv_at hl 0 rfl) ?_
        refine sh_if_le (tgt := 58) C hf dX13_leafBy_45 (by decide) (fun hf => ?_) (fun hf => ?_)
        · exact wX13_leafBy_58 C hr (fX13_leafBy_8 n) hr8 S5 v1 v2 v3 hf _ _ _ hw (lv_sub hl [1, 2, 3, 4] rfl)
        · refine lv_goto (tgt := 56) C.1 C.2.1 dX13_leafBy_48 (by decide) ?_
          exact wX13_leafBy_56 C hr (fX13_leafBy_8 n) hr8 S5 v1 v3 hf _ _ _ hw (lv_sub hl [1, 2, 4] rfl)
def fX13_leafBy (S : sh_St) (v1 : Int32) : Option (Int32 × sh_St) :=
    sh_c (fX13_laysLine S ) fun _ S1 =>
    fX13_leafBy_8 sh_FU S1 v1 0 1
set_option maxRecDepth 100000 in
set_option maxHeartbeats 4000000 in
theorem kX13_leafBy (l : Launch) (v1 : Int32) : sh_Mi l yX13_leafBy cX13_leafBy 5 .int 4 tbM (fun G => [.ref (G.2.1 0), .int v1]) (fun S => fX13_leafBy S v1) := by
  refine sh_mki (by decide) (fun G => Nat.le_of_ble_eq_true rfl) ?_
  intro p e s m args below meth c G A S res ls hf C hr hw hl
  have C : sh_Cx p s m args meth c cX13_leafBy 5 RX13 G A := C
  have hl : lv_has ls 5 [(0, .ref (G.2.1 0)), (1, .int v1)] := hl
  replace hf : fX13_leafBy S v1 = some res := hf
  rw [fX13_leafBy] at hf
  refine lv_aload_n C.1 C.2.1 dX13_leafBy_0 rfl (lv_at hl 0 rfl) ?_
  refine sh_Vv (As := []) (rest := []) C hw (kX13_laysLine l ) yy_X13_laysLine yv_X13_laysLine ml_X13_128 hf tbM_0 rfl rfl rfl rfl (Nat.le_of_ble_eq_true rfl) (by decide) hl.1 dX13_leafBy_1 (fun S1 H locs hw hf => ?_)
  refine lv_iconst (v := 0) C.1 C.2.1 dX13_leafBy_4 (by decide) ?_
  refine lv_istore_n (lv' := [(2, .int 0), (0, .ref (G.2.1 0)), (1, .int v1)]) C.1 C.2.1 dX13_leafBy_5 rfl hl (by decide) rfl (fun ls hl => ?_)
  refine lv_iconst (v := 1) C.1 C.2.1 dX13_leafBy_6 (by decide) ?_
  refine lv_istore_n (lv' := [(3, .int 1), (2, .int 0), (0, .ref (G.2.1 0)), (1, .int v1)]) C.1 C.2.1 dX13_leafBy_7 rfl hl (by decide) rfl (fun ls hl => ?_)
  exact wX13_leafBy_8 C hr _ S1 v1 0 1 hf _ _ _ hw (lv_sub hl [2, 3, 1, 0] rfl)
def fX13_strays_60 (rk12 : sh_St → Int32 → Int32 → Int32 → Option (Int32 × sh_St)) (S : sh_St) (v1 : Int32) (v2 : Int32) (v3 : Int32) : Option (Int32 × sh_St) :=
    sh_t (v3 + 1) fun y11 =>
    rk12 S v1 v2 y11
set_option maxRecDepth 100000 in
set_option maxHeartbeats 4000000 in
theorem wX13_strays_60 {p : Program} {l : Launch} {e : Env} {s : State} {m : MethodId} {args : Array Value} {below : List Frame} {meth : Method} {c : Code} {G : sh_Ev} {A : Nat → Prop} {res : Int32 × sh_St} (C : sh_Cx p s m args meth c cX13_strays 4 RX13 G A) (hr : meth.sig.returnType = some .int) (rk12 : sh_St → Int32 → Int32 → Int32 → Option (Int32 × sh_St)) (hr12 : ∀ (S : sh_St) (v1 : Int32) (v2 : Int32) (v3 : Int32), rk12 S v1 v2 v3 = some res → ∀ (H : Heap) (locs : List Loc) (ls : Array Slot), sh_Wx G tbM A s H locs S → lv_has ls 4 [(0, .ref (G.2.1 0)), (1, .int v1), (2, .int v2), (3, .int v3)] → W p l e (sh_rm 5) s m args below meth c H locs 0 0 (sh_Qi below args s G tbM A res) (F0 m 12 ls [])) : ∀ (S : sh_St) (v1 : Int32) (v2 : Int32) (v3 : Int32), fX13_strays_60 rk12 S v1 v2 v3 = some res → ∀ (H : Heap) (locs : List Loc) (ls : Array Slot), sh_Wx G tbM A s H locs S → lv_has ls 4 [(0, .ref (G.2.1 0)), (1, .int v1), (2, .int v2), (3, .int v3)] → W p l e (sh_rm 5) s m args below meth c H locs 0 0 (sh_Qi below args s G tbM A res) (F0 m 60 ls []) := by
  intro S v1 v2 v3 hf H locs ls hw hl
  rw [fX13_strays_60] at hf
  obtain ⟨y11, ey11, hf⟩ := sh_nm hf
  refine lv_iinc (v := y11) (lv' := [(3, .int y11), (0, .ref (G.2.1 0)), (1, .int v1), (2, .int v2)]) C.1 C.2.1 dX13_strays_60 hl (k := 3) rfl (by rw [← ey11]; rfl) (by decide) rfl (fun ls hl => ?_)
  refine lv_goto (tgt := 12) C.1 C.2.1 dX13_strays_63 (by decide) ?_
  exact hr12 S v1 v2 y11 hf _ _ _ hw (lv_sub hl [1, 2, 3, 0] rfl)
def fX13_strays_58 (rk12 : sh_St → Int32 → Int32 → Int32 → Option (Int32 × sh_St)) (S : sh_St) (v2 : Int32) (v3 : Int32) (t0 : Int32) (t1 : Int32) : Option (Int32 × sh_St) :=
    sh_t (t1 + t0) fun y10 =>
    fX13_strays_60 rk12 S y10 v2 v3
set_option maxRecDepth 100000 in
set_option maxHeartbeats 4000000 in
theorem wX13_strays_58 {p : Program} {l : Launch} {e : Env} {s : State} {m : MethodId} {args : Array Value} {below : List Frame} {meth : Method} {c : Code} {G : sh_Ev} {A : Nat → Prop} {res : Int32 × sh_St} (C : sh_Cx p s m args meth c cX13_strays 4 RX13 G A) (hr : meth.sig.returnType = some .int) (rk12 : sh_St → Int32 → Int32 → Int32 → Option (Int32 × sh_St)) (hr12 : ∀ (S : sh_St) (v1 : Int32) (v2 : Int32) (v3 : Int32), rk12 S v1 v2 v3 = some res → ∀ (H : Heap) (locs : List Loc) (ls : Array Slot), sh_Wx G tbM A s H locs S → lv_has ls 4 [(0, .ref (G.2.1 0)), (1, .int v1), (2, .int v2), (3, .int v3)] → W p l e (sh_rm 5) s m args below meth c H locs 0 0 (sh_Qi below args s G tbM A res) (F0 m 12 ls [])) : ∀ (S : sh_St) (v2 : Int32) (v3 : Int32) (t0 : Int32) (t1 : Int32), fX13_strays_58 rk12 S v2 v3 t0 t1 = some res → ∀ (H : Heap) (locs : List Loc) (ls : Array Slot), sh_Wx G tbM A s H locs S → lv_has ls 4 [(0, .ref (G.2.1 0)), (2, .int v2), (3, .int v3)] → W p l e (sh_rm 5) s m args below meth c H locs 0 0 (sh_Qi below args s G tbM A res) (F0 m 58 ls [.int t0, .int t1]) := by
  intro S v2 v3 t0 t1 hf H locs ls hw hl
  rw [fX13_strays_58] at hf
  refine lv_iadd C.1 C.2.1 dX13_strays_58 ?_
  refine sh_ni hf (fun y10 hf => ?_)
  refine lv_istore_n (lv' := [(1, .int y10), (0, .ref (G.2.1 0)), (2, .int v2), (3, .int v3)]) C.1 C.2.1 dX13_strays_59 rfl hl (by decide) rfl (fun ls hl => ?_)
  exact wX13_strays_60 C hr rk12 hr12 S y10 v2 v3 hf _ _ _ hw (lv_sub hl [1, 0, 2, 3] rfl)
def fX13_strays_12 (rk4 : sh_St → Int32 → Int32 → Option (Int32 × sh_St)) : Nat → sh_St → Int32 → Int32 → Int32 → Option (Int32 × sh_St)
  | 0, _, _, _, _ => none
  | n + 1, S, v1, v2, v3 =>
    if 6 ≤ v3 then (sh_t (v2 + 1) fun y1 =>
    rk4 S v1 y1)
    else (sh_c (fX13_isEmpty S v2 v3) fun r3 S2 =>
    if r3 = 0 then (sh_c (fX13_slotAt S2 v2 v3) fun r5 S4 =>
    sh_g r5 240 (sh_c (fX13_hashOf S4 (S4.2 2 r5.toNatClampNeg)) fun r7 S6 =>
    sh_c (fX13_firstOf S6 r7) fun r9 S8 =>
    if r9 = v2 then (fX13_strays_58 (fX13_strays_12 rk4 n) S8 v2 v3 0 v1)
    else (fX13_strays_58 (fX13_strays_12 rk4 n) S8 v2 v3 1 v1)))
    else (fX13_strays_60 (fX13_strays_12 rk4 n) S2 v1 v2 v3))
set_option maxRecDepth 100000 in
set_option maxHeartbeats 4000000 in
theorem wX13_strays_12 {p : Program} {l : Launch} {e : Env} {s : State} {m : MethodId} {args : Array Value} {below : List Frame} {meth : Method} {c : Code} {G : sh_Ev} {A : Nat → Prop} {res : Int32 × sh_St} (C : sh_Cx p s m args meth c cX13_strays 4 RX13 G A) (hr : meth.sig.returnType = some .int) (rk4 : sh_St → Int32 → Int32 → Option (Int32 × sh_St)) (hr4 : ∀ (S : sh_St) (v1 : Int32) (v2 : Int32), rk4 S v1 v2 = some res → ∀ (H : Heap) (locs : List Loc) (ls : Array Slot), sh_Wx G tbM A s H locs S → lv_has ls 4 [(0, .ref (G.2.1 0)), (1, .int v1), (2, .int v2)] → W p l e (sh_rm 5) s m args below meth c H locs 0 0 (sh_Qi below args s G tbM A res) (F0 m 4 ls [])) : ∀ (n : Nat) (S : sh_St) (v1 : Int32) (v2 : Int32) (v3 : Int32), fX13_strays_12 rk4 n S v1 v2 v3 = some res → ∀ (H : Heap) (locs : List Loc) (ls : Array Slot), sh_Wx G tbM A s H locs S → lv_has ls 4 [(0, .ref (G.2.1 0)), (1, .int v1), (2, .int v2), (3, .int v3)] → W p l e (sh_rm 5) s m args below meth c H locs 0 0 (sh_Qi below args s G tbM A res) (F0 m 12 ls []) := by
  intro n
  induction n with
  | zero => intro S v1 v2 v3 hf; exact nomatch (show (none : Option (Int32 × sh_St)) = some res from hf)
  | succ n ih =>
    intro S v1 v2 v3 hf H locs ls hw hl
    have hr12 := ih
    rw [fX13_strays_12] at hf
    refine lv_iload_n C.1 C.2.1 dX13_strays_12 rfl (lv_at hl 3 rfl) ?_
    refine lv_bipush (v := 6) C.1 C.2.1 dX13_strays_13 (by decide) ?_
    refine sh_icmp_ge (tgt := 66) C hf dX13_strays_15 (by decide) (fun hf => ?_) (fun hf => ?_)
    · obtain ⟨y1, ey1, hf⟩ := sh_nm hf
      refine lv_iinc (v := y1) (lv' := [(2, .int y1), (0, .ref (G.2.1 0)), (1, .int v1), (3, .int v3)]) C.1 C.2.1 dX13_strays_66 hl (k := 2) rfl (by rw [← ey1]; rfl) (by decide) rfl (fun ls hl => ?_)
      refine lv_goto (tgt := 4) C.1 C.2.1 dX13_strays_69 (by decide) ?_
      exact hr4 S v1 y1 hf _ _ _ hw (lv_sub hl [1, 2, 0] rfl)
    · refine lv_aload_n C.1 C.2.1 dX13_strays_18 rfl (lv_at hl 0 rfl) ?_
      refine lv_iload_n C.1 C.2.1 dX13_strays_19 rfl (lv_at hl 2 rfl) ?_
      refine lv_iload_n C.1 C.2.1 dX13_strays_20 rfl (lv_at hl 3 rfl) ?_
      refine sh_Vi (As := [.int v2, .int v3]) (rest := []) C hw (kX13_isEmpty l v2 v3) yy_X13_isEmpty yv_X13_isEmpty ml_X13_86 hf tbM_0 rfl rfl rfl rfl (Nat.le_of_ble_eq_true rfl) (by decide) hl.1 dX13_strays_21 (fun r3 S2 H locs hw hf => ?_)
      refine sh_if_eq (tgt := 30) C hf dX13_strays_24 (by decide) (fun hf => ?_) (fun hf => ?_)
      · refine lv_iload_n C.1 C.2.1 dX13_strays_30 rfl (lv_at hl 1 rfl) ?_
        refine lv_aload_n C.1 C.2.1 dX13_strays_31 rfl (lv_at hl 0 rfl) ?_
        refine lv_aload_n C.1 C.2.1 dX13_strays_32 rfl (lv_at hl 0 rfl) ?_
        refine lv_aload_n C.1 C.2.1 dX13_strays_33 rfl (lv_at hl 0 rfl) ?_
        refine sh_getr C hw fl_X13_13 tbM_0 rfl dX13_strays_34 ?_
        refine lv_iload_n C.1 C.2.1 dX13_strays_37 rfl (lv_at hl 2 rfl) ?_
        refine lv_iload_n C.1 C.2.1 dX13_strays_38 rfl (lv_at hl 3 rfl) ?_
        refine sh_Si (As := [.int v2, .int v3]) (rest := [.ref (G.2.1 2), .ref (G.2.1 0), .ref (G.2.1 0), .int v1]) C hw (kX13_slotAt l v2 v3) yy_X13_slotAt ys_X13_slotAt ml_X13_82 rfl hf rfl rfl rfl (Nat.le_of_ble_eq_true rfl) (by decide) hl.1 dX13_strays_39 (fun r5 S4 H locs hw hf => ?_)
        refine sh_lald C hw hf tbM_2 dX13_strays_42 (fun hf => ?_)
        refine sh_Vi (As := [.long (S4.2 2 r5.toNatClampNeg)]) (rest := [.ref (G.2.1 0), .int v1]) C hw (kX13_hashOf l (S4.2 2 r5.toNatClampNeg)) yy_X13_hashOf yv_X13_hashOf ml_X13_164 hf tbM_0 rfl rfl rfl rfl (Nat.le_of_ble_eq_true rfl) (by decide) hl.1 dX13_strays_43 (fun r7 S6 H locs hw hf => ?_)
        refine sh_Vi (As := [.int r7]) (rest := [.int v1]) C hw (kX13_firstOf l r7) yy_X13_firstOf yv_X13_firstOf ml_X13_131 hf tbM_0 rfl rfl rfl rfl (Nat.le_of_ble_eq_true rfl) (by decide) hl.1 dX13_strays_46 (fun r9 S8 H locs hw hf => ?_)
        refine lv_iload_n C.1 C.2.1 dX13_strays_49 rfl (lv_at hl 2 rfl) ?_
        refine sh_icmp_ne (tgt := 57) C hf dX13_strays_50 (by decide) (fun hf => ?_) (fun hf => ?_)
        · refine lv_iconst (v := 1) C.1 C.2.1 dX13_strays_57 (by decide) ?_
          exact wX13_strays_58 C hr (fX13_strays_12 rk4 n) hr12 S8 v2 v3 1 v1 hf _ _ _ hw (lv_sub hl [0, 2, 3] rfl)
        · refine lv_iconst (v := 0) C.1 C.2.1 dX13_strays_53 (by decide) ?_
          refine lv_goto (tgt := 58) C.1 C.2.1 dX13_strays_54 (by decide) ?_
          exact wX13_strays_58 C hr (fX13_strays_12 rk4 n) hr12 S8 v2 v3 0 v1 hf _ _ _ hw (lv_sub hl [0, 2, 3] rfl)
      · refine lv_goto (tgt := 60) C.1 C.2.1 dX13_strays_27 (by decide) ?_
        exact wX13_strays_60 C hr (fX13_strays_12 rk4 n) hr12 S2 v1 v2 v3 hf _ _ _ hw (lv_sub hl [0, 1, 2, 3] rfl)
def fX13_strays_4 : Nat → sh_St → Int32 → Int32 → Option (Int32 × sh_St)
  | 0, _, _, _ => none
  | n + 1, S, v1, v2 =>
    if 40 ≤ v2 then (some (v1, S))
    else (fX13_strays_12 (fX13_strays_4 n) sh_FU S v1 v2 0)
set_option maxRecDepth 100000 in
set_option maxHeartbeats 4000000 in
theorem wX13_strays_4 {p : Program} {l : Launch} {e : Env} {s : State} {m : MethodId} {args : Array Value} {below : List Frame} {meth : Method} {c : Code} {G : sh_Ev} {A : Nat → Prop} {res : Int32 × sh_St} (C : sh_Cx p s m args meth c cX13_strays 4 RX13 G A) (hr : meth.sig.returnType = some .int) : ∀ (n : Nat) (S : sh_St) (v1 : Int32) (v2 : Int32), fX13_strays_4 n S v1 v2 = some res → ∀ (H : Heap) (locs : List Loc) (ls : Array Slot), sh_Wx G tbM A s H locs S → lv_has ls 4 [(0, .ref (G.2.1 0)), (1, .int v1), (2, .int v2)] → W p l e (sh_rm 5) s m args below meth c H locs 0 0 (sh_Qi below args s G tbM A res) (F0 m 4 ls []) := by
  intro n
  induction n with
  | zero => intro S v1 v2 hf; exact nomatch (show (none : Option (Int32 × sh_St)) = some res from hf)
  | succ n ih =>
    intro S v1 v2 hf H locs ls hw hl
    have hr4 := ih
    rw [fX13_strays_4] at hf
    refine lv_iload_n C.1 C.2.1 dX13_strays_4 rfl (lv_at hl 2 rfl) ?_
    refine lv_bipush (v := 40) C.1 C.2.1 dX13_strays_5 (by decide) ?_
    refine sh_icmp_ge (tgt := 72) C hf dX13_strays_7 (by decide) (fun hf => ?_) (fun hf => ?_)
    · refine lv_iload_n C.1 C.2.1 dX13_strays_72 rfl (lv_at hl 1 rfl) ?_
      exact sh_ri C hw hr hf dX13_strays_73
    · refine lv_iconst (v := 0) C.1 C.2.1 dX13_strays_10 (by decide) ?_
      refine lv_istore_n (lv' := [(3, .int 0), (0, .ref (G.2.1 0)), (1, .int v1), (2, .int v2)]) C.1 C.2.1 dX13_strays_11 rfl hl (by decide) rfl (fun ls hl => ?_)
      exact wX13_strays_12 C hr (fX13_strays_4 n) hr4 _ S v1 v2 0 hf _ _ _ hw (lv_sub hl [1, 2, 3, 0] rfl)
def fX13_strays (S : sh_St) : Option (Int32 × sh_St) :=
    fX13_strays_4 sh_FU S 0 0
set_option maxRecDepth 100000 in
set_option maxHeartbeats 4000000 in
theorem kX13_strays (l : Launch) : sh_Mi l yX13_strays cX13_strays 4 .int 5 tbM (fun G => [.ref (G.2.1 0)]) (fun S => fX13_strays S) := by
  refine sh_mki (by decide) (fun G => Nat.le_of_ble_eq_true rfl) ?_
  intro p e s m args below meth c G A S res ls hf C hr hw hl
  have C : sh_Cx p s m args meth c cX13_strays 4 RX13 G A := C
  have hl : lv_has ls 4 [(0, .ref (G.2.1 0))] := hl
  replace hf : fX13_strays S = some res := hf
  rw [fX13_strays] at hf
  refine lv_iconst (v := 0) C.1 C.2.1 dX13_strays_0 (by decide) ?_
  refine lv_istore_n (lv' := [(1, .int 0), (0, .ref (G.2.1 0))]) C.1 C.2.1 dX13_strays_1 rfl hl (by decide) rfl (fun ls hl => ?_)
  refine lv_iconst (v := 0) C.1 C.2.1 dX13_strays_2 (by decide) ?_
  refine lv_istore_n (lv' := [(2, .int 0), (1, .int 0), (0, .ref (G.2.1 0))]) C.1 C.2.1 dX13_strays_3 rfl hl (by decide) rfl (fun ls hl => ?_)
  exact wX13_strays_4 C hr _ S 0 0 hf _ _ _ hw (lv_sub hl [2, 1, 0] rfl)
def fX13_fullest_53 (rk4 : sh_St → Int32 → Int32 → Option (Int32 × sh_St)) (S : sh_St) (v1 : Int32) (v2 : Int32) : Option (Int32 × sh_St) :=
    sh_t (v2 + 1) fun y1 =>
    rk4 S v1 y1
set_option maxRecDepth 100000 in
set_option maxHeartbeats 4000000 in
theorem wX13_fullest_53 {p : Program} {l : Launch} {e : Env} {s : State} {m : MethodId} {args : Array Value} {below : List Frame} {meth : Method} {c : Code} {G : sh_Ev} {A : Nat → Prop} {res : Int32 × sh_St} (C : sh_Cx p s m args meth c cX13_fullest 3 RX13 G A) (hr : meth.sig.returnType = some .int) (rk4 : sh_St → Int32 → Int32 → Option (Int32 × sh_St)) (hr4 : ∀ (S : sh_St) (v1 : Int32) (v2 : Int32), rk4 S v1 v2 = some res → ∀ (H : Heap) (locs : List Loc) (ls : Array Slot), sh_Wx G tbM A s H locs S → lv_has ls 3 [(0, .ref (G.2.1 0)), (1, .int v1), (2, .int v2)] → W p l e (sh_rm 1) s m args below meth c H locs 0 0 (sh_Qi below args s G tbM A res) (F0 m 4 ls [])) : ∀ (S : sh_St) (v1 : Int32) (v2 : Int32), fX13_fullest_53 rk4 S v1 v2 = some res → ∀ (H : Heap) (locs : List Loc) (ls : Array Slot), sh_Wx G tbM A s H locs S → lv_has ls 3 [(0, .ref (G.2.1 0)), (1, .int v1), (2, .int v2)] → W p l e (sh_rm 1) s m args below meth c H locs 0 0 (sh_Qi below args s G tbM A res) (F0 m 53 ls []) := by
  intro S v1 v2 hf H locs ls hw hl
  rw [fX13_fullest_53] at hf
  obtain ⟨y1, ey1, hf⟩ := sh_nm hf
  refine lv_iinc (v := y1) (lv' := [(2, .int y1), (0, .ref (G.2.1 0)), (1, .int v1)]) C.1 C.2.1 dX13_fullest_53 hl (k := 2) rfl (by rw [← ey1]; rfl) (by decide) rfl (fun ls hl => ?_)
  refine lv_goto (tgt := 4) C.1 C.2.1 dX13_fullest_56 (by decide) ?_
  exact hr4 S v1 y1 hf _ _ _ hw (lv_sub hl [1, 2, 0] rfl)
def fX13_fullest_51 (rk4 : sh_St → Int32 → Int32 → Option (Int32 × sh_St)) (S : sh_St) (v2 : Int32) : Option (Int32 × sh_St) :=
    fX13_fullest_53 rk4 S v2 v2
set_option maxRecDepth 100000 in
set_option maxHeartbeats 4000000 in
theorem wX13_fullest_51 {p : Program} {l : Launch} {e : Env} {s : State} {m : MethodId} {args : Array Value} {below : List Frame} {meth : Method} {c : Code} {G : sh_Ev} {A : Nat → Prop} {res : Int32 × sh_St} (C : sh_Cx p s m args meth c cX13_fullest 3 RX13 G A) (hr : meth.sig.returnType = some .int) (rk4 : sh_St → Int32 → Int32 → Option (Int32 × sh_St)) (hr4 : ∀ (S : sh_St) (v1 : Int32) (v2 : Int32), rk4 S v1 v2 = some res → ∀ (H : Heap) (locs : List Loc) (ls : Array Slot), sh_Wx G tbM A s H locs S → lv_has ls 3 [(0, .ref (G.2.1 0)), (1, .int v1), (2, .int v2)] → W p l e (sh_rm 1) s m args below meth c H locs 0 0 (sh_Qi below args s G tbM A res) (F0 m 4 ls [])) : ∀ (S : sh_St) (v2 : Int32), fX13_fullest_51 rk4 S v2 = some res → ∀ (H : Heap) (locs : List Loc) (ls : Array Slot), sh_Wx G tbM A s H locs S → lv_has ls 3 [(0, .ref (G.2.1 0)), (2, .int v2)] → W p l e (sh_rm 1) s m args below meth c H locs 0 0 (sh_Qi below args s G tbM A res) (F0 m 51 ls []) := by
  intro S v2 hf H locs ls hw hl
  rw [fX13_fullest_51] at hf
  refine lv_iload_n C.1 C.2.1 dX13_fullest_51 rfl (lv_at hl 1 rfl) ?_
  refine lv_istore_n (lv' := [(1, .int v2), (0, .ref (G.2.1 0)), (2, .int v2)]) C.1 C.2.1 dX13_fullest_52 rfl hl (by decide) rfl (fun ls hl => ?_)
  exact wX13_fullest_53 C hr rk4 hr4 S v2 v2 hf _ _ _ hw (lv_sub hl [1, 0, 2] rfl)
def fX13_fullest_4 : Nat → sh_St → Int32 → Int32 → Option (Int32 × sh_St)
  | 0, _, _, _ => none
  | n + 1, S, v1, v2 =>
    if 40 ≤ v2 then (some (v1, S))
    else (sh_g (0 + v2) 1084 (if (S.1 1 (0 + v2).toNatClampNeg) = 2 then (if v1 = (-1) then (fX13_fullest_51 (fX13_fullest_4 n) S v2)
    else (sh_g (80 + v2) 1084 (sh_g (80 + v1) 1084 (if (S.1 1 (80 + v2).toNatClampNeg) ≤ (S.1 1 (80 + v1).toNatClampNeg) then (fX13_fullest_53 (fX13_fullest_4 n) S v1 v2)
    else (fX13_fullest_51 (fX13_fullest_4 n) S v2)))))
    else (fX13_fullest_53 (fX13_fullest_4 n) S v1 v2)))
set_option maxRecDepth 100000 in
set_option maxHeartbeats 4000000 in
theorem wX13_fullest_4 {p : Program} {l : Launch} {e : Env} {s : State} {m : MethodId} {args : Array Value} {below : List Frame} {meth : Method} {c : Code} {G : sh_Ev} {A : Nat → Prop} {res : Int32 × sh_St} (C : sh_Cx p s m args meth c cX13_fullest 3 RX13 G A) (hr : meth.sig.returnType = some .int) : ∀ (n : Nat) (S : sh_St) (v1 : Int32) (v2 : Int32), fX13_fullest_4 n S v1 v2 = some res → ∀ (H : Heap) (locs : List Loc) (ls : Array Slot), sh_Wx G tbM A s H locs S → lv_has ls 3 [(0, .ref (G.2.1 0)), (1, .int v1), (2, .int v2)] → W p l e (sh_rm 1) s m args below meth c H locs 0 0 (sh_Qi below args s G tbM A res) (F0 m 4 ls []) := by
  intro n
  induction n with
  | zero => intro S v1 v2 hf; exact nomatch (show (none : Option (Int32 × sh_St)) = some res from hf)
  | succ n ih =>
    intro S v1 v2 hf H locs ls hw hl
    have hr4 := ih
    rw [fX13_fullest_4] at hf
    refine lv_iload_n C.1 C.2.1 dX13_fullest_4 rfl (lv_at hl 2 rfl) ?_
    refine lv_bipush (v := 40) C.1 C.2.1 dX13_fullest_5 (by decide) ?_
    refine sh_icmp_ge (tgt := 59) C hf dX13_fullest_7 (by decide) (fun hf => ?_) (fun hf => ?_)
    · refine lv_iload_n C.1 C.2.1 dX13_fullest_59 rfl (lv_at hl 1 rfl) ?_
      exact sh_ri C hw hr hf dX13_fullest_60
    · refine lv_aload_n C.1 C.2.1 dX13_fullest_10 rfl (lv_at hl 0 rfl) ?_
      refine sh_getr C hw fl_X13_7 tbM_0 rfl dX13_fullest_11 ?_
      refine lv_iconst (v := 0) C.1 C.2.1 dX13_fullest_14 (by decide) ?_
      refine lv_iload_n C.1 C.2.1 dX13_fullest_15 rfl (lv_at hl 2 rfl) ?_
      refine lv_iadd C.1 C.2.1 dX13_fullest_16 ?_
      refine sh_iald C hw hf tbM_1 dX13_fullest_17 (fun hf => ?_)
      refine lv_iconst (v := 2) C.1 C.2.1 dX13_fullest_18 (by decide) ?_
      refine sh_icmp_eq (tgt := 25) C hf dX13_fullest_19 (by decide) (fun hf => ?_) (fun hf => ?_)
      · refine lv_iload_n C.1 C.2.1 dX13_fullest_25 rfl (lv_at hl 1 rfl) ?_
        refine lv_iconst (v := -1) C.1 C.2.1 dX13_fullest_26 (by decide) ?_
        refine sh_icmp_eq (tgt := 51) C hf dX13_fullest_27 (by decide) (fun hf => ?_) (fun hf => ?_)
        · exact wX13_fullest_51 C hr (fX13_fullest_4 n) hr4 S v2 hf _ _ _ hw (lv_sub hl [0, 2] rfl)
        · refine lv_aload_n C.1 C.2.1 dX13_fullest_30 rfl (lv_at hl 0 rfl) ?_
          refine sh_getr C hw fl_X13_7 tbM_0 rfl dX13_fullest_31 ?_
          refine lv_bipush (v := 80) C.1 C.2.1 dX13_fullest_34 (by decide) ?_
          refine lv_iload_n C.1 C.2.1 dX13_fullest_36 rfl (lv_at hl 2 rfl) ?_
          refine lv_iadd C.1 C.2.1 dX13_fullest_37 ?_
          refine sh_iald C hw hf tbM_1 dX13_fullest_38 (fun hf => ?_)
          refine lv_aload_n C.1 C.2.1 dX13_fullest_39 rfl (lv_at hl 0 rfl) ?_
          refine sh_getr C hw fl_X13_7 tbM_0 rfl dX13_fullest_40 ?_
          refine lv_bipush (v := 80) C.1 C.2.1 dX13_fullest_43 (by decide) ?_
          refine lv_iload_n C.1 C.2.1 dX13_fullest_45 rfl (lv_at hl 1 rfl) ?_
          refine lv_iadd C.1 C.2.1 dX13_fullest_46 ?_
          refine sh_iald C hw hf tbM_1 dX13_fullest_47 (fun hf => ?_)
          refine sh_icmp_le (tgt := 53) C hf dX13_fullest_48 (by decide) (fun hf => ?_) (fun hf => ?_)
          · exact wX13_fullest_53 C hr (fX13_fullest_4 n) hr4 S v1 v2 hf _ _ _ hw (lv_sub hl [0, 1, 2] rfl)
          · exact wX13_fullest_51 C hr (fX13_fullest_4 n) hr4 S v2 hf _ _ _ hw (lv_sub hl [0, 2] rfl)
      · refine lv_goto (tgt := 53) C.1 C.2.1 dX13_fullest_22 (by decide) ?_
        exact wX13_fullest_53 C hr (fX13_fullest_4 n) hr4 S v1 v2 hf _ _ _ hw (lv_sub hl [0, 1, 2] rfl)
def fX13_fullest (S : sh_St) : Option (Int32 × sh_St) :=
    fX13_fullest_4 sh_FU S (-1) 0
set_option maxRecDepth 100000 in
set_option maxHeartbeats 4000000 in
theorem kX13_fullest (l : Launch) : sh_Mi l yX13_fullest cX13_fullest 3 .int 1 tbM (fun G => [.ref (G.2.1 0)]) (fun S => fX13_fullest S) := by
  refine sh_mki (by decide) (fun G => Nat.le_of_ble_eq_true rfl) ?_
  intro p e s m args below meth c G A S res ls hf C hr hw hl
  have C : sh_Cx p s m args meth c cX13_fullest 3 RX13 G A := C
  have hl : lv_has ls 3 [(0, .ref (G.2.1 0))] := hl
  replace hf : fX13_fullest S = some res := hf
  rw [fX13_fullest] at hf
  refine lv_iconst (v := -1) C.1 C.2.1 dX13_fullest_0 (by decide) ?_
  refine lv_istore_n (lv' := [(1, .int (-1)), (0, .ref (G.2.1 0))]) C.1 C.2.1 dX13_fullest_1 rfl hl (by decide) rfl (fun ls hl => ?_)
  refine lv_iconst (v := 0) C.1 C.2.1 dX13_fullest_2 (by decide) ?_
  refine lv_istore_n (lv' := [(2, .int 0), (1, .int (-1)), (0, .ref (G.2.1 0))]) C.1 C.2.1 dX13_fullest_3 rfl hl (by decide) rfl (fun ls hl => ?_)
  exact wX13_fullest_4 C hr _ S (-1) 0 hf _ _ _ hw (lv_sub hl [2, 1, 0] rfl)
def fX13_empty_30 (S : sh_St) (v1 : Int32) : Option (Int32 × sh_St) :=
    sh_g 1081 1084 (if (1 <<< ((S.1 1 (1081 : Int32).toNatClampNeg) &&& 31)) ≤ v1 then (some ((-1), S))
    else (some (v1, S)))
set_option maxRecDepth 100000 in
set_option maxHeartbeats 4000000 in
theorem wX13_empty_30 {p : Program} {l : Launch} {e : Env} {s : State} {m : MethodId} {args : Array Value} {below : List Frame} {meth : Method} {c : Code} {G : sh_Ev} {A : Nat → Prop} {res : Int32 × sh_St} (C : sh_Cx p s m args meth c cX13_empty 2 RX13 G A) (hr : meth.sig.returnType = some .int) : ∀ (S : sh_St) (v1 : Int32), fX13_empty_30 S v1 = some res → ∀ (H : Heap) (locs : List Loc) (ls : Array Slot), sh_Wx G tbM A s H locs S → lv_has ls 2 [(0, .ref (G.2.1 0)), (1, .int v1)] → W p l e (sh_rm 6) s m args below meth c H locs 0 0 (sh_Qi below args s G tbM A res) (F0 m 30 ls []) := by
  intro S v1 hf H locs ls hw hl
  rw [fX13_empty_30] at hf
  refine lv_iload_n C.1 C.2.1 dX13_empty_30 rfl (lv_at hl 1 rfl) ?_
  refine lv_iconst (v := 1) C.1 C.2.1 dX13_empty_31 (by decide) ?_
  refine lv_aload_n C.1 C.2.1 dX13_empty_32 rfl (lv_at hl 0 rfl) ?_
  refine sh_getr C hw fl_X13_7 tbM_0 rfl dX13_empty_33 ?_
  refine lv_sipush (v := 1081) C.1 C.2.1 dX13_empty_36 (by decide) ?_
  refine sh_iald C hw hf tbM_1 dX13_empty_39 (fun hf => ?_)
  refine lv_ishl C.1 C.2.1 dX13_empty_40 ?_
  refine sh_icmp_ge (tgt := 48) C hf dX13_empty_41 (by decide) (fun hf => ?_) (fun hf => ?_)
  · refine lv_iconst (v := -1) C.1 C.2.1 dX13_empty_48 (by decide) ?_
    exact sh_ri C hw hr hf dX13_empty_49
  · refine lv_iload_n C.1 C.2.1 dX13_empty_44 rfl (lv_at hl 1 rfl) ?_
    refine lv_goto (tgt := 49) C.1 C.2.1 dX13_empty_45 (by decide) ?_
    exact sh_ri C hw hr hf dX13_empty_49
def fX13_empty_2 : Nat → sh_St → Int32 → Option (Int32 × sh_St)
  | 0, _, _ => none
  | n + 1, S, v1 =>
    sh_g 1081 1084 (if (1 <<< ((S.1 1 (1081 : Int32).toNatClampNeg) &&& 31)) ≤ v1 then (fX13_empty_30 S v1)
    else (sh_c (fX13_meets S v1) fun r2 S1 =>
    if r2 ≤ 0 then (fX13_empty_30 S1 v1)
    else (sh_t (v1 + 1) fun y3 =>
    (fX13_empty_2 n) S1 y3)))
set_option maxRecDepth 100000 in
set_option maxHeartbeats 4000000 in
theorem wX13_empty_2 {p : Program} {l : Launch} {e : Env} {s : State} {m : MethodId} {args : Array Value} {below : List Frame} {meth : Method} {c : Code} {G : sh_Ev} {A : Nat → Prop} {res : Int32 × sh_St} (C : sh_Cx p s m args meth c cX13_empty 2 RX13 G A) (hr : meth.sig.returnType = some .int) : ∀ (n : Nat) (S : sh_St) (v1 : Int32), fX13_empty_2 n S v1 = some res → ∀ (H : Heap) (locs : List Loc) (ls : Array Slot), sh_Wx G tbM A s H locs S → lv_has ls 2 [(0, .ref (G.2.1 0)), (1, .int v1)] → W p l e (sh_rm 6) s m args below meth c H locs 0 0 (sh_Qi below args s G tbM A res) (F0 m 2 ls []) := by
  intro n
  induction n with
  | zero => intro S v1 hf; exact nomatch (show (none : Option (Int32 × sh_St)) = some res from hf)
  | succ n ih =>
    intro S v1 hf H locs ls hw hl
    have hr2 := ih
    rw [fX13_empty_2] at hf
    refine lv_iload_n C.1 C.2.1 dX13_empty_2 rfl (lv_at hl 1 rfl) ?_
    refine lv_iconst (v := 1) C.1 C.2.1 dX13_empty_3 (by decide) ?_
    refine lv_aload_n C.1 C.2.1 dX13_empty_4 rfl (lv_at hl 0 rfl) ?_
    refine sh_getr C hw fl_X13_7 tbM_0 rfl dX13_empty_5 ?_
    refine lv_sipush (v := 1081) C.1 C.2.1 dX13_empty_8 (by decide) ?_
    refine sh_iald C hw hf tbM_1 dX13_empty_11 (fun hf => ?_)
    refine lv_ishl C.1 C.2.1 dX13_empty_12 ?_
    refine sh_icmp_ge (tgt := 30) C hf dX13_empty_13 (by decide) (fun hf => ?_) (fun hf => ?_)
    · exact wX13_empty_30 C hr S v1 hf _ _ _ hw (lv_sub hl [0, 1] rfl)
    · refine lv_aload_n C.1 C.2.1 dX13_empty_16 rfl (lv_at hl 0 rfl) ?_
      refine lv_iload_n C.1 C.2.1 dX13_empty_17 rfl (lv_at hl 1 rfl) ?_
      refine sh_Vi (As := [.int v1]) (rest := []) C hw (kX13_meets l v1) yy_X13_meets yv_X13_meets ml_X13_375 hf tbM_0 rfl rfl rfl rfl (Nat.le_of_ble_eq_true rfl) (by decide) hl.1 dX13_empty_18 (fun r2 S1 H locs hw hf => ?_)
      refine sh_if_le (tgt := 30) C hf dX13_empty_21 (by decide) (fun hf => ?_) (fun hf => ?_)
      · exact wX13_empty_30 C hr S1 v1 hf _ _ _ hw (lv_sub hl [0, 1] rfl)
      · obtain ⟨y3, ey3, hf⟩ := sh_nm hf
        refine lv_iinc (v := y3) (lv' := [(1, .int y3), (0, .ref (G.2.1 0))]) C.1 C.2.1 dX13_empty_24 hl (k := 1) rfl (by rw [← ey3]; rfl) (by decide) rfl (fun ls hl => ?_)
        refine lv_goto (tgt := 2) C.1 C.2.1 dX13_empty_27 (by decide) ?_
        exact hr2 S1 y3 hf _ _ _ hw (lv_sub hl [1, 0] rfl)
def fX13_empty (S : sh_St) : Option (Int32 × sh_St) :=
    fX13_empty_2 sh_FU S 0
set_option maxRecDepth 100000 in
set_option maxHeartbeats 4000000 in
theorem kX13_empty (l : Launch) : sh_Mi l yX13_empty cX13_empty 2 .int 6 tbM (fun G => [.ref (G.2.1 0)]) (fun S => fX13_empty S) := by
  refine sh_mki (by decide) (fun G => Nat.le_of_ble_eq_true rfl) ?_
  intro p e s m args below meth c G A S res ls hf C hr hw hl
  have C : sh_Cx p s m args meth c cX13_empty 2 RX13 G A := C
  have hl : lv_has ls 2 [(0, .ref (G.2.1 0))] := hl
  replace hf : fX13_empty S = some res := hf
  rw [fX13_empty] at hf
  refine lv_iconst (v := 0) C.1 C.2.1 dX13_empty_0 (by decide) ?_
  refine lv_istore_n (lv' := [(1, .int 0), (0, .ref (G.2.1 0))]) C.1 C.2.1 dX13_empty_1 rfl hl (by decide) rfl (fun ls hl => ?_)
  exact wX13_empty_2 C hr _ S 0 hf _ _ _ hw (lv_sub hl [1, 0] rfl)
def fX13_crowds_16 (S : sh_St) (v1 : Int32) (t0 : Int32) : Option (Int32 × sh_St) :=
    sh_t (sh_I S 0 0 t0) fun S3 =>
    if (S3.1 0 0) ≤ 0 then (sh_c (fX13_crowdBy S3 v1) fun r5 S4 =>
    some (r5, S4))
    else (some (0, S3))
set_option maxRecDepth 100000 in
set_option maxHeartbeats 4000000 in
theorem wX13_crowds_16 {p : Program} {l : Launch} {e : Env} {s : State} {m : MethodId} {args : Array Value} {below : List Frame} {meth : Method} {c : Code} {G : sh_Ev} {A : Nat → Prop} {res : Int32 × sh_St} (C : sh_Cx p s m args meth c cX13_crowds 2 RX13 G A) (hr : meth.sig.returnType = some .int) : ∀ (S : sh_St) (v1 : Int32) (t0 : Int32), fX13_crowds_16 S v1 t0 = some res → ∀ (H : Heap) (locs : List Loc) (ls : Array Slot), sh_Wx G tbM A s H locs S → lv_has ls 2 [(0, .ref (G.2.1 0)), (1, .int v1)] → W p l e (sh_rm 6) s m args below meth c H locs 0 0 (sh_Qi below args s G tbM A res) (F0 m 16 ls [.int t0, .ref (G.2.1 0)]) := by
  intro S v1 t0 hf H locs ls hw hl
  rw [fX13_crowds_16] at hf
  refine sh_puti C hw fl_X13_79 fp_11_0 hf tbM_0 rfl dX13_crowds_16 (fun S3 H locs hw hf => ?_)
  refine lv_aload_n C.1 C.2.1 dX13_crowds_19 rfl (lv_at hl 0 rfl) ?_
  refine sh_geti C hw fl_X13_79 tbM_0 rfl dX13_crowds_20 ?_
  refine sh_if_le (tgt := 30) C hf dX13_crowds_23 (by decide) (fun hf => ?_) (fun hf => ?_)
  · refine lv_aload_n C.1 C.2.1 dX13_crowds_30 rfl (lv_at hl 0 rfl) ?_
    refine lv_iload_n C.1 C.2.1 dX13_crowds_31 rfl (lv_at hl 1 rfl) ?_
    refine sh_Vi (As := [.int v1]) (rest := []) C hw (kX13_crowdBy l v1) yy_X13_crowdBy yv_X13_crowdBy ml_X13_399 hf tbM_0 rfl rfl rfl rfl (Nat.le_of_ble_eq_true rfl) (by decide) hl.1 dX13_crowds_32 (fun r5 S4 H locs hw hf => ?_)
    exact sh_ri C hw hr hf dX13_crowds_35
  · refine lv_iconst (v := 0) C.1 C.2.1 dX13_crowds_26 (by decide) ?_
    refine lv_goto (tgt := 35) C.1 C.2.1 dX13_crowds_27 (by decide) ?_
    exact sh_ri C hw hr hf dX13_crowds_35
def fX13_crowds (S : sh_St) (v1 : Int32) : Option (Int32 × sh_St) :=
    sh_c (fX13_isIn S v1 0 65535) fun r2 S1 =>
    if r2 = 0 then (fX13_crowds_16 S1 v1 1)
    else (fX13_crowds_16 S1 v1 0)
set_option maxRecDepth 100000 in
set_option maxHeartbeats 4000000 in
theorem kX13_crowds (l : Launch) (v1 : Int32) : sh_Mi l yX13_crowds cX13_crowds 2 .int 6 tbM (fun G => [.ref (G.2.1 0), .int v1]) (fun S => fX13_crowds S v1) := by
  refine sh_mki (by decide) (fun G => Nat.le_of_ble_eq_true rfl) ?_
  intro p e s m args below meth c G A S res ls hf C hr hw hl
  have C : sh_Cx p s m args meth c cX13_crowds 2 RX13 G A := C
  have hl : lv_has ls 2 [(0, .ref (G.2.1 0)), (1, .int v1)] := hl
  replace hf : fX13_crowds S v1 = some res := hf
  rw [fX13_crowds] at hf
  refine lv_aload_n C.1 C.2.1 dX13_crowds_0 rfl (lv_at hl 0 rfl) ?_
  refine lv_iload_n C.1 C.2.1 dX13_crowds_1 rfl (lv_at hl 1 rfl) ?_
  refine lv_iconst (v := 0) C.1 C.2.1 dX13_crowds_2 (by decide) ?_
  refine lv_ldc C.1 C.2.1 C.2.2.2.1 (C.2.2.2.2.1 _ kc_X13_109) dX13_crowds_3 ?_
  refine sh_Si (As := [.int v1, .int 0, .int 65535]) (rest := [.ref (G.2.1 0)]) C hw (kX13_isIn l v1 0 65535) yy_X13_isIn ys_X13_isIn ml_X13_263 rfl hf rfl rfl rfl (Nat.le_of_ble_eq_true rfl) (by decide) hl.1 dX13_crowds_5 (fun r2 S1 H locs hw hf => ?_)
  refine sh_if_eq (tgt := 15) C hf dX13_crowds_8 (by decide) (fun hf => ?_) (fun hf => ?_)
  · refine lv_iconst (v := 1) C.1 C.2.1 dX13_crowds_15 (by decide) ?_
    exact wX13_crowds_16 C hr S1 v1 1 hf _ _ _ hw (lv_sub hl [0, 1] rfl)
  · refine lv_iconst (v := 0) C.1 C.2.1 dX13_crowds_11 (by decide) ?_
    refine lv_goto (tgt := 16) C.1 C.2.1 dX13_crowds_12 (by decide) ?_
    exact wX13_crowds_16 C hr S1 v1 0 hf _ _ _ hw (lv_sub hl [0, 1] rfl)
def fX13_best_91 (rk46 : sh_St → Int32 → Int32 → Int32 → Int32 → Int32 → Option (Int32 × sh_St)) (S : sh_St) (v1 : Int32) (v2 : Int32) (v3 : Int32) (v4 : Int32) (v5 : Int32) : Option (Int32 × sh_St) :=
    sh_t (v5 + 1) fun y6 =>
    rk46 S v1 v2 v3 v4 y6
set_option maxRecDepth 100000 in
set_option maxHeartbeats 4000000 in
theorem wX13_best_91 {p : Program} {l : Launch} {e : Env} {s : State} {m : MethodId} {args : Array Value} {below : List Frame} {meth : Method} {c : Code} {G : sh_Ev} {A : Nat → Prop} {res : Int32 × sh_St} (C : sh_Cx p s m args meth c cX13_best 7 RX13 G A) (hr : meth.sig.returnType = some .int) (rk46 : sh_St → Int32 → Int32 → Int32 → Int32 → Int32 → Option (Int32 × sh_St)) (hr46 : ∀ (S : sh_St) (v1 : Int32) (v2 : Int32) (v3 : Int32) (v4 : Int32) (v5 : Int32), rk46 S v1 v2 v3 v4 v5 = some res → ∀ (H : Heap) (locs : List Loc) (ls : Array Slot), sh_Wx G tbM A s H locs S → lv_has ls 7 [(0, .ref (G.2.1 0)), (1, .int v1), (2, .int v2), (3, .int v3), (4, .int v4), (5, .int v5)] → W p l e (sh_rm 6) s m args below meth c H locs 0 0 (sh_Qi below args s G tbM A res) (F0 m 46 ls [])) : ∀ (S : sh_St) (v1 : Int32) (v2 : Int32) (v3 : Int32) (v4 : Int32) (v5 : Int32), fX13_best_91 rk46 S v1 v2 v3 v4 v5 = some res → ∀ (H : Heap) (locs : List Loc) (ls : Array Slot), sh_Wx G tbM A s H locs S → lv_has ls 7 [(0, .ref (G.2.1 0)), (1, .int v1), (2, .int v2), (3, .int v3), (4, .int v4), (5, .int v5)] → W p l e (sh_rm 6) s m args below meth c H locs 0 0 (sh_Qi below args s G tbM A res) (F0 m 91 ls []) := by
  intro S v1 v2 v3 v4 v5 hf H locs ls hw hl
  rw [fX13_best_91] at hf
  obtain ⟨y6, ey6, hf⟩ := sh_nm hf
  refine lv_iinc (v := y6) (lv' := [(5, .int y6), (0, .ref (G.2.1 0)), (1, .int v1), (2, .int v2), (3, .int v3), (4, .int v4)]) C.1 C.2.1 dX13_best_91 hl (k := 5) rfl (by rw [← ey6]; rfl) (by decide) rfl (fun ls hl => ?_)
  refine lv_goto (tgt := 46) C.1 C.2.1 dX13_best_94 (by decide) ?_
  exact hr46 S v1 v2 v3 v4 y6 hf _ _ _ hw (lv_sub hl [1, 2, 3, 4, 5, 0] rfl)
def fX13_best_84 (rk46 : sh_St → Int32 → Int32 → Int32 → Int32 → Int32 → Option (Int32 × sh_St)) (S : sh_St) (v1 : Int32) (v2 : Int32) (v5 : Int32) (v6 : Int32) : Option (Int32 × sh_St) :=
    fX13_best_91 rk46 S v1 v2 v5 v6 v5
set_option maxRecDepth 100000 in
set_option maxHeartbeats 4000000 in
theorem wX13_best_84 {p : Program} {l : Launch} {e : Env} {s : State} {m : MethodId} {args : Array Value} {below : List Frame} {meth : Method} {c : Code} {G : sh_Ev} {A : Nat → Prop} {res : Int32 × sh_St} (C : sh_Cx p s m args meth c cX13_best 7 RX13 G A) (hr : meth.sig.returnType = some .int) (rk46 : sh_St → Int32 → Int32 → Int32 → Int32 → Int32 → Option (Int32 × sh_St)) (hr46 : ∀ (S : sh_St) (v1 : Int32) (v2 : Int32) (v3 : Int32) (v4 : Int32) (v5 : Int32), rk46 S v1 v2 v3 v4 v5 = some res → ∀ (H : Heap) (locs : List Loc) (ls : Array Slot), sh_Wx G tbM A s H locs S → lv_has ls 7 [(0, .ref (G.2.1 0)), (1, .int v1), (2, .int v2), (3, .int v3), (4, .int v4), (5, .int v5)] → W p l e (sh_rm 6) s m args below meth c H locs 0 0 (sh_Qi below args s G tbM A res) (F0 m 46 ls [])) : ∀ (S : sh_St) (v1 : Int32) (v2 : Int32) (v5 : Int32) (v6 : Int32), fX13_best_84 rk46 S v1 v2 v5 v6 = some res → ∀ (H : Heap) (locs : List Loc) (ls : Array Slot), sh_Wx G tbM A s H locs S → lv_has ls 7 [(0, .ref (G.2.1 0)), (1, .int v1), (2, .int v2), (5, .int v5), (6, .int v6)] → W p l e (sh_rm 6) s m args below meth c H locs 0 0 (sh_Qi below args s G tbM A res) (F0 m 84 ls []) := by
  intro S v1 v2 v5 v6 hf H locs ls hw hl
  rw [fX13_best_84] at hf
  refine lv_iload C.1 C.2.1 dX13_best_84 (lv_at hl 3 rfl) ?_
  refine lv_istore_n (lv' := [(3, .int v5), (0, .ref (G.2.1 0)), (1, .int v1), (2, .int v2), (5, .int v5), (6, .int v6)]) C.1 C.2.1 dX13_best_86 rfl hl (by decide) rfl (fun ls hl => ?_)
  refine lv_iload C.1 C.2.1 dX13_best_87 (lv_at hl 5 rfl) ?_
  refine lv_istore (lv' := [(4, .int v6), (3, .int v5), (0, .ref (G.2.1 0)), (1, .int v1), (2, .int v2), (5, .int v5), (6, .int v6)]) C.1 C.2.1 dX13_best_89 hl (by decide) rfl (fun ls hl => ?_)
  exact wX13_best_91 C hr rk46 hr46 S v1 v2 v5 v6 v5 hf _ _ _ hw (lv_sub hl [2, 3, 4, 1, 0, 5] rfl)
def fX13_best_46 : Nat → sh_St → Int32 → Int32 → Int32 → Int32 → Int32 → Option (Int32 × sh_St)
  | 0, _, _, _, _, _, _ => none
  | n + 1, S, v1, v2, v3, v4, v5 =>
    if (v1 + v2) ≤ v5 then (some (v3, S))
    else (if 65535 < v5 then (some (v3, S))
    else (sh_c (fX13_crowdBy S v5) fun r5 S4 =>
    if v3 = (-1) then (fX13_best_84 (fX13_best_46 n) S4 v1 v2 v5 r5)
    else (if r5 < v4 then (fX13_best_84 (fX13_best_46 n) S4 v1 v2 v5 r5)
    else (fX13_best_91 (fX13_best_46 n) S4 v1 v2 v3 v4 v5))))
set_option maxRecDepth 100000 in
set_option maxHeartbeats 4000000 in
theorem wX13_best_46 {p : Program} {l : Launch} {e : Env} {s : State} {m : MethodId} {args : Array Value} {below : List Frame} {meth : Method} {c : Code} {G : sh_Ev} {A : Nat → Prop} {res : Int32 × sh_St} (C : sh_Cx p s m args meth c cX13_best 7 RX13 G A) (hr : meth.sig.returnType = some .int) : ∀ (n : Nat) (S : sh_St) (v1 : Int32) (v2 : Int32) (v3 : Int32) (v4 : Int32) (v5 : Int32), fX13_best_46 n S v1 v2 v3 v4 v5 = some res → ∀ (H : Heap) (locs : List Loc) (ls : Array Slot), sh_Wx G tbM A s H locs S → lv_has ls 7 [(0, .ref (G.2.1 0)), (1, .int v1), (2, .int v2), (3, .int v3), (4, .int v4), (5, .int v5)] → W p l e (sh_rm 6) s m args below meth c H locs 0 0 (sh_Qi below args s G tbM A res) (F0 m 46 ls []) := by
  intro n
  induction n with
  | zero => intro S v1 v2 v3 v4 v5 hf; exact nomatch (show (none : Option (Int32 × sh_St)) = some res from hf)
  | succ n ih =>
    intro S v1 v2 v3 v4 v5 hf H locs ls hw hl
    have hr46 := ih
    rw [fX13_best_46] at hf
    refine lv_iload C.1 C.2.1 dX13_best_46 (lv_at hl 5 rfl) ?_
    refine lv_iload_n C.1 C.2.1 dX13_best_48 rfl (lv_at hl 1 rfl) ?_
    refine lv_iload_n C.1 C.2.1 dX13_best_49 rfl (lv_at hl 2 rfl) ?_
    refine lv_iadd C.1 C.2.1 dX13_best_50 ?_
    refine sh_icmp_ge (tgt := 97) C hf dX13_best_51 (by decide) (fun hf => ?_) (fun hf => ?_)
    · refine lv_iload_n C.1 C.2.1 dX13_best_97 rfl (lv_at hl 3 rfl) ?_
      exact sh_ri C hw hr hf dX13_best_98
    · refine lv_iload C.1 C.2.1 dX13_best_54 (lv_at hl 5 rfl) ?_
      refine lv_ldc C.1 C.2.1 C.2.2.2.1 (C.2.2.2.2.1 _ kc_X13_109) dX13_best_56 ?_
      refine sh_icmp_gt (tgt := 97) C hf dX13_best_58 (by decide) (fun hf => ?_) (fun hf => ?_)
      · refine lv_iload_n C.1 C.2.1 dX13_best_97 rfl (lv_at hl 3 rfl) ?_
        exact sh_ri C hw hr hf dX13_best_98
      · refine lv_aload_n C.1 C.2.1 dX13_best_61 rfl (lv_at hl 0 rfl) ?_
        refine lv_iload C.1 C.2.1 dX13_best_62 (lv_at hl 5 rfl) ?_
        refine sh_Vi (As := [.int v5]) (rest := []) C hw (kX13_crowdBy l v5) yy_X13_crowdBy yv_X13_crowdBy ml_X13_399 hf tbM_0 rfl rfl rfl rfl (Nat.le_of_ble_eq_true rfl) (by decide) hl.1 dX13_best_64 (fun r5 S4 H locs hw hf => ?_)
        refine lv_istore (lv' := [(6, .int r5), (0, .ref (G.2.1 0)), (1, .int v1), (2, .int v2), (3, .int v3), (4, .int v4), (5, .int v5)]) C.1 C.2.1 dX13_best_67 hl (by decide) rfl (fun ls hl => ?_)
        refine lv_iload_n C.1 C.2.1 dX13_best_69 rfl (lv_at hl 4 rfl) ?_
        refine lv_iconst (v := -1) C.1 C.2.1 dX13_best_70 (by decide) ?_
        refine sh_icmp_eq (tgt := 84) C hf dX13_best_71 (by decide) (fun hf => ?_) (fun hf => ?_)
        · exact wX13_best_84 C hr (fX13_best_46 n) hr46 S4 v1 v2 v5 r5 hf _ _ _ hw (lv_sub hl [1, 2, 3, 6, 0] rfl)
        · refine lv_iload C.1 C.2.1 dX13_best_74 (lv_at hl 0 rfl) ?_
          refine lv_iload C.1 C.2.1 dX13_best_76 (lv_at hl 5 rfl) ?_
          refine sh_icmp_lt (tgt := 84) C hf dX13_best_78 (by decide) (fun hf => ?_) (fun hf => ?_)
          · exact wX13_best_84 C hr (fX13_best_46 n) hr46 S4 v1 v2 v5 r5 hf _ _ _ hw (lv_sub hl [1, 2, 3, 6, 0] rfl)
          · refine lv_goto (tgt := 91) C.1 C.2.1 dX13_best_81 (by decide) ?_
            exact wX13_best_91 C hr (fX13_best_46 n) hr46 S4 v1 v2 v3 v4 v5 hf _ _ _ hw (lv_sub hl [1, 2, 3, 4, 5, 6] rfl)
def fX13_best_26 (S : sh_St) (v1 : Int32) (v2 : Int32) (t0 : Int32) : Option (Int32 × sh_St) :=
    sh_t (sh_I S 0 0 t0) fun S3 =>
    if (S3.1 0 0) ≤ 0 then (fX13_best_46 sh_FU S3 v1 v2 (-1) 0 v1)
    else (some (0, S3))
set_option maxRecDepth 100000 in
set_option maxHeartbeats 4000000 in
theorem wX13_best_26 {p : Program} {l : Launch} {e : Env} {s : State} {m : MethodId} {args : Array Value} {below : List Frame} {meth : Method} {c : Code} {G : sh_Ev} {A : Nat → Prop} {res : Int32 × sh_St} (C : sh_Cx p s m args meth c cX13_best 7 RX13 G A) (hr : meth.sig.returnType = some .int) : ∀ (S : sh_St) (v1 : Int32) (v2 : Int32) (t0 : Int32), fX13_best_26 S v1 v2 t0 = some res → ∀ (H : Heap) (locs : List Loc) (ls : Array Slot), sh_Wx G tbM A s H locs S → lv_has ls 7 [(0, .ref (G.2.1 0)), (1, .int v1), (2, .int v2)] → W p l e (sh_rm 6) s m args below meth c H locs 0 0 (sh_Qi below args s G tbM A res) (F0 m 26 ls [.int t0, .ref (G.2.1 0)]) := by
  intro S v1 v2 t0 hf H locs ls hw hl
  rw [fX13_best_26] at hf
  refine sh_puti C hw fl_X13_79 fp_11_0 hf tbM_0 rfl dX13_best_26 (fun S3 H locs hw hf => ?_)
  refine lv_aload_n C.1 C.2.1 dX13_best_29 rfl (lv_at hl 0 rfl) ?_
  refine sh_geti C hw fl_X13_79 tbM_0 rfl dX13_best_30 ?_
  refine sh_if_le (tgt := 38) C hf dX13_best_33 (by decide) (fun hf => ?_) (fun hf => ?_)
  · refine lv_iconst (v := -1) C.1 C.2.1 dX13_best_38 (by decide) ?_
    refine lv_istore_n (lv' := [(3, .int (-1)), (0, .ref (G.2.1 0)), (1, .int v1), (2, .int v2)]) C.1 C.2.1 dX13_best_39 rfl hl (by decide) rfl (fun ls hl => ?_)
    refine lv_iconst (v := 0) C.1 C.2.1 dX13_best_40 (by decide) ?_
    refine lv_istore (lv' := [(4, .int 0), (3, .int (-1)), (0, .ref (G.2.1 0)), (1, .int v1), (2, .int v2)]) C.1 C.2.1 dX13_best_41 hl (by decide) rfl (fun ls hl => ?_)
    refine lv_iload_n C.1 C.2.1 dX13_best_43 rfl (lv_at hl 3 rfl) ?_
    refine lv_istore (lv' := [(5, .int v1), (4, .int 0), (3, .int (-1)), (0, .ref (G.2.1 0)), (1, .int v1), (2, .int v2)]) C.1 C.2.1 dX13_best_44 hl (by decide) rfl (fun ls hl => ?_)
    exact wX13_best_46 C hr _ S3 v1 v2 (-1) 0 v1 hf _ _ _ hw (lv_sub hl [3, 4, 5, 2, 1, 0] rfl)
  · refine lv_iconst (v := 0) C.1 C.2.1 dX13_best_36 (by decide) ?_
    exact sh_ri C hw hr hf dX13_best_37
def fX13_best_25 (S : sh_St) (v1 : Int32) (v2 : Int32) : Option (Int32 × sh_St) :=
    fX13_best_26 S v1 v2 1
set_option maxRecDepth 100000 in
set_option maxHeartbeats 4000000 in
theorem wX13_best_25 {p : Program} {l : Launch} {e : Env} {s : State} {m : MethodId} {args : Array Value} {below : List Frame} {meth : Method} {c : Code} {G : sh_Ev} {A : Nat → Prop} {res : Int32 × sh_St} (C : sh_Cx p s m args meth c cX13_best 7 RX13 G A) (hr : meth.sig.returnType = some .int) : ∀ (S : sh_St) (v1 : Int32) (v2 : Int32), fX13_best_25 S v1 v2 = some res → ∀ (H : Heap) (locs : List Loc) (ls : Array Slot), sh_Wx G tbM A s H locs S → lv_has ls 7 [(0, .ref (G.2.1 0)), (1, .int v1), (2, .int v2)] → W p l e (sh_rm 6) s m args below meth c H locs 0 0 (sh_Qi below args s G tbM A res) (F0 m 25 ls [.ref (G.2.1 0)]) := by
  intro S v1 v2 hf H locs ls hw hl
  rw [fX13_best_25] at hf
  refine lv_iconst (v := 1) C.1 C.2.1 dX13_best_25 (by decide) ?_
  exact wX13_best_26 C hr S v1 v2 1 hf _ _ _ hw (lv_sub hl [0, 1, 2] rfl)
def fX13_best (S : sh_St) (v1 : Int32) (v2 : Int32) : Option (Int32 × sh_St) :=
    sh_c (fX13_isIn S v1 0 65535) fun r2 S1 =>
    if r2 = 0 then (fX13_best_25 S1 v1 v2)
    else (sh_c (fX13_isIn S1 v2 1 20) fun r8 S7 =>
    if r8 = 0 then (fX13_best_25 S7 v1 v2)
    else (fX13_best_26 S7 v1 v2 0))
set_option maxRecDepth 100000 in
set_option maxHeartbeats 4000000 in
theorem kX13_best (l : Launch) (v1 : Int32) (v2 : Int32) : sh_Mi l yX13_best cX13_best 7 .int 6 tbM (fun G => [.ref (G.2.1 0), .int v1, .int v2]) (fun S => fX13_best S v1 v2) := by
  refine sh_mki (by decide) (fun G => Nat.le_of_ble_eq_true rfl) ?_
  intro p e s m args below meth c G A S res ls hf C hr hw hl
  have C : sh_Cx p s m args meth c cX13_best 7 RX13 G A := C
  have hl : lv_has ls 7 [(0, .ref (G.2.1 0)), (1, .int v1), (2, .int v2)] := hl
  replace hf : fX13_best S v1 v2 = some res := hf
  rw [fX13_best] at hf
  refine lv_aload_n C.1 C.2.1 dX13_best_0 rfl (lv_at hl 0 rfl) ?_
  refine lv_iload_n C.1 C.2.1 dX13_best_1 rfl (lv_at hl 1 rfl) ?_
  refine lv_iconst (v := 0) C.1 C.2.1 dX13_best_2 (by decide) ?_
  refine lv_ldc C.1 C.2.1 C.2.2.2.1 (C.2.2.2.2.1 _ kc_X13_109) dX13_best_3 ?_
  refine sh_Si (As := [.int v1, .int 0, .int 65535]) (rest := [.ref (G.2.1 0)]) C hw (kX13_isIn l v1 0 65535) yy_X13_isIn ys_X13_isIn ml_X13_263 rfl hf rfl rfl rfl (Nat.le_of_ble_eq_true rfl) (by decide) hl.1 dX13_best_5 (fun r2 S1 H locs hw hf => ?_)
  refine sh_if_eq (tgt := 25) C hf dX13_best_8 (by decide) (fun hf => ?_) (fun hf => ?_)
  · exact wX13_best_25 C hr S1 v1 v2 hf _ _ _ hw (lv_sub hl [0, 1, 2] rfl)
  · refine lv_iload_n C.1 C.2.1 dX13_best_11 rfl (lv_at hl 2 rfl) ?_
    refine lv_iconst (v := 1) C.1 C.2.1 dX13_best_12 (by decide) ?_
    refine lv_bipush (v := 20) C.1 C.2.1 dX13_best_13 (by decide) ?_
    refine sh_Si (As := [.int v2, .int 1, .int 20]) (rest := [.ref (G.2.1 0)]) C hw (kX13_isIn l v2 1 20) yy_X13_isIn ys_X13_isIn ml_X13_263 rfl hf rfl rfl rfl (Nat.le_of_ble_eq_true rfl) (by decide) hl.1 dX13_best_15 (fun r8 S7 H locs hw hf => ?_)
    refine sh_if_eq (tgt := 25) C hf dX13_best_18 (by decide) (fun hf => ?_) (fun hf => ?_)
    · exact wX13_best_25 C hr S7 v1 v2 hf _ _ _ hw (lv_sub hl [0, 1, 2] rfl)
    · refine lv_iconst (v := 0) C.1 C.2.1 dX13_best_21 (by decide) ?_
      refine lv_goto (tgt := 26) C.1 C.2.1 dX13_best_22 (by decide) ?_
      exact wX13_best_26 C hr S7 v1 v2 0 hf _ _ _ hw (lv_sub hl [0, 1, 2] rfl)
def fX13_isReader (S : sh_St) (v0 : Int32) : Option (Int32 × sh_St) :=
    sh_c (fX13_isIn S v0 0 3) fun r2 S1 =>
    sh_b r2 (some (r2, S1))
set_option maxRecDepth 100000 in
set_option maxHeartbeats 4000000 in
theorem kX13_isReader (l : Launch) (v0 : Int32) : sh_Mi l yX13_isReader cX13_isReader 1 .boolean 2 tbM (fun G => [.int v0]) (fun S => fX13_isReader S v0) := by
  refine sh_mki (by decide) (fun G => Nat.le_of_ble_eq_true rfl) ?_
  intro p e s m args below meth c G A S res ls hf C hr hw hl
  have C : sh_Cx p s m args meth c cX13_isReader 1 RX13 G A := C
  have hl : lv_has ls 1 [(0, .int v0)] := hl
  replace hf : fX13_isReader S v0 = some res := hf
  rw [fX13_isReader] at hf
  refine lv_iload_n C.1 C.2.1 dX13_isReader_0 rfl (lv_at hl 0 rfl) ?_
  refine lv_iconst (v := 0) C.1 C.2.1 dX13_isReader_1 (by decide) ?_
  refine lv_iconst (v := 3) C.1 C.2.1 dX13_isReader_2 (by decide) ?_
  refine sh_Si (As := [.int v0, .int 0, .int 3]) (rest := []) C hw (kX13_isIn l v0 0 3) yy_X13_isIn ys_X13_isIn ml_X13_263 rfl hf rfl rfl rfl (Nat.le_of_ble_eq_true rfl) (by decide) hl.1 dX13_isReader_3 (fun r2 S1 H locs hw hf => ?_)
  exact sh_rz C hw hr hf dX13_isReader_6
def fX13_open_13 (S : sh_St) (v1 : Int32) (v2 : Int32) (t0 : Int32) : Option (Int32 × sh_St) :=
    sh_t (sh_I S 0 0 t0) fun S3 =>
    if (S3.1 0 0) ≤ 0 then (sh_g v1 4 (sh_t (S3.1 9 v1.toNatClampNeg) fun y4 =>
    sh_g v1 4 (sh_b v2 (sh_t (sh_I S3 9 v1.toNatClampNeg v2) fun S5 =>
    if v2 = 0 then (sh_b y4 (some (y4, S5)))
    else (sh_g v1 4 (sh_t (sh_I S5 10 v1.toNatClampNeg 0) fun S6 =>
    sh_g v1 4 (sh_t (sh_I S6 11 v1.toNatClampNeg 0) fun S7 =>
    sh_g v1 4 (sh_t (sh_I S7 12 v1.toNatClampNeg 0) fun S8 =>
    sh_b y4 (some (y4, S8))))))))))
    else (sh_b 0 (some (0, S3)))
set_option maxRecDepth 100000 in
set_option maxHeartbeats 4000000 in
theorem wX13_open_13 {p : Program} {l : Launch} {e : Env} {s : State} {m : MethodId} {args : Array Value} {below : List Frame} {meth : Method} {c : Code} {G : sh_Ev} {A : Nat → Prop} {res : Int32 × sh_St} (C : sh_Cx p s m args meth c cX13_open 4 RX13 G A) (hr : meth.sig.returnType = some .boolean) : ∀ (S : sh_St) (v1 : Int32) (v2 : Int32) (t0 : Int32), fX13_open_13 S v1 v2 t0 = some res → ∀ (H : Heap) (locs : List Loc) (ls : Array Slot), sh_Wx G tbM A s H locs S → lv_has ls 4 [(0, .ref (G.2.1 0)), (1, .int v1), (2, .int v2)] → W p l e (sh_rm 3) s m args below meth c H locs 0 0 (sh_Qi below args s G tbM A res) (F0 m 13 ls [.int t0, .ref (G.2.1 0)]) := by
  intro S v1 v2 t0 hf H locs ls hw hl
  rw [fX13_open_13] at hf
  refine sh_puti C hw fl_X13_79 fp_11_0 hf tbM_0 rfl dX13_open_13 (fun S3 H locs hw hf => ?_)
  refine lv_aload_n C.1 C.2.1 dX13_open_16 rfl (lv_at hl 0 rfl) ?_
  refine sh_geti C hw fl_X13_79 tbM_0 rfl dX13_open_17 ?_
  refine sh_if_le (tgt := 25) C hf dX13_open_20 (by decide) (fun hf => ?_) (fun hf => ?_)
  · refine lv_aload_n C.1 C.2.1 dX13_open_25 rfl (lv_at hl 0 rfl) ?_
    refine sh_getr C hw fl_X13_35 tbM_0 rfl dX13_open_26 ?_
    refine lv_iload_n C.1 C.2.1 dX13_open_29 rfl (lv_at hl 1 rfl) ?_
    refine sh_zald C hw hf tbM_9 dX13_open_30 (fun hf => ?_)
    refine sh_ni hf (fun y4 hf => ?_)
    refine lv_istore_n (lv' := [(3, .int y4), (0, .ref (G.2.1 0)), (1, .int v1), (2, .int v2)]) C.1 C.2.1 dX13_open_31 rfl hl (by decide) rfl (fun ls hl => ?_)
    refine lv_aload_n C.1 C.2.1 dX13_open_32 rfl (lv_at hl 1 rfl) ?_
    refine sh_getr C hw fl_X13_35 tbM_0 rfl dX13_open_33 ?_
    refine lv_iload_n C.1 C.2.1 dX13_open_36 rfl (lv_at hl 2 rfl) ?_
    refine lv_iload_n C.1 C.2.1 dX13_open_37 rfl (lv_at hl 3 rfl) ?_
    refine sh_zast C hw hf tbM_9 dX13_open_38 (fun S5 H locs hw hf => ?_)
    refine lv_iload_n C.1 C.2.1 dX13_open_39 rfl (lv_at hl 3 rfl) ?_
    refine sh_if_ne (tgt := 45) C hf dX13_open_40 (by decide) (fun hf => ?_) (fun hf => ?_)
    · refine lv_aload_n C.1 C.2.1 dX13_open_45 rfl (lv_at hl 1 rfl) ?_
      refine sh_getr C hw fl_X13_39 tbM_0 rfl dX13_open_46 ?_
      refine lv_iload_n C.1 C.2.1 dX13_open_49 rfl (lv_at hl 2 rfl) ?_
      refine lv_iconst (v := 0) C.1 C.2.1 dX13_open_50 (by decide) ?_
      refine sh_iast C hw hf tbM_10 dX13_open_51 (fun S6 H locs hw hf => ?_)
      refine lv_aload_n C.1 C.2.1 dX13_open_52 rfl (lv_at hl 1 rfl) ?_
      refine sh_getr C hw fl_X13_42 tbM_0 rfl dX13_open_53 ?_
      refine lv_iload_n C.1 C.2.1 dX13_open_56 rfl (lv_at hl 2 rfl) ?_
      refine lv_iconst (v := 0) C.1 C.2.1 dX13_open_57 (by decide) ?_
      refine sh_iast C hw hf tbM_11 dX13_open_58 (fun S7 H locs hw hf => ?_)
      refine lv_aload_n C.1 C.2.1 dX13_open_59 rfl (lv_at hl 1 rfl) ?_
      refine sh_getr C hw fl_X13_45 tbM_0 rfl dX13_open_60 ?_
      refine lv_iload_n C.1 C.2.1 dX13_open_63 rfl (lv_at hl 2 rfl) ?_
      refine lv_iconst (v := 0) C.1 C.2.1 dX13_open_64 (by decide) ?_
      refine sh_iast C hw hf tbM_12 dX13_open_65 (fun S8 H locs hw hf => ?_)
      refine lv_iload_n C.1 C.2.1 dX13_open_66 rfl (lv_at hl 0 rfl) ?_
      exact sh_rz C hw hr hf dX13_open_67
    · refine lv_iload_n C.1 C.2.1 dX13_open_43 rfl (lv_at hl 0 rfl) ?_
      exact sh_rz C hw hr hf dX13_open_44
  · refine lv_iconst (v := 0) C.1 C.2.1 dX13_open_23 (by decide) ?_
    exact sh_rz C hw hr hf dX13_open_24
def fX13_open (S : sh_St) (v1 : Int32) (v2 : Int32) : Option (Int32 × sh_St) :=
    sh_c (fX13_isReader S v1) fun r2 S1 =>
    if r2 = 0 then (fX13_open_13 S1 v1 v2 1)
    else (fX13_open_13 S1 v1 v2 0)
set_option maxRecDepth 100000 in
set_option maxHeartbeats 4000000 in
theorem kX13_open (l : Launch) (v1 : Int32) (v2 : Int32) : sh_Mi l yX13_open cX13_open 4 .boolean 3 tbM (fun G => [.ref (G.2.1 0), .int v1, .int v2]) (fun S => fX13_open S v1 v2) := by
  refine sh_mki (by decide) (fun G => Nat.le_of_ble_eq_true rfl) ?_
  intro p e s m args below meth c G A S res ls hf C hr hw hl
  have C : sh_Cx p s m args meth c cX13_open 4 RX13 G A := C
  have hl : lv_has ls 4 [(0, .ref (G.2.1 0)), (1, .int v1), (2, .int v2)] := hl
  replace hf : fX13_open S v1 v2 = some res := hf
  rw [fX13_open] at hf
  refine lv_aload_n C.1 C.2.1 dX13_open_0 rfl (lv_at hl 0 rfl) ?_
  refine lv_iload_n C.1 C.2.1 dX13_open_1 rfl (lv_at hl 1 rfl) ?_
  refine sh_Si (As := [.int v1]) (rest := [.ref (G.2.1 0)]) C hw (kX13_isReader l v1) yy_X13_isReader ys_X13_isReader ml_X13_421 rfl hf rfl rfl rfl (Nat.le_of_ble_eq_true rfl) (by decide) hl.1 dX13_open_2 (fun r2 S1 H locs hw hf => ?_)
  refine sh_if_eq (tgt := 12) C hf dX13_open_5 (by decide) (fun hf => ?_) (fun hf => ?_)
  · refine lv_iconst (v := 1) C.1 C.2.1 dX13_open_12 (by decide) ?_
    exact wX13_open_13 C hr S1 v1 v2 1 hf _ _ _ hw (lv_sub hl [0, 1, 2] rfl)
  · refine lv_iconst (v := 0) C.1 C.2.1 dX13_open_8 (by decide) ?_
    refine lv_goto (tgt := 13) C.1 C.2.1 dX13_open_9 (by decide) ?_
    exact wX13_open_13 C hr S1 v1 v2 0 hf _ _ _ hw (lv_sub hl [0, 1, 2] rfl)
def fX13_next_195 (S : sh_St) (v1 : Int32) (v3 : Int32) (v4 : Int32) (t0 : Int32) (t1 : Int32) : Option (Int32 × sh_St) :=
    sh_g t1 4 (sh_t (sh_I S 12 t1.toNatClampNeg t0) fun S8 =>
    sh_g v1 4 (sh_g v1 4 (sh_t (sh_I S8 11 v1.toNatClampNeg ((S8.1 11 v1.toNatClampNeg) + v4)) fun S9 =>
    sh_g v1 4 (sh_t (sh_I S9 10 v1.toNatClampNeg (v3 + 1)) fun S10 =>
    some (v4, S10)))))
set_option maxRecDepth 100000 in
set_option maxHeartbeats 4000000 in
theorem wX13_next_195 {p : Program} {l : Launch} {e : Env} {s : State} {m : MethodId} {args : Array Value} {below : List Frame} {meth : Method} {c : Code} {G : sh_Ev} {A : Nat → Prop} {res : Int32 × sh_St} (C : sh_Cx p s m args meth c cX13_next 5 RX13 G A) (hr : meth.sig.returnType = some .int) : ∀ (S : sh_St) (v1 : Int32) (v3 : Int32) (v4 : Int32) (t0 : Int32) (t1 : Int32), fX13_next_195 S v1 v3 v4 t0 t1 = some res → ∀ (H : Heap) (locs : List Loc) (ls : Array Slot), sh_Wx G tbM A s H locs S → lv_has ls 5 [(0, .ref (G.2.1 0)), (1, .int v1), (3, .int v3), (4, .int v4)] → W p l e (sh_rm 5) s m args below meth c H locs 0 0 (sh_Qi below args s G tbM A res) (F0 m 195 ls [.int t0, .int t1, .ref (G.2.1 12)]) := by
  intro S v1 v3 v4 t0 t1 hf H locs ls hw hl
  rw [fX13_next_195] at hf
  refine sh_iast C hw hf tbM_12 dX13_next_195 (fun S8 H locs hw hf => ?_)
  refine lv_aload_n C.1 C.2.1 dX13_next_196 rfl (lv_at hl 0 rfl) ?_
  refine sh_getr C hw fl_X13_42 tbM_0 rfl dX13_next_197 ?_
  refine lv_iload_n C.1 C.2.1 dX13_next_200 rfl (lv_at hl 1 rfl) ?_
  refine lv_dup2_11 C.1 C.2.1 dX13_next_201 rfl rfl ?_
  refine sh_iald C hw hf tbM_11 dX13_next_202 (fun hf => ?_)
  refine lv_iload C.1 C.2.1 dX13_next_203 (lv_at hl 3 rfl) ?_
  refine lv_iadd C.1 C.2.1 dX13_next_205 ?_
  refine sh_iast C hw hf tbM_11 dX13_next_206 (fun S9 H locs hw hf => ?_)
  refine lv_aload_n C.1 C.2.1 dX13_next_207 rfl (lv_at hl 0 rfl) ?_
  refine sh_getr C hw fl_X13_39 tbM_0 rfl dX13_next_208 ?_
  refine lv_iload_n C.1 C.2.1 dX13_next_211 rfl (lv_at hl 1 rfl) ?_
  refine lv_iload_n C.1 C.2.1 dX13_next_212 rfl (lv_at hl 2 rfl) ?_
  refine lv_iconst (v := 1) C.1 C.2.1 dX13_next_213 (by decide) ?_
  refine lv_iadd C.1 C.2.1 dX13_next_214 ?_
  refine sh_iast C hw hf tbM_10 dX13_next_215 (fun S10 H locs hw hf => ?_)
  refine lv_iload C.1 C.2.1 dX13_next_216 (lv_at hl 3 rfl) ?_
  exact sh_ri C hw hr hf dX13_next_218
def fX13_next_176 (S : sh_St) (v1 : Int32) (v3 : Int32) (v4 : Int32) : Option (Int32 × sh_St) :=
    if 60 ≤ v4 then (fX13_next_195 S v1 v3 v4 60 v1)
    else (fX13_next_195 S v1 v3 v4 v4 v1)
set_option maxRecDepth 100000 in
set_option maxHeartbeats 4000000 in
theorem wX13_next_176 {p : Program} {l : Launch} {e : Env} {s : State} {m : MethodId} {args : Array Value} {below : List Frame} {meth : Method} {c : Code} {G : sh_Ev} {A : Nat → Prop} {res : Int32 × sh_St} (C : sh_Cx p s m args meth c cX13_next 5 RX13 G A) (hr : meth.sig.returnType = some .int) : ∀ (S : sh_St) (v1 : Int32) (v3 : Int32) (v4 : Int32), fX13_next_176 S v1 v3 v4 = some res → ∀ (H : Heap) (locs : List Loc) (ls : Array Slot), sh_Wx G tbM A s H locs S → lv_has ls 5 [(0, .ref (G.2.1 0)), (1, .int v1), (3, .int v3), (4, .int v4)] → W p l e (sh_rm 5) s m args below meth c H locs 0 0 (sh_Qi below args s G tbM A res) (F0 m 176 ls []) := by
  intro S v1 v3 v4 hf H locs ls hw hl
  rw [fX13_next_176] at hf
  refine lv_aload_n C.1 C.2.1 dX13_next_176 rfl (lv_at hl 0 rfl) ?_
  refine sh_getr C hw fl_X13_45 tbM_0 rfl dX13_next_177 ?_
  refine lv_iload_n C.1 C.2.1 dX13_next_180 rfl (lv_at hl 1 rfl) ?_
  refine lv_iload C.1 C.2.1 dX13_next_181 (lv_at hl 3 rfl) ?_
  refine lv_bipush (v := 60) C.1 C.2.1 dX13_next_183 (by decide) ?_
  refine sh_icmp_ge (tgt := 193) C hf dX13_next_185 (by decide) (fun hf => ?_) (fun hf => ?_)
  · refine lv_bipush (v := 60) C.1 C.2.1 dX13_next_193 (by decide) ?_
    exact wX13_next_195 C hr S v1 v3 v4 60 v1 hf _ _ _ hw (lv_sub hl [0, 1, 2, 3] rfl)
  · refine lv_iload C.1 C.2.1 dX13_next_188 (lv_at hl 3 rfl) ?_
    refine lv_goto (tgt := 195) C.1 C.2.1 dX13_next_190 (by decide) ?_
    exact wX13_next_195 C hr S v1 v3 v4 v4 v1 hf _ _ _ hw (lv_sub hl [0, 1, 2, 3] rfl)
def fX13_next_167 (rk124 : sh_St → Int32 → Int32 → Int32 → Int32 → Option (Int32 × sh_St)) (S : sh_St) (v1 : Int32) (v2 : Int32) (v3 : Int32) (v4 : Int32) : Option (Int32 × sh_St) :=
    sh_t (v4 + 1) fun y11 =>
    sh_t (v2 + 1) fun y12 =>
    rk124 S v1 y12 v3 y11
set_option maxRecDepth 100000 in
set_option maxHeartbeats 4000000 in
theorem wX13_next_167 {p : Program} {l : Launch} {e : Env} {s : State} {m : MethodId} {args : Array Value} {below : List Frame} {meth : Method} {c : Code} {G : sh_Ev} {A : Nat → Prop} {res : Int32 × sh_St} (C : sh_Cx p s m args meth c cX13_next 5 RX13 G A) (hr : meth.sig.returnType = some .int) (rk124 : sh_St → Int32 → Int32 → Int32 → Int32 → Option (Int32 × sh_St)) (hr124 : ∀ (S : sh_St) (v1 : Int32) (v2 : Int32) (v3 : Int32) (v4 : Int32), rk124 S v1 v2 v3 v4 = some res → ∀ (H : Heap) (locs : List Loc) (ls : Array Slot), sh_Wx G tbM A s H locs S → lv_has ls 5 [(0, .ref (G.2.1 0)), (1, .int v1), (2, .int v2), (3, .int v3), (4, .int v4)] → W p l e (sh_rm 5) s m args below meth c H locs 0 0 (sh_Qi below args s G tbM A res) (F0 m 124 ls [])) : ∀ (S : sh_St) (v1 : Int32) (v2 : Int32) (v3 : Int32) (v4 : Int32), fX13_next_167 rk124 S v1 v2 v3 v4 = some res → ∀ (H : Heap) (locs : List Loc) (ls : Array Slot), sh_Wx G tbM A s H locs S → lv_has ls 5 [(0, .ref (G.2.1 0)), (1, .int v1), (2, .int v2), (3, .int v3), (4, .int v4)] → W p l e (sh_rm 5) s m args below meth c H locs 0 0 (sh_Qi below args s G tbM A res) (F0 m 167 ls []) := by
  intro S v1 v2 v3 v4 hf H locs ls hw hl
  rw [fX13_next_167] at hf
  obtain ⟨y11, ey11, hf⟩ := sh_nm hf
  refine lv_iinc (v := y11) (lv' := [(4, .int y11), (0, .ref (G.2.1 0)), (1, .int v1), (2, .int v2), (3, .int v3)]) C.1 C.2.1 dX13_next_167 hl (k := 4) rfl (by rw [← ey11]; rfl) (by decide) rfl (fun ls hl => ?_)
  obtain ⟨y12, ey12, hf⟩ := sh_nm hf
  refine lv_iinc (v := y12) (lv' := [(2, .int y12), (4, .int y11), (0, .ref (G.2.1 0)), (1, .int v1), (3, .int v3)]) C.1 C.2.1 dX13_next_170 hl (k := 3) rfl (by rw [← ey12]; rfl) (by decide) rfl (fun ls hl => ?_)
  refine lv_goto (tgt := 124) C.1 C.2.1 dX13_next_173 (by decide) ?_
  exact hr124 S v1 y12 v3 y11 hf _ _ _ hw (lv_sub hl [2, 3, 0, 4, 1] rfl)
def fX13_next_124 : Nat → sh_St → Int32 → Int32 → Int32 → Int32 → Option (Int32 × sh_St)
  | 0, _, _, _, _, _ => none
  | n + 1, S, v1, v2, v3, v4 =>
    if (S.1 0 36) ≤ v2 then (fX13_next_176 S v1 v3 v4)
    else (sh_g v2 240 (if (S.1 20 v2.toNatClampNeg) = v3 then (if 60 ≤ v4 then (fX13_next_167 (fX13_next_124 n) S v1 v2 v3 v4)
    else (sh_g v2 240 (sh_g ((60 * v1) + v4) 240 (sh_t (sh_I S 13 ((60 * v1) + v4).toNatClampNeg (S.1 19 v2.toNatClampNeg)) fun S13 =>
    fX13_next_167 (fX13_next_124 n) S13 v1 v2 v3 v4))))
    else (fX13_next_176 S v1 v3 v4)))
set_option maxRecDepth 100000 in
set_option maxHeartbeats 4000000 in
theorem wX13_next_124 {p : Program} {l : Launch} {e : Env} {s : State} {m : MethodId} {args : Array Value} {below : List Frame} {meth : Method} {c : Code} {G : sh_Ev} {A : Nat → Prop} {res : Int32 × sh_St} (C : sh_Cx p s m args meth c cX13_next 5 RX13 G A) (hr : meth.sig.returnType = some .int) : ∀ (n : Nat) (S : sh_St) (v1 : Int32) (v2 : Int32) (v3 : Int32) (v4 : Int32), fX13_next_124 n S v1 v2 v3 v4 = some res → ∀ (H : Heap) (locs : List Loc) (ls : Array Slot), sh_Wx G tbM A s H locs S → lv_has ls 5 [(0, .ref (G.2.1 0)), (1, .int v1), (2, .int v2), (3, .int v3), (4, .int v4)] → W p l e (sh_rm 5) s m args below meth c H locs 0 0 (sh_Qi below args s G tbM A res) (F0 m 124 ls []) := by
  intro n
  induction n with
  | zero => intro S v1 v2 v3 v4 hf; exact nomatch (show (none : Option (Int32 × sh_St)) = some res from hf)
  | succ n ih =>
    intro S v1 v2 v3 v4 hf H locs ls hw hl
    have hr124 := ih
    rw [fX13_next_124] at hf
    refine lv_iload_n C.1 C.2.1 dX13_next_124 rfl (lv_at hl 2 rfl) ?_
    refine lv_aload_n C.1 C.2.1 dX13_next_125 rfl (lv_at hl 0 rfl) ?_
    refine sh_geti C hw fl_X13_188 tbM_0 rfl dX13_next_126 ?_
    refine sh_icmp_ge (tgt := 176) C hf dX13_next_129 (by decide) (fun hf => ?_) (fun hf => ?_)
    · exact wX13_next_176 C hr S v1 v3 v4 hf _ _ _ hw (lv_sub hl [0, 1, 3, 4] rfl)
    · refine lv_aload_n C.1 C.2.1 dX13_next_132 rfl (lv_at hl 0 rfl) ?_
      refine sh_getr C hw fl_X13_73 tbM_0 rfl dX13_next_133 ?_
      refine lv_iload_n C.1 C.2.1 dX13_next_136 rfl (lv_at hl 2 rfl) ?_
      refine sh_iald C hw hf tbM_20 dX13_next_137 (fun hf => ?_)
      refine lv_iload_n C.1 C.2.1 dX13_next_138 rfl (lv_at hl 3 rfl) ?_
      refine sh_icmp_ne (tgt := 176) C hf dX13_next_139 (by decide) (fun hf => ?_) (fun hf => ?_)
      · exact wX13_next_176 C hr S v1 v3 v4 hf _ _ _ hw (lv_sub hl [0, 1, 3, 4] rfl)
      · refine lv_iload C.1 C.2.1 dX13_next_142 (lv_at hl 4 rfl) ?_
        refine lv_bipush (v := 60) C.1 C.2.1 dX13_next_144 (by decide) ?_
        refine sh_icmp_ge (tgt := 167) C hf dX13_next_146 (by decide) (fun hf => ?_) (fun hf => ?_)
        · exact wX13_next_167 C hr (fX13_next_124 n) hr124 S v1 v2 v3 v4 hf _ _ _ hw (lv_sub hl [0, 1, 2, 3, 4] rfl)
        · refine lv_aload_n C.1 C.2.1 dX13_next_149 rfl (lv_at hl 0 rfl) ?_
          refine sh_getr C hw fl_X13_48 tbM_0 rfl dX13_next_150 ?_
          refine lv_bipush (v := 60) C.1 C.2.1 dX13_next_153 (by decide) ?_
          refine lv_iload_n C.1 C.2.1 dX13_next_155 rfl (lv_at hl 1 rfl) ?_
          refine lv_imul C.1 C.2.1 dX13_next_156 ?_
          refine lv_iload C.1 C.2.1 dX13_next_157 (lv_at hl 4 rfl) ?_
          refine lv_iadd C.1 C.2.1 dX13_next_159 ?_
          refine lv_aload_n C.1 C.2.1 dX13_next_160 rfl (lv_at hl 0 rfl) ?_
          refine sh_getr C hw fl_X13_70 tbM_0 rfl dX13_next_161 ?_
          refine lv_iload_n C.1 C.2.1 dX13_next_164 rfl (lv_at hl 2 rfl) ?_
          refine sh_iald C hw hf tbM_19 dX13_next_165 (fun hf => ?_)
          refine sh_iast C hw hf tbM_13 dX13_next_166 (fun S13 H locs hw hf => ?_)
          exact wX13_next_167 C hr (fX13_next_124 n) hr124 S13 v1 v2 v3 v4 hf _ _ _ hw (lv_sub hl [0, 1, 2, 3, 4] rfl)
def fX13_next_97 (S : sh_St) (v1 : Int32) (v2 : Int32) : Option (Int32 × sh_St) :=
    sh_g v1 4 (sh_t (sh_I S 12 v1.toNatClampNeg 0) fun S6 =>
    if v2 = (S6.1 0 36) then (some (0, S6))
    else (sh_g v2 240 (sh_t (S6.1 20 v2.toNatClampNeg) fun y7 =>
    fX13_next_124 sh_FU S6 v1 v2 y7 0)))
set_option maxRecDepth 100000 in
set_option maxHeartbeats 4000000 in
theorem wX13_next_97 {p : Program} {l : Launch} {e : Env} {s : State} {m : MethodId} {args : Array Value} {below : List Frame} {meth : Method} {c : Code} {G : sh_Ev} {A : Nat → Prop} {res : Int32 × sh_St} (C : sh_Cx p s m args meth c cX13_next 5 RX13 G A) (hr : meth.sig.returnType = some .int) : ∀ (S : sh_St) (v1 : Int32) (v2 : Int32), fX13_next_97 S v1 v2 = some res → ∀ (H : Heap) (locs : List Loc) (ls : Array Slot), sh_Wx G tbM A s H locs S → lv_has ls 5 [(0, .ref (G.2.1 0)), (1, .int v1), (2, .int v2)] → W p l e (sh_rm 5) s m args below meth c H locs 0 0 (sh_Qi below args s G tbM A res) (F0 m 97 ls []) := by
  intro S v1 v2 hf H locs ls hw hl
  rw [fX13_next_97] at hf
  refine lv_aload_n C.1 C.2.1 dX13_next_97 rfl (lv_at hl 0 rfl) ?_
  refine sh_getr C hw fl_X13_45 tbM_0 rfl dX13_next_98 ?_
  refine lv_iload_n C.1 C.2.1 dX13_next_101 rfl (lv_at hl 1 rfl) ?_
  refine lv_iconst (v := 0) C.1 C.2.1 dX13_next_102 (by decide) ?_
  refine sh_iast C hw hf tbM_12 dX13_next_103 (fun S6 H locs hw hf => ?_)
  refine lv_iload_n C.1 C.2.1 dX13_next_104 rfl (lv_at hl 2 rfl) ?_
  refine lv_aload_n C.1 C.2.1 dX13_next_105 rfl (lv_at hl 0 rfl) ?_
  refine sh_geti C hw fl_X13_188 tbM_0 rfl dX13_next_106 ?_
  refine sh_icmp_ne (tgt := 114) C hf dX13_next_109 (by decide) (fun hf => ?_) (fun hf => ?_)
  · refine lv_aload_n C.1 C.2.1 dX13_next_114 rfl (lv_at hl 0 rfl) ?_
    refine sh_getr C hw fl_X13_73 tbM_0 rfl dX13_next_115 ?_
    refine lv_iload_n C.1 C.2.1 dX13_next_118 rfl (lv_at hl 2 rfl) ?_
    refine sh_iald C hw hf tbM_20 dX13_next_119 (fun hf => ?_)
    refine sh_ni hf (fun y7 hf => ?_)
    refine lv_istore_n (lv' := [(3, .int y7), (0, .ref (G.2.1 0)), (1, .int v1), (2, .int v2)]) C.1 C.2.1 dX13_next_120 rfl hl (by decide) rfl (fun ls hl => ?_)
    refine lv_iconst (v := 0) C.1 C.2.1 dX13_next_121 (by decide) ?_
    refine lv_istore (lv' := [(4, .int 0), (3, .int y7), (0, .ref (G.2.1 0)), (1, .int v1), (2, .int v2)]) C.1 C.2.1 dX13_next_122 hl (by decide) rfl (fun ls hl => ?_)
    exact wX13_next_124 C hr _ S6 v1 v2 y7 0 hf _ _ _ hw (lv_sub hl [2, 3, 4, 1, 0] rfl)
  · refine lv_iconst (v := 0) C.1 C.2.1 dX13_next_112 (by decide) ?_
    exact sh_ri C hw hr hf dX13_next_113
def fX13_next_68 : Nat → sh_St → Int32 → Int32 → Option (Int32 × sh_St)
  | 0, _, _, _ => none
  | n + 1, S, v1, v2 =>
    if (S.1 0 36) ≤ v2 then (fX13_next_97 S v1 v2)
    else (sh_g v2 240 (sh_g v1 4 (if (S.1 10 v1.toNatClampNeg) ≤ (S.1 20 v2.toNatClampNeg) then (fX13_next_97 S v1 v2)
    else (sh_t (v2 + 1) fun y14 =>
    (fX13_next_68 n) S v1 y14))))
set_option maxRecDepth 100000 in
set_option maxHeartbeats 4000000 in
theorem wX13_next_68 {p : Program} {l : Launch} {e : Env} {s : State} {m : MethodId} {args : Array Value} {below : List Frame} {meth : Method} {c : Code} {G : sh_Ev} {A : Nat → Prop} {res : Int32 × sh_St} (C : sh_Cx p s m args meth c cX13_next 5 RX13 G A) (hr : meth.sig.returnType = some .int) : ∀ (n : Nat) (S : sh_St) (v1 : Int32) (v2 : Int32), fX13_next_68 n S v1 v2 = some res → ∀ (H : Heap) (locs : List Loc) (ls : Array Slot), sh_Wx G tbM A s H locs S → lv_has ls 5 [(0, .ref (G.2.1 0)), (1, .int v1), (2, .int v2)] → W p l e (sh_rm 5) s m args below meth c H locs 0 0 (sh_Qi below args s G tbM A res) (F0 m 68 ls []) := by
  intro n
  induction n with
  | zero => intro S v1 v2 hf; exact nomatch (show (none : Option (Int32 × sh_St)) = some res from hf)
  | succ n ih =>
    intro S v1 v2 hf H locs ls hw hl
    have hr68 := ih
    rw [fX13_next_68] at hf
    refine lv_iload_n C.1 C.2.1 dX13_next_68 rfl (lv_at hl 2 rfl) ?_
    refine lv_aload_n C.1 C.2.1 dX13_next_69 rfl (lv_at hl 0 rfl) ?_
    refine sh_geti C hw fl_X13_188 tbM_0 rfl dX13_next_70 ?_
    refine sh_icmp_ge (tgt := 97) C hf dX13_next_73 (by decide) (fun hf => ?_) (fun hf => ?_)
    · exact wX13_next_97 C hr S v1 v2 hf _ _ _ hw (lv_sub hl [0, 1, 2] rfl)
    · refine lv_aload_n C.1 C.2.1 dX13_next_76 rfl (lv_at hl 0 rfl) ?_
      refine sh_getr C hw fl_X13_73 tbM_0 rfl dX13_next_77 ?_
      refine lv_iload_n C.1 C.2.1 dX13_next_80 rfl (lv_at hl 2 rfl) ?_
      refine sh_iald C hw hf tbM_20 dX13_next_81 (fun hf => ?_)
      refine lv_aload_n C.1 C.2.1 dX13_next_82 rfl (lv_at hl 0 rfl) ?_
      refine sh_getr C hw fl_X13_39 tbM_0 rfl dX13_next_83 ?_
      refine lv_iload_n C.1 C.2.1 dX13_next_86 rfl (lv_at hl 1 rfl) ?_
      refine sh_iald C hw hf tbM_10 dX13_next_87 (fun hf => ?_)
      refine sh_icmp_ge (tgt := 97) C hf dX13_next_88 (by decide) (fun hf => ?_) (fun hf => ?_)
      · exact wX13_next_97 C hr S v1 v2 hf _ _ _ hw (lv_sub hl [0, 1, 2] rfl)
      · obtain ⟨y14, ey14, hf⟩ := sh_nm hf
        refine lv_iinc (v := y14) (lv' := [(2, .int y14), (0, .ref (G.2.1 0)), (1, .int v1)]) C.1 C.2.1 dX13_next_91 hl (k := 2) rfl (by rw [← ey14]; rfl) (by decide) rfl (fun ls hl => ?_)
        refine lv_goto (tgt := 68) C.1 C.2.1 dX13_next_94 (by decide) ?_
        exact hr68 S v1 y14 hf _ _ _ hw (lv_sub hl [1, 2, 0] rfl)
def fX13_next_26 (S : sh_St) (v1 : Int32) (t0 : Int32) : Option (Int32 × sh_St) :=
    sh_t (sh_I S 0 0 t0) fun S3 =>
    if (S3.1 0 0) ≤ 0 then (sh_g 1081 1084 (sh_g 1082 1084 (sh_g 1083 1084 (sh_c (fX13_sortsAll S3 (S3.1 1 (1081 : Int32).toNatClampNeg) (S3.1 1 (1082 : Int32).toNatClampNeg) (S3.1 1 (1083 : Int32).toNatClampNeg)) fun _ S4 =>
    fX13_next_68 sh_FU S4 v1 0))))
    else (some (0, S3))
set_option maxRecDepth 100000 in
set_option maxHeartbeats 4000000 in
theorem wX13_next_26 {p : Program} {l : Launch} {e : Env} {s : State} {m : MethodId} {args : Array Value} {below : List Frame} {meth : Method} {c : Code} {G : sh_Ev} {A : Nat → Prop} {res : Int32 × sh_St} (C : sh_Cx p s m args meth c cX13_next 5 RX13 G A) (hr : meth.sig.returnType = some .int) : ∀ (S : sh_St) (v1 : Int32) (t0 : Int32), fX13_next_26 S v1 t0 = some res → ∀ (H : Heap) (locs : List Loc) (ls : Array Slot), sh_Wx G tbM A s H locs S → lv_has ls 5 [(0, .ref (G.2.1 0)), (1, .int v1)] → W p l e (sh_rm 5) s m args below meth c H locs 0 0 (sh_Qi below args s G tbM A res) (F0 m 26 ls [.int t0, .ref (G.2.1 0)]) := by
  intro S v1 t0 hf H locs ls hw hl
  rw [fX13_next_26] at hf
  refine sh_puti C hw fl_X13_79 fp_11_0 hf tbM_0 rfl dX13_next_26 (fun S3 H locs hw hf => ?_)
  refine lv_aload_n C.1 C.2.1 dX13_next_29 rfl (lv_at hl 0 rfl) ?_
  refine sh_geti C hw fl_X13_79 tbM_0 rfl dX13_next_30 ?_
  refine sh_if_le (tgt := 38) C hf dX13_next_33 (by decide) (fun hf => ?_) (fun hf => ?_)
  · refine lv_aload_n C.1 C.2.1 dX13_next_38 rfl (lv_at hl 0 rfl) ?_
    refine lv_aload_n C.1 C.2.1 dX13_next_39 rfl (lv_at hl 0 rfl) ?_
    refine sh_getr C hw fl_X13_7 tbM_0 rfl dX13_next_40 ?_
    refine lv_sipush (v := 1081) C.1 C.2.1 dX13_next_43 (by decide) ?_
    refine sh_iald C hw hf tbM_1 dX13_next_46 (fun hf => ?_)
    refine lv_aload_n C.1 C.2.1 dX13_next_47 rfl (lv_at hl 0 rfl) ?_
    refine sh_getr C hw fl_X13_7 tbM_0 rfl dX13_next_48 ?_
    refine lv_sipush (v := 1082) C.1 C.2.1 dX13_next_51 (by decide) ?_
    refine sh_iald C hw hf tbM_1 dX13_next_54 (fun hf => ?_)
    refine lv_aload_n C.1 C.2.1 dX13_next_55 rfl (lv_at hl 0 rfl) ?_
    refine sh_getr C hw fl_X13_7 tbM_0 rfl dX13_next_56 ?_
    refine lv_sipush (v := 1083) C.1 C.2.1 dX13_next_59 (by decide) ?_
    refine sh_iald C hw hf tbM_1 dX13_next_62 (fun hf => ?_)
    refine sh_Vv (As := [.int (S3.1 1 (1081 : Int32).toNatClampNeg), .int (S3.1 1 (1082 : Int32).toNatClampNeg), .int (S3.1 1 (1083 : Int32).toNatClampNeg)]) (rest := []) C hw (kX13_sortsAll l (S3.1 1 (1081 : Int32).toNatClampNeg) (S3.1 1 (1082 : Int32).toNatClampNeg) (S3.1 1 (1083 : Int32).toNatClampNeg)) yy_X13_sortsAll yv_X13_sortsAll ml_X13_233 hf tbM_0 rfl rfl rfl rfl (Nat.le_of_ble_eq_true rfl) (by decide) hl.1 dX13_next_63 (fun S4 H locs hw hf => ?_)
    refine lv_iconst (v := 0) C.1 C.2.1 dX13_next_66 (by decide) ?_
    refine lv_istore_n (lv' := [(2, .int 0), (0, .ref (G.2.1 0)), (1, .int v1)]) C.1 C.2.1 dX13_next_67 rfl hl (by decide) rfl (fun ls hl => ?_)
    exact wX13_next_68 C hr _ S4 v1 0 hf _ _ _ hw (lv_sub hl [1, 2, 0] rfl)
  · refine lv_iconst (v := 0) C.1 C.2.1 dX13_next_36 (by decide) ?_
    exact sh_ri C hw hr hf dX13_next_37
def fX13_next (S : sh_St) (v1 : Int32) : Option (Int32 × sh_St) :=
    sh_c (fX13_isReader S v1) fun r2 S1 =>
    if r2 = 0 then (fX13_next_26 S1 v1 1)
    else (sh_g v1 4 (if (S1.1 9 v1.toNatClampNeg) = 0 then (fX13_next_26 S1 v1 2)
    else (fX13_next_26 S1 v1 0)))
set_option maxRecDepth 100000 in
set_option maxHeartbeats 4000000 in
theorem kX13_next (l : Launch) (v1 : Int32) : sh_Mi l yX13_next cX13_next 5 .int 5 tbM (fun G => [.ref (G.2.1 0), .int v1]) (fun S => fX13_next S v1) := by
  refine sh_mki (by decide) (fun G => Nat.le_of_ble_eq_true rfl) ?_
  intro p e s m args below meth c G A S res ls hf C hr hw hl
  have C : sh_Cx p s m args meth c cX13_next 5 RX13 G A := C
  have hl : lv_has ls 5 [(0, .ref (G.2.1 0)), (1, .int v1)] := hl
  replace hf : fX13_next S v1 = some res := hf
  rw [fX13_next] at hf
  refine lv_aload_n C.1 C.2.1 dX13_next_0 rfl (lv_at hl 0 rfl) ?_
  refine lv_iload_n C.1 C.2.1 dX13_next_1 rfl (lv_at hl 1 rfl) ?_
  refine sh_Si (As := [.int v1]) (rest := [.ref (G.2.1 0)]) C hw (kX13_isReader l v1) yy_X13_isReader ys_X13_isReader ml_X13_421 rfl hf rfl rfl rfl (Nat.le_of_ble_eq_true rfl) (by decide) hl.1 dX13_next_2 (fun r2 S1 H locs hw hf => ?_)
  refine sh_if_ne (tgt := 12) C hf dX13_next_5 (by decide) (fun hf => ?_) (fun hf => ?_)
  · refine lv_aload_n C.1 C.2.1 dX13_next_12 rfl (lv_at hl 0 rfl) ?_
    refine sh_getr C hw fl_X13_35 tbM_0 rfl dX13_next_13 ?_
    refine lv_iload_n C.1 C.2.1 dX13_next_16 rfl (lv_at hl 1 rfl) ?_
    refine sh_zald C hw hf tbM_9 dX13_next_17 (fun hf => ?_)
    refine sh_if_ne (tgt := 25) C hf dX13_next_18 (by decide) (fun hf => ?_) (fun hf => ?_)
    · refine lv_iconst (v := 0) C.1 C.2.1 dX13_next_25 (by decide) ?_
      exact wX13_next_26 C hr S1 v1 0 hf _ _ _ hw (lv_sub hl [0, 1] rfl)
    · refine lv_iconst (v := 2) C.1 C.2.1 dX13_next_21 (by decide) ?_
      refine lv_goto (tgt := 26) C.1 C.2.1 dX13_next_22 (by decide) ?_
      exact wX13_next_26 C hr S1 v1 2 hf _ _ _ hw (lv_sub hl [0, 1] rfl)
  · refine lv_iconst (v := 1) C.1 C.2.1 dX13_next_8 (by decide) ?_
    refine lv_goto (tgt := 26) C.1 C.2.1 dX13_next_9 (by decide) ?_
    exact wX13_next_26 C hr S1 v1 1 hf _ _ _ hw (lv_sub hl [0, 1] rfl)
def fX13_batch_13 (S : sh_St) (v1 : Int32) (v2 : Int32) (t0 : Int32) : Option (Int32 × sh_St) :=
    sh_t (sh_I S 0 0 t0) fun S3 =>
    if (S3.1 0 0) ≤ 0 then (sh_g v1 4 (sh_c (fX13_isIn S3 v2 0 ((S3.1 12 v1.toNatClampNeg) - 1)) fun r5 S4 =>
    if r5 = 0 then (some ((-1), S4))
    else (sh_g ((60 * v1) + v2) 240 (some (S4.1 13 ((60 * v1) + v2).toNatClampNeg, S4)))))
    else (some (0, S3))
set_option maxRecDepth 100000 in
set_option maxHeartbeats 4000000 in
theorem wX13_batch_13 {p : Program} {l : Launch} {e : Env} {s : State} {m : MethodId} {args : Array Value} {below : List Frame} {meth : Method} {c : Code} {G : sh_Ev} {A : Nat → Prop} {res : Int32 × sh_St} (C : sh_Cx p s m args meth c cX13_batch 3 RX13 G A) (hr : meth.sig.returnType = some .int) : ∀ (S : sh_St) (v1 : Int32) (v2 : Int32) (t0 : Int32), fX13_batch_13 S v1 v2 t0 = some res → ∀ (H : Heap) (locs : List Loc) (ls : Array Slot), sh_Wx G tbM A s H locs S → lv_has ls 3 [(0, .ref (G.2.1 0)), (1, .int v1), (2, .int v2)] → W p l e (sh_rm 3) s m args below meth c H locs 0 0 (sh_Qi below args s G tbM A res) (F0 m 13 ls [.int t0, .ref (G.2.1 0)]) := by
  intro S v1 v2 t0 hf H locs ls hw hl
  rw [fX13_batch_13] at hf
  refine sh_puti C hw fl_X13_79 fp_11_0 hf tbM_0 rfl dX13_batch_13 (fun S3 H locs hw hf => ?_)
  refine lv_aload_n C.1 C.2.1 dX13_batch_16 rfl (lv_at hl 0 rfl) ?_
  refine sh_geti C hw fl_X13_79 tbM_0 rfl dX13_batch_17 ?_
  refine sh_if_le (tgt := 25) C hf dX13_batch_20 (by decide) (fun hf => ?_) (fun hf => ?_)
  · refine lv_iload_n C.1 C.2.1 dX13_batch_25 rfl (lv_at hl 2 rfl) ?_
    refine lv_iconst (v := 0) C.1 C.2.1 dX13_batch_26 (by decide) ?_
    refine lv_aload_n C.1 C.2.1 dX13_batch_27 rfl (lv_at hl 0 rfl) ?_
    refine sh_getr C hw fl_X13_45 tbM_0 rfl dX13_batch_28 ?_
    refine lv_iload_n C.1 C.2.1 dX13_batch_31 rfl (lv_at hl 1 rfl) ?_
    refine sh_iald C hw hf tbM_12 dX13_batch_32 (fun hf => ?_)
    refine lv_iconst (v := 1) C.1 C.2.1 dX13_batch_33 (by decide) ?_
    refine lv_isub C.1 C.2.1 dX13_batch_34 ?_
    refine sh_Si (As := [.int v2, .int 0, .int ((S3.1 12 v1.toNatClampNeg) - 1)]) (rest := []) C hw (kX13_isIn l v2 0 ((S3.1 12 v1.toNatClampNeg) - 1)) yy_X13_isIn ys_X13_isIn ml_X13_263 rfl hf rfl rfl rfl (Nat.le_of_ble_eq_true rfl) (by decide) hl.1 dX13_batch_35 (fun r5 S4 H locs hw hf => ?_)
    refine sh_if_eq (tgt := 55) C hf dX13_batch_38 (by decide) (fun hf => ?_) (fun hf => ?_)
    · refine lv_iconst (v := -1) C.1 C.2.1 dX13_batch_55 (by decide) ?_
      exact sh_ri C hw hr hf dX13_batch_56
    · refine lv_aload_n C.1 C.2.1 dX13_batch_41 rfl (lv_at hl 0 rfl) ?_
      refine sh_getr C hw fl_X13_48 tbM_0 rfl dX13_batch_42 ?_
      refine lv_bipush (v := 60) C.1 C.2.1 dX13_batch_45 (by decide) ?_
      refine lv_iload_n C.1 C.2.1 dX13_batch_47 rfl (lv_at hl 1 rfl) ?_
      refine lv_imul C.1 C.2.1 dX13_batch_48 ?_
      refine lv_iload_n C.1 C.2.1 dX13_batch_49 rfl (lv_at hl 2 rfl) ?_
      refine lv_iadd C.1 C.2.1 dX13_batch_50 ?_
      refine sh_iald C hw hf tbM_13 dX13_batch_51 (fun hf => ?_)
      refine lv_goto (tgt := 56) C.1 C.2.1 dX13_batch_52 (by decide) ?_
      exact sh_ri C hw hr hf dX13_batch_56
  · refine lv_iconst (v := 0) C.1 C.2.1 dX13_batch_23 (by decide) ?_
    exact sh_ri C hw hr hf dX13_batch_24
def fX13_batch (S : sh_St) (v1 : Int32) (v2 : Int32) : Option (Int32 × sh_St) :=
    sh_c (fX13_isReader S v1) fun r2 S1 =>
    if r2 = 0 then (fX13_batch_13 S1 v1 v2 1)
    else (fX13_batch_13 S1 v1 v2 0)
set_option maxRecDepth 100000 in
set_option maxHeartbeats 4000000 in
theorem kX13_batch (l : Launch) (v1 : Int32) (v2 : Int32) : sh_Mi l yX13_batch cX13_batch 3 .int 3 tbM (fun G => [.ref (G.2.1 0), .int v1, .int v2]) (fun S => fX13_batch S v1 v2) := by
  refine sh_mki (by decide) (fun G => Nat.le_of_ble_eq_true rfl) ?_
  intro p e s m args below meth c G A S res ls hf C hr hw hl
  have C : sh_Cx p s m args meth c cX13_batch 3 RX13 G A := C
  have hl : lv_has ls 3 [(0, .ref (G.2.1 0)), (1, .int v1), (2, .int v2)] := hl
  replace hf : fX13_batch S v1 v2 = some res := hf
  rw [fX13_batch] at hf
  refine lv_aload_n C.1 C.2.1 dX13_batch_0 rfl (lv_at hl 0 rfl) ?_
  refine lv_iload_n C.1 C.2.1 dX13_batch_1 rfl (lv_at hl 1 rfl) ?_
  refine sh_Si (As := [.int v1]) (rest := [.ref (G.2.1 0)]) C hw (kX13_isReader l v1) yy_X13_isReader ys_X13_isReader ml_X13_421 rfl hf rfl rfl rfl (Nat.le_of_ble_eq_true rfl) (by decide) hl.1 dX13_batch_2 (fun r2 S1 H locs hw hf => ?_)
  refine sh_if_eq (tgt := 12) C hf dX13_batch_5 (by decide) (fun hf => ?_) (fun hf => ?_)
  · refine lv_iconst (v := 1) C.1 C.2.1 dX13_batch_12 (by decide) ?_
    exact wX13_batch_13 C hr S1 v1 v2 1 hf _ _ _ hw (lv_sub hl [0, 1, 2] rfl)
  · refine lv_iconst (v := 0) C.1 C.2.1 dX13_batch_8 (by decide) ?_
    refine lv_goto (tgt := 13) C.1 C.2.1 dX13_batch_9 (by decide) ?_
    exact wX13_batch_13 C hr S1 v1 v2 0 hf _ _ _ hw (lv_sub hl [0, 1, 2] rfl)
def fX13_image_34 : Nat → sh_St → Int32 → Option (Unit × sh_St)
  | 0, _, _ => none
  | n + 1, S, v1 =>
    if 240 ≤ v1 then (sh_b 1 (sh_t (sh_I S 0 10 1) fun S2 =>
    some ((), S2)))
    else (sh_g v1 240 (sh_g v1 240 (sh_t (sh_L S 8 v1.toNatClampNeg (S.2 2 v1.toNatClampNeg)) fun S3 =>
    sh_t (v1 + 1) fun y4 =>
    (fX13_image_34 n) S3 y4)))
set_option maxRecDepth 100000 in
set_option maxHeartbeats 4000000 in
theorem wX13_image_34 {p : Program} {l : Launch} {e : Env} {s : State} {m : MethodId} {args : Array Value} {below : List Frame} {meth : Method} {c : Code} {G : sh_Ev} {A : Nat → Prop} {res : Unit × sh_St} (C : sh_Cx p s m args meth c cX13_image 2 RX13 G A) (hr : meth.sig.returnType = none) : ∀ (n : Nat) (S : sh_St) (v1 : Int32), fX13_image_34 n S v1 = some res → ∀ (H : Heap) (locs : List Loc) (ls : Array Slot), sh_Wx G tbM A s H locs S → lv_has ls 2 [(0, .ref (G.2.1 0)), (1, .int v1)] → W p l e (sh_rm 1) s m args below meth c H locs 0 0 (sh_Qv below args s G tbM A res) (F0 m 34 ls []) := by
  intro n
  induction n with
  | zero => intro S v1 hf; exact nomatch (show (none : Option (Unit × sh_St)) = some res from hf)
  | succ n ih =>
    intro S v1 hf H locs ls hw hl
    have hr34 := ih
    rw [fX13_image_34] at hf
    refine lv_iload_n C.1 C.2.1 dX13_image_34 rfl (lv_at hl 1 rfl) ?_
    refine lv_sipush (v := 240) C.1 C.2.1 dX13_image_35 (by decide) ?_
    refine sh_icmp_ge (tgt := 59) C hf dX13_image_38 (by decide) (fun hf => ?_) (fun hf => ?_)
    · refine lv_aload_n C.1 C.2.1 dX13_image_59 rfl (lv_at hl 0 rfl) ?_
      refine lv_iconst (v := 1) C.1 C.2.1 dX13_image_60 (by decide) ?_
      refine sh_putz C hw fl_X13_424 fp_11_10 hf tbM_0 rfl dX13_image_61 (fun S2 H locs hw hf => ?_)
      exact sh_rv C hw hr hf dX13_image_64
    · refine lv_aload_n C.1 C.2.1 dX13_image_41 rfl (lv_at hl 0 rfl) ?_
      refine sh_getr C hw fl_X13_32 tbM_0 rfl dX13_image_42 ?_
      refine lv_iload_n C.1 C.2.1 dX13_image_45 rfl (lv_at hl 1 rfl) ?_
      refine lv_aload_n C.1 C.2.1 dX13_image_46 rfl (lv_at hl 0 rfl) ?_
      refine sh_getr C hw fl_X13_13 tbM_0 rfl dX13_image_47 ?_
      refine lv_iload_n C.1 C.2.1 dX13_image_50 rfl (lv_at hl 1 rfl) ?_
      refine sh_lald C hw hf tbM_2 dX13_image_51 (fun hf => ?_)
      refine sh_last C hw hf tbM_8 dX13_image_52 (fun S3 H locs hw hf => ?_)
      obtain ⟨y4, ey4, hf⟩ := sh_nm hf
      refine lv_iinc (v := y4) (lv' := [(1, .int y4), (0, .ref (G.2.1 0))]) C.1 C.2.1 dX13_image_53 hl (k := 1) rfl (by rw [← ey4]; rfl) (by decide) rfl (fun ls hl => ?_)
      refine lv_goto (tgt := 34) C.1 C.2.1 dX13_image_56 (by decide) ?_
      exact hr34 S3 y4 hf _ _ _ hw (lv_sub hl [1, 0] rfl)
def fX13_image_7 : Nat → sh_St → Int32 → Option (Unit × sh_St)
  | 0, _, _ => none
  | n + 1, S, v1 =>
    if 1084 ≤ v1 then (fX13_image_34 sh_FU S 0)
    else (sh_g v1 1084 (sh_g v1 1084 (sh_t (sh_I S 7 v1.toNatClampNeg (S.1 1 v1.toNatClampNeg)) fun S5 =>
    sh_t (v1 + 1) fun y6 =>
    (fX13_image_7 n) S5 y6)))
set_option maxRecDepth 100000 in
set_option maxHeartbeats 4000000 in
theorem wX13_image_7 {p : Program} {l : Launch} {e : Env} {s : State} {m : MethodId} {args : Array Value} {below : List Frame} {meth : Method} {c : Code} {G : sh_Ev} {A : Nat → Prop} {res : Unit × sh_St} (C : sh_Cx p s m args meth c cX13_image 2 RX13 G A) (hr : meth.sig.returnType = none) : ∀ (n : Nat) (S : sh_St) (v1 : Int32), fX13_image_7 n S v1 = some res → ∀ (H : Heap) (locs : List Loc) (ls : Array Slot), sh_Wx G tbM A s H locs S → lv_has ls 2 [(0, .ref (G.2.1 0)), (1, .int v1)] → W p l e (sh_rm 1) s m args below meth c H locs 0 0 (sh_Qv below args s G tbM A res) (F0 m 7 ls []) := by
  intro n
  induction n with
  | zero => intro S v1 hf; exact nomatch (show (none : Option (Unit × sh_St)) = some res from hf)
  | succ n ih =>
    intro S v1 hf H locs ls hw hl
    have hr7 := ih
    rw [fX13_image_7] at hf
    refine lv_iload_n C.1 C.2.1 dX13_image_7 rfl (lv_at hl 1 rfl) ?_
    refine lv_sipush (v := 1084) C.1 C.2.1 dX13_image_8 (by decide) ?_
    refine sh_icmp_ge (tgt := 32) C hf dX13_image_11 (by decide) (fun hf => ?_) (fun hf => ?_)
    · refine lv_iconst (v := 0) C.1 C.2.1 dX13_image_32 (by decide) ?_
      refine lv_istore_n (lv' := [(1, .int 0), (0, .ref (G.2.1 0))]) C.1 C.2.1 dX13_image_33 rfl hl (by decide) rfl (fun ls hl => ?_)
      exact wX13_image_34 C hr _ S 0 hf _ _ _ hw (lv_sub hl [1, 0] rfl)
    · refine lv_aload_n C.1 C.2.1 dX13_image_14 rfl (lv_at hl 0 rfl) ?_
      refine sh_getr C hw fl_X13_29 tbM_0 rfl dX13_image_15 ?_
      refine lv_iload_n C.1 C.2.1 dX13_image_18 rfl (lv_at hl 1 rfl) ?_
      refine lv_aload_n C.1 C.2.1 dX13_image_19 rfl (lv_at hl 0 rfl) ?_
      refine sh_getr C hw fl_X13_7 tbM_0 rfl dX13_image_20 ?_
      refine lv_iload_n C.1 C.2.1 dX13_image_23 rfl (lv_at hl 1 rfl) ?_
      refine sh_iald C hw hf tbM_1 dX13_image_24 (fun hf => ?_)
      refine sh_iast C hw hf tbM_7 dX13_image_25 (fun S5 H locs hw hf => ?_)
      obtain ⟨y6, ey6, hf⟩ := sh_nm hf
      refine lv_iinc (v := y6) (lv' := [(1, .int y6), (0, .ref (G.2.1 0))]) C.1 C.2.1 dX13_image_26 hl (k := 1) rfl (by rw [← ey6]; rfl) (by decide) rfl (fun ls hl => ?_)
      refine lv_goto (tgt := 7) C.1 C.2.1 dX13_image_29 (by decide) ?_
      exact hr7 S5 y6 hf _ _ _ hw (lv_sub hl [1, 0] rfl)
def fX13_image (S : sh_St) : Option (Unit × sh_St) :=
    sh_t (sh_I S 0 0 0) fun S1 =>
    fX13_image_7 sh_FU S1 0
set_option maxRecDepth 100000 in
set_option maxHeartbeats 4000000 in
theorem kX13_image (l : Launch) : sh_Mv l yX13_image cX13_image 2 1 tbM (fun G => [.ref (G.2.1 0)]) (fun S => fX13_image S) := by
  refine sh_mkv (by decide) (fun G => Nat.le_of_ble_eq_true rfl) ?_
  intro p e s m args below meth c G A S res ls hf C hr hw hl
  have C : sh_Cx p s m args meth c cX13_image 2 RX13 G A := C
  have hl : lv_has ls 2 [(0, .ref (G.2.1 0))] := hl
  replace hf : fX13_image S = some res := hf
  rw [fX13_image] at hf
  refine lv_aload_n C.1 C.2.1 dX13_image_0 rfl (lv_at hl 0 rfl) ?_
  refine lv_iconst (v := 0) C.1 C.2.1 dX13_image_1 (by decide) ?_
  refine sh_puti C hw fl_X13_79 fp_11_0 hf tbM_0 rfl dX13_image_2 (fun S1 H locs hw hf => ?_)
  refine lv_iconst (v := 0) C.1 C.2.1 dX13_image_5 (by decide) ?_
  refine lv_istore_n (lv' := [(1, .int 0), (0, .ref (G.2.1 0))]) C.1 C.2.1 dX13_image_6 rfl hl (by decide) rfl (fun ls hl => ?_)
  exact wX13_image_7 C hr _ S1 0 hf _ _ _ hw (lv_sub hl [1, 0] rfl)
def fX13_back_70 : Nat → sh_St → Int32 → Option (Int32 × sh_St)
  | 0, _, _ => none
  | n + 1, S, v1 =>
    if 4 ≤ v1 then (sh_t (sh_I S 0 5 0) fun S2 =>
    sh_b 1 (some (1, S2)))
    else (sh_g v1 4 (sh_b 0 (sh_t (sh_I S 9 v1.toNatClampNeg 0) fun S3 =>
    sh_t (v1 + 1) fun y4 =>
    (fX13_back_70 n) S3 y4)))
set_option maxRecDepth 100000 in
set_option maxHeartbeats 4000000 in
theorem wX13_back_70 {p : Program} {l : Launch} {e : Env} {s : State} {m : MethodId} {args : Array Value} {below : List Frame} {meth : Method} {c : Code} {G : sh_Ev} {A : Nat → Prop} {res : Int32 × sh_St} (C : sh_Cx p s m args meth c cX13_back 2 RX13 G A) (hr : meth.sig.returnType = some .boolean) : ∀ (n : Nat) (S : sh_St) (v1 : Int32), fX13_back_70 n S v1 = some res → ∀ (H : Heap) (locs : List Loc) (ls : Array Slot), sh_Wx G tbM A s H locs S → lv_has ls 2 [(0, .ref (G.2.1 0)), (1, .int v1)] → W p l e (sh_rm 1) s m args below meth c H locs 0 0 (sh_Qi below args s G tbM A res) (F0 m 70 ls []) := by
  intro n
  induction n with
  | zero => intro S v1 hf; exact nomatch (show (none : Option (Int32 × sh_St)) = some res from hf)
  | succ n ih =>
    intro S v1 hf H locs ls hw hl
    have hr70 := ih
    rw [fX13_back_70] at hf
    refine lv_iload_n C.1 C.2.1 dX13_back_70 rfl (lv_at hl 1 rfl) ?_
    refine lv_iconst (v := 4) C.1 C.2.1 dX13_back_71 (by decide) ?_
    refine sh_icmp_ge (tgt := 88) C hf dX13_back_72 (by decide) (fun hf => ?_) (fun hf => ?_)
    · refine lv_aload_n C.1 C.2.1 dX13_back_88 rfl (lv_at hl 0 rfl) ?_
      refine lv_iconst (v := 0) C.1 C.2.1 dX13_back_89 (by decide) ?_
      refine sh_puti C hw fl_X13_251 fp_11_5 hf tbM_0 rfl dX13_back_90 (fun S2 H locs hw hf => ?_)
      refine lv_iconst (v := 1) C.1 C.2.1 dX13_back_93 (by decide) ?_
      exact sh_rz C hw hr hf dX13_back_94
    · refine lv_aload_n C.1 C.2.1 dX13_back_75 rfl (lv_at hl 0 rfl) ?_
      refine sh_getr C hw fl_X13_35 tbM_0 rfl dX13_back_76 ?_
      refine lv_iload_n C.1 C.2.1 dX13_back_79 rfl (lv_at hl 1 rfl) ?_
      refine lv_iconst (v := 0) C.1 C.2.1 dX13_back_80 (by decide) ?_
      refine sh_zast C hw hf tbM_9 dX13_back_81 (fun S3 H locs hw hf => ?_)
      obtain ⟨y4, ey4, hf⟩ := sh_nm hf
      refine lv_iinc (v := y4) (lv' := [(1, .int y4), (0, .ref (G.2.1 0))]) C.1 C.2.1 dX13_back_82 hl (k := 1) rfl (by rw [← ey4]; rfl) (by decide) rfl (fun ls hl => ?_)
      refine lv_goto (tgt := 70) C.1 C.2.1 dX13_back_85 (by decide) ?_
      exact hr70 S3 y4 hf _ _ _ hw (lv_sub hl [1, 0] rfl)
def fX13_back_43 : Nat → sh_St → Int32 → Option (Int32 × sh_St)
  | 0, _, _ => none
  | n + 1, S, v1 =>
    if 240 ≤ v1 then (fX13_back_70 sh_FU S 0)
    else (sh_g v1 240 (sh_g v1 240 (sh_t (sh_L S 2 v1.toNatClampNeg (S.2 8 v1.toNatClampNeg)) fun S5 =>
    sh_t (v1 + 1) fun y6 =>
    (fX13_back_43 n) S5 y6)))
set_option maxRecDepth 100000 in
set_option maxHeartbeats 4000000 in
theorem wX13_back_43 {p : Program} {l : Launch} {e : Env} {s : State} {m : MethodId} {args : Array Value} {below : List Frame} {meth : Method} {c : Code} {G : sh_Ev} {A : Nat → Prop} {res : Int32 × sh_St} (C : sh_Cx p s m args meth c cX13_back 2 RX13 G A) (hr : meth.sig.returnType = some .boolean) : ∀ (n : Nat) (S : sh_St) (v1 : Int32), fX13_back_43 n S v1 = some res → ∀ (H : Heap) (locs : List Loc) (ls : Array Slot), sh_Wx G tbM A s H locs S → lv_has ls 2 [(0, .ref (G.2.1 0)), (1, .int v1)] → W p l e (sh_rm 1) s m args below meth c H locs 0 0 (sh_Qi below args s G tbM A res) (F0 m 43 ls []) := by
  intro n
  induction n with
  | zero => intro S v1 hf; exact nomatch (show (none : Option (Int32 × sh_St)) = some res from hf)
  | succ n ih =>
    intro S v1 hf H locs ls hw hl
    have hr43 := ih
    rw [fX13_back_43] at hf
    refine lv_iload_n C.1 C.2.1 dX13_back_43 rfl (lv_at hl 1 rfl) ?_
    refine lv_sipush (v := 240) C.1 C.2.1 dX13_back_44 (by decide) ?_
    refine sh_icmp_ge (tgt := 68) C hf dX13_back_47 (by decide) (fun hf => ?_) (fun hf => ?_)
    · refine lv_iconst (v := 0) C.1 C.2.1 dX13_back_68 (by decide) ?_
      refine lv_istore_n (lv' := [(1, .int 0), (0, .ref (G.2.1 0))]) C.1 C.2.1 dX13_back_69 rfl hl (by decide) rfl (fun ls hl => ?_)
      exact wX13_back_70 C hr _ S 0 hf _ _ _ hw (lv_sub hl [1, 0] rfl)
    · refine lv_aload_n C.1 C.2.1 dX13_back_50 rfl (lv_at hl 0 rfl) ?_
      refine sh_getr C hw fl_X13_13 tbM_0 rfl dX13_back_51 ?_
      refine lv_iload_n C.1 C.2.1 dX13_back_54 rfl (lv_at hl 1 rfl) ?_
      refine lv_aload_n C.1 C.2.1 dX13_back_55 rfl (lv_at hl 0 rfl) ?_
      refine sh_getr C hw fl_X13_32 tbM_0 rfl dX13_back_56 ?_
      refine lv_iload_n C.1 C.2.1 dX13_back_59 rfl (lv_at hl 1 rfl) ?_
      refine sh_lald C hw hf tbM_8 dX13_back_60 (fun hf => ?_)
      refine sh_last C hw hf tbM_2 dX13_back_61 (fun S5 H locs hw hf => ?_)
      obtain ⟨y6, ey6, hf⟩ := sh_nm hf
      refine lv_iinc (v := y6) (lv' := [(1, .int y6), (0, .ref (G.2.1 0))]) C.1 C.2.1 dX13_back_62 hl (k := 1) rfl (by rw [← ey6]; rfl) (by decide) rfl (fun ls hl => ?_)
      refine lv_goto (tgt := 43) C.1 C.2.1 dX13_back_65 (by decide) ?_
      exact hr43 S5 y6 hf _ _ _ hw (lv_sub hl [1, 0] rfl)
def fX13_back_16 : Nat → sh_St → Int32 → Option (Int32 × sh_St)
  | 0, _, _ => none
  | n + 1, S, v1 =>
    if 1084 ≤ v1 then (fX13_back_43 sh_FU S 0)
    else (sh_g v1 1084 (sh_g v1 1084 (sh_t (sh_I S 1 v1.toNatClampNeg (S.1 7 v1.toNatClampNeg)) fun S7 =>
    sh_t (v1 + 1) fun y8 =>
    (fX13_back_16 n) S7 y8)))
set_option maxRecDepth 100000 in
set_option maxHeartbeats 4000000 in
theorem wX13_back_16 {p : Program} {l : Launch} {e : Env} {s : State} {m : MethodId} {args : Array Value} {below : List Frame} {meth : Method} {c : Code} {G : sh_Ev} {A : Nat → Prop} {res : Int32 × sh_St} (C : sh_Cx p s m args meth c cX13_back 2 RX13 G A) (hr : meth.sig.returnType = some .boolean) : ∀ (n : Nat) (S : sh_St) (v1 : Int32), fX13_back_16 n S v1 = some res → ∀ (H : Heap) (locs : List Loc) (ls : Array Slot), sh_Wx G tbM A s H locs S → lv_has ls 2 [(0, .ref (G.2.1 0)), (1, .int v1)] → W p l e (sh_rm 1) s m args below meth c H locs 0 0 (sh_Qi below args s G tbM A res) (F0 m 16 ls []) := by
  intro n
  induction n with
  | zero => intro S v1 hf; exact nomatch (show (none : Option (Int32 × sh_St)) = some res from hf)
  | succ n ih =>
    intro S v1 hf H locs ls hw hl
    have hr16 := ih
    rw [fX13_back_16] at hf
    refine lv_iload_n C.1 C.2.1 dX13_back_16 rfl (lv_at hl 1 rfl) ?_
    refine lv_sipush (v := 1084) C.1 C.2.1 dX13_back_17 (by decide) ?_
    refine sh_icmp_ge (tgt := 41) C hf dX13_back_20 (by decide) (fun hf => ?_) (fun hf => ?_)
    · refine lv_iconst (v := 0) C.1 C.2.1 dX13_back_41 (by decide) ?_
      refine lv_istore_n (lv' := [(1, .int 0), (0, .ref (G.2.1 0))]) C.1 C.2.1 dX13_back_42 rfl hl (by decide) rfl (fun ls hl => ?_)
      exact wX13_back_43 C hr _ S 0 hf _ _ _ hw (lv_sub hl [1, 0] rfl)
    · refine lv_aload_n C.1 C.2.1 dX13_back_23 rfl (lv_at hl 0 rfl) ?_
      refine sh_getr C hw fl_X13_7 tbM_0 rfl dX13_back_24 ?_
      refine lv_iload_n C.1 C.2.1 dX13_back_27 rfl (lv_at hl 1 rfl) ?_
      refine lv_aload_n C.1 C.2.1 dX13_back_28 rfl (lv_at hl 0 rfl) ?_
      refine sh_getr C hw fl_X13_29 tbM_0 rfl dX13_back_29 ?_
      refine lv_iload_n C.1 C.2.1 dX13_back_32 rfl (lv_at hl 1 rfl) ?_
      refine sh_iald C hw hf tbM_7 dX13_back_33 (fun hf => ?_)
      refine sh_iast C hw hf tbM_1 dX13_back_34 (fun S7 H locs hw hf => ?_)
      obtain ⟨y8, ey8, hf⟩ := sh_nm hf
      refine lv_iinc (v := y8) (lv' := [(1, .int y8), (0, .ref (G.2.1 0))]) C.1 C.2.1 dX13_back_35 hl (k := 1) rfl (by rw [← ey8]; rfl) (by decide) rfl (fun ls hl => ?_)
      refine lv_goto (tgt := 16) C.1 C.2.1 dX13_back_38 (by decide) ?_
      exact hr16 S7 y8 hf _ _ _ hw (lv_sub hl [1, 0] rfl)
def fX13_back (S : sh_St) : Option (Int32 × sh_St) :=
    sh_t (sh_I S 0 0 0) fun S1 =>
    if (S1.1 0 10) = 0 then (sh_b 0 (some (0, S1)))
    else (fX13_back_16 sh_FU S1 0)
set_option maxRecDepth 100000 in
set_option maxHeartbeats 4000000 in
theorem kX13_back (l : Launch) : sh_Mi l yX13_back cX13_back 2 .boolean 1 tbM (fun G => [.ref (G.2.1 0)]) (fun S => fX13_back S) := by
  refine sh_mki (by decide) (fun G => Nat.le_of_ble_eq_true rfl) ?_
  intro p e s m args below meth c G A S res ls hf C hr hw hl
  have C : sh_Cx p s m args meth c cX13_back 2 RX13 G A := C
  have hl : lv_has ls 2 [(0, .ref (G.2.1 0))] := hl
  replace hf : fX13_back S = some res := hf
  rw [fX13_back] at hf
  refine lv_aload_n C.1 C.2.1 dX13_back_0 rfl (lv_at hl 0 rfl) ?_
  refine lv_iconst (v := 0) C.1 C.2.1 dX13_back_1 (by decide) ?_
  refine sh_puti C hw fl_X13_79 fp_11_0 hf tbM_0 rfl dX13_back_2 (fun S1 H locs hw hf => ?_)
  refine lv_aload_n C.1 C.2.1 dX13_back_5 rfl (lv_at hl 0 rfl) ?_
  refine sh_geti C hw fl_X13_424 tbM_0 rfl dX13_back_6 ?_
  refine sh_if_ne (tgt := 14) C hf dX13_back_9 (by decide) (fun hf => ?_) (fun hf => ?_)
  · refine lv_iconst (v := 0) C.1 C.2.1 dX13_back_14 (by decide) ?_
    refine lv_istore_n (lv' := [(1, .int 0), (0, .ref (G.2.1 0))]) C.1 C.2.1 dX13_back_15 rfl hl (by decide) rfl (fun ls hl => ?_)
    exact wX13_back_16 C hr _ S1 0 hf _ _ _ hw (lv_sub hl [1, 0] rfl)
  · refine lv_iconst (v := 0) C.1 C.2.1 dX13_back_12 (by decide) ?_
    exact sh_rz C hw hr hf dX13_back_13
def fX4_lookInto_60 (rk6 : sh_St → Int32 → Int64 → Int32 → Option (Int32 × sh_St)) (S : sh_St) (v1 : Int32) (v2 : Int64) (v4 : Int32) : Option (Int32 × sh_St) :=
    sh_t (v4 + 1) fun y2 =>
    rk6 S v1 v2 y2
set_option maxRecDepth 100000 in
set_option maxHeartbeats 4000000 in
theorem wX4_lookInto_60 {p : Program} {l : Launch} {e : Env} {s : State} {m : MethodId} {args : Array Value} {below : List Frame} {meth : Method} {c : Code} {G : sh_Ev} {A : Nat → Prop} {res : Int32 × sh_St} (C : sh_Cx p s m args meth c cX4_lookInto 5 RX4 G A) (hr : meth.sig.returnType = some .int) (rk6 : sh_St → Int32 → Int64 → Int32 → Option (Int32 × sh_St)) (hr6 : ∀ (S : sh_St) (v1 : Int32) (v2 : Int64) (v4 : Int32), rk6 S v1 v2 v4 = some res → ∀ (H : Heap) (locs : List Loc) (ls : Array Slot), sh_Wx G tbX A s H locs S → lv_has ls 5 [(0, .ref (G.2.1 116)), (1, .int v1), (2, .long v2), (4, .int v4)] → W p l e (sh_rm 2) s m args below meth c H locs 0 0 (sh_Qi below args s G tbX A res) (F0 m 6 ls [])) : ∀ (S : sh_St) (v1 : Int32) (v2 : Int64) (v4 : Int32), fX4_lookInto_60 rk6 S v1 v2 v4 = some res → ∀ (H : Heap) (locs : List Loc) (ls : Array Slot), sh_Wx G tbX A s H locs S → lv_has ls 5 [(0, .ref (G.2.1 116)), (1, .int v1), (2, .long v2), (4, .int v4)] → W p l e (sh_rm 2) s m args below meth c H locs 0 0 (sh_Qi below args s G tbX A res) (F0 m 60 ls []) := by
  intro S v1 v2 v4 hf H locs ls hw hl
  rw [fX4_lookInto_60] at hf
  obtain ⟨y2, ey2, hf⟩ := sh_nm hf
  refine lv_iinc (v := y2) (lv' := [(4, .int y2), (0, .ref (G.2.1 116)), (1, .int v1), (2, .long v2)]) C.1 C.2.1 dX4_lookInto_60 hl (k := 3) rfl (by rw [← ey2]; rfl) (by decide) rfl (fun ls hl => ?_)
  refine lv_goto (tgt := 6) C.1 C.2.1 dX4_lookInto_63 (by decide) ?_
  exact hr6 S v1 v2 y2 hf _ _ _ hw (lv_sub hl [1, 2, 3, 0] rfl)
def fX4_lookInto_6 : Nat → sh_St → Int32 → Int64 → Int32 → Option (Int32 × sh_St)
  | 0, _, _, _, _ => none
  | n + 1, S, v1, v2, v4 =>
    if ((v1 * 6) + 6) ≤ v4 then (some ((-1), S))
    else (sh_g v4 240 (if (S.2 8 v4.toNatClampNeg) = 0 then (fX4_lookInto_60 (fX4_lookInto_6 n) S v1 v2 v4)
    else (sh_g v4 240 (sh_c (fX12_areOne S (S.2 8 v4.toNatClampNeg) v2 (S.1 4 2)) fun r4 S3 =>
    if r4 = 0 then (fX4_lookInto_60 (fX4_lookInto_6 n) S3 v1 v2 v4)
    else (some (v4, S3))))))
set_option maxRecDepth 100000 in
set_option maxHeartbeats 4000000 in
theorem wX4_lookInto_6 {p : Program} {l : Launch} {e : Env} {s : State} {m : MethodId} {args : Array Value} {below : List Frame} {meth : Method} {c : Code} {G : sh_Ev} {A : Nat → Prop} {res : Int32 × sh_St} (C : sh_Cx p s m args meth c cX4_lookInto 5 RX4 G A) (hr : meth.sig.returnType = some .int) : ∀ (n : Nat) (S : sh_St) (v1 : Int32) (v2 : Int64) (v4 : Int32), fX4_lookInto_6 n S v1 v2 v4 = some res → ∀ (H : Heap) (locs : List Loc) (ls : Array Slot), sh_Wx G tbX A s H locs S → lv_has ls 5 [(0, .ref (G.2.1 116)), (1, .int v1), (2, .long v2), (4, .int v4)] → W p l e (sh_rm 2) s m args below meth c H locs 0 0 (sh_Qi below args s G tbX A res) (F0 m 6 ls []) := by
  intro n
  induction n with
  | zero => intro S v1 v2 v4 hf; exact nomatch (show (none : Option (Int32 × sh_St)) = some res from hf)
  | succ n ih =>
    intro S v1 v2 v4 hf H locs ls hw hl
    have hr6 := ih
    rw [fX4_lookInto_6] at hf
    refine lv_iload C.1 C.2.1 dX4_lookInto_6 (lv_at hl 3 rfl) ?_
    refine lv_iload_n C.1 C.2.1 dX4_lookInto_8 rfl (lv_at hl 1 rfl) ?_
    refine lv_bipush (v := 6) C.1 C.2.1 dX4_lookInto_9 (by decide) ?_
    refine lv_imul C.1 C.2.1 dX4_lookInto_11 ?_
    refine lv_bipush (v := 6) C.1 C.2.1 dX4_lookInto_12 (by decide) ?_
    refine lv_iadd C.1 C.2.1 dX4_lookInto_14 ?_
    refine sh_icmp_ge (tgt := 66) C hf dX4_lookInto_15 (by decide) (fun hf => ?_) (fun hf => ?_)
    · refine lv_iconst (v := -1) C.1 C.2.1 dX4_lookInto_66 (by decide) ?_
      exact sh_ri C hw hr hf dX4_lookInto_67
    · refine lv_aload_n C.1 C.2.1 dX4_lookInto_18 rfl (lv_at hl 0 rfl) ?_
      refine sh_getr C hw fl_X4_36 tbX_116 rfl dX4_lookInto_19 ?_
      refine sh_getr C hw fl_X4_81 tbX_4 rfl dX4_lookInto_22 ?_
      refine lv_iload C.1 C.2.1 dX4_lookInto_25 (lv_at hl 3 rfl) ?_
      refine sh_lald C hw hf tbX_8 dX4_lookInto_27 (fun hf => ?_)
      refine lv_lconst (v := 0) C.1 C.2.1 dX4_lookInto_28 (by decide) ?_
      refine sh_lcmp_eq (tgt := 60) C hf dX4_lookInto_29 dX4_lookInto_30 (by decide) (fun hf => ?_) (fun hf => ?_)
      · exact wX4_lookInto_60 C hr (fX4_lookInto_6 n) hr6 S v1 v2 v4 hf _ _ _ hw (lv_sub hl [0, 1, 2, 3] rfl)
      · refine lv_aload_n C.1 C.2.1 dX4_lookInto_33 rfl (lv_at hl 0 rfl) ?_
        refine sh_getr C hw fl_X4_36 tbX_116 rfl dX4_lookInto_34 ?_
        refine sh_getr C hw fl_X4_81 tbX_4 rfl dX4_lookInto_37 ?_
        refine lv_iload C.1 C.2.1 dX4_lookInto_40 (lv_at hl 3 rfl) ?_
        refine sh_lald C hw hf tbX_8 dX4_lookInto_42 (fun hf => ?_)
        refine lv_lload_n C.1 C.2.1 dX4_lookInto_43 rfl (lv_at hl 2 rfl) ?_
        refine lv_aload_n C.1 C.2.1 dX4_lookInto_44 rfl (lv_at hl 0 rfl) ?_
        refine sh_getr C hw fl_X4_36 tbX_116 rfl dX4_lookInto_45 ?_
        refine sh_geti C hw fl_X4_85 tbX_4 rfl dX4_lookInto_48 ?_
        refine sh_Ni (As := [.long (S.2 8 v4.toNatClampNeg), .long v2, .int (S.1 4 2)]) (rest := []) C hw (kX12_areOne l (S.2 8 v4.toNatClampNeg) v2 (S.1 4 2)) yy_X12_areOne ys_X12_areOne nl_X4_89 hf rfl rfl rfl (Nat.le_of_ble_eq_true rfl) (by decide) hl.1 dX4_lookInto_51 (fun r4 S3 H locs hw hf => ?_)
        refine sh_if_eq (tgt := 60) C hf dX4_lookInto_54 (by decide) (fun hf => ?_) (fun hf => ?_)
        · exact wX4_lookInto_60 C hr (fX4_lookInto_6 n) hr6 S3 v1 v2 v4 hf _ _ _ hw (lv_sub hl [0, 1, 2, 3] rfl)
        · refine lv_iload C.1 C.2.1 dX4_lookInto_57 (lv_at hl 3 rfl) ?_
          exact sh_ri C hw hr hf dX4_lookInto_59
def fX4_lookInto (S : sh_St) (v1 : Int32) (v2 : Int64) : Option (Int32 × sh_St) :=
    sh_t (v1 * 6) fun y1 =>
    fX4_lookInto_6 sh_FU S v1 v2 y1
set_option maxRecDepth 100000 in
set_option maxHeartbeats 4000000 in
theorem kX4_lookInto (l : Launch) (v1 : Int32) (v2 : Int64) : sh_Mi l yX4_lookInto cX4_lookInto 5 .int 2 tbX (fun G => [.ref (G.2.1 116), .int v1, .long v2]) (fun S => fX4_lookInto S v1 v2) := by
  refine sh_mki (by decide) (fun G => Nat.le_of_ble_eq_true rfl) ?_
  intro p e s m args below meth c G A S res ls hf C hr hw hl
  have C : sh_Cx p s m args meth c cX4_lookInto 5 RX4 G A := C
  have hl : lv_has ls 5 [(0, .ref (G.2.1 116)), (1, .int v1), (2, .long v2)] := hl
  replace hf : fX4_lookInto S v1 v2 = some res := hf
  rw [fX4_lookInto] at hf
  refine lv_iload_n C.1 C.2.1 dX4_lookInto_0 rfl (lv_at hl 1 rfl) ?_
  refine lv_bipush (v := 6) C.1 C.2.1 dX4_lookInto_1 (by decide) ?_
  refine lv_imul C.1 C.2.1 dX4_lookInto_3 ?_
  refine sh_ni hf (fun y1 hf => ?_)
  refine lv_istore (lv' := [(4, .int y1), (0, .ref (G.2.1 116)), (1, .int v1), (2, .long v2)]) C.1 C.2.1 dX4_lookInto_4 hl (by decide) rfl (fun ls hl => ?_)
  exact wX4_lookInto_6 C hr _ S v1 v2 y1 hf _ _ _ hw (lv_sub hl [1, 2, 3, 0] rfl)
def fX4_isTooMuchToBuild (S : sh_St) : Option (Int32 × sh_St) :=
    sh_c (fX7_entriesInAll S ) fun r2 S1 =>
    if r2 ≤ 80 then (sh_b 0 (some (0, S1)))
    else (sh_b 1 (some (1, S1)))
set_option maxRecDepth 100000 in
set_option maxHeartbeats 4000000 in
theorem kX4_isTooMuchToBuild (l : Launch) : sh_Mi l yX4_isTooMuchToBuild cX4_isTooMuchToBuild 1 .boolean 2 tbX (fun G => [.ref (G.2.1 116)]) (fun S => fX4_isTooMuchToBuild S) := by
  refine sh_mki (by decide) (fun G => Nat.le_of_ble_eq_true rfl) ?_
  intro p e s m args below meth c G A S res ls hf C hr hw hl
  have C : sh_Cx p s m args meth c cX4_isTooMuchToBuild 1 RX4 G A := C
  have hl : lv_has ls 1 [(0, .ref (G.2.1 116))] := hl
  replace hf : fX4_isTooMuchToBuild S = some res := hf
  rw [fX4_isTooMuchToBuild] at hf
  refine lv_aload_n C.1 C.2.1 dX4_isTooMuchToBuild_0 rfl (lv_at hl 0 rfl) ?_
  refine sh_getr C hw fl_X4_36 tbX_116 rfl dX4_isTooMuchToBuild_1 ?_
  refine sh_Vi (As := []) (rest := []) C hw (kX7_entriesInAll l ) yy_X7_entriesInAll yv_X7_entriesInAll ml_X4_126 hf tbX_4 rfl rfl rfl rfl (Nat.le_of_ble_eq_true rfl) (by decide) hl.1 dX4_isTooMuchToBuild_4 (fun r2 S1 H locs hw hf => ?_)
  refine lv_bipush (v := 80) C.1 C.2.1 dX4_isTooMuchToBuild_7 (by decide) ?_
  refine sh_icmp_le (tgt := 16) C hf dX4_isTooMuchToBuild_9 (by decide) (fun hf => ?_) (fun hf => ?_)
  · refine lv_iconst (v := 0) C.1 C.2.1 dX4_isTooMuchToBuild_16 (by decide) ?_
    exact sh_rz C hw hr hf dX4_isTooMuchToBuild_17
  · refine lv_iconst (v := 1) C.1 C.2.1 dX4_isTooMuchToBuild_12 (by decide) ?_
    refine lv_goto (tgt := 17) C.1 C.2.1 dX4_isTooMuchToBuild_13 (by decide) ?_
    exact sh_rz C hw hr hf dX4_isTooMuchToBuild_17
def fX4_spotOnWay_8 : Nat → sh_St → Int32 → Option (Int32 × sh_St)
  | 0, _, _ => none
  | n + 1, S, v1 =>
    if (S.1 121 3) ≤ v1 then (some ((-1), S))
    else (sh_g v1 42 (sh_c (fX7_emptySlotOf S (S.1 122 v1.toNatClampNeg)) fun r3 S2 =>
    if r3 = (-1) then (sh_t (v1 + 1) fun y4 =>
    (fX4_spotOnWay_8 n) S2 y4)
    else (sh_g v1 42 (some (((S2.1 122 v1.toNatClampNeg) * 6) + r3, S2)))))
set_option maxRecDepth 100000 in
set_option maxHeartbeats 4000000 in
theorem wX4_spotOnWay_8 {p : Program} {l : Launch} {e : Env} {s : State} {m : MethodId} {args : Array Value} {below : List Frame} {meth : Method} {c : Code} {G : sh_Ev} {A : Nat → Prop} {res : Int32 × sh_St} (C : sh_Cx p s m args meth c cX4_spotOnWay 3 RX4 G A) (hr : meth.sig.returnType = some .int) : ∀ (n : Nat) (S : sh_St) (v1 : Int32), fX4_spotOnWay_8 n S v1 = some res → ∀ (H : Heap) (locs : List Loc) (ls : Array Slot), sh_Wx G tbX A s H locs S → lv_has ls 3 [(0, .ref (G.2.1 116)), (1, .int v1)] → W p l e (sh_rm 2) s m args below meth c H locs 0 0 (sh_Qi below args s G tbX A res) (F0 m 8 ls []) := by
  intro n
  induction n with
  | zero => intro S v1 hf; exact nomatch (show (none : Option (Int32 × sh_St)) = some res from hf)
  | succ n ih =>
    intro S v1 hf H locs ls hw hl
    have hr8 := ih
    rw [fX4_spotOnWay_8] at hf
    refine lv_iload_n C.1 C.2.1 dX4_spotOnWay_8 rfl (lv_at hl 1 rfl) ?_
    refine lv_aload_n C.1 C.2.1 dX4_spotOnWay_9 rfl (lv_at hl 0 rfl) ?_
    refine sh_getr C hw fl_X4_21 tbX_116 rfl dX4_spotOnWay_10 ?_
    refine sh_geti C hw fl_X4_67 tbX_121 rfl dX4_spotOnWay_13 ?_
    refine sh_icmp_ge (tgt := 62) C hf dX4_spotOnWay_16 (by decide) (fun hf => ?_) (fun hf => ?_)
    · refine lv_iconst (v := -1) C.1 C.2.1 dX4_spotOnWay_62 (by decide) ?_
      exact sh_ri C hw hr hf dX4_spotOnWay_63
    · refine lv_aload_n C.1 C.2.1 dX4_spotOnWay_19 rfl (lv_at hl 0 rfl) ?_
      refine sh_getr C hw fl_X4_36 tbX_116 rfl dX4_spotOnWay_20 ?_
      refine lv_aload_n C.1 C.2.1 dX4_spotOnWay_23 rfl (lv_at hl 0 rfl) ?_
      refine sh_getr C hw fl_X4_21 tbX_116 rfl dX4_spotOnWay_24 ?_
      refine sh_getr C hw fl_X4_70 tbX_121 rfl dX4_spotOnWay_27 ?_
      refine lv_iload_n C.1 C.2.1 dX4_spotOnWay_30 rfl (lv_at hl 1 rfl) ?_
      refine sh_iald C hw hf tbX_122 dX4_spotOnWay_31 (fun hf => ?_)
      refine sh_Vi (As := [.int (S.1 122 v1.toNatClampNeg)]) (rest := []) C hw (kX7_emptySlotOf l (S.1 122 v1.toNatClampNeg)) yy_X7_emptySlotOf yv_X7_emptySlotOf ml_X4_149 hf tbX_4 rfl rfl rfl rfl (Nat.le_of_ble_eq_true rfl) (by decide) hl.1 dX4_spotOnWay_32 (fun r3 S2 H locs hw hf => ?_)
      refine lv_istore_n (lv' := [(2, .int r3), (0, .ref (G.2.1 116)), (1, .int v1)]) C.1 C.2.1 dX4_spotOnWay_35 rfl hl (by decide) rfl (fun ls hl => ?_)
      refine lv_iload_n C.1 C.2.1 dX4_spotOnWay_36 rfl (lv_at hl 0 rfl) ?_
      refine lv_iconst (v := -1) C.1 C.2.1 dX4_spotOnWay_37 (by decide) ?_
      refine sh_icmp_eq (tgt := 56) C hf dX4_spotOnWay_38 (by decide) (fun hf => ?_) (fun hf => ?_)
      · obtain ⟨y4, ey4, hf⟩ := sh_nm hf
        refine lv_iinc (v := y4) (lv' := [(1, .int y4), (2, .int r3), (0, .ref (G.2.1 116))]) C.1 C.2.1 dX4_spotOnWay_56 hl (k := 2) rfl (by rw [← ey4]; rfl) (by decide) rfl (fun ls hl => ?_)
        refine lv_goto (tgt := 8) C.1 C.2.1 dX4_spotOnWay_59 (by decide) ?_
        exact hr8 S2 y4 hf _ _ _ hw (lv_sub hl [2, 0] rfl)
      · refine lv_aload_n C.1 C.2.1 dX4_spotOnWay_41 rfl (lv_at hl 1 rfl) ?_
        refine sh_getr C hw fl_X4_21 tbX_116 rfl dX4_spotOnWay_42 ?_
        refine sh_getr C hw fl_X4_70 tbX_121 rfl dX4_spotOnWay_45 ?_
        refine lv_iload_n C.1 C.2.1 dX4_spotOnWay_48 rfl (lv_at hl 2 rfl) ?_
        refine sh_iald C hw hf tbX_122 dX4_spotOnWay_49 (fun hf => ?_)
        refine lv_bipush (v := 6) C.1 C.2.1 dX4_spotOnWay_50 (by decide) ?_
        refine lv_imul C.1 C.2.1 dX4_spotOnWay_52 ?_
        refine lv_iload_n C.1 C.2.1 dX4_spotOnWay_53 rfl (lv_at hl 0 rfl) ?_
        refine lv_iadd C.1 C.2.1 dX4_spotOnWay_54 ?_
        exact sh_ri C hw hr hf dX4_spotOnWay_55
def fX4_spotOnWay (S : sh_St) : Option (Int32 × sh_St) :=
    sh_t (S.1 121 2) fun y1 =>
    fX4_spotOnWay_8 sh_FU S y1
set_option maxRecDepth 100000 in
set_option maxHeartbeats 4000000 in
theorem kX4_spotOnWay (l : Launch) : sh_Mi l yX4_spotOnWay cX4_spotOnWay 3 .int 2 tbX (fun G => [.ref (G.2.1 116)]) (fun S => fX4_spotOnWay S) := by
  refine sh_mki (by decide) (fun G => Nat.le_of_ble_eq_true rfl) ?_
  intro p e s m args below meth c G A S res ls hf C hr hw hl
  have C : sh_Cx p s m args meth c cX4_spotOnWay 3 RX4 G A := C
  have hl : lv_has ls 3 [(0, .ref (G.2.1 116))] := hl
  replace hf : fX4_spotOnWay S = some res := hf
  rw [fX4_spotOnWay] at hf
  refine lv_aload_n C.1 C.2.1 dX4_spotOnWay_0 rfl (lv_at hl 0 rfl) ?_
  refine sh_getr C hw fl_X4_21 tbX_116 rfl dX4_spotOnWay_1 ?_
  refine sh_geti C hw fl_X4_64 tbX_121 rfl dX4_spotOnWay_4 ?_
  refine sh_ni hf (fun y1 hf => ?_)
  refine lv_istore_n (lv' := [(1, .int y1), (0, .ref (G.2.1 116))]) C.1 C.2.1 dX4_spotOnWay_7 rfl hl (by decide) rfl (fun ls hl => ?_)
  exact wX4_spotOnWay_8 C hr _ S y1 hf _ _ _ hw (lv_sub hl [1, 0] rfl)
