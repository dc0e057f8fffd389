def fX13_isIn (S : sh_St) (v0 : Int32) (v1 : Int32) (v2 : Int32) : Option (Int32 × sh_St) :=
    if v0 < v1 then (sh_b 0 (some (0, S)))
    else (if v2 < v0 then (sh_b 0 (some (0, S)))
    else (sh_b 1 (some (1, S))))
set_option maxRecDepth 100000 in
set_option maxHeartbeats 4000000 in
theorem kX13_isIn (l : Launch) (v0 : Int32) (v1 : Int32) (v2 : Int32) : sh_Mi l yX13_isIn cX13_isIn 3 .boolean 1 tbM (fun G => [.int v0, .int v1, .int v2]) (fun S => fX13_isIn S v0 v1 v2) := by
  refine sh_mki (by decide) (fun G => Nat.le_of_ble_eq_true rfl) ?_
  intro p e s m args below meth c G A S res ls hf C hr hw hl
  have C : sh_Cx p s m args meth c cX13_isIn 3 RX13 G A := C
  have hl : lv_has ls 3 [(0, .int v0), (1, .int v1), (2, .int v2)] := hl
  replace hf : fX13_isIn S v0 v1 v2 = some res := hf
  rw [fX13_isIn] at hf
  refine lv_iload_n C.1 C.2.1 dX13_isIn_0 rfl (lv_at hl 0 rfl) ?_
  refine lv_iload_n C.1 C.2.1 dX13_isIn_1 rfl (lv_at hl 1 rfl) ?_
  refine sh_icmp_lt (tgt := 14) C hf dX13_isIn_2 (by decide) (fun hf => ?_) (fun hf => ?_)
  · refine lv_iconst (v := 0) C.1 C.2.1 dX13_isIn_14 (by decide) ?_
    exact sh_rz C hw hr hf dX13_isIn_15
  · refine lv_iload_n C.1 C.2.1 dX13_isIn_5 rfl (lv_at hl 0 rfl) ?_
    refine lv_iload_n C.1 C.2.1 dX13_isIn_6 rfl (lv_at hl 2 rfl) ?_
    refine sh_icmp_gt (tgt := 14) C hf dX13_isIn_7 (by decide) (fun hf => ?_) (fun hf => ?_)
    · refine lv_iconst (v := 0) C.1 C.2.1 dX13_isIn_14 (by decide) ?_
      exact sh_rz C hw hr hf dX13_isIn_15
    · refine lv_iconst (v := 1) C.1 C.2.1 dX13_isIn_10 (by decide) ?_
      refine lv_goto (tgt := 15) C.1 C.2.1 dX13_isIn_11 (by decide) ?_
      exact sh_rz C hw hr hf dX13_isIn_15
def fX13_greater (S : sh_St) (v0 : Int32) (v1 : Int32) : Option (Int32 × sh_St) :=
    if v0 ≤ v1 then (some (v1, S))
    else (some (v0, S))
set_option maxRecDepth 100000 in
set_option maxHeartbeats 4000000 in
theorem kX13_greater (l : Launch) (v0 : Int32) (v1 : Int32) : sh_Mi l yX13_greater cX13_greater 2 .int 1 tbM (fun G => [.int v0, .int v1]) (fun S => fX13_greater S v0 v1) := by
  refine sh_mki (by decide) (fun G => Nat.le_of_ble_eq_true rfl) ?_
  intro p e s m args below meth c G A S res ls hf C hr hw hl
  have C : sh_Cx p s m args meth c cX13_greater 2 RX13 G A := C
  have hl : lv_has ls 2 [(0, .int v0), (1, .int v1)] := hl
  replace hf : fX13_greater S v0 v1 = some res := hf
  rw [fX13_greater] at hf
  refine lv_iload_n C.1 C.2.1 dX13_greater_0 rfl (lv_at hl 0 rfl) ?_
  refine lv_iload_n C.1 C.2.1 dX13_greater_1 rfl (lv_at hl 1 rfl) ?_
  refine sh_icmp_le (tgt := 9) C hf dX13_greater_2 (by decide) (fun hf => ?_) (fun hf => ?_)
  · refine lv_iload_n C.1 C.2.1 dX13_greater_9 rfl (lv_at hl 1 rfl) ?_
    exact sh_ri C hw hr hf dX13_greater_10
  · refine lv_iload_n C.1 C.2.1 dX13_greater_5 rfl (lv_at hl 0 rfl) ?_
    refine lv_goto (tgt := 10) C.1 C.2.1 dX13_greater_6 (by decide) ?_
    exact sh_ri C hw hr hf dX13_greater_10
def fX13_rowAt (S : sh_St) (v0 : Int32) (v1 : Int32) (v2 : Int32) : Option (Int32 × sh_St) :=
    some (((120 + (18 * v0)) + (3 * v1)) + v2, S)
set_option maxRecDepth 100000 in
set_option maxHeartbeats 4000000 in
theorem kX13_rowAt (l : Launch) (v0 : Int32) (v1 : Int32) (v2 : Int32) : sh_Mi l yX13_rowAt cX13_rowAt 3 .int 1 tbM (fun G => [.int v0, .int v1, .int v2]) (fun S => fX13_rowAt S v0 v1 v2) := by
  refine sh_mki (by decide) (fun G => Nat.le_of_ble_eq_true rfl) ?_
  intro p e s m args below meth c G A S res ls hf C hr hw hl
  have C : sh_Cx p s m args meth c cX13_rowAt 3 RX13 G A := C
  have hl : lv_has ls 3 [(0, .int v0), (1, .int v1), (2, .int v2)] := hl
  replace hf : fX13_rowAt S v0 v1 v2 = some res := hf
  rw [fX13_rowAt] at hf
  refine lv_bipush (v := 120) C.1 C.2.1 dX13_rowAt_0 (by decide) ?_
  refine lv_bipush (v := 18) C.1 C.2.1 dX13_rowAt_2 (by decide) ?_
  refine lv_iload_n C.1 C.2.1 dX13_rowAt_4 rfl (lv_at hl 0 rfl) ?_
  refine lv_imul C.1 C.2.1 dX13_rowAt_5 ?_
  refine lv_iadd C.1 C.2.1 dX13_rowAt_6 ?_
  refine lv_iconst (v := 3) C.1 C.2.1 dX13_rowAt_7 (by decide) ?_
  refine lv_iload_n C.1 C.2.1 dX13_rowAt_8 rfl (lv_at hl 1 rfl) ?_
  refine lv_imul C.1 C.2.1 dX13_rowAt_9 ?_
  refine lv_iadd C.1 C.2.1 dX13_rowAt_10 ?_
  refine lv_iload_n C.1 C.2.1 dX13_rowAt_11 rfl (lv_at hl 2 rfl) ?_
  refine lv_iadd C.1 C.2.1 dX13_rowAt_12 ?_
  exact sh_ri C hw hr hf dX13_rowAt_13
def fX13_slotAt (S : sh_St) (v0 : Int32) (v1 : Int32) : Option (Int32 × sh_St) :=
    some ((6 * v0) + v1, S)
set_option maxRecDepth 100000 in
set_option maxHeartbeats 4000000 in
theorem kX13_slotAt (l : Launch) (v0 : Int32) (v1 : Int32) : sh_Mi l yX13_slotAt cX13_slotAt 2 .int 1 tbM (fun G => [.int v0, .int v1]) (fun S => fX13_slotAt S v0 v1) := by
  refine sh_mki (by decide) (fun G => Nat.le_of_ble_eq_true rfl) ?_
  intro p e s m args below meth c G A S res ls hf C hr hw hl
  have C : sh_Cx p s m args meth c cX13_slotAt 2 RX13 G A := C
  have hl : lv_has ls 2 [(0, .int v0), (1, .int v1)] := hl
  replace hf : fX13_slotAt S v0 v1 = some res := hf
  rw [fX13_slotAt] at hf
  refine lv_bipush (v := 6) C.1 C.2.1 dX13_slotAt_0 (by decide) ?_
  refine lv_iload_n C.1 C.2.1 dX13_slotAt_2 rfl (lv_at hl 0 rfl) ?_
  refine lv_imul C.1 C.2.1 dX13_slotAt_3 ?_
  refine lv_iload_n C.1 C.2.1 dX13_slotAt_4 rfl (lv_at hl 1 rfl) ?_
  refine lv_iadd C.1 C.2.1 dX13_slotAt_5 ?_
  exact sh_ri C hw hr hf dX13_slotAt_6
def fX13_isEmpty (S : sh_St) (v1 : Int32) (v2 : Int32) : Option (Int32 × sh_St) :=
    sh_c (fX13_slotAt S v1 v2) fun r2 S1 =>
    sh_g (840 + r2) 1084 (if (S1.1 1 (840 + r2).toNatClampNeg) = (-1) then (sh_b 1 (some (1, S1)))
    else (sh_b 0 (some (0, S1))))
set_option maxRecDepth 100000 in
set_option maxHeartbeats 4000000 in
theorem kX13_isEmpty (l : Launch) (v1 : Int32) (v2 : Int32) : sh_Mi l yX13_isEmpty cX13_isEmpty 3 .boolean 2 tbM (fun G => [.ref (G.2.1 0), .int v1, .int v2]) (fun S => fX13_isEmpty S v1 v2) := by
  refine sh_mki (by decide) (fun G => Nat.le_of_ble_eq_true rfl) ?_
  intro p e s m args below meth c G A S res ls hf C hr hw hl
  have C : sh_Cx p s m args meth c cX13_isEmpty 3 RX13 G A := C
  have hl : lv_has ls 3 [(0, .ref (G.2.1 0)), (1, .int v1), (2, .int v2)] := hl
  replace hf : fX13_isEmpty S v1 v2 = some res := hf
  rw [fX13_isEmpty] at hf
  refine lv_aload_n C.1 C.2.1 dX13_isEmpty_0 rfl (lv_at hl 0 rfl) ?_
  refine sh_getr C hw fl_X13_7 tbM_0 rfl dX13_isEmpty_1 ?_
  refine lv_sipush (v := 840) C.1 C.2.1 dX13_isEmpty_4 (by decide) ?_
  refine lv_iload_n C.1 C.2.1 dX13_isEmpty_7 rfl (lv_at hl 1 rfl) ?_
  refine lv_iload_n C.1 C.2.1 dX13_isEmpty_8 rfl (lv_at hl 2 rfl) ?_
  refine sh_Si (As := [.int v1, .int v2]) (rest := [.int 840, .ref (G.2.1 1)]) C hw (kX13_slotAt l v1 v2) yy_X13_slotAt ys_X13_slotAt ml_X13_82 rfl hf rfl rfl rfl (Nat.le_of_ble_eq_true rfl) (by decide) hl.1 dX13_isEmpty_9 (fun r2 S1 H locs hw hf => ?_)
  refine lv_iadd C.1 C.2.1 dX13_isEmpty_12 ?_
  refine sh_iald C hw hf tbM_1 dX13_isEmpty_13 (fun hf => ?_)
  refine lv_iconst (v := -1) C.1 C.2.1 dX13_isEmpty_14 (by decide) ?_
  refine sh_icmp_ne (tgt := 22) C hf dX13_isEmpty_15 (by decide) (fun hf => ?_) (fun hf => ?_)
  · refine lv_iconst (v := 0) C.1 C.2.1 dX13_isEmpty_22 (by decide) ?_
    exact sh_rz C hw hr hf dX13_isEmpty_23
  · refine lv_iconst (v := 1) C.1 C.2.1 dX13_isEmpty_18 (by decide) ?_
    refine lv_goto (tgt := 23) C.1 C.2.1 dX13_isEmpty_19 (by decide) ?_
    exact sh_rz C hw hr hf dX13_isEmpty_23
def fX13_entries_25 (rk4 : sh_St → Int32 → Int32 → Int32 → Option (Int32 × sh_St)) (S : sh_St) (v1 : Int32) (v3 : Int32) (t0 : Int32) (t1 : Int32) : Option (Int32 × sh_St) :=
    sh_t (t1 + t0) fun y3 =>
    sh_t (v3 + 1) fun y4 =>
    rk4 S v1 y3 y4
set_option maxRecDepth 100000 in
set_option maxHeartbeats 4000000 in
theorem wX13_entries_25 {p : Program} {l : Launch} {e : Env} {s : State} {m : MethodId} {args : Array Value} {below : List Frame} {meth : Method} {c : Code} {G : sh_Ev} {A : Nat → Prop} {res : Int32 × sh_St} (C : sh_Cx p s m args meth c cX13_entries 4 RX13 G A) (hr : meth.sig.returnType = some .int) (rk4 : sh_St → Int32 → Int32 → Int32 → Option (Int32 × sh_St)) (hr4 : ∀ (S : sh_St) (v1 : Int32) (v2 : Int32) (v3 : Int32), rk4 S v1 v2 v3 = some res → ∀ (H : Heap) (locs : List Loc) (ls : Array Slot), sh_Wx G tbM A s H locs S → lv_has ls 4 [(0, .ref (G.2.1 0)), (1, .int v1), (2, .int v2), (3, .int v3)] → W p l e (sh_rm 3) s m args below meth c H locs 0 0 (sh_Qi below args s G tbM A res) (F0 m 4 ls [])) : ∀ (S : sh_St) (v1 : Int32) (v3 : Int32) (t0 : Int32) (t1 : Int32), fX13_entries_25 rk4 S v1 v3 t0 t1 = some res → ∀ (H : Heap) (locs : List Loc) (ls : Array Slot), sh_Wx G tbM A s H locs S → lv_has ls 4 [(0, .ref (G.2.1 0)), (1, .int v1), (3, .int v3)] → W p l e (sh_rm 3) s m args below meth c H locs 0 0 (sh_Qi below args s G tbM A res) (F0 m 25 ls [.int t0, .int t1]) := by
  intro S v1 v3 t0 t1 hf H locs ls hw hl
  rw [fX13_entries_25] at hf
  refine lv_iadd C.1 C.2.1 dX13_entries_25 ?_
  refine sh_ni hf (fun y3 hf => ?_)
  refine lv_istore_n (lv' := [(2, .int y3), (0, .ref (G.2.1 0)), (1, .int v1), (3, .int v3)]) C.1 C.2.1 dX13_entries_26 rfl hl (by decide) rfl (fun ls hl => ?_)
  obtain ⟨y4, ey4, hf⟩ := sh_nm hf
  refine lv_iinc (v := y4) (lv' := [(3, .int y4), (2, .int y3), (0, .ref (G.2.1 0)), (1, .int v1)]) C.1 C.2.1 dX13_entries_27 hl (k := 3) rfl (by rw [← ey4]; rfl) (by decide) rfl (fun ls hl => ?_)
  refine lv_goto (tgt := 4) C.1 C.2.1 dX13_entries_30 (by decide) ?_
  exact hr4 S v1 y3 y4 hf _ _ _ hw (lv_sub hl [2, 3, 1, 0] rfl)
def fX13_entries_4 : Nat → sh_St → Int32 → Int32 → Int32 → Option (Int32 × sh_St)
  | 0, _, _, _, _ => none
  | n + 1, S, v1, v2, v3 =>
    if 6 ≤ v3 then (some (v2, S))
    else (sh_c (fX13_isEmpty S v1 v3) fun r2 S1 =>
    if r2 = 0 then (fX13_entries_25 (fX13_entries_4 n) S1 v1 v3 1 v2)
    else (fX13_entries_25 (fX13_entries_4 n) S1 v1 v3 0 v2))
set_option maxRecDepth 100000 in
set_option maxHeartbeats 4000000 in
theorem wX13_entries_4 {p : Program} {l : Launch} {e : Env} {s : State} {m : MethodId} {args : Array Value} {below : List Frame} {meth : Method} {c : Code} {G : sh_Ev} {A : Nat → Prop} {res : Int32 × sh_St} (C : sh_Cx p s m args meth c cX13_entries 4 RX13 G A) (hr : meth.sig.returnType = some .int) : ∀ (n : Nat) (S : sh_St) (v1 : Int32) (v2 : Int32) (v3 : Int32), fX13_entries_4 n S v1 v2 v3 = some res → ∀ (H : Heap) (locs : List Loc) (ls : Array Slot), sh_Wx G tbM A s H locs S → lv_has ls 4 [(0, .ref (G.2.1 0)), (1, .int v1), (2, .int v2), (3, .int v3)] → W p l e (sh_rm 3) s m args below meth c H locs 0 0 (sh_Qi below args s G tbM A res) (F0 m 4 ls []) := by
  intro n
  induction n with
  | zero => intro S v1 v2 v3 hf; exact nomatch (show (none : Option (Int32 × sh_St)) = some res from hf)
  | succ n ih =>
    intro S v1 v2 v3 hf H locs ls hw hl
    have hr4 := ih
    rw [fX13_entries_4] at hf
    refine lv_iload_n C.1 C.2.1 dX13_entries_4 rfl (lv_at hl 3 rfl) ?_
    refine lv_bipush (v := 6) C.1 C.2.1 dX13_entries_5 (by decide) ?_
    refine sh_icmp_ge (tgt := 33) C hf dX13_entries_7 (by decide) (fun hf => ?_) (fun hf => ?_)
    · refine lv_iload_n C.1 C.2.1 dX13_entries_33 rfl (lv_at hl 2 rfl) ?_
      exact sh_ri C hw hr hf dX13_entries_34
    · refine lv_iload_n C.1 C.2.1 dX13_entries_10 rfl (lv_at hl 2 rfl) ?_
      refine lv_aload_n C.1 C.2.1 dX13_entries_11 rfl (lv_at hl 0 rfl) ?_
      refine lv_iload_n C.1 C.2.1 dX13_entries_12 rfl (lv_at hl 1 rfl) ?_
      refine lv_iload_n C.1 C.2.1 dX13_entries_13 rfl (lv_at hl 3 rfl) ?_
      refine sh_Vi (As := [.int v1, .int v3]) (rest := [.int v2]) C hw (kX13_isEmpty l v1 v3) yy_X13_isEmpty yv_X13_isEmpty ml_X13_86 hf tbM_0 rfl rfl rfl rfl (Nat.le_of_ble_eq_true rfl) (by decide) hl.1 dX13_entries_14 (fun r2 S1 H locs hw hf => ?_)
      refine sh_if_eq (tgt := 24) C hf dX13_entries_17 (by decide) (fun hf => ?_) (fun hf => ?_)
      · refine lv_iconst (v := 1) C.1 C.2.1 dX13_entries_24 (by decide) ?_
        exact wX13_entries_25 C hr (fX13_entries_4 n) hr4 S1 v1 v3 1 v2 hf _ _ _ hw (lv_sub hl [0, 1, 3] rfl)
      · refine lv_iconst (v := 0) C.1 C.2.1 dX13_entries_20 (by decide) ?_
        refine lv_goto (tgt := 25) C.1 C.2.1 dX13_entries_21 (by decide) ?_
        exact wX13_entries_25 C hr (fX13_entries_4 n) hr4 S1 v1 v3 0 v2 hf _ _ _ hw (lv_sub hl [0, 1, 3] rfl)
def fX13_entries (S : sh_St) (v1 : Int32) : Option (Int32 × sh_St) :=
    fX13_entries_4 sh_FU S v1 0 0
set_option maxRecDepth 100000 in
set_option maxHeartbeats 4000000 in
theorem kX13_entries (l : Launch) (v1 : Int32) : sh_Mi l yX13_entries cX13_entries 4 .int 3 tbM (fun G => [.ref (G.2.1 0), .int v1]) (fun S => fX13_entries S v1) := by
  refine sh_mki (by decide) (fun G => Nat.le_of_ble_eq_true rfl) ?_
  intro p e s m args below meth c G A S res ls hf C hr hw hl
  have C : sh_Cx p s m args meth c cX13_entries 4 RX13 G A := C
  have hl : lv_has ls 4 [(0, .ref (G.2.1 0)), (1, .int v1)] := hl
  replace hf : fX13_entries S v1 = some res := hf
  rw [fX13_entries] at hf
  refine lv_iconst (v := 0) C.1 C.2.1 dX13_entries_0 (by decide) ?_
  refine lv_istore_n (lv' := [(2, .int 0), (0, .ref (G.2.1 0)), (1, .int v1)]) C.1 C.2.1 dX13_entries_1 rfl hl (by decide) rfl (fun ls hl => ?_)
  refine lv_iconst (v := 0) C.1 C.2.1 dX13_entries_2 (by decide) ?_
  refine lv_istore_n (lv' := [(3, .int 0), (2, .int 0), (0, .ref (G.2.1 0)), (1, .int v1)]) C.1 C.2.1 dX13_entries_3 rfl hl (by decide) rfl (fun ls hl => ?_)
  exact wX13_entries_4 C hr _ S v1 0 0 hf _ _ _ hw (lv_sub hl [2, 3, 1, 0] rfl)
def fX13_allEntries_31 (rk4 : sh_St → Int32 → Int32 → Option (Int32 × sh_St)) (S : sh_St) (v2 : Int32) (t0 : Int32) (t1 : Int32) : Option (Int32 × sh_St) :=
    sh_t (t1 + t0) fun y1 =>
    sh_t (v2 + 1) fun y2 =>
    rk4 S y1 y2
set_option maxRecDepth 100000 in
set_option maxHeartbeats 4000000 in
theorem wX13_allEntries_31 {p : Program} {l : Launch} {e : Env} {s : State} {m : MethodId} {args : Array Value} {below : List Frame} {meth : Method} {c : Code} {G : sh_Ev} {A : Nat → Prop} {res : Int32 × sh_St} (C : sh_Cx p s m args meth c cX13_allEntries 3 RX13 G A) (hr : meth.sig.returnType = some .int) (rk4 : sh_St → Int32 → Int32 → Option (Int32 × sh_St)) (hr4 : ∀ (S : sh_St) (v1 : Int32) (v2 : Int32), rk4 S v1 v2 = some res → ∀ (H : Heap) (locs : List Loc) (ls : Array Slot), sh_Wx G tbM A s H locs S → lv_has ls 3 [(0, .ref (G.2.1 0)), (1, .int v1), (2, .int v2)] → W p l e (sh_rm 1) s m args below meth c H locs 0 0 (sh_Qi below args s G tbM A res) (F0 m 4 ls [])) : ∀ (S : sh_St) (v2 : Int32) (t0 : Int32) (t1 : Int32), fX13_allEntries_31 rk4 S v2 t0 t1 = some res → ∀ (H : Heap) (locs : List Loc) (ls : Array Slot), sh_Wx G tbM A s H locs S → lv_has ls 3 [(0, .ref (G.2.1 0)), (2, .int v2)] → W p l e (sh_rm 1) s m args below meth c H locs 0 0 (sh_Qi below args s G tbM A res) (F0 m 31 ls [.int t0, .int t1]) := by
  intro S v2 t0 t1 hf H locs ls hw hl
  rw [fX13_allEntries_31] at hf
  refine lv_iadd C.1 C.2.1 dX13_allEntries_31 ?_
  refine sh_ni hf (fun y1 hf => ?_)
  refine lv_istore_n (lv' := [(1, .int y1), (0, .ref (G.2.1 0)), (2, .int v2)]) C.1 C.2.1 dX13_allEntries_32 rfl hl (by decide) rfl (fun ls hl => ?_)
  obtain ⟨y2, ey2, hf⟩ := sh_nm hf
  refine lv_iinc (v := y2) (lv' := [(2, .int y2), (1, .int y1), (0, .ref (G.2.1 0))]) C.1 C.2.1 dX13_allEntries_33 hl (k := 2) rfl (by rw [← ey2]; rfl) (by decide) rfl (fun ls hl => ?_)
  refine lv_goto (tgt := 4) C.1 C.2.1 dX13_allEntries_36 (by decide) ?_
  exact hr4 S y1 y2 hf _ _ _ hw (lv_sub hl [2, 1, 0] rfl)
def fX13_allEntries_4 : Nat → sh_St → Int32 → Int32 → Option (Int32 × sh_St)
  | 0, _, _, _ => none
  | n + 1, S, v1, v2 =>
    if 240 ≤ v2 then (some (v1, S))
    else (sh_g (840 + v2) 1084 (if (S.1 1 (840 + v2).toNatClampNeg) = (-1) then (fX13_allEntries_31 (fX13_allEntries_4 n) S v2 0 v1)
    else (fX13_allEntries_31 (fX13_allEntries_4 n) S v2 1 v1)))
set_option maxRecDepth 100000 in
set_option maxHeartbeats 4000000 in
theorem wX13_allEntries_4 {p : Program} {l : Launch} {e : Env} {s : State} {m : MethodId} {args : Array Value} {below : List Frame} {meth : Method} {c : Code} {G : sh_Ev} {A : Nat → Prop} {res : Int32 × sh_St} (C : sh_Cx p s m args meth c cX13_allEntries 3 RX13 G A) (hr : meth.sig.returnType = some .int) : ∀ (n : Nat) (S : sh_St) (v1 : Int32) (v2 : Int32), fX13_allEntries_4 n S v1 v2 = some res → ∀ (H : Heap) (locs : List Loc) (ls : Array Slot), sh_Wx G tbM A s H locs S → lv_has ls 3 [(0, .ref (G.2.1 0)), (1, .int v1), (2, .int v2)] → W p l e (sh_rm 1) s m args below meth c H locs 0 0 (sh_Qi below args s G tbM A res) (F0 m 4 ls []) := by
  intro n
  induction n with
  | zero => intro S v1 v2 hf; exact nomatch (show (none : Option (Int32 × sh_St)) = some res from hf)
  | succ n ih =>
    intro S v1 v2 hf H locs ls hw hl
    have hr4 := ih
    rw [fX13_allEntries_4] at hf
    refine lv_iload_n C.1 C.2.1 dX13_allEntries_4 rfl (lv_at hl 2 rfl) ?_
    refine lv_sipush (v := 240) C.1 C.2.1 dX13_allEntries_5 (by decide) ?_
    refine sh_icmp_ge (tgt := 39) C hf dX13_allEntries_8 (by decide) (fun hf => ?_) (fun hf => ?_)
    · refine lv_iload_n C.1 C.2.1 dX13_allEntries_39 rfl (lv_at hl 1 rfl) ?_
      exact sh_ri C hw hr hf dX13_allEntries_40
    · refine lv_iload_n C.1 C.2.1 dX13_allEntries_11 rfl (lv_at hl 1 rfl) ?_
      refine lv_aload_n C.1 C.2.1 dX13_allEntries_12 rfl (lv_at hl 0 rfl) ?_
      refine sh_getr C hw fl_X13_7 tbM_0 rfl dX13_allEntries_13 ?_
      refine lv_sipush (v := 840) C.1 C.2.1 dX13_allEntries_16 (by decide) ?_
      refine lv_iload_n C.1 C.2.1 dX13_allEntries_19 rfl (lv_at hl 2 rfl) ?_
      refine lv_iadd C.1 C.2.1 dX13_allEntries_20 ?_
      refine sh_iald C hw hf tbM_1 dX13_allEntries_21 (fun hf => ?_)
      refine lv_iconst (v := -1) C.1 C.2.1 dX13_allEntries_22 (by decide) ?_
      refine sh_icmp_ne (tgt := 30) C hf dX13_allEntries_23 (by decide) (fun hf => ?_) (fun hf => ?_)
      · refine lv_iconst (v := 1) C.1 C.2.1 dX13_allEntries_30 (by decide) ?_
        exact wX13_allEntries_31 C hr (fX13_allEntries_4 n) hr4 S v2 1 v1 hf _ _ _ hw (lv_sub hl [0, 2] rfl)
      · refine lv_iconst (v := 0) C.1 C.2.1 dX13_allEntries_26 (by decide) ?_
        refine lv_goto (tgt := 31) C.1 C.2.1 dX13_allEntries_27 (by decide) ?_
        exact wX13_allEntries_31 C hr (fX13_allEntries_4 n) hr4 S v2 0 v1 hf _ _ _ hw (lv_sub hl [0, 2] rfl)
def fX13_allEntries (S : sh_St) : Option (Int32 × sh_St) :=
    fX13_allEntries_4 sh_FU S 0 0
set_option maxRecDepth 100000 in
set_option maxHeartbeats 4000000 in
theorem kX13_allEntries (l : Launch) : sh_Mi l yX13_allEntries cX13_allEntries 3 .int 1 tbM (fun G => [.ref (G.2.1 0)]) (fun S => fX13_allEntries S) := by
  refine sh_mki (by decide) (fun G => Nat.le_of_ble_eq_true rfl) ?_
  intro p e s m args below meth c G A S res ls hf C hr hw hl
  have C : sh_Cx p s m args meth c cX13_allEntries 3 RX13 G A := C
  have hl : lv_has ls 3 [(0, .ref (G.2.1 0))] := hl
  replace hf : fX13_allEntries S = some res := hf
  rw [fX13_allEntries] at hf
  refine lv_iconst (v := 0) C.1 C.2.1 dX13_allEntries_0 (by decide) ?_
  refine lv_istore_n (lv' := [(1, .int 0), (0, .ref (G.2.1 0))]) C.1 C.2.1 dX13_allEntries_1 rfl hl (by decide) rfl (fun ls hl => ?_)
  refine lv_iconst (v := 0) C.1 C.2.1 dX13_allEntries_2 (by decide) ?_
  refine lv_istore_n (lv' := [(2, .int 0), (1, .int 0), (0, .ref (G.2.1 0))]) C.1 C.2.1 dX13_allEntries_3 rfl hl (by decide) rfl (fun ls hl => ?_)
  exact wX13_allEntries_4 C hr _ S 0 0 hf _ _ _ hw (lv_sub hl [2, 1, 0] rfl)
def fX13_countOf_31 (rk5 : sh_St → Int32 → Int32 → Int32 → Int32 → Option (Int32 × sh_St)) (S : sh_St) (v1 : Int32) (v2 : Int32) (v4 : Int32) (t0 : Int32) (t1 : Int32) : Option (Int32 × sh_St) :=
    sh_t (t1 + t0) fun y1 =>
    sh_t (v4 + 1) fun y2 =>
    rk5 S v1 v2 y1 y2
set_option maxRecDepth 100000 in
set_option maxHeartbeats 4000000 in
theorem wX13_countOf_31 {p : Program} {l : Launch} {e : Env} {s : State} {m : MethodId} {args : Array Value} {below : List Frame} {meth : Method} {c : Code} {G : sh_Ev} {A : Nat → Prop} {res : Int32 × sh_St} (C : sh_Cx p s m args meth c cX13_countOf 5 RX13 G A) (hr : meth.sig.returnType = some .int) (rk5 : sh_St → Int32 → Int32 → Int32 → Int32 → Option (Int32 × sh_St)) (hr5 : ∀ (S : sh_St) (v1 : Int32) (v2 : Int32) (v3 : Int32) (v4 : Int32), rk5 S v1 v2 v3 v4 = some res → ∀ (H : Heap) (locs : List Loc) (ls : Array Slot), sh_Wx G tbM A s H locs S → lv_has ls 5 [(0, .ref (G.2.1 0)), (1, .int v1), (2, .int v2), (3, .int v3), (4, .int v4)] → W p l e (sh_rm 1) s m args below meth c H locs 0 0 (sh_Qi below args s G tbM A res) (F0 m 5 ls [])) : ∀ (S : sh_St) (v1 : Int32) (v2 : Int32) (v4 : Int32) (t0 : Int32) (t1 : Int32), fX13_countOf_31 rk5 S v1 v2 v4 t0 t1 = some res → ∀ (H : Heap) (locs : List Loc) (ls : Array Slot), sh_Wx G tbM A s H locs S → lv_has ls 5 [(0, .ref (G.2.1 0)), (1, .int v1), (2, .int v2), (4, .int v4)] → W p l e (sh_rm 1) s m args below meth c H locs 0 0 (sh_Qi below args s G tbM A res) (F0 m 31 ls [.int t0, .int t1]) := by
  intro S v1 v2 v4 t0 t1 hf H locs ls hw hl
  rw [fX13_countOf_31] at hf
  refine lv_iadd C.1 C.2.1 dX13_countOf_31 ?_
  refine sh_ni hf (fun y1 hf => ?_)
  refine lv_istore_n (lv' := [(3, .int y1), (0, .ref (G.2.1 0)), (1, .int v1), (2, .int v2), (4, .int v4)]) C.1 C.2.1 dX13_countOf_32 rfl hl (by decide) rfl (fun ls hl => ?_)
  obtain ⟨y2, ey2, hf⟩ := sh_nm hf
  refine lv_iinc (v := y2) (lv' := [(4, .int y2), (3, .int y1), (0, .ref (G.2.1 0)), (1, .int v1), (2, .int v2)]) C.1 C.2.1 dX13_countOf_33 hl (k := 4) rfl (by rw [← ey2]; rfl) (by decide) rfl (fun ls hl => ?_)
  refine lv_goto (tgt := 5) C.1 C.2.1 dX13_countOf_36 (by decide) ?_
  exact hr5 S v1 v2 y1 y2 hf _ _ _ hw (lv_sub hl [2, 3, 4, 1, 0] rfl)
def fX13_countOf_5 : Nat → sh_St → Int32 → Int32 → Int32 → Int32 → Option (Int32 × sh_St)
  | 0, _, _, _, _, _ => none
  | n + 1, S, v1, v2, v3, v4 =>
    if 40 ≤ v4 then (some (v3, S))
    else (sh_g (v1 + v4) 1084 (if (S.1 1 (v1 + v4).toNatClampNeg) = v2 then (fX13_countOf_31 (fX13_countOf_5 n) S v1 v2 v4 1 v3)
    else (fX13_countOf_31 (fX13_countOf_5 n) S v1 v2 v4 0 v3)))
set_option maxRecDepth 100000 in
set_option maxHeartbeats 4000000 in
theorem wX13_countOf_5 {p : Program} {l : Launch} {e : Env} {s : State} {m : MethodId} {args : Array Value} {below : List Frame} {meth : Method} {c : Code} {G : sh_Ev} {A : Nat → Prop} {res : Int32 × sh_St} (C : sh_Cx p s m args meth c cX13_countOf 5 RX13 G A) (hr : meth.sig.returnType = some .int) : ∀ (n : Nat) (S : sh_St) (v1 : Int32) (v2 : Int32) (v3 : Int32) (v4 : Int32), fX13_countOf_5 n S v1 v2 v3 v4 = some res → ∀ (H : Heap) (locs : List Loc) (ls : Array Slot), sh_Wx G tbM A s H locs S → lv_has ls 5 [(0, .ref (G.2.1 0)), (1, .int v1), (2, .int v2), (3, .int v3), (4, .int v4)] → W p l e (sh_rm 1) s m args below meth c H locs 0 0 (sh_Qi below args s G tbM A res) (F0 m 5 ls []) := by
  intro n
  induction n with
  | zero => intro S v1 v2 v3 v4 hf; exact nomatch (show (none : Option (Int32 × sh_St)) = some res from hf)
  | succ n ih =>
    intro S v1 v2 v3 v4 hf H locs ls hw hl
    have hr5 := ih
    rw [fX13_countOf_5] at hf
    refine lv_iload C.1 C.2.1 dX13_countOf_5 (lv_at hl 4 rfl) ?_
    refine lv_bipush (v := 40) C.1 C.2.1 dX13_countOf_7 (by decide) ?_
    refine sh_icmp_ge (tgt := 39) C hf dX13_countOf_9 (by decide) (fun hf => ?_) (fun hf => ?_)
    · refine lv_iload_n C.1 C.2.1 dX13_countOf_39 rfl (lv_at hl 3 rfl) ?_
      exact sh_ri C hw hr hf dX13_countOf_40
    · refine lv_iload_n C.1 C.2.1 dX13_countOf_12 rfl (lv_at hl 3 rfl) ?_
      refine lv_aload_n C.1 C.2.1 dX13_countOf_13 rfl (lv_at hl 0 rfl) ?_
      refine sh_getr C hw fl_X13_7 tbM_0 rfl dX13_countOf_14 ?_
      refine lv_iload_n C.1 C.2.1 dX13_countOf_17 rfl (lv_at hl 1 rfl) ?_
      refine lv_iload C.1 C.2.1 dX13_countOf_18 (lv_at hl 4 rfl) ?_
      refine lv_iadd C.1 C.2.1 dX13_countOf_20 ?_
      refine sh_iald C hw hf tbM_1 dX13_countOf_21 (fun hf => ?_)
      refine lv_iload_n C.1 C.2.1 dX13_countOf_22 rfl (lv_at hl 2 rfl) ?_
      refine sh_icmp_ne (tgt := 30) C hf dX13_countOf_23 (by decide) (fun hf => ?_) (fun hf => ?_)
      · refine lv_iconst (v := 0) C.1 C.2.1 dX13_countOf_30 (by decide) ?_
        exact wX13_countOf_31 C hr (fX13_countOf_5 n) hr5 S v1 v2 v4 0 v3 hf _ _ _ hw (lv_sub hl [0, 1, 2, 4] rfl)
      · refine lv_iconst (v := 1) C.1 C.2.1 dX13_countOf_26 (by decide) ?_
        refine lv_goto (tgt := 31) C.1 C.2.1 dX13_countOf_27 (by decide) ?_
        exact wX13_countOf_31 C hr (fX13_countOf_5 n) hr5 S v1 v2 v4 1 v3 hf _ _ _ hw (lv_sub hl [0, 1, 2, 4] rfl)
def fX13_countOf (S : sh_St) (v1 : Int32) (v2 : Int32) : Option (Int32 × sh_St) :=
    fX13_countOf_5 sh_FU S v1 v2 0 0
set_option maxRecDepth 100000 in
set_option maxHeartbeats 4000000 in
theorem kX13_countOf (l : Launch) (v1 : Int32) (v2 : Int32) : sh_Mi l yX13_countOf cX13_countOf 5 .int 1 tbM (fun G => [.ref (G.2.1 0), .int v1, .int v2]) (fun S => fX13_countOf S v1 v2) := by
  refine sh_mki (by decide) (fun G => Nat.le_of_ble_eq_true rfl) ?_
  intro p e s m args below meth c G A S res ls hf C hr hw hl
  have C : sh_Cx p s m args meth c cX13_countOf 5 RX13 G A := C
  have hl : lv_has ls 5 [(0, .ref (G.2.1 0)), (1, .int v1), (2, .int v2)] := hl
  replace hf : fX13_countOf S v1 v2 = some res := hf
  rw [fX13_countOf] at hf
  refine lv_iconst (v := 0) C.1 C.2.1 dX13_countOf_0 (by decide) ?_
  refine lv_istore_n (lv' := [(3, .int 0), (0, .ref (G.2.1 0)), (1, .int v1), (2, .int v2)]) C.1 C.2.1 dX13_countOf_1 rfl hl (by decide) rfl (fun ls hl => ?_)
  refine lv_iconst (v := 0) C.1 C.2.1 dX13_countOf_2 (by decide) ?_
  refine lv_istore (lv' := [(4, .int 0), (3, .int 0), (0, .ref (G.2.1 0)), (1, .int v1), (2, .int v2)]) C.1 C.2.1 dX13_countOf_3 hl (by decide) rfl (fun ls hl => ?_)
  exact wX13_countOf_5 C hr _ S v1 v2 0 0 hf _ _ _ hw (lv_sub hl [2, 3, 4, 1, 0] rfl)
def fX13_isAnyTorn (S : sh_St) : Option (Int32 × sh_St) :=
    sh_c (fX13_countOf S 40 1) fun r2 S1 =>
    if r2 ≤ 0 then (sh_b 0 (some (0, S1)))
    else (sh_b 1 (some (1, S1)))
set_option maxRecDepth 100000 in
set_option maxHeartbeats 4000000 in
theorem kX13_isAnyTorn (l : Launch) : sh_Mi l yX13_isAnyTorn cX13_isAnyTorn 1 .boolean 2 tbM (fun G => [.ref (G.2.1 0)]) (fun S => fX13_isAnyTorn S) := by
  refine sh_mki (by decide) (fun G => Nat.le_of_ble_eq_true rfl) ?_
  intro p e s m args below meth c G A S res ls hf C hr hw hl
  have C : sh_Cx p s m args meth c cX13_isAnyTorn 1 RX13 G A := C
  have hl : lv_has ls 1 [(0, .ref (G.2.1 0))] := hl
  replace hf : fX13_isAnyTorn S = some res := hf
  rw [fX13_isAnyTorn] at hf
  refine lv_aload_n C.1 C.2.1 dX13_isAnyTorn_0 rfl (lv_at hl 0 rfl) ?_
  refine lv_bipush (v := 40) C.1 C.2.1 dX13_isAnyTorn_1 (by decide) ?_
  refine lv_iconst (v := 1) C.1 C.2.1 dX13_isAnyTorn_3 (by decide) ?_
  refine sh_Vi (As := [.int 40, .int 1]) (rest := []) C hw (kX13_countOf l 40 1) yy_X13_countOf yv_X13_countOf ml_X13_90 hf tbM_0 rfl rfl rfl rfl (Nat.le_of_ble_eq_true rfl) (by decide) hl.1 dX13_isAnyTorn_4 (fun r2 S1 H locs hw hf => ?_)
  refine sh_if_le (tgt := 14) C hf dX13_isAnyTorn_7 (by decide) (fun hf => ?_) (fun hf => ?_)
  · refine lv_iconst (v := 0) C.1 C.2.1 dX13_isAnyTorn_14 (by decide) ?_
    exact sh_rz C hw hr hf dX13_isAnyTorn_15
  · refine lv_iconst (v := 1) C.1 C.2.1 dX13_isAnyTorn_10 (by decide) ?_
    refine lv_goto (tgt := 15) C.1 C.2.1 dX13_isAnyTorn_11 (by decide) ?_
    exact sh_rz C hw hr hf dX13_isAnyTorn_15
def fX13_letterOf (S : sh_St) (v0 : Int64) (v2 : Int32) : Option (Int32 × sh_St) :=
    some ((Int64.toInt32 (v0 >>> ((Int32.toInt64 (8 * (7 - v2))) &&& 63))) &&& 255, S)
set_option maxRecDepth 100000 in
set_option maxHeartbeats 4000000 in
theorem kX13_letterOf (l : Launch) (v0 : Int64) (v2 : Int32) : sh_Mi l yX13_letterOf cX13_letterOf 3 .int 1 tbM (fun G => [.long v0, .int v2]) (fun S => fX13_letterOf S v0 v2) := by
  refine sh_mki (by decide) (fun G => Nat.le_of_ble_eq_true rfl) ?_
  intro p e s m args below meth c G A S res ls hf C hr hw hl
  have C : sh_Cx p s m args meth c cX13_letterOf 3 RX13 G A := C
  have hl : lv_has ls 3 [(0, .long v0), (2, .int v2)] := hl
  replace hf : fX13_letterOf S v0 v2 = some res := hf
  rw [fX13_letterOf] at hf
  refine lv_lload_n C.1 C.2.1 dX13_letterOf_0 rfl (lv_at hl 0 rfl) ?_
  refine lv_bipush (v := 8) C.1 C.2.1 dX13_letterOf_1 (by decide) ?_
  refine lv_bipush (v := 7) C.1 C.2.1 dX13_letterOf_3 (by decide) ?_
  refine lv_iload_n C.1 C.2.1 dX13_letterOf_5 rfl (lv_at hl 1 rfl) ?_
  refine lv_isub C.1 C.2.1 dX13_letterOf_6 ?_
  refine lv_imul C.1 C.2.1 dX13_letterOf_7 ?_
  refine lv_lshr C.1 C.2.1 dX13_letterOf_8 rfl ?_
  refine lv_l2i C.1 C.2.1 dX13_letterOf_9 rfl ?_
  refine lv_sipush (v := 255) C.1 C.2.1 dX13_letterOf_10 (by decide) ?_
  refine lv_iand C.1 C.2.1 dX13_letterOf_13 ?_
  exact sh_ri C hw hr hf dX13_letterOf_14
def fX13_longOf_2 : Nat → sh_St → Int64 → Int32 → Option (Int32 × sh_St)
  | 0, _, _, _ => none
  | n + 1, S, v0, v2 =>
    if 8 ≤ v2 then (some (v2, S))
    else (sh_c (fX13_letterOf S v0 v2) fun r2 S1 =>
    if r2 ≤ 0 then (some (v2, S1))
    else (sh_t (v2 + 1) fun y3 =>
    (fX13_longOf_2 n) S1 v0 y3))
set_option maxRecDepth 100000 in
set_option maxHeartbeats 4000000 in
theorem wX13_longOf_2 {p : Program} {l : Launch} {e : Env} {s : State} {m : MethodId} {args : Array Value} {below : List Frame} {meth : Method} {c : Code} {G : sh_Ev} {A : Nat → Prop} {res : Int32 × sh_St} (C : sh_Cx p s m args meth c cX13_longOf 3 RX13 G A) (hr : meth.sig.returnType = some .int) : ∀ (n : Nat) (S : sh_St) (v0 : Int64) (v2 : Int32), fX13_longOf_2 n S v0 v2 = some res → ∀ (H : Heap) (locs : List Loc) (ls : Array Slot), sh_Wx G tbM A s H locs S → lv_has ls 3 [(0, .long v0), (2, .int v2)] → W p l e (sh_rm 2) s m args below meth c H locs 0 0 (sh_Qi below args s G tbM A res) (F0 m 2 ls []) := by
  intro n
  induction n with
  | zero => intro S v0 v2 hf; exact nomatch (show (none : Option (Int32 × sh_St)) = some res from hf)
  | succ n ih =>
    intro S v0 v2 hf H locs ls hw hl
    have hr2 := ih
    rw [fX13_longOf_2] at hf
    refine lv_iload_n C.1 C.2.1 dX13_longOf_2 rfl (lv_at hl 1 rfl) ?_
    refine lv_bipush (v := 8) C.1 C.2.1 dX13_longOf_3 (by decide) ?_
    refine sh_icmp_ge (tgt := 22) C hf dX13_longOf_5 (by decide) (fun hf => ?_) (fun hf => ?_)
    · refine lv_iload_n C.1 C.2.1 dX13_longOf_22 rfl (lv_at hl 1 rfl) ?_
      exact sh_ri C hw hr hf dX13_longOf_23
    · refine lv_lload_n C.1 C.2.1 dX13_longOf_8 rfl (lv_at hl 0 rfl) ?_
      refine lv_iload_n C.1 C.2.1 dX13_longOf_9 rfl (lv_at hl 1 rfl) ?_
      refine sh_Si (As := [.long v0, .int v2]) (rest := []) C hw (kX13_letterOf l v0 v2) yy_X13_letterOf ys_X13_letterOf ml_X13_93 rfl hf rfl rfl rfl (Nat.le_of_ble_eq_true rfl) (by decide) hl.1 dX13_longOf_10 (fun r2 S1 H locs hw hf => ?_)
      refine sh_if_le (tgt := 22) C hf dX13_longOf_13 (by decide) (fun hf => ?_) (fun hf => ?_)
      · refine lv_iload_n C.1 C.2.1 dX13_longOf_22 rfl (lv_at hl 1 rfl) ?_
        exact sh_ri C hw hr hf dX13_longOf_23
      · obtain ⟨y3, ey3, hf⟩ := sh_nm hf
        refine lv_iinc (v := y3) (lv' := [(2, .int y3), (0, .long v0)]) C.1 C.2.1 dX13_longOf_16 hl (k := 1) rfl (by rw [← ey3]; rfl) (by decide) rfl (fun ls hl => ?_)
        refine lv_goto (tgt := 2) C.1 C.2.1 dX13_longOf_19 (by decide) ?_
        exact hr2 S1 v0 y3 hf _ _ _ hw (lv_sub hl [1, 0] rfl)
def fX13_longOf (S : sh_St) (v0 : Int64) : Option (Int32 × sh_St) :=
    fX13_longOf_2 sh_FU S v0 0
set_option maxRecDepth 100000 in
set_option maxHeartbeats 4000000 in
theorem kX13_longOf (l : Launch) (v0 : Int64) : sh_Mi l yX13_longOf cX13_longOf 3 .int 2 tbM (fun G => [.long v0]) (fun S => fX13_longOf S v0) := by
  refine sh_mki (by decide) (fun G => Nat.le_of_ble_eq_true rfl) ?_
  intro p e s m args below meth c G A S res ls hf C hr hw hl
  have C : sh_Cx p s m args meth c cX13_longOf 3 RX13 G A := C
  have hl : lv_has ls 3 [(0, .long v0)] := hl
  replace hf : fX13_longOf S v0 = some res := hf
  rw [fX13_longOf] at hf
  refine lv_iconst (v := 0) C.1 C.2.1 dX13_longOf_0 (by decide) ?_
  refine lv_istore_n (lv' := [(2, .int 0), (0, .long v0)]) C.1 C.2.1 dX13_longOf_1 rfl hl (by decide) rfl (fun ls hl => ?_)
  exact wX13_longOf_2 C hr _ S v0 0 hf _ _ _ hw (lv_sub hl [1, 0] rfl)
def fX13_small (S : sh_St) (v0 : Int32) : Option (Int32 × sh_St) :=
    if v0 < 65 then (some (v0, S))
    else (if 90 < v0 then (some (v0, S))
    else (some (v0 + 32, S)))
set_option maxRecDepth 100000 in
set_option maxHeartbeats 4000000 in
theorem kX13_small (l : Launch) (v0 : Int32) : sh_Mi l yX13_small cX13_small 1 .int 1 tbM (fun G => [.int v0]) (fun S => fX13_small S v0) := by
  refine sh_mki (by decide) (fun G => Nat.le_of_ble_eq_true rfl) ?_
  intro p e s m args below meth c G A S res ls hf C hr hw hl
  have C : sh_Cx p s m args meth c cX13_small 1 RX13 G A := C
  have hl : lv_has ls 1 [(0, .int v0)] := hl
  replace hf : fX13_small S v0 = some res := hf
  rw [fX13_small] at hf
  refine lv_iload_n C.1 C.2.1 dX13_small_0 rfl (lv_at hl 0 rfl) ?_
  refine lv_bipush (v := 65) C.1 C.2.1 dX13_small_1 (by decide) ?_
  refine sh_icmp_lt (tgt := 19) C hf dX13_small_3 (by decide) (fun hf => ?_) (fun hf => ?_)
  · refine lv_iload_n C.1 C.2.1 dX13_small_19 rfl (lv_at hl 0 rfl) ?_
    exact sh_ri C hw hr hf dX13_small_20
  · refine lv_iload_n C.1 C.2.1 dX13_small_6 rfl (lv_at hl 0 rfl) ?_
    refine lv_bipush (v := 90) C.1 C.2.1 dX13_small_7 (by decide) ?_
    refine sh_icmp_gt (tgt := 19) C hf dX13_small_9 (by decide) (fun hf => ?_) (fun hf => ?_)
    · refine lv_iload_n C.1 C.2.1 dX13_small_19 rfl (lv_at hl 0 rfl) ?_
      exact sh_ri C hw hr hf dX13_small_20
    · refine lv_iload_n C.1 C.2.1 dX13_small_12 rfl (lv_at hl 0 rfl) ?_
      refine lv_bipush (v := 32) C.1 C.2.1 dX13_small_13 (by decide) ?_
      refine lv_iadd C.1 C.2.1 dX13_small_15 ?_
      refine lv_goto (tgt := 20) C.1 C.2.1 dX13_small_16 (by decide) ?_
      exact sh_ri C hw hr hf dX13_small_20
def fX13_folded_5 : Nat → sh_St → Int64 → Int64 → Int32 → Option (Int64 × sh_St)
  | 0, _, _, _, _ => none
  | n + 1, S, v0, v2, v4 =>
    if 8 ≤ v4 then (some (v2, S))
    else (sh_c (fX13_letterOf S v0 v4) fun r2 S1 =>
    sh_c (fX13_small S1 r2) fun r4 S3 =>
    sh_t ((v2 <<< ((Int32.toInt64 8) &&& 63)) ||| (Int32.toInt64 r4)) fun y5 =>
    sh_t (v4 + 1) fun y6 =>
    (fX13_folded_5 n) S3 v0 y5 y6)
set_option maxRecDepth 100000 in
set_option maxHeartbeats 4000000 in
theorem wX13_folded_5 {p : Program} {l : Launch} {e : Env} {s : State} {m : MethodId} {args : Array Value} {below : List Frame} {meth : Method} {c : Code} {G : sh_Ev} {A : Nat → Prop} {res : Int64 × sh_St} (C : sh_Cx p s m args meth c cX13_folded 5 RX13 G A) (hr : meth.sig.returnType = some .long) : ∀ (n : Nat) (S : sh_St) (v0 : Int64) (v2 : Int64) (v4 : Int32), fX13_folded_5 n S v0 v2 v4 = some res → ∀ (H : Heap) (locs : List Loc) (ls : Array Slot), sh_Wx G tbM A s H locs S → lv_has ls 5 [(0, .long v0), (2, .long v2), (4, .int v4)] → W p l e (sh_rm 2) s m args below meth c H locs 0 0 (sh_Ql below args s G tbM A res) (F0 m 5 ls []) := by
  intro n
  induction n with
  | zero => intro S v0 v2 v4 hf; exact nomatch (show (none : Option (Int64 × sh_St)) = some res from hf)
  | succ n ih =>
    intro S v0 v2 v4 hf H locs ls hw hl
    have hr5 := ih
    rw [fX13_folded_5] at hf
    refine lv_iload C.1 C.2.1 dX13_folded_5 (lv_at hl 2 rfl) ?_
    refine lv_bipush (v := 8) C.1 C.2.1 dX13_folded_7 (by decide) ?_
    refine sh_icmp_ge (tgt := 34) C hf dX13_folded_9 (by decide) (fun hf => ?_) (fun hf => ?_)
    · refine lv_lload_n C.1 C.2.1 dX13_folded_34 rfl (lv_at hl 1 rfl) ?_
      exact sh_rl C hw hr hf dX13_folded_35
    · refine lv_lload_n C.1 C.2.1 dX13_folded_12 rfl (lv_at hl 1 rfl) ?_
      refine lv_bipush (v := 8) C.1 C.2.1 dX13_folded_13 (by decide) ?_
      refine lv_lshl C.1 C.2.1 dX13_folded_15 rfl ?_
      refine lv_lload_n C.1 C.2.1 dX13_folded_16 rfl (lv_at hl 0 rfl) ?_
      refine lv_iload C.1 C.2.1 dX13_folded_17 (lv_at hl 2 rfl) ?_
      refine sh_Si (As := [.long v0, .int v4]) (rest := [.long (v2 <<< ((Int32.toInt64 8) &&& 63))]) C hw (kX13_letterOf l v0 v4) yy_X13_letterOf ys_X13_letterOf ml_X13_93 rfl hf rfl rfl rfl (Nat.le_of_ble_eq_true rfl) (by decide) hl.1 dX13_folded_19 (fun r2 S1 H locs hw hf => ?_)
      refine sh_Si (As := [.int r2]) (rest := [.long (v2 <<< ((Int32.toInt64 8) &&& 63))]) C hw (kX13_small l r2) yy_X13_small ys_X13_small ml_X13_97 rfl hf rfl rfl rfl (Nat.le_of_ble_eq_true rfl) (by decide) hl.1 dX13_folded_22 (fun r4 S3 H locs hw hf => ?_)
      refine lv_i2l C.1 C.2.1 dX13_folded_25 rfl ?_
      refine lv_lor C.1 C.2.1 dX13_folded_26 ?_
      refine sh_nl hf (fun y5 hf => ?_)
      refine lv_lstore_n (lv' := [(2, .long y5), (0, .long v0), (4, .int v4)]) C.1 C.2.1 dX13_folded_27 rfl hl (by decide) rfl (fun ls hl => ?_)
      obtain ⟨y6, ey6, hf⟩ := sh_nm hf
      refine lv_iinc (v := y6) (lv' := [(4, .int y6), (2, .long y5), (0, .long v0)]) C.1 C.2.1 dX13_folded_28 hl (k := 2) rfl (by rw [← ey6]; rfl) (by decide) rfl (fun ls hl => ?_)
      refine lv_goto (tgt := 5) C.1 C.2.1 dX13_folded_31 (by decide) ?_
      exact hr5 S3 v0 y5 y6 hf _ _ _ hw (lv_sub hl [2, 1, 0] rfl)
def fX13_folded (S : sh_St) (v0 : Int64) : Option (Int64 × sh_St) :=
    fX13_folded_5 sh_FU S v0 0 0
set_option maxRecDepth 100000 in
set_option maxHeartbeats 4000000 in
theorem kX13_folded (l : Launch) (v0 : Int64) : sh_Ml l yX13_folded cX13_folded 5 2 tbM (fun G => [.long v0]) (fun S => fX13_folded S v0) := by
  refine sh_mkl (by decide) (fun G => Nat.le_of_ble_eq_true rfl) ?_
  intro p e s m args below meth c G A S res ls hf C hr hw hl
  have C : sh_Cx p s m args meth c cX13_folded 5 RX13 G A := C
  have hl : lv_has ls 5 [(0, .long v0)] := hl
  replace hf : fX13_folded S v0 = some res := hf
  rw [fX13_folded] at hf
  refine lv_lconst (v := 0) C.1 C.2.1 dX13_folded_0 (by decide) ?_
  refine lv_lstore_n (lv' := [(2, .long 0), (0, .long v0)]) C.1 C.2.1 dX13_folded_1 rfl hl (by decide) rfl (fun ls hl => ?_)
  refine lv_iconst (v := 0) C.1 C.2.1 dX13_folded_2 (by decide) ?_
  refine lv_istore (lv' := [(4, .int 0), (2, .long 0), (0, .long v0)]) C.1 C.2.1 dX13_folded_3 hl (by decide) rfl (fun ls hl => ?_)
  exact wX13_folded_5 C hr _ S v0 0 0 hf _ _ _ hw (lv_sub hl [2, 1, 0] rfl)
def fX13_areOne_30 (S : sh_St) : Option (Int32 × sh_St) :=
    sh_b 1 (some (1, S))
set_option maxRecDepth 100000 in
set_option maxHeartbeats 4000000 in
theorem wX13_areOne_30 {p : Program} {l : Launch} {e : Env} {s : State} {m : MethodId} {args : Array Value} {below : List Frame} {meth : Method} {c : Code} {G : sh_Ev} {A : Nat → Prop} {res : Int32 × sh_St} (C : sh_Cx p s m args meth c cX13_areOne 5 RX13 G A) (hr : meth.sig.returnType = some .boolean) : ∀ (S : sh_St), fX13_areOne_30 S = some res → ∀ (H : Heap) (locs : List Loc) (ls : Array Slot), sh_Wx G tbM A s H locs S → lv_has ls 5 [] → W p l e (sh_rm 3) s m args below meth c H locs 0 0 (sh_Qi below args s G tbM A res) (F0 m 30 ls []) := by
  intro S hf H locs ls hw hl
  rw [fX13_areOne_30] at hf
  refine lv_iconst (v := 1) C.1 C.2.1 dX13_areOne_30 (by decide) ?_
  refine lv_goto (tgt := 35) C.1 C.2.1 dX13_areOne_31 (by decide) ?_
  exact sh_rz C hw hr hf dX13_areOne_35
def fX13_areOne (S : sh_St) (v1 : Int64) (v3 : Int64) : Option (Int32 × sh_St) :=
    if v1 = v3 then (fX13_areOne_30 S)
    else (sh_g 1083 1084 (if (S.1 1 (1083 : Int32).toNatClampNeg) = 1 then (sh_c (fX13_folded S v1) fun r2 S1 =>
    sh_c (fX13_folded S1 v3) fun r4 S3 =>
    if r2 = r4 then (fX13_areOne_30 S3)
    else (sh_b 0 (some (0, S3))))
    else (sh_b 0 (some (0, S)))))
set_option maxRecDepth 100000 in
set_option maxHeartbeats 4000000 in
theorem kX13_areOne (l : Launch) (v1 : Int64) (v3 : Int64) : sh_Mi l yX13_areOne cX13_areOne 5 .boolean 3 tbM (fun G => [.ref (G.2.1 0), .long v1, .long v3]) (fun S => fX13_areOne S v1 v3) := by
  refine sh_mki (by decide) (fun G => Nat.le_of_ble_eq_true rfl) ?_
  intro p e s m args below meth c G A S res ls hf C hr hw hl
  have C : sh_Cx p s m args meth c cX13_areOne 5 RX13 G A := C
  have hl : lv_has ls 5 [(0, .ref (G.2.1 0)), (1, .long v1), (3, .long v3)] := hl
  replace hf : fX13_areOne S v1 v3 = some res := hf
  rw [fX13_areOne] at hf
  refine lv_lload_n C.1 C.2.1 dX13_areOne_0 rfl (lv_at hl 1 rfl) ?_
  refine lv_lload_n C.1 C.2.1 dX13_areOne_1 rfl (lv_at hl 2 rfl) ?_
  refine sh_lcmp_eq (tgt := 30) C hf dX13_areOne_2 dX13_areOne_3 (by decide) (fun hf => ?_) (fun hf => ?_)
  · exact wX13_areOne_30 C hr S  hf _ _ _ hw (lv_sub hl [] rfl)
  · refine lv_aload_n C.1 C.2.1 dX13_areOne_6 rfl (lv_at hl 0 rfl) ?_
    refine sh_getr C hw fl_X13_7 tbM_0 rfl dX13_areOne_7 ?_
    refine lv_sipush (v := 1083) C.1 C.2.1 dX13_areOne_10 (by decide) ?_
    refine sh_iald C hw hf tbM_1 dX13_areOne_13 (fun hf => ?_)
    refine lv_iconst (v := 1) C.1 C.2.1 dX13_areOne_14 (by decide) ?_
    refine sh_icmp_ne (tgt := 34) C hf dX13_areOne_15 (by decide) (fun hf => ?_) (fun hf => ?_)
    · refine lv_iconst (v := 0) C.1 C.2.1 dX13_areOne_34 (by decide) ?_
      exact sh_rz C hw hr hf dX13_areOne_35
    · refine lv_lload_n C.1 C.2.1 dX13_areOne_18 rfl (lv_at hl 1 rfl) ?_
      refine sh_Sl (As := [.long v1]) (rest := []) C hw (kX13_folded l v1) yy_X13_folded ys_X13_folded ml_X13_101 rfl hf rfl rfl rfl (Nat.le_of_ble_eq_true rfl) (by decide) hl.1 dX13_areOne_19 (fun r2 S1 H locs hw hf => ?_)
      refine lv_lload_n C.1 C.2.1 dX13_areOne_22 rfl (lv_at hl 2 rfl) ?_
      refine sh_Sl (As := [.long v3]) (rest := [.long r2]) C hw (kX13_folded l v3) yy_X13_folded ys_X13_folded ml_X13_101 rfl hf rfl rfl rfl (Nat.le_of_ble_eq_true rfl) (by decide) hl.1 dX13_areOne_23 (fun r4 S3 H locs hw hf => ?_)
      refine sh_lcmp_ne (tgt := 34) C hf dX13_areOne_26 dX13_areOne_27 (by decide) (fun hf => ?_) (fun hf => ?_)
      · refine lv_iconst (v := 0) C.1 C.2.1 dX13_areOne_34 (by decide) ?_
        exact sh_rz C hw hr hf dX13_areOne_35
      · exact wX13_areOne_30 C hr S3  hf _ _ _ hw (lv_sub hl [] rfl)
def fX13_hash_44 (rk6 : sh_St → Int64 → Int32 → Int32 → Int32 → Int32 → Option (Int32 × sh_St)) (S : sh_St) (v0 : Int64) (v2 : Int32) (v4 : Int32) (v6 : Int32) (t0 : Int32) (t1 : Int32) : Option (Int32 × sh_St) :=
    sh_t ((t1 + t0) &&& 65535) fun y5 =>
    sh_t (y5 ^^^ (y5 >>> (7 &&& 31))) fun y6 =>
    sh_t (v6 + 1) fun y7 =>
    rk6 S v0 v2 v4 y6 y7
set_option maxRecDepth 100000 in
set_option maxHeartbeats 4000000 in
theorem wX13_hash_44 {p : Program} {l : Launch} {e : Env} {s : State} {m : MethodId} {args : Array Value} {below : List Frame} {meth : Method} {c : Code} {G : sh_Ev} {A : Nat → Prop} {res : Int32 × sh_St} (C : sh_Cx p s m args meth c cX13_hash 8 RX13 G A) (hr : meth.sig.returnType = some .int) (rk6 : sh_St → Int64 → Int32 → Int32 → Int32 → Int32 → Option (Int32 × sh_St)) (hr6 : ∀ (S : sh_St) (v0 : Int64) (v2 : Int32) (v4 : Int32) (v5 : Int32) (v6 : Int32), rk6 S v0 v2 v4 v5 v6 = some res → ∀ (H : Heap) (locs : List Loc) (ls : Array Slot), sh_Wx G tbM A s H locs S → lv_has ls 8 [(0, .long v0), (2, .int v2), (4, .int v4), (5, .int v5), (6, .int v6)] → W p l e (sh_rm 3) s m args below meth c H locs 0 0 (sh_Qi below args s G tbM A res) (F0 m 6 ls [])) : ∀ (S : sh_St) (v0 : Int64) (v2 : Int32) (v4 : Int32) (v6 : Int32) (t0 : Int32) (t1 : Int32), fX13_hash_44 rk6 S v0 v2 v4 v6 t0 t1 = some res → ∀ (H : Heap) (locs : List Loc) (ls : Array Slot), sh_Wx G tbM A s H locs S → lv_has ls 8 [(0, .long v0), (2, .int v2), (4, .int v4), (6, .int v6)] → W p l e (sh_rm 3) s m args below meth c H locs 0 0 (sh_Qi below args s G tbM A res) (F0 m 44 ls [.int t0, .int t1]) := by
  intro S v0 v2 v4 v6 t0 t1 hf H locs ls hw hl
  rw [fX13_hash_44] at hf
  refine lv_iadd C.1 C.2.1 dX13_hash_44 ?_
  refine lv_ldc C.1 C.2.1 C.2.2.2.1 (C.2.2.2.2.1 _ kc_X13_109) dX13_hash_45 ?_
  refine lv_iand C.1 C.2.1 dX13_hash_47 ?_
  refine sh_ni hf (fun y5 hf => ?_)
  refine lv_istore (lv' := [(5, .int y5), (0, .long v0), (2, .int v2), (4, .int v4), (6, .int v6)]) C.1 C.2.1 dX13_hash_48 hl (by decide) rfl (fun ls hl => ?_)
  refine lv_iload C.1 C.2.1 dX13_hash_50 (lv_at hl 0 rfl) ?_
  refine lv_iload C.1 C.2.1 dX13_hash_52 (lv_at hl 0 rfl) ?_
  refine lv_bipush (v := 7) C.1 C.2.1 dX13_hash_54 (by decide) ?_
  refine lv_ishr C.1 C.2.1 dX13_hash_56 ?_
  refine lv_ixor C.1 C.2.1 dX13_hash_57 ?_
  refine sh_ni hf (fun y6 hf => ?_)
  refine lv_istore (lv' := [(5, .int y6), (0, .long v0), (2, .int v2), (4, .int v4), (6, .int v6)]) C.1 C.2.1 dX13_hash_58 hl (by decide) rfl (fun ls hl => ?_)
  obtain ⟨y7, ey7, hf⟩ := sh_nm hf
  refine lv_iinc (v := y7) (lv' := [(6, .int y7), (5, .int y6), (0, .long v0), (2, .int v2), (4, .int v4)]) C.1 C.2.1 dX13_hash_60 hl (k := 4) rfl (by rw [← ey7]; rfl) (by decide) rfl (fun ls hl => ?_)
  refine lv_goto (tgt := 6) C.1 C.2.1 dX13_hash_63 (by decide) ?_
  exact hr6 S v0 v2 v4 y6 y7 hf _ _ _ hw (lv_sub hl [2, 3, 4, 1, 0] rfl)
def fX13_hash_6 : Nat → sh_St → Int64 → Int32 → Int32 → Int32 → Int32 → Option (Int32 × sh_St)
  | 0, _, _, _, _, _, _ => none
  | n + 1, S, v0, v2, v4, v5, v6 =>
    sh_c (fX13_longOf S v0) fun r2 S1 =>
    if r2 ≤ v6 then (some (v5 &&& ((1 <<< (v2 &&& 31)) - 1), S1))
    else (sh_c (fX13_letterOf S1 v0 v6) fun r4 S3 =>
    if v4 = 1 then (sh_c (fX13_small S3 r4) fun r9 S8 =>
    fX13_hash_44 (fX13_hash_6 n) S8 v0 v2 v4 v6 r9 (31 * v5))
    else (fX13_hash_44 (fX13_hash_6 n) S3 v0 v2 v4 v6 r4 (31 * v5)))
set_option maxRecDepth 100000 in
set_option maxHeartbeats 4000000 in
theorem wX13_hash_6 {p : Program} {l : Launch} {e : Env} {s : State} {m : MethodId} {args : Array Value} {below : List Frame} {meth : Method} {c : Code} {G : sh_Ev} {A : Nat → Prop} {res : Int32 × sh_St} (C : sh_Cx p s m args meth c cX13_hash 8 RX13 G A) (hr : meth.sig.returnType = some .int) : ∀ (n : Nat) (S : sh_St) (v0 : Int64) (v2 : Int32) (v4 : Int32) (v5 : Int32) (v6 : Int32), fX13_hash_6 n S v0 v2 v4 v5 v6 = some res → ∀ (H : Heap) (locs : List Loc) (ls : Array Slot), sh_Wx G tbM A s H locs S → lv_has ls 8 [(0, .long v0), (2, .int v2), (4, .int v4), (5, .int v5), (6, .int v6)] → W p l e (sh_rm 3) s m args below meth c H locs 0 0 (sh_Qi below args s G tbM A res) (F0 m 6 ls []) := by
  intro n
  induction n with
  | zero => intro S v0 v2 v4 v5 v6 hf; exact nomatch (show (none : Option (Int32 × sh_St)) = some res from hf)
  | succ n ih =>
    intro S v0 v2 v4 v5 v6 hf H locs ls hw hl
    have hr6 := ih
    rw [fX13_hash_6] at hf
    refine lv_iload C.1 C.2.1 dX13_hash_6 (lv_at hl 4 rfl) ?_
    refine lv_lload_n C.1 C.2.1 dX13_hash_8 rfl (lv_at hl 0 rfl) ?_
    refine sh_Si (As := [.long v0]) (rest := [.int v6]) C hw (kX13_longOf l v0) yy_X13_longOf ys_X13_longOf ml_X13_105 rfl hf rfl rfl rfl (Nat.le_of_ble_eq_true rfl) (by decide) hl.1 dX13_hash_9 (fun r2 S1 H locs hw hf => ?_)
    refine sh_icmp_ge (tgt := 66) C hf dX13_hash_12 (by decide) (fun hf => ?_) (fun hf => ?_)
    · refine lv_iload C.1 C.2.1 dX13_hash_66 (lv_at hl 3 rfl) ?_
      refine lv_iconst (v := 1) C.1 C.2.1 dX13_hash_68 (by decide) ?_
      refine lv_iload_n C.1 C.2.1 dX13_hash_69 rfl (lv_at hl 1 rfl) ?_
      refine lv_ishl C.1 C.2.1 dX13_hash_70 ?_
      refine lv_iconst (v := 1) C.1 C.2.1 dX13_hash_71 (by decide) ?_
      refine lv_isub C.1 C.2.1 dX13_hash_72 ?_
      refine lv_iand C.1 C.2.1 dX13_hash_73 ?_
      exact sh_ri C hw hr hf dX13_hash_74
    · refine lv_lload_n C.1 C.2.1 dX13_hash_15 rfl (lv_at hl 0 rfl) ?_
      refine lv_iload C.1 C.2.1 dX13_hash_16 (lv_at hl 4 rfl) ?_
      refine sh_Si (As := [.long v0, .int v6]) (rest := []) C hw (kX13_letterOf l v0 v6) yy_X13_letterOf ys_X13_letterOf ml_X13_93 rfl hf rfl rfl rfl (Nat.le_of_ble_eq_true rfl) (by decide) hl.1 dX13_hash_18 (fun r4 S3 H locs hw hf => ?_)
      refine lv_istore (lv' := [(7, .int r4), (0, .long v0), (2, .int v2), (4, .int v4), (5, .int v5), (6, .int v6)]) C.1 C.2.1 dX13_hash_21 hl (by decide) rfl (fun ls hl => ?_)
      refine lv_bipush (v := 31) C.1 C.2.1 dX13_hash_23 (by decide) ?_
      refine lv_iload C.1 C.2.1 dX13_hash_25 (lv_at hl 4 rfl) ?_
      refine lv_imul C.1 C.2.1 dX13_hash_27 ?_
      refine lv_iload C.1 C.2.1 dX13_hash_28 (lv_at hl 3 rfl) ?_
      refine lv_iconst (v := 1) C.1 C.2.1 dX13_hash_30 (by decide) ?_
      refine sh_icmp_ne (tgt := 42) C hf dX13_hash_31 (by decide) (fun hf => ?_) (fun hf => ?_)
      · refine lv_iload C.1 C.2.1 dX13_hash_42 (lv_at hl 0 rfl) ?_
        exact wX13_hash_44 C hr (fX13_hash_6 n) hr6 S3 v0 v2 v4 v6 r4 (31 * v5) hf _ _ _ hw (lv_sub hl [1, 2, 3, 5] rfl)
      · refine lv_iload C.1 C.2.1 dX13_hash_34 (lv_at hl 0 rfl) ?_
        refine sh_Si (As := [.int r4]) (rest := [.int (31 * v5)]) C hw (kX13_small l r4) yy_X13_small ys_X13_small ml_X13_97 rfl hf rfl rfl rfl (Nat.le_of_ble_eq_true rfl) (by decide) hl.1 dX13_hash_36 (fun r9 S8 H locs hw hf => ?_)
        refine lv_goto (tgt := 44) C.1 C.2.1 dX13_hash_39 (by decide) ?_
        exact wX13_hash_44 C hr (fX13_hash_6 n) hr6 S8 v0 v2 v4 v6 r9 (31 * v5) hf _ _ _ hw (lv_sub hl [1, 2, 3, 5] rfl)
def fX13_hash (S : sh_St) (v0 : Int64) (v2 : Int32) (v3 : Int32) (v4 : Int32) : Option (Int32 × sh_St) :=
    fX13_hash_6 sh_FU S v0 v2 v4 v3 0
set_option maxRecDepth 100000 in
set_option maxHeartbeats 4000000 in
theorem kX13_hash (l : Launch) (v0 : Int64) (v2 : Int32) (v3 : Int32) (v4 : Int32) : sh_Mi l yX13_hash cX13_hash 8 .int 3 tbM (fun G => [.long v0, .int v2, .int v3, .int v4]) (fun S => fX13_hash S v0 v2 v3 v4) := by
  refine sh_mki (by decide) (fun G => Nat.le_of_ble_eq_true rfl) ?_
  intro p e s m args below meth c G A S res ls hf C hr hw hl
  have C : sh_Cx p s m args meth c cX13_hash 8 RX13 G A := C
  have hl : lv_has ls 8 [(0, .long v0), (2, .int v2), (3, .int v3), (4, .int v4)] := hl
  replace hf : fX13_hash S v0 v2 v3 v4 = some res := hf
  rw [fX13_hash] at hf
  refine lv_iload_n C.1 C.2.1 dX13_hash_0 rfl (lv_at hl 2 rfl) ?_
  refine lv_istore (lv' := [(5, .int v3), (0, .long v0), (2, .int v2), (3, .int v3), (4, .int v4)]) C.1 C.2.1 dX13_hash_1 hl (by decide) rfl (fun ls hl => ?_)
  refine lv_iconst (v := 0) C.1 C.2.1 dX13_hash_3 (by decide) ?_
  refine lv_istore (lv' := [(6, .int 0), (5, .int v3), (0, .long v0), (2, .int v2), (3, .int v3), (4, .int v4)]) C.1 C.2.1 dX13_hash_4 hl (by decide) rfl (fun ls hl => ?_)
  exact wX13_hash_6 C hr _ S v0 v2 v4 v3 0 hf _ _ _ hw (lv_sub hl [2, 3, 5, 1, 0] rfl)
def fX13_hashOf (S : sh_St) (v1 : Int64) : Option (Int32 × sh_St) :=
    sh_g 1081 1084 (sh_g 1082 1084 (sh_g 1083 1084 (sh_c (fX13_hash S v1 (S.1 1 (1081 : Int32).toNatClampNeg) (S.1 1 (1082 : Int32).toNatClampNeg) (S.1 1 (1083 : Int32).toNatClampNeg)) fun r2 S1 =>
    some (r2, S1))))
set_option maxRecDepth 100000 in
set_option maxHeartbeats 4000000 in
theorem kX13_hashOf (l : Launch) (v1 : Int64) : sh_Mi l yX13_hashOf cX13_hashOf 3 .int 4 tbM (fun G => [.ref (G.2.1 0), .long v1]) (fun S => fX13_hashOf S v1) := by
  refine sh_mki (by decide) (fun G => Nat.le_of_ble_eq_true rfl) ?_
  intro p e s m args below meth c G A S res ls hf C hr hw hl
  have C : sh_Cx p s m args meth c cX13_hashOf 3 RX13 G A := C
  have hl : lv_has ls 3 [(0, .ref (G.2.1 0)), (1, .long v1)] := hl
  replace hf : fX13_hashOf S v1 = some res := hf
  rw [fX13_hashOf] at hf
  refine lv_lload_n C.1 C.2.1 dX13_hashOf_0 rfl (lv_at hl 1 rfl) ?_
  refine lv_aload_n C.1 C.2.1 dX13_hashOf_1 rfl (lv_at hl 0 rfl) ?_
  refine sh_getr C hw fl_X13_7 tbM_0 rfl dX13_hashOf_2 ?_
  refine lv_sipush (v := 1081) C.1 C.2.1 dX13_hashOf_5 (by decide) ?_
  refine sh_iald C hw hf tbM_1 dX13_hashOf_8 (fun hf => ?_)
  refine lv_aload_n C.1 C.2.1 dX13_hashOf_9 rfl (lv_at hl 0 rfl) ?_
  refine sh_getr C hw fl_X13_7 tbM_0 rfl dX13_hashOf_10 ?_
  refine lv_sipush (v := 1082) C.1 C.2.1 dX13_hashOf_13 (by decide) ?_
  refine sh_iald C hw hf tbM_1 dX13_hashOf_16 (fun hf => ?_)
  refine lv_aload_n C.1 C.2.1 dX13_hashOf_17 rfl (lv_at hl 0 rfl) ?_
  refine sh_getr C hw fl_X13_7 tbM_0 rfl dX13_hashOf_18 ?_
  refine lv_sipush (v := 1083) C.1 C.2.1 dX13_hashOf_21 (by decide) ?_
  refine sh_iald C hw hf tbM_1 dX13_hashOf_24 (fun hf => ?_)
  refine sh_Si (As := [.long v1, .int (S.1 1 (1081 : Int32).toNatClampNeg), .int (S.1 1 (1082 : Int32).toNatClampNeg), .int (S.1 1 (1083 : Int32).toNatClampNeg)]) (rest := []) C hw (kX13_hash l v1 (S.1 1 (1081 : Int32).toNatClampNeg) (S.1 1 (1082 : Int32).toNatClampNeg) (S.1 1 (1083 : Int32).toNatClampNeg)) yy_X13_hash ys_X13_hash ml_X13_110 rfl hf rfl rfl rfl (Nat.le_of_ble_eq_true rfl) (by decide) hl.1 dX13_hashOf_25 (fun r2 S1 H locs hw hf => ?_)
  exact sh_ri C hw hr hf dX13_hashOf_28
def fX13_joins (S : sh_St) (v1 : Int32) (v2 : Int32) : Option (Unit × sh_St) :=
    sh_c (fX13_rowAt S v1 v2 2) fun r2 S1 =>
    sh_g r2 1084 (sh_g (S.1 0 27) 40 (sh_t (sh_I S1 15 (S.1 0 27).toNatClampNeg (S1.1 1 r2.toNatClampNeg)) fun S3 =>
    sh_c (fX13_rowAt S3 v1 v2 0) fun r5 S4 =>
    sh_g r5 1084 (sh_g (S3.1 0 27) 40 (sh_t (sh_I S4 16 (S3.1 0 27).toNatClampNeg (S4.1 1 r5.toNatClampNeg)) fun S6 =>
    sh_c (fX13_rowAt S6 v1 v2 1) fun r8 S7 =>
    sh_g r8 1084 (sh_g (S6.1 0 27) 40 (sh_t (sh_I S7 17 (S6.1 0 27).toNatClampNeg (S7.1 1 r8.toNatClampNeg)) fun S9 =>
    sh_t (sh_I S9 0 27 ((S9.1 0 27) + 1)) fun S10 =>
    some ((), S10)))))))
set_option maxRecDepth 100000 in
set_option maxHeartbeats 4000000 in
theorem kX13_joins (l : Launch) (v1 : Int32) (v2 : Int32) : sh_Mv l yX13_joins cX13_joins 3 2 tbM (fun G => [.ref (G.2.1 0), .int v1, .int v2]) (fun S => fX13_joins S v1 v2) := by
  refine sh_mkv (by decide) (fun G => Nat.le_of_ble_eq_true rfl) ?_
  intro p e s m args below meth c G A S res ls hf C hr hw hl
  have C : sh_Cx p s m args meth c cX13_joins 3 RX13 G A := C
  have hl : lv_has ls 3 [(0, .ref (G.2.1 0)), (1, .int v1), (2, .int v2)] := hl
  replace hf : fX13_joins S v1 v2 = some res := hf
  rw [fX13_joins] at hf
  refine lv_aload_n C.1 C.2.1 dX13_joins_0 rfl (lv_at hl 0 rfl) ?_
  refine sh_getr C hw fl_X13_58 tbM_0 rfl dX13_joins_1 ?_
  refine lv_aload_n C.1 C.2.1 dX13_joins_4 rfl (lv_at hl 0 rfl) ?_
  refine sh_geti C hw fl_X13_114 tbM_0 rfl dX13_joins_5 ?_
  refine lv_aload_n C.1 C.2.1 dX13_joins_8 rfl (lv_at hl 0 rfl) ?_
  refine sh_getr C hw fl_X13_7 tbM_0 rfl dX13_joins_9 ?_
  refine lv_iload_n C.1 C.2.1 dX13_joins_12 rfl (lv_at hl 1 rfl) ?_
  refine lv_iload_n C.1 C.2.1 dX13_joins_13 rfl (lv_at hl 2 rfl) ?_
  refine lv_iconst (v := 2) C.1 C.2.1 dX13_joins_14 (by decide) ?_
  refine sh_Si (As := [.int v1, .int v2, .int 2]) (rest := [.ref (G.2.1 1), .int (S.1 0 27), .ref (G.2.1 15)]) C hw (kX13_rowAt l v1 v2 2) yy_X13_rowAt ys_X13_rowAt ml_X13_117 rfl hf rfl rfl rfl (Nat.le_of_ble_eq_true rfl) (by decide) hl.1 dX13_joins_15 (fun r2 S1 H locs hw hf => ?_)
  refine sh_iald C hw hf tbM_1 dX13_joins_18 (fun hf => ?_)
  refine sh_iast C hw hf tbM_15 dX13_joins_19 (fun S3 H locs hw hf => ?_)
  refine lv_aload_n C.1 C.2.1 dX13_joins_20 rfl (lv_at hl 0 rfl) ?_
  refine sh_getr C hw fl_X13_61 tbM_0 rfl dX13_joins_21 ?_
  refine lv_aload_n C.1 C.2.1 dX13_joins_24 rfl (lv_at hl 0 rfl) ?_
  refine sh_geti C hw fl_X13_114 tbM_0 rfl dX13_joins_25 ?_
  refine lv_aload_n C.1 C.2.1 dX13_joins_28 rfl (lv_at hl 0 rfl) ?_
  refine sh_getr C hw fl_X13_7 tbM_0 rfl dX13_joins_29 ?_
  refine lv_iload_n C.1 C.2.1 dX13_joins_32 rfl (lv_at hl 1 rfl) ?_
  refine lv_iload_n C.1 C.2.1 dX13_joins_33 rfl (lv_at hl 2 rfl) ?_
  refine lv_iconst (v := 0) C.1 C.2.1 dX13_joins_34 (by decide) ?_
  refine sh_Si (As := [.int v1, .int v2, .int 0]) (rest := [.ref (G.2.1 1), .int (S3.1 0 27), .ref (G.2.1 16)]) C hw (kX13_rowAt l v1 v2 0) yy_X13_rowAt ys_X13_rowAt ml_X13_117 rfl hf rfl rfl rfl (Nat.le_of_ble_eq_true rfl) (by decide) hl.1 dX13_joins_35 (fun r5 S4 H locs hw hf => ?_)
  refine sh_iald C hw hf tbM_1 dX13_joins_38 (fun hf => ?_)
  refine sh_iast C hw hf tbM_16 dX13_joins_39 (fun S6 H locs hw hf => ?_)
  refine lv_aload_n C.1 C.2.1 dX13_joins_40 rfl (lv_at hl 0 rfl) ?_
  refine sh_getr C hw fl_X13_64 tbM_0 rfl dX13_joins_41 ?_
  refine lv_aload_n C.1 C.2.1 dX13_joins_44 rfl (lv_at hl 0 rfl) ?_
  refine sh_geti C hw fl_X13_114 tbM_0 rfl dX13_joins_45 ?_
  refine lv_aload_n C.1 C.2.1 dX13_joins_48 rfl (lv_at hl 0 rfl) ?_
  refine sh_getr C hw fl_X13_7 tbM_0 rfl dX13_joins_49 ?_
  refine lv_iload_n C.1 C.2.1 dX13_joins_52 rfl (lv_at hl 1 rfl) ?_
  refine lv_iload_n C.1 C.2.1 dX13_joins_53 rfl (lv_at hl 2 rfl) ?_
  refine lv_iconst (v := 1) C.1 C.2.1 dX13_joins_54 (by decide) ?_
  refine sh_Si (As := [.int v1, .int v2, .int 1]) (rest := [.ref (G.2.1 1), .int (S6.1 0 27), .ref (G.2.1 17)]) C hw (kX13_rowAt l v1 v2 1) yy_X13_rowAt ys_X13_rowAt ml_X13_117 rfl hf rfl rfl rfl (Nat.le_of_ble_eq_true rfl) (by decide) hl.1 dX13_joins_55 (fun r8 S7 H locs hw hf => ?_)
  refine sh_iald C hw hf tbM_1 dX13_joins_58 (fun hf => ?_)
  refine sh_iast C hw hf tbM_17 dX13_joins_59 (fun S9 H locs hw hf => ?_)
  refine lv_aload_n C.1 C.2.1 dX13_joins_60 rfl (lv_at hl 0 rfl) ?_
  refine lv_dup C.1 C.2.1 dX13_joins_61 rfl ?_
  refine sh_geti C hw fl_X13_114 tbM_0 rfl dX13_joins_62 ?_
  refine lv_iconst (v := 1) C.1 C.2.1 dX13_joins_65 (by decide) ?_
  refine lv_iadd C.1 C.2.1 dX13_joins_66 ?_
  refine sh_puti C hw fl_X13_114 fp_11_27 hf tbM_0 rfl dX13_joins_67 (fun S10 H locs hw hf => ?_)
  exact sh_rv C hw hr hf dX13_joins_70
def fX13_laysLine_116 (rk45 : sh_St → Int32 → Option (Unit × sh_St)) (S : sh_St) (v1 : Int32) : Option (Unit × sh_St) :=
    sh_t (v1 + 1) fun y5 =>
    rk45 S y5
set_option maxRecDepth 100000 in
set_option maxHeartbeats 4000000 in
theorem wX13_laysLine_116 {p : Program} {l : Launch} {e : Env} {s : State} {m : MethodId} {args : Array Value} {below : List Frame} {meth : Method} {c : Code} {G : sh_Ev} {A : Nat → Prop} {res : Unit × sh_St} (C : sh_Cx p s m args meth c cX13_laysLine 4 RX13 G A) (hr : meth.sig.returnType = none) (rk45 : sh_St → Int32 → Option (Unit × sh_St)) (hr45 : ∀ (S : sh_St) (v1 : Int32), rk45 S v1 = some res → ∀ (H : Heap) (locs : List Loc) (ls : Array Slot), sh_Wx G tbM A s H locs S → lv_has ls 4 [(0, .ref (G.2.1 0)), (1, .int v1)] → W p l e (sh_rm 3) s m args below meth c H locs 0 0 (sh_Qv below args s G tbM A res) (F0 m 45 ls [])) : ∀ (S : sh_St) (v1 : Int32), fX13_laysLine_116 rk45 S v1 = some res → ∀ (H : Heap) (locs : List Loc) (ls : Array Slot), sh_Wx G tbM A s H locs S → lv_has ls 4 [(0, .ref (G.2.1 0)), (1, .int v1)] → W p l e (sh_rm 3) s m args below meth c H locs 0 0 (sh_Qv below args s G tbM A res) (F0 m 116 ls []) := by
  intro S v1 hf H locs ls hw hl
  rw [fX13_laysLine_116] at hf
  obtain ⟨y5, ey5, hf⟩ := sh_nm hf
  refine lv_iinc (v := y5) (lv' := [(1, .int y5), (0, .ref (G.2.1 0))]) C.1 C.2.1 dX13_laysLine_116 hl (k := 1) rfl (by rw [← ey5]; rfl) (by decide) rfl (fun ls hl => ?_)
  refine lv_goto (tgt := 45) C.1 C.2.1 dX13_laysLine_119 (by decide) ?_
  exact hr45 S y5 hf _ _ _ hw (lv_sub hl [1, 0] rfl)
def fX13_laysLine_91 (rk45 : sh_St → Int32 → Option (Unit × sh_St)) : Nat → sh_St → Int32 → Int32 → Int32 → Option (Unit × sh_St)
  | 0, _, _, _, _ => none
  | n + 1, S, v1, v2, v3 =>
    sh_g (80 + v2) 1084 (if (S.1 1 (80 + v2).toNatClampNeg) ≤ v3 then (fX13_laysLine_116 rk45 S v1)
    else (sh_c (fX13_joins S v2 v3) fun _ S6 =>
    sh_t (v3 + 1) fun y8 =>
    (fX13_laysLine_91 rk45 n) S6 v1 v2 y8))
set_option maxRecDepth 100000 in
set_option maxHeartbeats 4000000 in
theorem wX13_laysLine_91 {p : Program} {l : Launch} {e : Env} {s : State} {m : MethodId} {args : Array Value} {below : List Frame} {meth : Method} {c : Code} {G : sh_Ev} {A : Nat → Prop} {res : Unit × sh_St} (C : sh_Cx p s m args meth c cX13_laysLine 4 RX13 G A) (hr : meth.sig.returnType = none) (rk45 : sh_St → Int32 → Option (Unit × sh_St)) (hr45 : ∀ (S : sh_St) (v1 : Int32), rk45 S v1 = some res → ∀ (H : Heap) (locs : List Loc) (ls : Array Slot), sh_Wx G tbM A s H locs S → lv_has ls 4 [(0, .ref (G.2.1 0)), (1, .int v1)] → W p l e (sh_rm 3) s m args below meth c H locs 0 0 (sh_Qv below args s G tbM A res) (F0 m 45 ls [])) : ∀ (n : Nat) (S : sh_St) (v1 : Int32) (v2 : Int32) (v3 : Int32), fX13_laysLine_91 rk45 n S v1 v2 v3 = some res → ∀ (H : Heap) (locs : List Loc) (ls : Array Slot), sh_Wx G tbM A s H locs S → lv_has ls 4 [(0, .ref (G.2.1 0)), (1, .int v1), (2, .int v2), (3, .int v3)] → W p l e (sh_rm 3) s m args below meth c H locs 0 0 (sh_Qv below args s G tbM A res) (F0 m 91 ls []) := by
  intro n
  induction n with
  | zero => intro S v1 v2 v3 hf; exact nomatch (show (none : Option (Unit × sh_St)) = some res from hf)
  | succ n ih =>
    intro S v1 v2 v3 hf H locs ls hw hl
    have hr91 := ih
    rw [fX13_laysLine_91] at hf
    refine lv_iload_n C.1 C.2.1 dX13_laysLine_91 rfl (lv_at hl 3 rfl) ?_
    refine lv_aload_n C.1 C.2.1 dX13_laysLine_92 rfl (lv_at hl 0 rfl) ?_
    refine sh_getr C hw fl_X13_7 tbM_0 rfl dX13_laysLine_93 ?_
    refine lv_bipush (v := 80) C.1 C.2.1 dX13_laysLine_96 (by decide) ?_
    refine lv_iload_n C.1 C.2.1 dX13_laysLine_98 rfl (lv_at hl 2 rfl) ?_
    refine lv_iadd C.1 C.2.1 dX13_laysLine_99 ?_
    refine sh_iald C hw hf tbM_1 dX13_laysLine_100 (fun hf => ?_)
    refine sh_icmp_ge (tgt := 116) C hf dX13_laysLine_101 (by decide) (fun hf => ?_) (fun hf => ?_)
    · exact wX13_laysLine_116 C hr rk45 hr45 S v1 hf _ _ _ hw (lv_sub hl [0, 1] rfl)
    · refine lv_aload_n C.1 C.2.1 dX13_laysLine_104 rfl (lv_at hl 0 rfl) ?_
      refine lv_iload_n C.1 C.2.1 dX13_laysLine_105 rfl (lv_at hl 2 rfl) ?_
      refine lv_iload_n C.1 C.2.1 dX13_laysLine_106 rfl (lv_at hl 3 rfl) ?_
      refine sh_Vv (As := [.int v2, .int v3]) (rest := []) C hw (kX13_joins l v2 v3) yy_X13_joins yv_X13_joins ml_X13_121 hf tbM_0 rfl rfl rfl rfl (Nat.le_of_ble_eq_true rfl) (by decide) hl.1 dX13_laysLine_107 (fun S6 H locs hw hf => ?_)
      obtain ⟨y8, ey8, hf⟩ := sh_nm hf
      refine lv_iinc (v := y8) (lv' := [(3, .int y8), (0, .ref (G.2.1 0)), (1, .int v1), (2, .int v2)]) C.1 C.2.1 dX13_laysLine_110 hl (k := 3) rfl (by rw [← ey8]; rfl) (by decide) rfl (fun ls hl => ?_)
      refine lv_goto (tgt := 91) C.1 C.2.1 dX13_laysLine_113 (by decide) ?_
      exact hr91 S6 v1 v2 y8 hf _ _ _ hw (lv_sub hl [1, 2, 3, 0] rfl)
def fX13_laysLine_45 : Nat → sh_St → Int32 → Option (Unit × sh_St)
  | 0, _, _ => none
  | n + 1, S, v1 =>
    sh_g 80 1084 (if (S.1 1 (80 : Int32).toNatClampNeg) ≤ v1 then (some ((), S))
    else (sh_g 1080 1084 (if (S.1 1 (1080 : Int32).toNatClampNeg) = 1 then (sh_c (fX13_joins S 0 v1) fun _ S9 =>
    fX13_laysLine_116 (fX13_laysLine_45 n) S9 v1)
    else (sh_c (fX13_rowAt S 0 v1 2) fun r3 S2 =>
    sh_g r3 1084 (sh_t (S2.1 1 r3.toNatClampNeg) fun y4 =>
    fX13_laysLine_91 (fX13_laysLine_45 n) sh_FU S2 v1 y4 0)))))
set_option maxRecDepth 100000 in
set_option maxHeartbeats 4000000 in
theorem wX13_laysLine_45 {p : Program} {l : Launch} {e : Env} {s : State} {m : MethodId} {args : Array Value} {below : List Frame} {meth : Method} {c : Code} {G : sh_Ev} {A : Nat → Prop} {res : Unit × sh_St} (C : sh_Cx p s m args meth c cX13_laysLine 4 RX13 G A) (hr : meth.sig.returnType = none) : ∀ (n : Nat) (S : sh_St) (v1 : Int32), fX13_laysLine_45 n S v1 = some res → ∀ (H : Heap) (locs : List Loc) (ls : Array Slot), sh_Wx G tbM A s H locs S → lv_has ls 4 [(0, .ref (G.2.1 0)), (1, .int v1)] → W p l e (sh_rm 3) s m args below meth c H locs 0 0 (sh_Qv below args s G tbM A res) (F0 m 45 ls []) := by
  intro n
  induction n with
  | zero => intro S v1 hf; exact nomatch (show (none : Option (Unit × sh_St)) = some res from hf)
  | succ n ih =>
    intro S v1 hf H locs ls hw hl
    have hr45 := ih
    rw [fX13_laysLine_45] at hf
    refine lv_iload_n C.1 C.2.1 dX13_laysLine_45 rfl (lv_at hl 1 rfl) ?_
    refine lv_aload_n C.1 C.2.1 dX13_laysLine_46 rfl (lv_at hl 0 rfl) ?_
    refine sh_getr C hw fl_X13_7 tbM_0 rfl dX13_laysLine_47 ?_
    refine lv_bipush (v := 80) C.1 C.2.1 dX13_laysLine_50 (by decide) ?_
    refine sh_iald C hw hf tbM_1 dX13_laysLine_52 (fun hf => ?_)
    refine sh_icmp_ge (tgt := 122) C hf dX13_laysLine_53 (by decide) (fun hf => ?_) (fun hf => ?_)
    · exact sh_rv C hw hr hf dX13_laysLine_122
    · refine lv_aload_n C.1 C.2.1 dX13_laysLine_56 rfl (lv_at hl 0 rfl) ?_
      refine sh_getr C hw fl_X13_7 tbM_0 rfl dX13_laysLine_57 ?_
      refine lv_sipush (v := 1080) C.1 C.2.1 dX13_laysLine_60 (by decide) ?_
      refine sh_iald C hw hf tbM_1 dX13_laysLine_63 (fun hf => ?_)
      refine lv_iconst (v := 1) C.1 C.2.1 dX13_laysLine_64 (by decide) ?_
      refine sh_icmp_ne (tgt := 77) C hf dX13_laysLine_65 (by decide) (fun hf => ?_) (fun hf => ?_)
      · refine lv_aload_n C.1 C.2.1 dX13_laysLine_77 rfl (lv_at hl 0 rfl) ?_
        refine sh_getr C hw fl_X13_7 tbM_0 rfl dX13_laysLine_78 ?_
        refine lv_iconst (v := 0) C.1 C.2.1 dX13_laysLine_81 (by decide) ?_
        refine lv_iload_n C.1 C.2.1 dX13_laysLine_82 rfl (lv_at hl 1 rfl) ?_
        refine lv_iconst (v := 2) C.1 C.2.1 dX13_laysLine_83 (by decide) ?_
        refine sh_Si (As := [.int 0, .int v1, .int 2]) (rest := [.ref (G.2.1 1)]) C hw (kX13_rowAt l 0 v1 2) yy_X13_rowAt ys_X13_rowAt ml_X13_117 rfl hf rfl rfl rfl (Nat.le_of_ble_eq_true rfl) (by decide) hl.1 dX13_laysLine_84 (fun r3 S2 H locs hw hf => ?_)
        refine sh_iald C hw hf tbM_1 dX13_laysLine_87 (fun hf => ?_)
        refine sh_ni hf (fun y4 hf => ?_)
        refine lv_istore_n (lv' := [(2, .int y4), (0, .ref (G.2.1 0)), (1, .int v1)]) C.1 C.2.1 dX13_laysLine_88 rfl hl (by decide) rfl (fun ls hl => ?_)
        refine lv_iconst (v := 0) C.1 C.2.1 dX13_laysLine_89 (by decide) ?_
        refine lv_istore_n (lv' := [(3, .int 0), (2, .int y4), (0, .ref (G.2.1 0)), (1, .int v1)]) C.1 C.2.1 dX13_laysLine_90 rfl hl (by decide) rfl (fun ls hl => ?_)
        exact wX13_laysLine_91 C hr (fX13_laysLine_45 n) hr45 _ S2 v1 y4 0 hf _ _ _ hw (lv_sub hl [2, 3, 1, 0] rfl)
      · refine lv_aload_n C.1 C.2.1 dX13_laysLine_68 rfl (lv_at hl 0 rfl) ?_
        refine lv_iconst (v := 0) C.1 C.2.1 dX13_laysLine_69 (by decide) ?_
        refine lv_iload_n C.1 C.2.1 dX13_laysLine_70 rfl (lv_at hl 1 rfl) ?_
        refine sh_Vv (As := [.int 0, .int v1]) (rest := []) C hw (kX13_joins l 0 v1) yy_X13_joins yv_X13_joins ml_X13_121 hf tbM_0 rfl rfl rfl rfl (Nat.le_of_ble_eq_true rfl) (by decide) hl.1 dX13_laysLine_71 (fun S9 H locs hw hf => ?_)
        refine lv_goto (tgt := 116) C.1 C.2.1 dX13_laysLine_74 (by decide) ?_
        exact wX13_laysLine_116 C hr (fX13_laysLine_45 n) hr45 S9 v1 hf _ _ _ hw (lv_sub hl [0, 1] rfl)
def fX13_laysLine (S : sh_St) : Option (Unit × sh_St) :=
    sh_t (sh_I S 0 27 0) fun S1 =>
    sh_g 1080 1084 (if (S1.1 1 (1080 : Int32).toNatClampNeg) = 0 then (sh_g 0 40 (sh_t (sh_I S1 15 (0 : Int32).toNatClampNeg 0) fun S11 =>
    sh_g 0 40 (sh_t (sh_I S11 16 (0 : Int32).toNatClampNeg 0) fun S12 =>
    sh_g 0 40 (sh_t (sh_I S12 17 (0 : Int32).toNatClampNeg 0) fun S13 =>
    sh_t (sh_I S13 0 27 1) fun S14 =>
    some ((), S14)))))
    else (fX13_laysLine_45 sh_FU S1 0))
set_option maxRecDepth 100000 in
set_option maxHeartbeats 4000000 in
theorem kX13_laysLine (l : Launch) : sh_Mv l yX13_laysLine cX13_laysLine 4 3 tbM (fun G => [.ref (G.2.1 0)]) (fun S => fX13_laysLine S) := by
  refine sh_mkv (by decide) (fun G => Nat.le_of_ble_eq_true rfl) ?_
  intro p e s m args below meth c G A S res ls hf C hr hw hl
  have C : sh_Cx p s m args meth c cX13_laysLine 4 RX13 G A := C
  have hl : lv_has ls 4 [(0, .ref (G.2.1 0))] := hl
  replace hf : fX13_laysLine S = some res := hf
  rw [fX13_laysLine] at hf
  refine lv_aload_n C.1 C.2.1 dX13_laysLine_0 rfl (lv_at hl 0 rfl) ?_
  refine lv_iconst (v := 0) C.1 C.2.1 dX13_laysLine_1 (by decide) ?_
  refine sh_puti C hw fl_X13_114 fp_11_27 hf tbM_0 rfl dX13_laysLine_2 (fun S1 H locs hw hf => ?_)
  refine lv_aload_n C.1 C.2.1 dX13_laysLine_5 rfl (lv_at hl 0 rfl) ?_
  refine sh_getr C hw fl_X13_7 tbM_0 rfl dX13_laysLine_6 ?_
  refine lv_sipush (v := 1080) C.1 C.2.1 dX13_laysLine_9 (by decide) ?_
  refine sh_iald C hw hf tbM_1 dX13_laysLine_12 (fun hf => ?_)
  refine sh_if_ne (tgt := 43) C hf dX13_laysLine_13 (by decide) (fun hf => ?_) (fun hf => ?_)
  · refine lv_iconst (v := 0) C.1 C.2.1 dX13_laysLine_43 (by decide) ?_
    refine lv_istore_n (lv' := [(1, .int 0), (0, .ref (G.2.1 0))]) C.1 C.2.1 dX13_laysLine_44 rfl hl (by decide) rfl (fun ls hl => ?_)
    exact wX13_laysLine_45 C hr _ S1 0 hf _ _ _ hw (lv_sub hl [1, 0] rfl)
  · refine lv_aload_n C.1 C.2.1 dX13_laysLine_16 rfl (lv_at hl 0 rfl) ?_
    refine sh_getr C hw fl_X13_58 tbM_0 rfl dX13_laysLine_17 ?_
    refine lv_iconst (v := 0) C.1 C.2.1 dX13_laysLine_20 (by decide) ?_
    refine lv_iconst (v := 0) C.1 C.2.1 dX13_laysLine_21 (by decide) ?_
    refine sh_iast C hw hf tbM_15 dX13_laysLine_22 (fun S11 H locs hw hf => ?_)
    refine lv_aload_n C.1 C.2.1 dX13_laysLine_23 rfl (lv_at hl 0 rfl) ?_
    refine sh_getr C hw fl_X13_61 tbM_0 rfl dX13_laysLine_24 ?_
    refine lv_iconst (v := 0) C.1 C.2.1 dX13_laysLine_27 (by decide) ?_
    refine lv_iconst (v := 0) C.1 C.2.1 dX13_laysLine_28 (by decide) ?_
    refine sh_iast C hw hf tbM_16 dX13_laysLine_29 (fun S12 H locs hw hf => ?_)
    refine lv_aload_n C.1 C.2.1 dX13_laysLine_30 rfl (lv_at hl 0 rfl) ?_
    refine sh_getr C hw fl_X13_64 tbM_0 rfl dX13_laysLine_31 ?_
    refine lv_iconst (v := 0) C.1 C.2.1 dX13_laysLine_34 (by decide) ?_
    refine lv_iconst (v := 0) C.1 C.2.1 dX13_laysLine_35 (by decide) ?_
    refine sh_iast C hw hf tbM_17 dX13_laysLine_36 (fun S13 H locs hw hf => ?_)
    refine lv_aload_n C.1 C.2.1 dX13_laysLine_37 rfl (lv_at hl 0 rfl) ?_
    refine lv_iconst (v := 1) C.1 C.2.1 dX13_laysLine_38 (by decide) ?_
    refine sh_puti C hw fl_X13_114 fp_11_27 hf tbM_0 rfl dX13_laysLine_39 (fun S14 H locs hw hf => ?_)
    exact sh_rv C hw hr hf dX13_laysLine_42
def fX13_rowFor_63 (rk5 : sh_St → Int32 → Int32 → Int32 → Int32 → Option (Int32 × sh_St)) (S : sh_St) (v1 : Int32) (v2 : Int32) (v3 : Int32) (v4 : Int32) : Option (Int32 × sh_St) :=
    sh_t (v4 + 1) fun y4 =>
    rk5 S v1 v2 v3 y4
set_option maxRecDepth 100000 in
set_option maxHeartbeats 4000000 in
theorem wX13_rowFor_63 {p : Program} {l : Launch} {e : Env} {s : State} {m : MethodId} {args : Array Value} {below : List Frame} {meth : Method} {c : Code} {G : sh_Ev} {A : Nat → Prop} {res : Int32 × sh_St} (C : sh_Cx p s m args meth c cX13_rowFor 6 RX13 G A) (hr : meth.sig.returnType = some .int) (rk5 : sh_St → Int32 → Int32 → Int32 → Int32 → Option (Int32 × sh_St)) (hr5 : ∀ (S : sh_St) (v1 : Int32) (v2 : Int32) (v3 : Int32) (v4 : Int32), rk5 S v1 v2 v3 v4 = some res → ∀ (H : Heap) (locs : List Loc) (ls : Array Slot), sh_Wx G tbM A s H locs S → lv_has ls 6 [(0, .ref (G.2.1 0)), (1, .int v1), (2, .int v2), (3, .int v3), (4, .int v4)] → W p l e (sh_rm 2) s m args below meth c H locs 0 0 (sh_Qi below args s G tbM A res) (F0 m 5 ls [])) : ∀ (S : sh_St) (v1 : Int32) (v2 : Int32) (v3 : Int32) (v4 : Int32), fX13_rowFor_63 rk5 S v1 v2 v3 v4 = some res → ∀ (H : Heap) (locs : List Loc) (ls : Array Slot), sh_Wx G tbM A s H locs S → lv_has ls 6 [(0, .ref (G.2.1 0)), (1, .int v1), (2, .int v2), (3, .int v3), (4, .int v4)] → W p l e (sh_rm 2) s m args below meth c H locs 0 0 (sh_Qi below args s G tbM A res) (F0 m 63 ls []) := by
  intro S v1 v2 v3 v4 hf H locs ls hw hl
  rw [fX13_rowFor_63] at hf
  obtain ⟨y4, ey4, hf⟩ := sh_nm hf
  refine lv_iinc (v := y4) (lv' := [(4, .int y4), (0, .ref (G.2.1 0)), (1, .int v1), (2, .int v2), (3, .int v3)]) C.1 C.2.1 dX13_rowFor_63 hl (k := 4) rfl (by rw [← ey4]; rfl) (by decide) rfl (fun ls hl => ?_)
  refine lv_goto (tgt := 5) C.1 C.2.1 dX13_rowFor_66 (by decide) ?_
  exact hr5 S v1 v2 v3 y4 hf _ _ _ hw (lv_sub hl [1, 2, 3, 4, 0] rfl)
def fX13_rowFor_60 (rk5 : sh_St → Int32 → Int32 → Int32 → Int32 → Option (Int32 × sh_St)) (S : sh_St) (v1 : Int32) (v2 : Int32) (v4 : Int32) : Option (Int32 × sh_St) :=
    fX13_rowFor_63 rk5 S v1 v2 v4 v4
set_option maxRecDepth 100000 in
set_option maxHeartbeats 4000000 in
theorem wX13_rowFor_60 {p : Program} {l : Launch} {e : Env} {s : State} {m : MethodId} {args : Array Value} {below : List Frame} {meth : Method} {c : Code} {G : sh_Ev} {A : Nat → Prop} {res : Int32 × sh_St} (C : sh_Cx p s m args meth c cX13_rowFor 6 RX13 G A) (hr : meth.sig.returnType = some .int) (rk5 : sh_St → Int32 → Int32 → Int32 → Int32 → Option (Int32 × sh_St)) (hr5 : ∀ (S : sh_St) (v1 : Int32) (v2 : Int32) (v3 : Int32) (v4 : Int32), rk5 S v1 v2 v3 v4 = some res → ∀ (H : Heap) (locs : List Loc) (ls : Array Slot), sh_Wx G tbM A s H locs S → lv_has ls 6 [(0, .ref (G.2.1 0)), (1, .int v1), (2, .int v2), (3, .int v3), (4, .int v4)] → W p l e (sh_rm 2) s m args below meth c H locs 0 0 (sh_Qi below args s G tbM A res) (F0 m 5 ls [])) : ∀ (S : sh_St) (v1 : Int32) (v2 : Int32) (v4 : Int32), fX13_rowFor_60 rk5 S v1 v2 v4 = some res → ∀ (H : Heap) (locs : List Loc) (ls : Array Slot), sh_Wx G tbM A s H locs S → lv_has ls 6 [(0, .ref (G.2.1 0)), (1, .int v1), (2, .int v2), (4, .int v4)] → W p l e (sh_rm 2) s m args below meth c H locs 0 0 (sh_Qi below args s G tbM A res) (F0 m 60 ls []) := by
  intro S v1 v2 v4 hf H locs ls hw hl
  rw [fX13_rowFor_60] at hf
  refine lv_iload C.1 C.2.1 dX13_rowFor_60 (lv_at hl 3 rfl) ?_
  refine lv_istore_n (lv' := [(3, .int v4), (0, .ref (G.2.1 0)), (1, .int v1), (2, .int v2), (4, .int v4)]) C.1 C.2.1 dX13_rowFor_62 rfl hl (by decide) rfl (fun ls hl => ?_)
  exact wX13_rowFor_63 C hr rk5 hr5 S v1 v2 v4 v4 hf _ _ _ hw (lv_sub hl [1, 2, 3, 0, 4] rfl)
def fX13_rowFor_5 : Nat → sh_St → Int32 → Int32 → Int32 → Int32 → Option (Int32 × sh_St)
  | 0, _, _, _, _, _ => none
  | n + 1, S, v1, v2, v3, v4 =>
    sh_g (80 + v1) 1084 (if (S.1 1 (80 + v1).toNatClampNeg) ≤ v4 then (some (v3, S))
    else (sh_c (fX13_rowAt S v1 v4 0) fun r2 S1 =>
    sh_g r2 1084 (sh_t (S1.1 1 r2.toNatClampNeg) fun y3 =>
    if y3 < v2 then (fX13_rowFor_60 (fX13_rowFor_5 n) S1 v1 v2 v4)
    else (if y3 = v2 then (sh_c (fX13_rowAt S1 v1 v4 1) fun r6 S5 =>
    sh_g r6 1084 (if (S5.1 1 r6.toNatClampNeg) = 0 then (fX13_rowFor_60 (fX13_rowFor_5 n) S5 v1 v2 v4)
    else (fX13_rowFor_63 (fX13_rowFor_5 n) S5 v1 v2 v3 v4)))
    else (fX13_rowFor_63 (fX13_rowFor_5 n) S1 v1 v2 v3 v4)))))
set_option maxRecDepth 100000 in
set_option maxHeartbeats 4000000 in
theorem wX13_rowFor_5 {p : Program} {l : Launch} {e : Env} {s : State} {m : MethodId} {args : Array Value} {below : List Frame} {meth : Method} {c : Code} {G : sh_Ev} {A : Nat → Prop} {res : Int32 × sh_St} (C : sh_Cx p s m args meth c cX13_rowFor 6 RX13 G A) (hr : meth.sig.returnType = some .int) : ∀ (n : Nat) (S : sh_St) (v1 : Int32) (v2 : Int32) (v3 : Int32) (v4 : Int32), fX13_rowFor_5 n S v1 v2 v3 v4 = some res → ∀ (H : Heap) (locs : List Loc) (ls : Array Slot), sh_Wx G tbM A s H locs S → lv_has ls 6 [(0, .ref (G.2.1 0)), (1, .int v1), (2, .int v2), (3, .int v3), (4, .int v4)] → W p l e (sh_rm 2) s m args below meth c H locs 0 0 (sh_Qi below args s G tbM A res) (F0 m 5 ls []) := by
  intro n
  induction n with
  | zero => intro S v1 v2 v3 v4 hf; exact nomatch (show (none : Option (Int32 × sh_St)) = some res from hf)
  | succ n ih =>
    intro S v1 v2 v3 v4 hf H locs ls hw hl
    have hr5 := ih
    rw [fX13_rowFor_5] at hf
    refine lv_iload C.1 C.2.1 dX13_rowFor_5 (lv_at hl 4 rfl) ?_
    refine lv_aload_n C.1 C.2.1 dX13_rowFor_7 rfl (lv_at hl 0 rfl) ?_
    refine sh_getr C hw fl_X13_7 tbM_0 rfl dX13_rowFor_8 ?_
    refine lv_bipush (v := 80) C.1 C.2.1 dX13_rowFor_11 (by decide) ?_
    refine lv_iload_n C.1 C.2.1 dX13_rowFor_13 rfl (lv_at hl 1 rfl) ?_
    refine lv_iadd C.1 C.2.1 dX13_rowFor_14 ?_
    refine sh_iald C hw hf tbM_1 dX13_rowFor_15 (fun hf => ?_)
    refine sh_icmp_ge (tgt := 69) C hf dX13_rowFor_16 (by decide) (fun hf => ?_) (fun hf => ?_)
    · refine lv_iload_n C.1 C.2.1 dX13_rowFor_69 rfl (lv_at hl 3 rfl) ?_
      exact sh_ri C hw hr hf dX13_rowFor_70
    · refine lv_aload_n C.1 C.2.1 dX13_rowFor_19 rfl (lv_at hl 0 rfl) ?_
      refine sh_getr C hw fl_X13_7 tbM_0 rfl dX13_rowFor_20 ?_
      refine lv_iload_n C.1 C.2.1 dX13_rowFor_23 rfl (lv_at hl 1 rfl) ?_
      refine lv_iload C.1 C.2.1 dX13_rowFor_24 (lv_at hl 4 rfl) ?_
      refine lv_iconst (v := 0) C.1 C.2.1 dX13_rowFor_26 (by decide) ?_
      refine sh_Si (As := [.int v1, .int v4, .int 0]) (rest := [.ref (G.2.1 1)]) C hw (kX13_rowAt l v1 v4 0) yy_X13_rowAt ys_X13_rowAt ml_X13_117 rfl hf rfl rfl rfl (Nat.le_of_ble_eq_true rfl) (by decide) hl.1 dX13_rowFor_27 (fun r2 S1 H locs hw hf => ?_)
      refine sh_iald C hw hf tbM_1 dX13_rowFor_30 (fun hf => ?_)
      refine sh_ni hf (fun y3 hf => ?_)
      refine lv_istore (lv' := [(5, .int y3), (0, .ref (G.2.1 0)), (1, .int v1), (2, .int v2), (3, .int v3), (4, .int v4)]) C.1 C.2.1 dX13_rowFor_31 hl (by decide) rfl (fun ls hl => ?_)
      refine lv_iload C.1 C.2.1 dX13_rowFor_33 (lv_at hl 0 rfl) ?_
      refine lv_iload_n C.1 C.2.1 dX13_rowFor_35 rfl (lv_at hl 3 rfl) ?_
      refine sh_icmp_lt (tgt := 60) C hf dX13_rowFor_36 (by decide) (fun hf => ?_) (fun hf => ?_)
      · exact wX13_rowFor_60 C hr (fX13_rowFor_5 n) hr5 S1 v1 v2 v4 hf _ _ _ hw (lv_sub hl [1, 2, 3, 5] rfl)
      · refine lv_iload C.1 C.2.1 dX13_rowFor_39 (lv_at hl 0 rfl) ?_
        refine lv_iload_n C.1 C.2.1 dX13_rowFor_41 rfl (lv_at hl 3 rfl) ?_
        refine sh_icmp_ne (tgt := 63) C hf dX13_rowFor_42 (by decide) (fun hf => ?_) (fun hf => ?_)
        · exact wX13_rowFor_63 C hr (fX13_rowFor_5 n) hr5 S1 v1 v2 v3 v4 hf _ _ _ hw (lv_sub hl [1, 2, 3, 4, 5] rfl)
        · refine lv_aload_n C.1 C.2.1 dX13_rowFor_45 rfl (lv_at hl 1 rfl) ?_
          refine sh_getr C hw fl_X13_7 tbM_0 rfl dX13_rowFor_46 ?_
          refine lv_iload_n C.1 C.2.1 dX13_rowFor_49 rfl (lv_at hl 2 rfl) ?_
          refine lv_iload C.1 C.2.1 dX13_rowFor_50 (lv_at hl 5 rfl) ?_
          refine lv_iconst (v := 1) C.1 C.2.1 dX13_rowFor_52 (by decide) ?_
          refine sh_Si (As := [.int v1, .int v4, .int 1]) (rest := [.ref (G.2.1 1)]) C hw (kX13_rowAt l v1 v4 1) yy_X13_rowAt ys_X13_rowAt ml_X13_117 rfl hf rfl rfl rfl (Nat.le_of_ble_eq_true rfl) (by decide) hl.1 dX13_rowFor_53 (fun r6 S5 H locs hw hf => ?_)
          refine sh_iald C hw hf tbM_1 dX13_rowFor_56 (fun hf => ?_)
          refine sh_if_ne (tgt := 63) C hf dX13_rowFor_57 (by decide) (fun hf => ?_) (fun hf => ?_)
          · exact wX13_rowFor_63 C hr (fX13_rowFor_5 n) hr5 S5 v1 v2 v3 v4 hf _ _ _ hw (lv_sub hl [1, 2, 3, 4, 5] rfl)
          · exact wX13_rowFor_60 C hr (fX13_rowFor_5 n) hr5 S5 v1 v2 v4 hf _ _ _ hw (lv_sub hl [1, 2, 3, 5] rfl)
def fX13_rowFor (S : sh_St) (v1 : Int32) (v2 : Int32) : Option (Int32 × sh_St) :=
    fX13_rowFor_5 sh_FU S v1 v2 0 0
set_option maxRecDepth 100000 in
set_option maxHeartbeats 4000000 in
theorem kX13_rowFor (l : Launch) (v1 : Int32) (v2 : Int32) : sh_Mi l yX13_rowFor cX13_rowFor 6 .int 2 tbM (fun G => [.ref (G.2.1 0), .int v1, .int v2]) (fun S => fX13_rowFor S v1 v2) := by
  refine sh_mki (by decide) (fun G => Nat.le_of_ble_eq_true rfl) ?_
  intro p e s m args below meth c G A S res ls hf C hr hw hl
  have C : sh_Cx p s m args meth c cX13_rowFor 6 RX13 G A := C
  have hl : lv_has ls 6 [(0, .ref (G.2.1 0)), (1, .int v1), (2, .int v2)] := hl
  replace hf : fX13_rowFor S v1 v2 = some res := hf
  rw [fX13_rowFor] at hf
  refine lv_iconst (v := 0) C.1 C.2.1 dX13_rowFor_0 (by decide) ?_
  refine lv_istore_n (lv' := [(3, .int 0), (0, .ref (G.2.1 0)), (1, .int v1), (2, .int v2)]) C.1 C.2.1 dX13_rowFor_1 rfl hl (by decide) rfl (fun ls hl => ?_)
  refine lv_iconst (v := 0) C.1 C.2.1 dX13_rowFor_2 (by decide) ?_
  refine lv_istore (lv' := [(4, .int 0), (3, .int 0), (0, .ref (G.2.1 0)), (1, .int v1), (2, .int v2)]) C.1 C.2.1 dX13_rowFor_3 hl (by decide) rfl (fun ls hl => ?_)
  exact wX13_rowFor_5 C hr _ S v1 v2 0 0 hf _ _ _ hw (lv_sub hl [2, 3, 4, 1, 0] rfl)
def fX13_placeOf_2 : Nat → sh_St → Int32 → Int32 → Option (Int32 × sh_St)
  | 0, _, _, _ => none
  | n + 1, S, v1, v2 =>
    sh_g v2 40 (if (S.1 15 v2.toNatClampNeg) = v1 then (some (v2, S))
    else (sh_t (v2 + 1) fun y1 =>
    (fX13_placeOf_2 n) S v1 y1))
set_option maxRecDepth 100000 in
set_option maxHeartbeats 4000000 in
theorem wX13_placeOf_2 {p : Program} {l : Launch} {e : Env} {s : State} {m : MethodId} {args : Array Value} {below : List Frame} {meth : Method} {c : Code} {G : sh_Ev} {A : Nat → Prop} {res : Int32 × sh_St} (C : sh_Cx p s m args meth c cX13_placeOf 3 RX13 G A) (hr : meth.sig.returnType = some .int) : ∀ (n : Nat) (S : sh_St) (v1 : Int32) (v2 : Int32), fX13_placeOf_2 n S v1 v2 = some res → ∀ (H : Heap) (locs : List Loc) (ls : Array Slot), sh_Wx G tbM A s H locs S → lv_has ls 3 [(0, .ref (G.2.1 0)), (1, .int v1), (2, .int v2)] → W p l e (sh_rm 1) s m args below meth c H locs 0 0 (sh_Qi below args s G tbM A res) (F0 m 2 ls []) := by
  intro n
  induction n with
  | zero => intro S v1 v2 hf; exact nomatch (show (none : Option (Int32 × sh_St)) = some res from hf)
  | succ n ih =>
    intro S v1 v2 hf H locs ls hw hl
    have hr2 := ih
    rw [fX13_placeOf_2] at hf
    refine lv_aload_n C.1 C.2.1 dX13_placeOf_2 rfl (lv_at hl 0 rfl) ?_
    refine sh_getr C hw fl_X13_58 tbM_0 rfl dX13_placeOf_3 ?_
    refine lv_iload_n C.1 C.2.1 dX13_placeOf_6 rfl (lv_at hl 2 rfl) ?_
    refine sh_iald C hw hf tbM_15 dX13_placeOf_7 (fun hf => ?_)
    refine lv_iload_n C.1 C.2.1 dX13_placeOf_8 rfl (lv_at hl 1 rfl) ?_
    refine sh_icmp_eq (tgt := 18) C hf dX13_placeOf_9 (by decide) (fun hf => ?_) (fun hf => ?_)
    · refine lv_iload_n C.1 C.2.1 dX13_placeOf_18 rfl (lv_at hl 2 rfl) ?_
      exact sh_ri C hw hr hf dX13_placeOf_19
    · obtain ⟨y1, ey1, hf⟩ := sh_nm hf
      refine lv_iinc (v := y1) (lv' := [(2, .int y1), (0, .ref (G.2.1 0)), (1, .int v1)]) C.1 C.2.1 dX13_placeOf_12 hl (k := 2) rfl (by rw [← ey1]; rfl) (by decide) rfl (fun ls hl => ?_)
      refine lv_goto (tgt := 2) C.1 C.2.1 dX13_placeOf_15 (by decide) ?_
      exact hr2 S v1 y1 hf _ _ _ hw (lv_sub hl [1, 2, 0] rfl)
def fX13_placeOf (S : sh_St) (v1 : Int32) : Option (Int32 × sh_St) :=
    fX13_placeOf_2 sh_FU S v1 0
set_option maxRecDepth 100000 in
set_option maxHeartbeats 4000000 in
theorem kX13_placeOf (l : Launch) (v1 : Int32) : sh_Mi l yX13_placeOf cX13_placeOf 3 .int 1 tbM (fun G => [.ref (G.2.1 0), .int v1]) (fun S => fX13_placeOf S v1) := by
  refine sh_mki (by decide) (fun G => Nat.le_of_ble_eq_true rfl) ?_
  intro p e s m args below meth c G A S res ls hf C hr hw hl
  have C : sh_Cx p s m args meth c cX13_placeOf 3 RX13 G A := C
  have hl : lv_has ls 3 [(0, .ref (G.2.1 0)), (1, .int v1)] := hl
  replace hf : fX13_placeOf S v1 = some res := hf
  rw [fX13_placeOf] at hf
  refine lv_iconst (v := 0) C.1 C.2.1 dX13_placeOf_0 (by decide) ?_
  refine lv_istore_n (lv' := [(2, .int 0), (0, .ref (G.2.1 0)), (1, .int v1)]) C.1 C.2.1 dX13_placeOf_1 rfl hl (by decide) rfl (fun ls hl => ?_)
  exact wX13_placeOf_2 C hr _ S v1 0 hf _ _ _ hw (lv_sub hl [1, 2, 0] rfl)
def fX13_firstOf_4 : Nat → sh_St → Int32 → Int32 → Int32 → Option (Int32 × sh_St)
  | 0, _, _, _, _ => none
  | n + 1, S, v1, v2, v3 =>
    sh_g 1080 1084 (if (S.1 1 (1080 : Int32).toNatClampNeg) ≤ v3 then (some (v2, S))
    else (sh_c (fX13_rowFor S v2 v1) fun r2 S1 =>
    sh_c (fX13_rowAt S1 v2 r2 2) fun r4 S3 =>
    sh_g r4 1084 (sh_t (S3.1 1 r4.toNatClampNeg) fun y5 =>
    sh_t (v3 + 1) fun y6 =>
    (fX13_firstOf_4 n) S3 v1 y5 y6)))
set_option maxRecDepth 100000 in
set_option maxHeartbeats 4000000 in
theorem wX13_firstOf_4 {p : Program} {l : Launch} {e : Env} {s : State} {m : MethodId} {args : Array Value} {below : List Frame} {meth : Method} {c : Code} {G : sh_Ev} {A : Nat → Prop} {res : Int32 × sh_St} (C : sh_Cx p s m args meth c cX13_firstOf 4 RX13 G A) (hr : meth.sig.returnType = some .int) : ∀ (n : Nat) (S : sh_St) (v1 : Int32) (v2 : Int32) (v3 : Int32), fX13_firstOf_4 n S v1 v2 v3 = some res → ∀ (H : Heap) (locs : List Loc) (ls : Array Slot), sh_Wx G tbM A s H locs S → lv_has ls 4 [(0, .ref (G.2.1 0)), (1, .int v1), (2, .int v2), (3, .int v3)] → W p l e (sh_rm 3) s m args below meth c H locs 0 0 (sh_Qi below args s G tbM A res) (F0 m 4 ls []) := by
  intro n
  induction n with
  | zero => intro S v1 v2 v3 hf; exact nomatch (show (none : Option (Int32 × sh_St)) = some res from hf)
  | succ n ih =>
    intro S v1 v2 v3 hf H locs ls hw hl
    have hr4 := ih
    rw [fX13_firstOf_4] at hf
    refine lv_iload_n C.1 C.2.1 dX13_firstOf_4 rfl (lv_at hl 3 rfl) ?_
    refine lv_aload_n C.1 C.2.1 dX13_firstOf_5 rfl (lv_at hl 0 rfl) ?_
    refine sh_getr C hw fl_X13_7 tbM_0 rfl dX13_firstOf_6 ?_
    refine lv_sipush (v := 1080) C.1 C.2.1 dX13_firstOf_9 (by decide) ?_
    refine sh_iald C hw hf tbM_1 dX13_firstOf_12 (fun hf => ?_)
    refine sh_icmp_ge (tgt := 39) C hf dX13_firstOf_13 (by decide) (fun hf => ?_) (fun hf => ?_)
    · refine lv_iload_n C.1 C.2.1 dX13_firstOf_39 rfl (lv_at hl 2 rfl) ?_
      exact sh_ri C hw hr hf dX13_firstOf_40
    · refine lv_aload_n C.1 C.2.1 dX13_firstOf_16 rfl (lv_at hl 0 rfl) ?_
      refine sh_getr C hw fl_X13_7 tbM_0 rfl dX13_firstOf_17 ?_
      refine lv_iload_n C.1 C.2.1 dX13_firstOf_20 rfl (lv_at hl 2 rfl) ?_
      refine lv_aload_n C.1 C.2.1 dX13_firstOf_21 rfl (lv_at hl 0 rfl) ?_
      refine lv_iload_n C.1 C.2.1 dX13_firstOf_22 rfl (lv_at hl 2 rfl) ?_
      refine lv_iload_n C.1 C.2.1 dX13_firstOf_23 rfl (lv_at hl 1 rfl) ?_
      refine sh_Vi (As := [.int v2, .int v1]) (rest := [.int v2, .ref (G.2.1 1)]) C hw (kX13_rowFor l v2 v1) yy_X13_rowFor yv_X13_rowFor ml_X13_125 hf tbM_0 rfl rfl rfl rfl (Nat.le_of_ble_eq_true rfl) (by decide) hl.1 dX13_firstOf_24 (fun r2 S1 H locs hw hf => ?_)
      refine lv_iconst (v := 2) C.1 C.2.1 dX13_firstOf_27 (by decide) ?_
      refine sh_Si (As := [.int v2, .int r2, .int 2]) (rest := [.ref (G.2.1 1)]) C hw (kX13_rowAt l v2 r2 2) yy_X13_rowAt ys_X13_rowAt ml_X13_117 rfl hf rfl rfl rfl (Nat.le_of_ble_eq_true rfl) (by decide) hl.1 dX13_firstOf_28 (fun r4 S3 H locs hw hf => ?_)
      refine sh_iald C hw hf tbM_1 dX13_firstOf_31 (fun hf => ?_)
      refine sh_ni hf (fun y5 hf => ?_)
      refine lv_istore_n (lv' := [(2, .int y5), (0, .ref (G.2.1 0)), (1, .int v1), (3, .int v3)]) C.1 C.2.1 dX13_firstOf_32 rfl hl (by decide) rfl (fun ls hl => ?_)
      obtain ⟨y6, ey6, hf⟩ := sh_nm hf
      refine lv_iinc (v := y6) (lv' := [(3, .int y6), (2, .int y5), (0, .ref (G.2.1 0)), (1, .int v1)]) C.1 C.2.1 dX13_firstOf_33 hl (k := 3) rfl (by rw [← ey6]; rfl) (by decide) rfl (fun ls hl => ?_)
      refine lv_goto (tgt := 4) C.1 C.2.1 dX13_firstOf_36 (by decide) ?_
      exact hr4 S3 v1 y5 y6 hf _ _ _ hw (lv_sub hl [2, 3, 1, 0] rfl)
def fX13_firstOf (S : sh_St) (v1 : Int32) : Option (Int32 × sh_St) :=
    fX13_firstOf_4 sh_FU S v1 0 0
set_option maxRecDepth 100000 in
set_option maxHeartbeats 4000000 in
theorem kX13_firstOf (l : Launch) (v1 : Int32) : sh_Mi l yX13_firstOf cX13_firstOf 4 .int 3 tbM (fun G => [.ref (G.2.1 0), .int v1]) (fun S => fX13_firstOf S v1) := by
  refine sh_mki (by decide) (fun G => Nat.le_of_ble_eq_true rfl) ?_
  intro p e s m args below meth c G A S res ls hf C hr hw hl
  have C : sh_Cx p s m args meth c cX13_firstOf 4 RX13 G A := C
  have hl : lv_has ls 4 [(0, .ref (G.2.1 0)), (1, .int v1)] := hl
  replace hf : fX13_firstOf S v1 = some res := hf
  rw [fX13_firstOf] at hf
  refine lv_iconst (v := 0) C.1 C.2.1 dX13_firstOf_0 (by decide) ?_
  refine lv_istore_n (lv' := [(2, .int 0), (0, .ref (G.2.1 0)), (1, .int v1)]) C.1 C.2.1 dX13_firstOf_1 rfl hl (by decide) rfl (fun ls hl => ?_)
  refine lv_iconst (v := 0) C.1 C.2.1 dX13_firstOf_2 (by decide) ?_
  refine lv_istore_n (lv' := [(3, .int 0), (2, .int 0), (0, .ref (G.2.1 0)), (1, .int v1)]) C.1 C.2.1 dX13_firstOf_3 rfl hl (by decide) rfl (fun ls hl => ?_)
  exact wX13_firstOf_4 C hr _ S v1 0 0 hf _ _ _ hw (lv_sub hl [2, 3, 1, 0] rfl)
def fX13_goes_22 : Nat → sh_St → Int32 → Option (Unit × sh_St)
  | 0, _, _ => none
  | n + 1, S, v1 =>
    if (S.1 0 27) ≤ ((S.1 0 28) + (S.1 0 29)) then (some ((), S))
    else (sh_g ((S.1 0 28) + (S.1 0 29)) 40 (if (S.1 16 ((S.1 0 28) + (S.1 0 29)).toNatClampNeg) = v1 then (sh_g ((S.1 0 28) + (S.1 0 29)) 40 (if (S.1 17 ((S.1 0 28) + (S.1 0 29)).toNatClampNeg) = 1 then (sh_t (sh_I S 0 29 ((S.1 0 29) + 1)) fun S9 =>
    (fX13_goes_22 n) S9 v1)
    else (some ((), S))))
    else (some ((), S))))
set_option maxRecDepth 100000 in
set_option maxHeartbeats 4000000 in
theorem wX13_goes_22 {p : Program} {l : Launch} {e : Env} {s : State} {m : MethodId} {args : Array Value} {below : List Frame} {meth : Method} {c : Code} {G : sh_Ev} {A : Nat → Prop} {res : Unit × sh_St} (C : sh_Cx p s m args meth c cX13_goes 2 RX13 G A) (hr : meth.sig.returnType = none) : ∀ (n : Nat) (S : sh_St) (v1 : Int32), fX13_goes_22 n S v1 = some res → ∀ (H : Heap) (locs : List Loc) (ls : Array Slot), sh_Wx G tbM A s H locs S → lv_has ls 2 [(0, .ref (G.2.1 0)), (1, .int v1)] → W p l e (sh_rm 4) s m args below meth c H locs 0 0 (sh_Qv below args s G tbM A res) (F0 m 22 ls []) := by
  intro n
  induction n with
  | zero => intro S v1 hf; exact nomatch (show (none : Option (Unit × sh_St)) = some res from hf)
  | succ n ih =>
    intro S v1 hf H locs ls hw hl
    have hr22 := ih
    rw [fX13_goes_22] at hf
    refine lv_aload_n C.1 C.2.1 dX13_goes_22 rfl (lv_at hl 0 rfl) ?_
    refine sh_geti C hw fl_X13_137 tbM_0 rfl dX13_goes_23 ?_
    refine lv_aload_n C.1 C.2.1 dX13_goes_26 rfl (lv_at hl 0 rfl) ?_
    refine sh_geti C hw fl_X13_140 tbM_0 rfl dX13_goes_27 ?_
    refine lv_iadd C.1 C.2.1 dX13_goes_30 ?_
    refine lv_aload_n C.1 C.2.1 dX13_goes_31 rfl (lv_at hl 0 rfl) ?_
    refine sh_geti C hw fl_X13_114 tbM_0 rfl dX13_goes_32 ?_
    refine sh_icmp_ge (tgt := 87) C hf dX13_goes_35 (by decide) (fun hf => ?_) (fun hf => ?_)
    · exact sh_rv C hw hr hf dX13_goes_87
    · refine lv_aload_n C.1 C.2.1 dX13_goes_38 rfl (lv_at hl 0 rfl) ?_
      refine sh_getr C hw fl_X13_61 tbM_0 rfl dX13_goes_39 ?_
      refine lv_aload_n C.1 C.2.1 dX13_goes_42 rfl (lv_at hl 0 rfl) ?_
      refine sh_geti C hw fl_X13_137 tbM_0 rfl dX13_goes_43 ?_
      refine lv_aload_n C.1 C.2.1 dX13_goes_46 rfl (lv_at hl 0 rfl) ?_
      refine sh_geti C hw fl_X13_140 tbM_0 rfl dX13_goes_47 ?_
      refine lv_iadd C.1 C.2.1 dX13_goes_50 ?_
      refine sh_iald C hw hf tbM_16 dX13_goes_51 (fun hf => ?_)
      refine lv_iload_n C.1 C.2.1 dX13_goes_52 rfl (lv_at hl 1 rfl) ?_
      refine sh_icmp_ne (tgt := 87) C hf dX13_goes_53 (by decide) (fun hf => ?_) (fun hf => ?_)
      · exact sh_rv C hw hr hf dX13_goes_87
      · refine lv_aload_n C.1 C.2.1 dX13_goes_56 rfl (lv_at hl 0 rfl) ?_
        refine sh_getr C hw fl_X13_64 tbM_0 rfl dX13_goes_57 ?_
        refine lv_aload_n C.1 C.2.1 dX13_goes_60 rfl (lv_at hl 0 rfl) ?_
        refine sh_geti C hw fl_X13_137 tbM_0 rfl dX13_goes_61 ?_
        refine lv_aload_n C.1 C.2.1 dX13_goes_64 rfl (lv_at hl 0 rfl) ?_
        refine sh_geti C hw fl_X13_140 tbM_0 rfl dX13_goes_65 ?_
        refine lv_iadd C.1 C.2.1 dX13_goes_68 ?_
        refine sh_iald C hw hf tbM_17 dX13_goes_69 (fun hf => ?_)
        refine lv_iconst (v := 1) C.1 C.2.1 dX13_goes_70 (by decide) ?_
        refine sh_icmp_ne (tgt := 87) C hf dX13_goes_71 (by decide) (fun hf => ?_) (fun hf => ?_)
        · exact sh_rv C hw hr hf dX13_goes_87
        · refine lv_aload_n C.1 C.2.1 dX13_goes_74 rfl (lv_at hl 0 rfl) ?_
          refine lv_dup C.1 C.2.1 dX13_goes_75 rfl ?_
          refine sh_geti C hw fl_X13_140 tbM_0 rfl dX13_goes_76 ?_
          refine lv_iconst (v := 1) C.1 C.2.1 dX13_goes_79 (by decide) ?_
          refine lv_iadd C.1 C.2.1 dX13_goes_80 ?_
          refine sh_puti C hw fl_X13_140 fp_11_29 hf tbM_0 rfl dX13_goes_81 (fun S9 H locs hw hf => ?_)
          refine lv_goto (tgt := 22) C.1 C.2.1 dX13_goes_84 (by decide) ?_
          exact hr22 S9 v1 hf _ _ _ hw (lv_sub hl [0, 1] rfl)
def fX13_goes (S : sh_St) (v1 : Int32) : Option (Unit × sh_St) :=
    sh_c (fX13_laysLine S ) fun _ S1 =>
    sh_c (fX13_firstOf S1 v1) fun r4 S3 =>
    sh_c (fX13_placeOf S3 r4) fun r6 S5 =>
    sh_t (sh_I S5 0 28 r6) fun S7 =>
    sh_t (sh_I S7 0 29 1) fun S8 =>
    fX13_goes_22 sh_FU S8 v1
set_option maxRecDepth 100000 in
set_option maxHeartbeats 4000000 in
theorem kX13_goes (l : Launch) (v1 : Int32) : sh_Mv l yX13_goes cX13_goes 2 4 tbM (fun G => [.ref (G.2.1 0), .int v1]) (fun S => fX13_goes S v1) := by
  refine sh_mkv (by decide) (fun G => Nat.le_of_ble_eq_true rfl) ?_
  intro p e s m args below meth c G A S res ls hf C hr hw hl
  have C : sh_Cx p s m args meth c cX13_goes 2 RX13 G A := C
  have hl : lv_has ls 2 [(0, .ref (G.2.1 0)), (1, .int v1)] := hl
  replace hf : fX13_goes S v1 = some res := hf
  rw [fX13_goes] at hf
  refine lv_aload_n C.1 C.2.1 dX13_goes_0 rfl (lv_at hl 0 rfl) ?_
  refine sh_Vv (As := []) (rest := []) C hw (kX13_laysLine l ) yy_X13_laysLine yv_X13_laysLine ml_X13_128 hf tbM_0 rfl rfl rfl rfl (Nat.le_of_ble_eq_true rfl) (by decide) hl.1 dX13_goes_1 (fun S1 H locs hw hf => ?_)
  refine lv_aload_n C.1 C.2.1 dX13_goes_4 rfl (lv_at hl 0 rfl) ?_
  refine lv_aload_n C.1 C.2.1 dX13_goes_5 rfl (lv_at hl 0 rfl) ?_
  refine lv_aload_n C.1 C.2.1 dX13_goes_6 rfl (lv_at hl 0 rfl) ?_
  refine lv_iload_n C.1 C.2.1 dX13_goes_7 rfl (lv_at hl 1 rfl) ?_
  refine sh_Vi (As := [.int v1]) (rest := [.ref (G.2.1 0), .ref (G.2.1 0)]) C hw (kX13_firstOf l v1) yy_X13_firstOf yv_X13_firstOf ml_X13_131 hf tbM_0 rfl rfl rfl rfl (Nat.le_of_ble_eq_true rfl) (by decide) hl.1 dX13_goes_8 (fun r4 S3 H locs hw hf => ?_)
  refine sh_Vi (As := [.int r4]) (rest := [.ref (G.2.1 0)]) C hw (kX13_placeOf l r4) yy_X13_placeOf yv_X13_placeOf ml_X13_134 hf tbM_0 rfl rfl rfl rfl (Nat.le_of_ble_eq_true rfl) (by decide) hl.1 dX13_goes_11 (fun r6 S5 H locs hw hf => ?_)
  refine sh_puti C hw fl_X13_137 fp_11_28 hf tbM_0 rfl dX13_goes_14 (fun S7 H locs hw hf => ?_)
  refine lv_aload_n C.1 C.2.1 dX13_goes_17 rfl (lv_at hl 0 rfl) ?_
  refine lv_iconst (v := 1) C.1 C.2.1 dX13_goes_18 (by decide) ?_
  refine sh_puti C hw fl_X13_140 fp_11_29 hf tbM_0 rfl dX13_goes_19 (fun S8 H locs hw hf => ?_)
  exact wX13_goes_22 C hr _ S8 v1 hf _ _ _ hw (lv_sub hl [0, 1] rfl)
def fX13_isInBlock_65 (rk13 : sh_St → Int32 → Int64 → Int32 → Option (Int32 × sh_St)) (S : sh_St) (v1 : Int32) (v2 : Int64) (v4 : Int32) : Option (Int32 × sh_St) :=
    sh_t (v4 + 1) fun y4 =>
    rk13 S v1 v2 y4
set_option maxRecDepth 100000 in
set_option maxHeartbeats 4000000 in
theorem wX13_isInBlock_65 {p : Program} {l : Launch} {e : Env} {s : State} {m : MethodId} {args : Array Value} {below : List Frame} {meth : Method} {c : Code} {G : sh_Ev} {A : Nat → Prop} {res : Int32 × sh_St} (C : sh_Cx p s m args meth c cX13_isInBlock 5 RX13 G A) (hr : meth.sig.returnType = some .boolean) (rk13 : sh_St → Int32 → Int64 → Int32 → Option (Int32 × sh_St)) (hr13 : ∀ (S : sh_St) (v1 : Int32) (v2 : Int64) (v4 : Int32), rk13 S v1 v2 v4 = some res → ∀ (H : Heap) (locs : List Loc) (ls : Array Slot), sh_Wx G tbM A s H locs S → lv_has ls 5 [(0, .ref (G.2.1 0)), (1, .int v1), (2, .long v2), (4, .int v4)] → W p l e (sh_rm 4) s m args below meth c H locs 0 0 (sh_Qi below args s G tbM A res) (F0 m 13 ls [])) : ∀ (S : sh_St) (v1 : Int32) (v2 : Int64) (v4 : Int32), fX13_isInBlock_65 rk13 S v1 v2 v4 = some res → ∀ (H : Heap) (locs : List Loc) (ls : Array Slot), sh_Wx G tbM A s H locs S → lv_has ls 5 [(0, .ref (G.2.1 0)), (1, .int v1), (2, .long v2), (4, .int v4)] → W p l e (sh_rm 4) s m args below meth c H locs 0 0 (sh_Qi below args s G tbM A res) (F0 m 65 ls []) := by
  intro S v1 v2 v4 hf H locs ls hw hl
  rw [fX13_isInBlock_65] at hf
  obtain ⟨y4, ey4, hf⟩ := sh_nm hf
  refine lv_iinc (v := y4) (lv' := [(4, .int y4), (0, .ref (G.2.1 0)), (1, .int v1), (2, .long v2)]) C.1 C.2.1 dX13_isInBlock_65 hl (k := 3) rfl (by rw [← ey4]; rfl) (by decide) rfl (fun ls hl => ?_)
  refine lv_goto (tgt := 13) C.1 C.2.1 dX13_isInBlock_68 (by decide) ?_
  exact hr13 S v1 v2 y4 hf _ _ _ hw (lv_sub hl [1, 2, 3, 0] rfl)
def fX13_isInBlock_13 : Nat → sh_St → Int32 → Int64 → Int32 → Option (Int32 × sh_St)
  | 0, _, _, _, _ => none
  | n + 1, S, v1, v2, v4 =>
    if 6 ≤ v4 then (sh_b 0 (some (0, S)))
    else (sh_c (fX13_isEmpty S v1 v4) fun r3 S2 =>
    if r3 = 0 then (sh_c (fX13_slotAt S2 v1 v4) fun r6 S5 =>
    sh_g r6 240 (sh_c (fX13_areOne S5 (S5.2 2 r6.toNatClampNeg) v2) fun r8 S7 =>
    if r8 = 0 then (fX13_isInBlock_65 (fX13_isInBlock_13 n) S7 v1 v2 v4)
    else (sh_t (sh_I S7 0 30 v1) fun S9 =>
    sh_t (sh_I S9 0 31 v4) fun S10 =>
    sh_b 1 (some (1, S10)))))
    else (fX13_isInBlock_65 (fX13_isInBlock_13 n) S2 v1 v2 v4))
set_option maxRecDepth 100000 in
set_option maxHeartbeats 4000000 in
theorem wX13_isInBlock_13 {p : Program} {l : Launch} {e : Env} {s : State} {m : MethodId} {args : Array Value} {below : List Frame} {meth : Method} {c : Code} {G : sh_Ev} {A : Nat → Prop} {res : Int32 × sh_St} (C : sh_Cx p s m args meth c cX13_isInBlock 5 RX13 G A) (hr : meth.sig.returnType = some .boolean) : ∀ (n : Nat) (S : sh_St) (v1 : Int32) (v2 : Int64) (v4 : Int32), fX13_isInBlock_13 n S v1 v2 v4 = some res → ∀ (H : Heap) (locs : List Loc) (ls : Array Slot), sh_Wx G tbM A s H locs S → lv_has ls 5 [(0, .ref (G.2.1 0)), (1, .int v1), (2, .long v2), (4, .int v4)] → W p l e (sh_rm 4) s m args below meth c H locs 0 0 (sh_Qi below args s G tbM A res) (F0 m 13 ls []) := by
  intro n
  induction n with
  | zero => intro S v1 v2 v4 hf; exact nomatch (show (none : Option (Int32 × sh_St)) = some res from hf)
  | succ n ih =>
    intro S v1 v2 v4 hf H locs ls hw hl
    have hr13 := ih
    rw [fX13_isInBlock_13] at hf
    refine lv_iload C.1 C.2.1 dX13_isInBlock_13 (lv_at hl 3 rfl) ?_
    refine lv_bipush (v := 6) C.1 C.2.1 dX13_isInBlock_15 (by decide) ?_
    refine sh_icmp_ge (tgt := 71) C hf dX13_isInBlock_17 (by decide) (fun hf => ?_) (fun hf => ?_)
    · refine lv_iconst (v := 0) C.1 C.2.1 dX13_isInBlock_71 (by decide) ?_
      exact sh_rz C hw hr hf dX13_isInBlock_72
    · refine lv_aload_n C.1 C.2.1 dX13_isInBlock_20 rfl (lv_at hl 0 rfl) ?_
      refine lv_iload_n C.1 C.2.1 dX13_isInBlock_21 rfl (lv_at hl 1 rfl) ?_
      refine lv_iload C.1 C.2.1 dX13_isInBlock_22 (lv_at hl 3 rfl) ?_
      refine sh_Vi (As := [.int v1, .int v4]) (rest := []) C hw (kX13_isEmpty l v1 v4) yy_X13_isEmpty yv_X13_isEmpty ml_X13_86 hf tbM_0 rfl rfl rfl rfl (Nat.le_of_ble_eq_true rfl) (by decide) hl.1 dX13_isInBlock_24 (fun r3 S2 H locs hw hf => ?_)
      refine sh_if_ne (tgt := 65) C hf dX13_isInBlock_27 (by decide) (fun hf => ?_) (fun hf => ?_)
      · exact wX13_isInBlock_65 C hr (fX13_isInBlock_13 n) hr13 S2 v1 v2 v4 hf _ _ _ hw (lv_sub hl [0, 1, 2, 3] rfl)
      · refine lv_aload_n C.1 C.2.1 dX13_isInBlock_30 rfl (lv_at hl 0 rfl) ?_
        refine lv_aload_n C.1 C.2.1 dX13_isInBlock_31 rfl (lv_at hl 0 rfl) ?_
        refine sh_getr C hw fl_X13_13 tbM_0 rfl dX13_isInBlock_32 ?_
        refine lv_iload_n C.1 C.2.1 dX13_isInBlock_35 rfl (lv_at hl 1 rfl) ?_
        refine lv_iload C.1 C.2.1 dX13_isInBlock_36 (lv_at hl 3 rfl) ?_
        refine sh_Si (As := [.int v1, .int v4]) (rest := [.ref (G.2.1 2), .ref (G.2.1 0)]) C hw (kX13_slotAt l v1 v4) yy_X13_slotAt ys_X13_slotAt ml_X13_82 rfl hf rfl rfl rfl (Nat.le_of_ble_eq_true rfl) (by decide) hl.1 dX13_isInBlock_38 (fun r6 S5 H locs hw hf => ?_)
        refine sh_lald C hw hf tbM_2 dX13_isInBlock_41 (fun hf => ?_)
        refine lv_lload_n C.1 C.2.1 dX13_isInBlock_42 rfl (lv_at hl 2 rfl) ?_
        refine sh_Vi (As := [.long (S5.2 2 r6.toNatClampNeg), .long v2]) (rest := []) C hw (kX13_areOne l (S5.2 2 r6.toNatClampNeg) v2) yy_X13_areOne yv_X13_areOne ml_X13_146 hf tbM_0 rfl rfl rfl rfl (Nat.le_of_ble_eq_true rfl) (by decide) hl.1 dX13_isInBlock_43 (fun r8 S7 H locs hw hf => ?_)
        refine sh_if_ne (tgt := 52) C hf dX13_isInBlock_46 (by decide) (fun hf => ?_) (fun hf => ?_)
        · refine lv_aload_n C.1 C.2.1 dX13_isInBlock_52 rfl (lv_at hl 0 rfl) ?_
          refine lv_iload_n C.1 C.2.1 dX13_isInBlock_53 rfl (lv_at hl 1 rfl) ?_
          refine sh_puti C hw fl_X13_150 fp_11_30 hf tbM_0 rfl dX13_isInBlock_54 (fun S9 H locs hw hf => ?_)
          refine lv_aload_n C.1 C.2.1 dX13_isInBlock_57 rfl (lv_at hl 0 rfl) ?_
          refine lv_iload C.1 C.2.1 dX13_isInBlock_58 (lv_at hl 3 rfl) ?_
          refine sh_puti C hw fl_X13_153 fp_11_31 hf tbM_0 rfl dX13_isInBlock_60 (fun S10 H locs hw hf => ?_)
          refine lv_iconst (v := 1) C.1 C.2.1 dX13_isInBlock_63 (by decide) ?_
          exact sh_rz C hw hr hf dX13_isInBlock_64
        · refine lv_goto (tgt := 65) C.1 C.2.1 dX13_isInBlock_49 (by decide) ?_
          exact wX13_isInBlock_65 C hr (fX13_isInBlock_13 n) hr13 S7 v1 v2 v4 hf _ _ _ hw (lv_sub hl [0, 1, 2, 3] rfl)
def fX13_isInBlock (S : sh_St) (v1 : Int32) (v2 : Int64) : Option (Int32 × sh_St) :=
    sh_t (sh_I S 0 32 ((S.1 0 32) + 1)) fun S1 =>
    fX13_isInBlock_13 sh_FU S1 v1 v2 0
set_option maxRecDepth 100000 in
set_option maxHeartbeats 4000000 in
theorem kX13_isInBlock (l : Launch) (v1 : Int32) (v2 : Int64) : sh_Mi l yX13_isInBlock cX13_isInBlock 5 .boolean 4 tbM (fun G => [.ref (G.2.1 0), .int v1, .long v2]) (fun S => fX13_isInBlock S v1 v2) := by
  refine sh_mki (by decide) (fun G => Nat.le_of_ble_eq_true rfl) ?_
  intro p e s m args below meth c G A S res ls hf C hr hw hl
  have C : sh_Cx p s m args meth c cX13_isInBlock 5 RX13 G A := C
  have hl : lv_has ls 5 [(0, .ref (G.2.1 0)), (1, .int v1), (2, .long v2)] := hl
  replace hf : fX13_isInBlock S v1 v2 = some res := hf
  rw [fX13_isInBlock] at hf
  refine lv_aload_n C.1 C.2.1 dX13_isInBlock_0 rfl (lv_at hl 0 rfl) ?_
  refine lv_dup C.1 C.2.1 dX13_isInBlock_1 rfl ?_
  refine sh_geti C hw fl_X13_143 tbM_0 rfl dX13_isInBlock_2 ?_
  refine lv_iconst (v := 1) C.1 C.2.1 dX13_isInBlock_5 (by decide) ?_
  refine lv_iadd C.1 C.2.1 dX13_isInBlock_6 ?_
  refine sh_puti C hw fl_X13_143 fp_11_32 hf tbM_0 rfl dX13_isInBlock_7 (fun S1 H locs hw hf => ?_)
  refine lv_iconst (v := 0) C.1 C.2.1 dX13_isInBlock_10 (by decide) ?_
  refine lv_istore (lv' := [(4, .int 0), (0, .ref (G.2.1 0)), (1, .int v1), (2, .long v2)]) C.1 C.2.1 dX13_isInBlock_11 hl (by decide) rfl (fun ls hl => ?_)
  exact wX13_isInBlock_13 C hr _ S1 v1 v2 0 hf _ _ _ hw (lv_sub hl [1, 2, 3, 0] rfl)
def fX13_seeks_84 : Nat → sh_St → Int64 → Int32 → Option (Int32 × sh_St)
  | 0, _, _, _ => none
  | n + 1, S, v1, v3 =>
    if (S.1 0 29) ≤ v3 then (sh_b 0 (some (0, S)))
    else (sh_g ((S.1 0 28) + v3) 40 (sh_c (fX13_isInBlock S (S.1 15 ((S.1 0 28) + v3).toNatClampNeg) v1) fun r11 S10 =>
    if r11 = 0 then (sh_t (v3 + 1) fun y12 =>
    (fX13_seeks_84 n) S10 v1 y12)
    else (sh_b 1 (some (1, S10)))))
set_option maxRecDepth 100000 in
set_option maxHeartbeats 4000000 in
theorem wX13_seeks_84 {p : Program} {l : Launch} {e : Env} {s : State} {m : MethodId} {args : Array Value} {below : List Frame} {meth : Method} {c : Code} {G : sh_Ev} {A : Nat → Prop} {res : Int32 × sh_St} (C : sh_Cx p s m args meth c cX13_seeks 4 RX13 G A) (hr : meth.sig.returnType = some .boolean) : ∀ (n : Nat) (S : sh_St) (v1 : Int64) (v3 : Int32), fX13_seeks_84 n S v1 v3 = some res → ∀ (H : Heap) (locs : List Loc) (ls : Array Slot), sh_Wx G tbM A s H locs S → lv_has ls 4 [(0, .ref (G.2.1 0)), (1, .long v1), (3, .int v3)] → W p l e (sh_rm 5) s m args below meth c H locs 0 0 (sh_Qi below args s G tbM A res) (F0 m 84 ls []) := by
  intro n
  induction n with
  | zero => intro S v1 v3 hf; exact nomatch (show (none : Option (Int32 × sh_St)) = some res from hf)
  | succ n ih =>
    intro S v1 v3 hf H locs ls hw hl
    have hr84 := ih
    rw [fX13_seeks_84] at hf
    refine lv_iload_n C.1 C.2.1 dX13_seeks_84 rfl (lv_at hl 2 rfl) ?_
    refine lv_aload_n C.1 C.2.1 dX13_seeks_85 rfl (lv_at hl 0 rfl) ?_
    refine sh_geti C hw fl_X13_140 tbM_0 rfl dX13_seeks_86 ?_
    refine sh_icmp_ge (tgt := 119) C hf dX13_seeks_89 (by decide) (fun hf => ?_) (fun hf => ?_)
    · refine lv_iconst (v := 0) C.1 C.2.1 dX13_seeks_119 (by decide) ?_
      exact sh_rz C hw hr hf dX13_seeks_120
    · refine lv_aload_n C.1 C.2.1 dX13_seeks_92 rfl (lv_at hl 0 rfl) ?_
      refine lv_aload_n C.1 C.2.1 dX13_seeks_93 rfl (lv_at hl 0 rfl) ?_
      refine sh_getr C hw fl_X13_58 tbM_0 rfl dX13_seeks_94 ?_
      refine lv_aload_n C.1 C.2.1 dX13_seeks_97 rfl (lv_at hl 0 rfl) ?_
      refine sh_geti C hw fl_X13_137 tbM_0 rfl dX13_seeks_98 ?_
      refine lv_iload_n C.1 C.2.1 dX13_seeks_101 rfl (lv_at hl 2 rfl) ?_
      refine lv_iadd C.1 C.2.1 dX13_seeks_102 ?_
      refine sh_iald C hw hf tbM_15 dX13_seeks_103 (fun hf => ?_)
      refine lv_lload_n C.1 C.2.1 dX13_seeks_104 rfl (lv_at hl 1 rfl) ?_
      refine sh_Vi (As := [.int (S.1 15 ((S.1 0 28) + v3).toNatClampNeg), .long v1]) (rest := []) C hw (kX13_isInBlock l (S.1 15 ((S.1 0 28) + v3).toNatClampNeg) v1) yy_X13_isInBlock yv_X13_isInBlock ml_X13_160 hf tbM_0 rfl rfl rfl rfl (Nat.le_of_ble_eq_true rfl) (by decide) hl.1 dX13_seeks_105 (fun r11 S10 H locs hw hf => ?_)
      refine sh_if_eq (tgt := 113) C hf dX13_seeks_108 (by decide) (fun hf => ?_) (fun hf => ?_)
      · obtain ⟨y12, ey12, hf⟩ := sh_nm hf
        refine lv_iinc (v := y12) (lv' := [(3, .int y12), (0, .ref (G.2.1 0)), (1, .long v1)]) C.1 C.2.1 dX13_seeks_113 hl (k := 2) rfl (by rw [← ey12]; rfl) (by decide) rfl (fun ls hl => ?_)
        refine lv_goto (tgt := 84) C.1 C.2.1 dX13_seeks_116 (by decide) ?_
        exact hr84 S10 v1 y12 hf _ _ _ hw (lv_sub hl [1, 2, 0] rfl)
      · refine lv_iconst (v := 1) C.1 C.2.1 dX13_seeks_111 (by decide) ?_
        exact sh_rz C hw hr hf dX13_seeks_112
def fX13_seeks_53 (rk24 : sh_St → Int64 → Int32 → Option (Int32 × sh_St)) (S : sh_St) (v1 : Int64) (v3 : Int32) : Option (Int32 × sh_St) :=
    sh_t (v3 + 1) fun y14 =>
    rk24 S v1 y14
set_option maxRecDepth 100000 in
set_option maxHeartbeats 4000000 in
theorem wX13_seeks_53 {p : Program} {l : Launch} {e : Env} {s : State} {m : MethodId} {args : Array Value} {below : List Frame} {meth : Method} {c : Code} {G : sh_Ev} {A : Nat → Prop} {res : Int32 × sh_St} (C : sh_Cx p s m args meth c cX13_seeks 4 RX13 G A) (hr : meth.sig.returnType = some .boolean) (rk24 : sh_St → Int64 → Int32 → Option (Int32 × sh_St)) (hr24 : ∀ (S : sh_St) (v1 : Int64) (v3 : Int32), rk24 S v1 v3 = some res → ∀ (H : Heap) (locs : List Loc) (ls : Array Slot), sh_Wx G tbM A s H locs S → lv_has ls 4 [(0, .ref (G.2.1 0)), (1, .long v1), (3, .int v3)] → W p l e (sh_rm 5) s m args below meth c H locs 0 0 (sh_Qi below args s G tbM A res) (F0 m 24 ls [])) : ∀ (S : sh_St) (v1 : Int64) (v3 : Int32), fX13_seeks_53 rk24 S v1 v3 = some res → ∀ (H : Heap) (locs : List Loc) (ls : Array Slot), sh_Wx G tbM A s H locs S → lv_has ls 4 [(0, .ref (G.2.1 0)), (1, .long v1), (3, .int v3)] → W p l e (sh_rm 5) s m args below meth c H locs 0 0 (sh_Qi below args s G tbM A res) (F0 m 53 ls []) := by
  intro S v1 v3 hf H locs ls hw hl
  rw [fX13_seeks_53] at hf
  obtain ⟨y14, ey14, hf⟩ := sh_nm hf
  refine lv_iinc (v := y14) (lv' := [(3, .int y14), (0, .ref (G.2.1 0)), (1, .long v1)]) C.1 C.2.1 dX13_seeks_53 hl (k := 2) rfl (by rw [← ey14]; rfl) (by decide) rfl (fun ls hl => ?_)
  refine lv_goto (tgt := 24) C.1 C.2.1 dX13_seeks_56 (by decide) ?_
  exact hr24 S v1 y14 hf _ _ _ hw (lv_sub hl [1, 2, 0] rfl)
def fX13_seeks_24 : Nat → sh_St → Int64 → Int32 → Option (Int32 × sh_St)
  | 0, _, _, _ => none
  | n + 1, S, v1, v3 =>
    if 40 ≤ v3 then (sh_b 0 (some (0, S)))
    else (sh_g (0 + v3) 1084 (if (S.1 1 (0 + v3).toNatClampNeg) = 1 then (sh_c (fX13_isInBlock S v3 v1) fun r16 S15 =>
    if r16 = 0 then (fX13_seeks_53 (fX13_seeks_24 n) S15 v1 v3)
    else (sh_b 1 (some (1, S15))))
    else (fX13_seeks_53 (fX13_seeks_24 n) S v1 v3)))
set_option maxRecDepth 100000 in
set_option maxHeartbeats 4000000 in
theorem wX13_seeks_24 {p : Program} {l : Launch} {e : Env} {s : State} {m : MethodId} {args : Array Value} {below : List Frame} {meth : Method} {c : Code} {G : sh_Ev} {A : Nat → Prop} {res : Int32 × sh_St} (C : sh_Cx p s m args meth c cX13_seeks 4 RX13 G A) (hr : meth.sig.returnType = some .boolean) : ∀ (n : Nat) (S : sh_St) (v1 : Int64) (v3 : Int32), fX13_seeks_24 n S v1 v3 = some res → ∀ (H : Heap) (locs : List Loc) (ls : Array Slot), sh_Wx G tbM A s H locs S → lv_has ls 4 [(0, .ref (G.2.1 0)), (1, .long v1), (3, .int v3)] → W p l e (sh_rm 5) s m args below meth c H locs 0 0 (sh_Qi below args s G tbM A res) (F0 m 24 ls []) := by
  intro n
  induction n with
  | zero => intro S v1 v3 hf; exact nomatch (show (none : Option (Int32 × sh_St)) = some res from hf)
  | succ n ih =>
    intro S v1 v3 hf H locs ls hw hl
    have hr24 := ih
    rw [fX13_seeks_24] at hf
    refine lv_iload_n C.1 C.2.1 dX13_seeks_24 rfl (lv_at hl 2 rfl) ?_
    refine lv_bipush (v := 40) C.1 C.2.1 dX13_seeks_25 (by decide) ?_
    refine sh_icmp_ge (tgt := 59) C hf dX13_seeks_27 (by decide) (fun hf => ?_) (fun hf => ?_)
    · refine lv_iconst (v := 0) C.1 C.2.1 dX13_seeks_59 (by decide) ?_
      exact sh_rz C hw hr hf dX13_seeks_60
    · refine lv_aload_n C.1 C.2.1 dX13_seeks_30 rfl (lv_at hl 0 rfl) ?_
      refine sh_getr C hw fl_X13_7 tbM_0 rfl dX13_seeks_31 ?_
      refine lv_iconst (v := 0) C.1 C.2.1 dX13_seeks_34 (by decide) ?_
      refine lv_iload_n C.1 C.2.1 dX13_seeks_35 rfl (lv_at hl 2 rfl) ?_
      refine lv_iadd C.1 C.2.1 dX13_seeks_36 ?_
      refine sh_iald C hw hf tbM_1 dX13_seeks_37 (fun hf => ?_)
      refine lv_iconst (v := 1) C.1 C.2.1 dX13_seeks_38 (by decide) ?_
      refine sh_icmp_ne (tgt := 53) C hf dX13_seeks_39 (by decide) (fun hf => ?_) (fun hf => ?_)
      · exact wX13_seeks_53 C hr (fX13_seeks_24 n) hr24 S v1 v3 hf _ _ _ hw (lv_sub hl [0, 1, 2] rfl)
      · refine lv_aload_n C.1 C.2.1 dX13_seeks_42 rfl (lv_at hl 0 rfl) ?_
        refine lv_iload_n C.1 C.2.1 dX13_seeks_43 rfl (lv_at hl 2 rfl) ?_
        refine lv_lload_n C.1 C.2.1 dX13_seeks_44 rfl (lv_at hl 1 rfl) ?_
        refine sh_Vi (As := [.int v3, .long v1]) (rest := []) C hw (kX13_isInBlock l v3 v1) yy_X13_isInBlock yv_X13_isInBlock ml_X13_160 hf tbM_0 rfl rfl rfl rfl (Nat.le_of_ble_eq_true rfl) (by decide) hl.1 dX13_seeks_45 (fun r16 S15 H locs hw hf => ?_)
        refine sh_if_eq (tgt := 53) C hf dX13_seeks_48 (by decide) (fun hf => ?_) (fun hf => ?_)
        · exact wX13_seeks_53 C hr (fX13_seeks_24 n) hr24 S15 v1 v3 hf _ _ _ hw (lv_sub hl [0, 1, 2] rfl)
        · refine lv_iconst (v := 1) C.1 C.2.1 dX13_seeks_51 (by decide) ?_
          exact sh_rz C hw hr hf dX13_seeks_52
def fX13_seeks (S : sh_St) (v1 : Int64) : Option (Int32 × sh_St) :=
    sh_t (sh_I S 0 30 (-1)) fun S1 =>
    sh_t (sh_I S1 0 31 (-1)) fun S2 =>
    sh_c (fX13_isAnyTorn S2 ) fun r4 S3 =>
    if r4 = 0 then (sh_c (fX13_hashOf S3 v1) fun r6 S5 =>
    sh_c (fX13_goes S5 r6) fun _ S7 =>
    sh_g 1080 1084 (sh_t (sh_I S7 0 32 (S7.1 1 (1080 : Int32).toNatClampNeg)) fun S9 =>
    fX13_seeks_84 sh_FU S9 v1 0))
    else (sh_t (sh_I S3 0 32 1) fun S13 =>
    fX13_seeks_24 sh_FU S13 v1 0)
set_option maxRecDepth 100000 in
set_option maxHeartbeats 4000000 in
theorem kX13_seeks (l : Launch) (v1 : Int64) : sh_Mi l yX13_seeks cX13_seeks 4 .boolean 5 tbM (fun G => [.ref (G.2.1 0), .long v1]) (fun S => fX13_seeks S v1) := by
  refine sh_mki (by decide) (fun G => Nat.le_of_ble_eq_true rfl) ?_
  intro p e s m args below meth c G A S res ls hf C hr hw hl
  have C : sh_Cx p s m args meth c cX13_seeks 4 RX13 G A := C
  have hl : lv_has ls 4 [(0, .ref (G.2.1 0)), (1, .long v1)] := hl
  replace hf : fX13_seeks S v1 = some res := hf
  rw [fX13_seeks] at hf
  refine lv_aload_n C.1 C.2.1 dX13_seeks_0 rfl (lv_at hl 0 rfl) ?_
  refine lv_iconst (v := -1) C.1 C.2.1 dX13_seeks_1 (by decide) ?_
  refine sh_puti C hw fl_X13_150 fp_11_30 hf tbM_0 rfl dX13_seeks_2 (fun S1 H locs hw hf => ?_)
  refine lv_aload_n C.1 C.2.1 dX13_seeks_5 rfl (lv_at hl 0 rfl) ?_
  refine lv_iconst (v := -1) C.1 C.2.1 dX13_seeks_6 (by decide) ?_
  refine sh_puti C hw fl_X13_153 fp_11_31 hf tbM_0 rfl dX13_seeks_7 (fun S2 H locs hw hf => ?_)
  refine lv_aload_n C.1 C.2.1 dX13_seeks_10 rfl (lv_at hl 0 rfl) ?_
  refine sh_Vi (As := []) (rest := []) C hw (kX13_isAnyTorn l ) yy_X13_isAnyTorn yv_X13_isAnyTorn ml_X13_156 hf tbM_0 rfl rfl rfl rfl (Nat.le_of_ble_eq_true rfl) (by decide) hl.1 dX13_seeks_11 (fun r4 S3 H locs hw hf => ?_)
  refine sh_if_eq (tgt := 61) C hf dX13_seeks_14 (by decide) (fun hf => ?_) (fun hf => ?_)
  · refine lv_aload_n C.1 C.2.1 dX13_seeks_61 rfl (lv_at hl 0 rfl) ?_
    refine lv_aload_n C.1 C.2.1 dX13_seeks_62 rfl (lv_at hl 0 rfl) ?_
    refine lv_lload_n C.1 C.2.1 dX13_seeks_63 rfl (lv_at hl 1 rfl) ?_
    refine sh_Vi (As := [.long v1]) (rest := [.ref (G.2.1 0)]) C hw (kX13_hashOf l v1) yy_X13_hashOf yv_X13_hashOf ml_X13_164 hf tbM_0 rfl rfl rfl rfl (Nat.le_of_ble_eq_true rfl) (by decide) hl.1 dX13_seeks_64 (fun r6 S5 H locs hw hf => ?_)
    refine sh_Vv (As := [.int r6]) (rest := []) C hw (kX13_goes l r6) yy_X13_goes yv_X13_goes ml_X13_167 hf tbM_0 rfl rfl rfl rfl (Nat.le_of_ble_eq_true rfl) (by decide) hl.1 dX13_seeks_67 (fun S7 H locs hw hf => ?_)
    refine lv_aload_n C.1 C.2.1 dX13_seeks_70 rfl (lv_at hl 0 rfl) ?_
    refine lv_aload_n C.1 C.2.1 dX13_seeks_71 rfl (lv_at hl 0 rfl) ?_
    refine sh_getr C hw fl_X13_7 tbM_0 rfl dX13_seeks_72 ?_
    refine lv_sipush (v := 1080) C.1 C.2.1 dX13_seeks_75 (by decide) ?_
    refine sh_iald C hw hf tbM_1 dX13_seeks_78 (fun hf => ?_)
    refine sh_puti C hw fl_X13_143 fp_11_32 hf tbM_0 rfl dX13_seeks_79 (fun S9 H locs hw hf => ?_)
    refine lv_iconst (v := 0) C.1 C.2.1 dX13_seeks_82 (by decide) ?_
    refine lv_istore_n (lv' := [(3, .int 0), (0, .ref (G.2.1 0)), (1, .long v1)]) C.1 C.2.1 dX13_seeks_83 rfl hl (by decide) rfl (fun ls hl => ?_)
    exact wX13_seeks_84 C hr _ S9 v1 0 hf _ _ _ hw (lv_sub hl [1, 2, 0] rfl)
  · refine lv_aload_n C.1 C.2.1 dX13_seeks_17 rfl (lv_at hl 0 rfl) ?_
    refine lv_iconst (v := 1) C.1 C.2.1 dX13_seeks_18 (by decide) ?_
    refine sh_puti C hw fl_X13_143 fp_11_32 hf tbM_0 rfl dX13_seeks_19 (fun S13 H locs hw hf => ?_)
    refine lv_iconst (v := 0) C.1 C.2.1 dX13_seeks_22 (by decide) ?_
    refine lv_istore_n (lv' := [(3, .int 0), (0, .ref (G.2.1 0)), (1, .long v1)]) C.1 C.2.1 dX13_seeks_23 rfl hl (by decide) rfl (fun ls hl => ?_)
    exact wX13_seeks_24 C hr _ S13 v1 0 hf _ _ _ hw (lv_sub hl [1, 2, 0] rfl)
def fX13_emptySlot_2 : Nat → sh_St → Int32 → Int32 → Option (Int32 × sh_St)
  | 0, _, _, _ => none
  | n + 1, S, v1, v2 =>
    if 6 ≤ v2 then (some ((-1), S))
    else (sh_c (fX13_isEmpty S v1 v2) fun r2 S1 =>
    if r2 = 0 then (sh_t (v2 + 1) fun y3 =>
    (fX13_emptySlot_2 n) S1 v1 y3)
    else (some (v2, S1)))
set_option maxRecDepth 100000 in
set_option maxHeartbeats 4000000 in
theorem wX13_emptySlot_2 {p : Program} {l : Launch} {e : Env} {s : State} {m : MethodId} {args : Array Value} {below : List Frame} {meth : Method} {c : Code} {G : sh_Ev} {A : Nat → Prop} {res : Int32 × sh_St} (C : sh_Cx p s m args meth c cX13_emptySlot 3 RX13 G A) (hr : meth.sig.returnType = some .int) : ∀ (n : Nat) (S : sh_St) (v1 : Int32) (v2 : Int32), fX13_emptySlot_2 n S v1 v2 = some res → ∀ (H : Heap) (locs : List Loc) (ls : Array Slot), sh_Wx G tbM A s H locs S → lv_has ls 3 [(0, .ref (G.2.1 0)), (1, .int v1), (2, .int v2)] → W p l e (sh_rm 3) s m args below meth c H locs 0 0 (sh_Qi below args s G tbM A res) (F0 m 2 ls []) := by
  intro n
  induction n with
  | zero => intro S v1 v2 hf; exact nomatch (show (none : Option (Int32 × sh_St)) = some res from hf)
  | succ n ih =>
    intro S v1 v2 hf H locs ls hw hl
    have hr2 := ih
    rw [fX13_emptySlot_2] at hf
    refine lv_iload_n C.1 C.2.1 dX13_emptySlot_2 rfl (lv_at hl 2 rfl) ?_
    refine lv_bipush (v := 6) C.1 C.2.1 dX13_emptySlot_3 (by decide) ?_
    refine sh_icmp_ge (tgt := 25) C hf dX13_emptySlot_5 (by decide) (fun hf => ?_) (fun hf => ?_)
    · refine lv_iconst (v := -1) C.1 C.2.1 dX13_emptySlot_25 (by decide) ?_
      exact sh_ri C hw hr hf dX13_emptySlot_26
    · refine lv_aload_n C.1 C.2.1 dX13_emptySlot_8 rfl (lv_at hl 0 rfl) ?_
      refine lv_iload_n C.1 C.2.1 dX13_emptySlot_9 rfl (lv_at hl 1 rfl) ?_
      refine lv_iload_n C.1 C.2.1 dX13_emptySlot_10 rfl (lv_at hl 2 rfl) ?_
      refine sh_Vi (As := [.int v1, .int v2]) (rest := []) C hw (kX13_isEmpty l v1 v2) yy_X13_isEmpty yv_X13_isEmpty ml_X13_86 hf tbM_0 rfl rfl rfl rfl (Nat.le_of_ble_eq_true rfl) (by decide) hl.1 dX13_emptySlot_11 (fun r2 S1 H locs hw hf => ?_)
      refine sh_if_eq (tgt := 19) C hf dX13_emptySlot_14 (by decide) (fun hf => ?_) (fun hf => ?_)
      · obtain ⟨y3, ey3, hf⟩ := sh_nm hf
        refine lv_iinc (v := y3) (lv' := [(2, .int y3), (0, .ref (G.2.1 0)), (1, .int v1)]) C.1 C.2.1 dX13_emptySlot_19 hl (k := 2) rfl (by rw [← ey3]; rfl) (by decide) rfl (fun ls hl => ?_)
        refine lv_goto (tgt := 2) C.1 C.2.1 dX13_emptySlot_22 (by decide) ?_
        exact hr2 S1 v1 y3 hf _ _ _ hw (lv_sub hl [1, 2, 0] rfl)
      · refine lv_iload_n C.1 C.2.1 dX13_emptySlot_17 rfl (lv_at hl 2 rfl) ?_
        exact sh_ri C hw hr hf dX13_emptySlot_18
def fX13_emptySlot (S : sh_St) (v1 : Int32) : Option (Int32 × sh_St) :=
    fX13_emptySlot_2 sh_FU S v1 0
set_option maxRecDepth 100000 in
set_option maxHeartbeats 4000000 in
theorem kX13_emptySlot (l : Launch) (v1 : Int32) : sh_Mi l yX13_emptySlot cX13_emptySlot 3 .int 3 tbM (fun G => [.ref (G.2.1 0), .int v1]) (fun S => fX13_emptySlot S v1) := by
  refine sh_mki (by decide) (fun G => Nat.le_of_ble_eq_true rfl) ?_
  intro p e s m args below meth c G A S res ls hf C hr hw hl
  have C : sh_Cx p s m args meth c cX13_emptySlot 3 RX13 G A := C
  have hl : lv_has ls 3 [(0, .ref (G.2.1 0)), (1, .int v1)] := hl
  replace hf : fX13_emptySlot S v1 = some res := hf
  rw [fX13_emptySlot] at hf
  refine lv_iconst (v := 0) C.1 C.2.1 dX13_emptySlot_0 (by decide) ?_
  refine lv_istore_n (lv' := [(2, .int 0), (0, .ref (G.2.1 0)), (1, .int v1)]) C.1 C.2.1 dX13_emptySlot_1 rfl hl (by decide) rfl (fun ls hl => ?_)
  exact wX13_emptySlot_2 C hr _ S v1 0 hf _ _ _ hw (lv_sub hl [1, 2, 0] rfl)
def fX13_aboveOf_61 (rk2 : sh_St → Int32 → Int32 → Option (Int32 × sh_St)) (S : sh_St) (v1 : Int32) (v2 : Int32) : Option (Int32 × sh_St) :=
    sh_t (v2 + 1) fun y1 =>
    rk2 S v1 y1
set_option maxRecDepth 100000 in
set_option maxHeartbeats 4000000 in
theorem wX13_aboveOf_61 {p : Program} {l : Launch} {e : Env} {s : State} {m : MethodId} {args : Array Value} {below : List Frame} {meth : Method} {c : Code} {G : sh_Ev} {A : Nat → Prop} {res : Int32 × sh_St} (C : sh_Cx p s m args meth c cX13_aboveOf 4 RX13 G A) (hr : meth.sig.returnType = some .int) (rk2 : sh_St → Int32 → Int32 → Option (Int32 × sh_St)) (hr2 : ∀ (S : sh_St) (v1 : Int32) (v2 : Int32), rk2 S v1 v2 = some res → ∀ (H : Heap) (locs : List Loc) (ls : Array Slot), sh_Wx G tbM A s H locs S → lv_has ls 4 [(0, .ref (G.2.1 0)), (1, .int v1), (2, .int v2)] → W p l e (sh_rm 2) s m args below meth c H locs 0 0 (sh_Qi below args s G tbM A res) (F0 m 2 ls [])) : ∀ (S : sh_St) (v1 : Int32) (v2 : Int32), fX13_aboveOf_61 rk2 S v1 v2 = some res → ∀ (H : Heap) (locs : List Loc) (ls : Array Slot), sh_Wx G tbM A s H locs S → lv_has ls 4 [(0, .ref (G.2.1 0)), (1, .int v1), (2, .int v2)] → W p l e (sh_rm 2) s m args below meth c H locs 0 0 (sh_Qi below args s G tbM A res) (F0 m 61 ls []) := by
  intro S v1 v2 hf H locs ls hw hl
  rw [fX13_aboveOf_61] at hf
  obtain ⟨y1, ey1, hf⟩ := sh_nm hf
  refine lv_iinc (v := y1) (lv' := [(2, .int y1), (0, .ref (G.2.1 0)), (1, .int v1)]) C.1 C.2.1 dX13_aboveOf_61 hl (k := 2) rfl (by rw [← ey1]; rfl) (by decide) rfl (fun ls hl => ?_)
  refine lv_goto (tgt := 2) C.1 C.2.1 dX13_aboveOf_64 (by decide) ?_
  exact hr2 S v1 y1 hf _ _ _ hw (lv_sub hl [1, 2, 0] rfl)
def fX13_aboveOf_25 (rk2 : sh_St → Int32 → Int32 → Option (Int32 × sh_St)) : Nat → sh_St → Int32 → Int32 → Int32 → Option (Int32 × sh_St)
  | 0, _, _, _, _ => none
  | n + 1, S, v1, v2, v3 =>
    sh_g (80 + v2) 1084 (if (S.1 1 (80 + v2).toNatClampNeg) ≤ v3 then (fX13_aboveOf_61 rk2 S v1 v2)
    else (sh_c (fX13_rowAt S v2 v3 2) fun r3 S2 =>
    sh_g r3 1084 (if (S2.1 1 r3.toNatClampNeg) = v1 then (some (v2, S2))
    else (sh_t (v3 + 1) fun y4 =>
    (fX13_aboveOf_25 rk2 n) S2 v1 v2 y4))))
set_option maxRecDepth 100000 in
set_option maxHeartbeats 4000000 in
theorem wX13_aboveOf_25 {p : Program} {l : Launch} {e : Env} {s : State} {m : MethodId} {args : Array Value} {below : List Frame} {meth : Method} {c : Code} {G : sh_Ev} {A : Nat → Prop} {res : Int32 × sh_St} (C : sh_Cx p s m args meth c cX13_aboveOf 4 RX13 G A) (hr : meth.sig.returnType = some .int) (rk2 : sh_St → Int32 → Int32 → Option (Int32 × sh_St)) (hr2 : ∀ (S : sh_St) (v1 : Int32) (v2 : Int32), rk2 S v1 v2 = some res → ∀ (H : Heap) (locs : List Loc) (ls : Array Slot), sh_Wx G tbM A s H locs S → lv_has ls 4 [(0, .ref (G.2.1 0)), (1, .int v1), (2, .int v2)] → W p l e (sh_rm 2) s m args below meth c H locs 0 0 (sh_Qi below args s G tbM A res) (F0 m 2 ls [])) : ∀ (n : Nat) (S : sh_St) (v1 : Int32) (v2 : Int32) (v3 : Int32), fX13_aboveOf_25 rk2 n S v1 v2 v3 = some res → ∀ (H : Heap) (locs : List Loc) (ls : Array Slot), sh_Wx G tbM A s H locs S → lv_has ls 4 [(0, .ref (G.2.1 0)), (1, .int v1), (2, .int v2), (3, .int v3)] → W p l e (sh_rm 2) s m args below meth c H locs 0 0 (sh_Qi below args s G tbM A res) (F0 m 25 ls []) := by
  intro n
  induction n with
  | zero => intro S v1 v2 v3 hf; exact nomatch (show (none : Option (Int32 × sh_St)) = some res from hf)
  | succ n ih =>
    intro S v1 v2 v3 hf H locs ls hw hl
    have hr25 := ih
    rw [fX13_aboveOf_25] at hf
    refine lv_iload_n C.1 C.2.1 dX13_aboveOf_25 rfl (lv_at hl 3 rfl) ?_
    refine lv_aload_n C.1 C.2.1 dX13_aboveOf_26 rfl (lv_at hl 0 rfl) ?_
    refine sh_getr C hw fl_X13_7 tbM_0 rfl dX13_aboveOf_27 ?_
    refine lv_bipush (v := 80) C.1 C.2.1 dX13_aboveOf_30 (by decide) ?_
    refine lv_iload_n C.1 C.2.1 dX13_aboveOf_32 rfl (lv_at hl 2 rfl) ?_
    refine lv_iadd C.1 C.2.1 dX13_aboveOf_33 ?_
    refine sh_iald C hw hf tbM_1 dX13_aboveOf_34 (fun hf => ?_)
    refine sh_icmp_ge (tgt := 61) C hf dX13_aboveOf_35 (by decide) (fun hf => ?_) (fun hf => ?_)
    · exact wX13_aboveOf_61 C hr rk2 hr2 S v1 v2 hf _ _ _ hw (lv_sub hl [0, 1, 2] rfl)
    · refine lv_aload_n C.1 C.2.1 dX13_aboveOf_38 rfl (lv_at hl 0 rfl) ?_
      refine sh_getr C hw fl_X13_7 tbM_0 rfl dX13_aboveOf_39 ?_
      refine lv_iload_n C.1 C.2.1 dX13_aboveOf_42 rfl (lv_at hl 2 rfl) ?_
      refine lv_iload_n C.1 C.2.1 dX13_aboveOf_43 rfl (lv_at hl 3 rfl) ?_
      refine lv_iconst (v := 2) C.1 C.2.1 dX13_aboveOf_44 (by decide) ?_
      refine sh_Si (As := [.int v2, .int v3, .int 2]) (rest := [.ref (G.2.1 1)]) C hw (kX13_rowAt l v2 v3 2) yy_X13_rowAt ys_X13_rowAt ml_X13_117 rfl hf rfl rfl rfl (Nat.le_of_ble_eq_true rfl) (by decide) hl.1 dX13_aboveOf_45 (fun r3 S2 H locs hw hf => ?_)
      refine sh_iald C hw hf tbM_1 dX13_aboveOf_48 (fun hf => ?_)
      refine lv_iload_n C.1 C.2.1 dX13_aboveOf_49 rfl (lv_at hl 1 rfl) ?_
      refine sh_icmp_ne (tgt := 55) C hf dX13_aboveOf_50 (by decide) (fun hf => ?_) (fun hf => ?_)
      · obtain ⟨y4, ey4, hf⟩ := sh_nm hf
        refine lv_iinc (v := y4) (lv' := [(3, .int y4), (0, .ref (G.2.1 0)), (1, .int v1), (2, .int v2)]) C.1 C.2.1 dX13_aboveOf_55 hl (k := 3) rfl (by rw [← ey4]; rfl) (by decide) rfl (fun ls hl => ?_)
        refine lv_goto (tgt := 25) C.1 C.2.1 dX13_aboveOf_58 (by decide) ?_
        exact hr25 S2 v1 v2 y4 hf _ _ _ hw (lv_sub hl [1, 2, 3, 0] rfl)
      · refine lv_iload_n C.1 C.2.1 dX13_aboveOf_53 rfl (lv_at hl 2 rfl) ?_
        exact sh_ri C hw hr hf dX13_aboveOf_54
def fX13_aboveOf_2 : Nat → sh_St → Int32 → Int32 → Option (Int32 × sh_St)
  | 0, _, _, _ => none
  | n + 1, S, v1, v2 =>
    if 40 ≤ v2 then (some ((-1), S))
    else (sh_g (0 + v2) 1084 (if (S.1 1 (0 + v2).toNatClampNeg) = 2 then (fX13_aboveOf_25 (fX13_aboveOf_2 n) sh_FU S v1 v2 0)
    else (fX13_aboveOf_61 (fX13_aboveOf_2 n) S v1 v2)))
set_option maxRecDepth 100000 in
set_option maxHeartbeats 4000000 in
theorem wX13_aboveOf_2 {p : Program} {l : Launch} {e : Env} {s : State} {m : MethodId} {args : Array Value} {below : List Frame} {meth : Method} {c : Code} {G : sh_Ev} {A : Nat → Prop} {res : Int32 × sh_St} (C : sh_Cx p s m args meth c cX13_aboveOf 4 RX13 G A) (hr : meth.sig.returnType = some .int) : ∀ (n : Nat) (S : sh_St) (v1 : Int32) (v2 : Int32), fX13_aboveOf_2 n S v1 v2 = some res → ∀ (H : Heap) (locs : List Loc) (ls : Array Slot), sh_Wx G tbM A s H locs S → lv_has ls 4 [(0, .ref (G.2.1 0)), (1, .int v1), (2, .int v2)] → W p l e (sh_rm 2) s m args below meth c H locs 0 0 (sh_Qi below args s G tbM A res) (F0 m 2 ls []) := by
  intro n
  induction n with
  | zero => intro S v1 v2 hf; exact nomatch (show (none : Option (Int32 × sh_St)) = some res from hf)
  | succ n ih =>
    intro S v1 v2 hf H locs ls hw hl
    have hr2 := ih
    rw [fX13_aboveOf_2] at hf
    refine lv_iload_n C.1 C.2.1 dX13_aboveOf_2 rfl (lv_at hl 2 rfl) ?_
    refine lv_bipush (v := 40) C.1 C.2.1 dX13_aboveOf_3 (by decide) ?_
    refine sh_icmp_ge (tgt := 67) C hf dX13_aboveOf_5 (by decide) (fun hf => ?_) (fun hf => ?_)
    · refine lv_iconst (v := -1) C.1 C.2.1 dX13_aboveOf_67 (by decide) ?_
      exact sh_ri C hw hr hf dX13_aboveOf_68
    · refine lv_aload_n C.1 C.2.1 dX13_aboveOf_8 rfl (lv_at hl 0 rfl) ?_
      refine sh_getr C hw fl_X13_7 tbM_0 rfl dX13_aboveOf_9 ?_
      refine lv_iconst (v := 0) C.1 C.2.1 dX13_aboveOf_12 (by decide) ?_
      refine lv_iload_n C.1 C.2.1 dX13_aboveOf_13 rfl (lv_at hl 2 rfl) ?_
      refine lv_iadd C.1 C.2.1 dX13_aboveOf_14 ?_
      refine sh_iald C hw hf tbM_1 dX13_aboveOf_15 (fun hf => ?_)
      refine lv_iconst (v := 2) C.1 C.2.1 dX13_aboveOf_16 (by decide) ?_
      refine sh_icmp_eq (tgt := 23) C hf dX13_aboveOf_17 (by decide) (fun hf => ?_) (fun hf => ?_)
      · refine lv_iconst (v := 0) C.1 C.2.1 dX13_aboveOf_23 (by decide) ?_
        refine lv_istore_n (lv' := [(3, .int 0), (0, .ref (G.2.1 0)), (1, .int v1), (2, .int v2)]) C.1 C.2.1 dX13_aboveOf_24 rfl hl (by decide) rfl (fun ls hl => ?_)
        exact wX13_aboveOf_25 C hr (fX13_aboveOf_2 n) hr2 _ S v1 v2 0 hf _ _ _ hw (lv_sub hl [1, 2, 3, 0] rfl)
      · refine lv_goto (tgt := 61) C.1 C.2.1 dX13_aboveOf_20 (by decide) ?_
        exact wX13_aboveOf_61 C hr (fX13_aboveOf_2 n) hr2 S v1 v2 hf _ _ _ hw (lv_sub hl [0, 1, 2] rfl)
def fX13_aboveOf (S : sh_St) (v1 : Int32) : Option (Int32 × sh_St) :=
    fX13_aboveOf_2 sh_FU S v1 0
set_option maxRecDepth 100000 in
set_option maxHeartbeats 4000000 in
theorem kX13_aboveOf (l : Launch) (v1 : Int32) : sh_Mi l yX13_aboveOf cX13_aboveOf 4 .int 2 tbM (fun G => [.ref (G.2.1 0), .int v1]) (fun S => fX13_aboveOf S v1) := by
  refine sh_mki (by decide) (fun G => Nat.le_of_ble_eq_true rfl) ?_
  intro p e s m args below meth c G A S res ls hf C hr hw hl
  have C : sh_Cx p s m args meth c cX13_aboveOf 4 RX13 G A := C
  have hl : lv_has ls 4 [(0, .ref (G.2.1 0)), (1, .int v1)] := hl
  replace hf : fX13_aboveOf S v1 = some res := hf
  rw [fX13_aboveOf] at hf
  refine lv_iconst (v := 0) C.1 C.2.1 dX13_aboveOf_0 (by decide) ?_
  refine lv_istore_n (lv' := [(2, .int 0), (0, .ref (G.2.1 0)), (1, .int v1)]) C.1 C.2.1 dX13_aboveOf_1 rfl hl (by decide) rfl (fun ls hl => ?_)
  exact wX13_aboveOf_2 C hr _ S v1 0 hf _ _ _ hw (lv_sub hl [1, 2, 0] rfl)
def fX13_rowOf_2 : Nat → sh_St → Int32 → Int32 → Int32 → Option (Int32 × sh_St)
  | 0, _, _, _, _ => none
  | n + 1, S, v1, v2, v3 =>
    sh_c (fX13_rowAt S v1 v3 2) fun r2 S1 =>
    sh_g r2 1084 (if (S1.1 1 r2.toNatClampNeg) = v2 then (some (v3, S1))
    else (sh_t (v3 + 1) fun y3 =>
    (fX13_rowOf_2 n) S1 v1 v2 y3))
set_option maxRecDepth 100000 in
set_option maxHeartbeats 4000000 in
theorem wX13_rowOf_2 {p : Program} {l : Launch} {e : Env} {s : State} {m : MethodId} {args : Array Value} {below : List Frame} {meth : Method} {c : Code} {G : sh_Ev} {A : Nat → Prop} {res : Int32 × sh_St} (C : sh_Cx p s m args meth c cX13_rowOf 4 RX13 G A) (hr : meth.sig.returnType = some .int) : ∀ (n : Nat) (S : sh_St) (v1 : Int32) (v2 : Int32) (v3 : Int32), fX13_rowOf_2 n S v1 v2 v3 = some res → ∀ (H : Heap) (locs : List Loc) (ls : Array Slot), sh_Wx G tbM A s H locs S → lv_has ls 4 [(0, .ref (G.2.1 0)), (1, .int v1), (2, .int v2), (3, .int v3)] → W p l e (sh_rm 2) s m args below meth c H locs 0 0 (sh_Qi below args s G tbM A res) (F0 m 2 ls []) := by
  intro n
  induction n with
  | zero => intro S v1 v2 v3 hf; exact nomatch (show (none : Option (Int32 × sh_St)) = some res from hf)
  | succ n ih =>
    intro S v1 v2 v3 hf H locs ls hw hl
    have hr2 := ih
    rw [fX13_rowOf_2] at hf
    refine lv_aload_n C.1 C.2.1 dX13_rowOf_2 rfl (lv_at hl 0 rfl) ?_
    refine sh_getr C hw fl_X13_7 tbM_0 rfl dX13_rowOf_3 ?_
    refine lv_iload_n C.1 C.2.1 dX13_rowOf_6 rfl (lv_at hl 1 rfl) ?_
    refine lv_iload_n C.1 C.2.1 dX13_rowOf_7 rfl (lv_at hl 3 rfl) ?_
    refine lv_iconst (v := 2) C.1 C.2.1 dX13_rowOf_8 (by decide) ?_
    refine sh_Si (As := [.int v1, .int v3, .int 2]) (rest := [.ref (G.2.1 1)]) C hw (kX13_rowAt l v1 v3 2) yy_X13_rowAt ys_X13_rowAt ml_X13_117 rfl hf rfl rfl rfl (Nat.le_of_ble_eq_true rfl) (by decide) hl.1 dX13_rowOf_9 (fun r2 S1 H locs hw hf => ?_)
    refine sh_iald C hw hf tbM_1 dX13_rowOf_12 (fun hf => ?_)
    refine lv_iload_n C.1 C.2.1 dX13_rowOf_13 rfl (lv_at hl 2 rfl) ?_
    refine sh_icmp_eq (tgt := 23) C hf dX13_rowOf_14 (by decide) (fun hf => ?_) (fun hf => ?_)
    · refine lv_iload_n C.1 C.2.1 dX13_rowOf_23 rfl (lv_at hl 3 rfl) ?_
      exact sh_ri C hw hr hf dX13_rowOf_24
    · obtain ⟨y3, ey3, hf⟩ := sh_nm hf
      refine lv_iinc (v := y3) (lv' := [(3, .int y3), (0, .ref (G.2.1 0)), (1, .int v1), (2, .int v2)]) C.1 C.2.1 dX13_rowOf_17 hl (k := 3) rfl (by rw [← ey3]; rfl) (by decide) rfl (fun ls hl => ?_)
      refine lv_goto (tgt := 2) C.1 C.2.1 dX13_rowOf_20 (by decide) ?_
      exact hr2 S1 v1 v2 y3 hf _ _ _ hw (lv_sub hl [1, 2, 3, 0] rfl)
def fX13_rowOf (S : sh_St) (v1 : Int32) (v2 : Int32) : Option (Int32 × sh_St) :=
    fX13_rowOf_2 sh_FU S v1 v2 0
set_option maxRecDepth 100000 in
set_option maxHeartbeats 4000000 in
theorem kX13_rowOf (l : Launch) (v1 : Int32) (v2 : Int32) : sh_Mi l yX13_rowOf cX13_rowOf 4 .int 2 tbM (fun G => [.ref (G.2.1 0), .int v1, .int v2]) (fun S => fX13_rowOf S v1 v2) := by
  refine sh_mki (by decide) (fun G => Nat.le_of_ble_eq_true rfl) ?_
  intro p e s m args below meth c G A S res ls hf C hr hw hl
  have C : sh_Cx p s m args meth c cX13_rowOf 4 RX13 G A := C
  have hl : lv_has ls 4 [(0, .ref (G.2.1 0)), (1, .int v1), (2, .int v2)] := hl
  replace hf : fX13_rowOf S v1 v2 = some res := hf
  rw [fX13_rowOf] at hf
  refine lv_iconst (v := 0) C.1 C.2.1 dX13_rowOf_0 (by decide) ?_
  refine lv_istore_n (lv' := [(3, .int 0), (0, .ref (G.2.1 0)), (1, .int v1), (2, .int v2)]) C.1 C.2.1 dX13_rowOf_1 rfl hl (by decide) rfl (fun ls hl => ?_)
  exact wX13_rowOf_2 C hr _ S v1 v2 0 hf _ _ _ hw (lv_sub hl [1, 2, 3, 0] rfl)
def fX13_needs_2 : Nat → sh_St → Int32 → Option (Int32 × sh_St)
  | 0, _, _ => none
  | n + 1, S, v1 =>
    if (S.1 0 29) ≤ v1 then (sh_g 1080 1084 (if (S.1 1 (1080 : Int32).toNatClampNeg) = 0 then (some (2, S))
    else (sh_g (S.1 0 28) 40 (sh_c (fX13_aboveOf S (S.1 15 (S.1 0 28).toNatClampNeg)) fun r2 S1 =>
    sh_g (80 + r2) 1084 (if 5 ≤ (S1.1 1 (80 + r2).toNatClampNeg) then (sh_g 1080 1084 (if (S1.1 1 (1080 : Int32).toNatClampNeg) = 1 then (some (3, S1))
    else (sh_g 80 1084 (if 5 ≤ (S1.1 1 (80 : Int32).toNatClampNeg) then (some ((-1), S1))
    else (some (2, S1))))))
    else (some (1, S1)))))))
    else (sh_g ((S.1 0 28) + v1) 40 (sh_c (fX13_emptySlot S (S.1 15 ((S.1 0 28) + v1).toNatClampNeg)) fun r4 S3 =>
    if r4 = (-1) then (sh_t (v1 + 1) fun y5 =>
    (fX13_needs_2 n) S3 y5)
    else (some (0, S3))))
set_option maxRecDepth 100000 in
set_option maxHeartbeats 4000000 in
theorem wX13_needs_2 {p : Program} {l : Launch} {e : Env} {s : State} {m : MethodId} {args : Array Value} {below : List Frame} {meth : Method} {c : Code} {G : sh_Ev} {A : Nat → Prop} {res : Int32 × sh_St} (C : sh_Cx p s m args meth c cX13_needs 2 RX13 G A) (hr : meth.sig.returnType = some .int) : ∀ (n : Nat) (S : sh_St) (v1 : Int32), fX13_needs_2 n S v1 = some res → ∀ (H : Heap) (locs : List Loc) (ls : Array Slot), sh_Wx G tbM A s H locs S → lv_has ls 2 [(0, .ref (G.2.1 0)), (1, .int v1)] → W p l e (sh_rm 4) s m args below meth c H locs 0 0 (sh_Qi below args s G tbM A res) (F0 m 2 ls []) := by
  intro n
  induction n with
  | zero => intro S v1 hf; exact nomatch (show (none : Option (Int32 × sh_St)) = some res from hf)
  | succ n ih =>
    intro S v1 hf H locs ls hw hl
    have hr2 := ih
    rw [fX13_needs_2] at hf
    refine lv_iload_n C.1 C.2.1 dX13_needs_2 rfl (lv_at hl 1 rfl) ?_
    refine lv_aload_n C.1 C.2.1 dX13_needs_3 rfl (lv_at hl 0 rfl) ?_
    refine sh_geti C hw fl_X13_140 tbM_0 rfl dX13_needs_4 ?_
    refine sh_icmp_ge (tgt := 37) C hf dX13_needs_7 (by decide) (fun hf => ?_) (fun hf => ?_)
    · refine lv_aload_n C.1 C.2.1 dX13_needs_37 rfl (lv_at hl 0 rfl) ?_
      refine sh_getr C hw fl_X13_7 tbM_0 rfl dX13_needs_38 ?_
      refine lv_sipush (v := 1080) C.1 C.2.1 dX13_needs_41 (by decide) ?_
      refine sh_iald C hw hf tbM_1 dX13_needs_44 (fun hf => ?_)
      refine sh_if_ne (tgt := 50) C hf dX13_needs_45 (by decide) (fun hf => ?_) (fun hf => ?_)
      · refine lv_aload_n C.1 C.2.1 dX13_needs_50 rfl (lv_at hl 0 rfl) ?_
        refine lv_aload_n C.1 C.2.1 dX13_needs_51 rfl (lv_at hl 0 rfl) ?_
        refine sh_getr C hw fl_X13_58 tbM_0 rfl dX13_needs_52 ?_
        refine lv_aload_n C.1 C.2.1 dX13_needs_55 rfl (lv_at hl 0 rfl) ?_
        refine sh_geti C hw fl_X13_137 tbM_0 rfl dX13_needs_56 ?_
        refine sh_iald C hw hf tbM_15 dX13_needs_59 (fun hf => ?_)
        refine sh_Vi (As := [.int (S.1 15 (S.1 0 28).toNatClampNeg)]) (rest := []) C hw (kX13_aboveOf l (S.1 15 (S.1 0 28).toNatClampNeg)) yy_X13_aboveOf yv_X13_aboveOf ml_X13_174 hf tbM_0 rfl rfl rfl rfl (Nat.le_of_ble_eq_true rfl) (by decide) hl.1 dX13_needs_60 (fun r2 S1 H locs hw hf => ?_)
        refine lv_istore_n (lv' := [(1, .int r2), (0, .ref (G.2.1 0))]) C.1 C.2.1 dX13_needs_63 rfl hl (by decide) rfl (fun ls hl => ?_)
        refine lv_aload_n C.1 C.2.1 dX13_needs_64 rfl (lv_at hl 1 rfl) ?_
        refine sh_getr C hw fl_X13_7 tbM_0 rfl dX13_needs_65 ?_
        refine lv_bipush (v := 80) C.1 C.2.1 dX13_needs_68 (by decide) ?_
        refine lv_iload_n C.1 C.2.1 dX13_needs_70 rfl (lv_at hl 0 rfl) ?_
        refine lv_iadd C.1 C.2.1 dX13_needs_71 ?_
        refine sh_iald C hw hf tbM_1 dX13_needs_72 (fun hf => ?_)
        refine lv_iconst (v := 5) C.1 C.2.1 dX13_needs_73 (by decide) ?_
        refine sh_icmp_ge (tgt := 79) C hf dX13_needs_74 (by decide) (fun hf => ?_) (fun hf => ?_)
        · refine lv_aload_n C.1 C.2.1 dX13_needs_79 rfl (lv_at hl 1 rfl) ?_
          refine sh_getr C hw fl_X13_7 tbM_0 rfl dX13_needs_80 ?_
          refine lv_sipush (v := 1080) C.1 C.2.1 dX13_needs_83 (by decide) ?_
          refine sh_iald C hw hf tbM_1 dX13_needs_86 (fun hf => ?_)
          refine lv_iconst (v := 1) C.1 C.2.1 dX13_needs_87 (by decide) ?_
          refine sh_icmp_ne (tgt := 93) C hf dX13_needs_88 (by decide) (fun hf => ?_) (fun hf => ?_)
          · refine lv_aload_n C.1 C.2.1 dX13_needs_93 rfl (lv_at hl 1 rfl) ?_
            refine sh_getr C hw fl_X13_7 tbM_0 rfl dX13_needs_94 ?_
            refine lv_bipush (v := 80) C.1 C.2.1 dX13_needs_97 (by decide) ?_
            refine sh_iald C hw hf tbM_1 dX13_needs_99 (fun hf => ?_)
            refine lv_iconst (v := 5) C.1 C.2.1 dX13_needs_100 (by decide) ?_
            refine sh_icmp_ge (tgt := 108) C hf dX13_needs_101 (by decide) (fun hf => ?_) (fun hf => ?_)
            · refine lv_iconst (v := -1) C.1 C.2.1 dX13_needs_108 (by decide) ?_
              exact sh_ri C hw hr hf dX13_needs_109
            · refine lv_iconst (v := 2) C.1 C.2.1 dX13_needs_104 (by decide) ?_
              refine lv_goto (tgt := 109) C.1 C.2.1 dX13_needs_105 (by decide) ?_
              exact sh_ri C hw hr hf dX13_needs_109
          · refine lv_iconst (v := 3) C.1 C.2.1 dX13_needs_91 (by decide) ?_
            exact sh_ri C hw hr hf dX13_needs_92
        · refine lv_iconst (v := 1) C.1 C.2.1 dX13_needs_77 (by decide) ?_
          exact sh_ri C hw hr hf dX13_needs_78
      · refine lv_iconst (v := 2) C.1 C.2.1 dX13_needs_48 (by decide) ?_
        exact sh_ri C hw hr hf dX13_needs_49
    · refine lv_aload_n C.1 C.2.1 dX13_needs_10 rfl (lv_at hl 0 rfl) ?_
      refine lv_aload_n C.1 C.2.1 dX13_needs_11 rfl (lv_at hl 0 rfl) ?_
      refine sh_getr C hw fl_X13_58 tbM_0 rfl dX13_needs_12 ?_
      refine lv_aload_n C.1 C.2.1 dX13_needs_15 rfl (lv_at hl 0 rfl) ?_
      refine sh_geti C hw fl_X13_137 tbM_0 rfl dX13_needs_16 ?_
      refine lv_iload_n C.1 C.2.1 dX13_needs_19 rfl (lv_at hl 1 rfl) ?_
      refine lv_iadd C.1 C.2.1 dX13_needs_20 ?_
      refine sh_iald C hw hf tbM_15 dX13_needs_21 (fun hf => ?_)
      refine sh_Vi (As := [.int (S.1 15 ((S.1 0 28) + v1).toNatClampNeg)]) (rest := []) C hw (kX13_emptySlot l (S.1 15 ((S.1 0 28) + v1).toNatClampNeg)) yy_X13_emptySlot yv_X13_emptySlot ml_X13_171 hf tbM_0 rfl rfl rfl rfl (Nat.le_of_ble_eq_true rfl) (by decide) hl.1 dX13_needs_22 (fun r4 S3 H locs hw hf => ?_)
      refine lv_iconst (v := -1) C.1 C.2.1 dX13_needs_25 (by decide) ?_
      refine sh_icmp_eq (tgt := 31) C hf dX13_needs_26 (by decide) (fun hf => ?_) (fun hf => ?_)
      · obtain ⟨y5, ey5, hf⟩ := sh_nm hf
        refine lv_iinc (v := y5) (lv' := [(1, .int y5), (0, .ref (G.2.1 0))]) C.1 C.2.1 dX13_needs_31 hl (k := 1) rfl (by rw [← ey5]; rfl) (by decide) rfl (fun ls hl => ?_)
        refine lv_goto (tgt := 2) C.1 C.2.1 dX13_needs_34 (by decide) ?_
        exact hr2 S3 y5 hf _ _ _ hw (lv_sub hl [1, 0] rfl)
      · refine lv_iconst (v := 0) C.1 C.2.1 dX13_needs_29 (by decide) ?_
        exact sh_ri C hw hr hf dX13_needs_30
def fX13_needs (S : sh_St) : Option (Int32 × sh_St) :=
    fX13_needs_2 sh_FU S 0
set_option maxRecDepth 100000 in
set_option maxHeartbeats 4000000 in
theorem kX13_needs (l : Launch) : sh_Mi l yX13_needs cX13_needs 2 .int 4 tbM (fun G => [.ref (G.2.1 0)]) (fun S => fX13_needs S) := by
  refine sh_mki (by decide) (fun G => Nat.le_of_ble_eq_true rfl) ?_
  intro p e s m args below meth c G A S res ls hf C hr hw hl
  have C : sh_Cx p s m args meth c cX13_needs 2 RX13 G A := C
  have hl : lv_has ls 2 [(0, .ref (G.2.1 0))] := hl
  replace hf : fX13_needs S = some res := hf
  rw [fX13_needs] at hf
  refine lv_iconst (v := 0) C.1 C.2.1 dX13_needs_0 (by decide) ?_
  refine lv_istore_n (lv' := [(1, .int 0), (0, .ref (G.2.1 0))]) C.1 C.2.1 dX13_needs_1 rfl hl (by decide) rfl (fun ls hl => ?_)
  exact wX13_needs_2 C hr _ S 0 hf _ _ _ hw (lv_sub hl [1, 0] rfl)
def fX13_takesBlock_2 : Nat → sh_St → Int32 → Int32 → Option (Int32 × sh_St)
  | 0, _, _, _ => none
  | n + 1, S, v1, v2 =>
    sh_g (0 + v2) 1084 (if (S.1 1 (0 + v2).toNatClampNeg) = 0 then (sh_g (0 + v2) 1084 (sh_t (sh_I S 1 (0 + v2).toNatClampNeg v1) fun S1 =>
    sh_g (40 + v2) 1084 (sh_t (sh_I S1 1 (40 + v2).toNatClampNeg 0) fun S2 =>
    sh_g (80 + v2) 1084 (sh_t (sh_I S2 1 (80 + v2).toNatClampNeg 0) fun S3 =>
    sh_t (sh_I S3 0 37 ((S3.1 0 37) + 1)) fun S4 =>
    some (v2, S4)))))
    else (sh_t (v2 + 1) fun y5 =>
    (fX13_takesBlock_2 n) S v1 y5))
set_option maxRecDepth 100000 in
set_option maxHeartbeats 4000000 in
theorem wX13_takesBlock_2 {p : Program} {l : Launch} {e : Env} {s : State} {m : MethodId} {args : Array Value} {below : List Frame} {meth : Method} {c : Code} {G : sh_Ev} {A : Nat → Prop} {res : Int32 × sh_St} (C : sh_Cx p s m args meth c cX13_takesBlock 3 RX13 G A) (hr : meth.sig.returnType = some .int) : ∀ (n : Nat) (S : sh_St) (v1 : Int32) (v2 : Int32), fX13_takesBlock_2 n S v1 v2 = some res → ∀ (H : Heap) (locs : List Loc) (ls : Array Slot), sh_Wx G tbM A s H locs S → lv_has ls 3 [(0, .ref (G.2.1 0)), (1, .int v1), (2, .int v2)] → W p l e (sh_rm 1) s m args below meth c H locs 0 0 (sh_Qi below args s G tbM A res) (F0 m 2 ls []) := by
  intro n
  induction n with
  | zero => intro S v1 v2 hf; exact nomatch (show (none : Option (Int32 × sh_St)) = some res from hf)
  | succ n ih =>
    intro S v1 v2 hf H locs ls hw hl
    have hr2 := ih
    rw [fX13_takesBlock_2] at hf
    refine lv_aload_n C.1 C.2.1 dX13_takesBlock_2 rfl (lv_at hl 0 rfl) ?_
    refine sh_getr C hw fl_X13_7 tbM_0 rfl dX13_takesBlock_3 ?_
    refine lv_iconst (v := 0) C.1 C.2.1 dX13_takesBlock_6 (by decide) ?_
    refine lv_iload_n C.1 C.2.1 dX13_takesBlock_7 rfl (lv_at hl 2 rfl) ?_
    refine lv_iadd C.1 C.2.1 dX13_takesBlock_8 ?_
    refine sh_iald C hw hf tbM_1 dX13_takesBlock_9 (fun hf => ?_)
    refine sh_if_eq (tgt := 19) C hf dX13_takesBlock_10 (by decide) (fun hf => ?_) (fun hf => ?_)
    · refine lv_aload_n C.1 C.2.1 dX13_takesBlock_19 rfl (lv_at hl 0 rfl) ?_
      refine sh_getr C hw fl_X13_7 tbM_0 rfl dX13_takesBlock_20 ?_
      refine lv_iconst (v := 0) C.1 C.2.1 dX13_takesBlock_23 (by decide) ?_
      refine lv_iload_n C.1 C.2.1 dX13_takesBlock_24 rfl (lv_at hl 2 rfl) ?_
      refine lv_iadd C.1 C.2.1 dX13_takesBlock_25 ?_
      refine lv_iload_n C.1 C.2.1 dX13_takesBlock_26 rfl (lv_at hl 1 rfl) ?_
      refine sh_iast C hw hf tbM_1 dX13_takesBlock_27 (fun S1 H locs hw hf => ?_)
      refine lv_aload_n C.1 C.2.1 dX13_takesBlock_28 rfl (lv_at hl 0 rfl) ?_
      refine sh_getr C hw fl_X13_7 tbM_0 rfl dX13_takesBlock_29 ?_
      refine lv_bipush (v := 40) C.1 C.2.1 dX13_takesBlock_32 (by decide) ?_
      refine lv_iload_n C.1 C.2.1 dX13_takesBlock_34 rfl (lv_at hl 2 rfl) ?_
      refine lv_iadd C.1 C.2.1 dX13_takesBlock_35 ?_
      refine lv_iconst (v := 0) C.1 C.2.1 dX13_takesBlock_36 (by decide) ?_
      refine sh_iast C hw hf tbM_1 dX13_takesBlock_37 (fun S2 H locs hw hf => ?_)
      refine lv_aload_n C.1 C.2.1 dX13_takesBlock_38 rfl (lv_at hl 0 rfl) ?_
      refine sh_getr C hw fl_X13_7 tbM_0 rfl dX13_takesBlock_39 ?_
      refine lv_bipush (v := 80) C.1 C.2.1 dX13_takesBlock_42 (by decide) ?_
      refine lv_iload_n C.1 C.2.1 dX13_takesBlock_44 rfl (lv_at hl 2 rfl) ?_
      refine lv_iadd C.1 C.2.1 dX13_takesBlock_45 ?_
      refine lv_iconst (v := 0) C.1 C.2.1 dX13_takesBlock_46 (by decide) ?_
      refine sh_iast C hw hf tbM_1 dX13_takesBlock_47 (fun S3 H locs hw hf => ?_)
      refine lv_aload_n C.1 C.2.1 dX13_takesBlock_48 rfl (lv_at hl 0 rfl) ?_
      refine lv_dup C.1 C.2.1 dX13_takesBlock_49 rfl ?_
      refine sh_geti C hw fl_X13_177 tbM_0 rfl dX13_takesBlock_50 ?_
      refine lv_iconst (v := 1) C.1 C.2.1 dX13_takesBlock_53 (by decide) ?_
      refine lv_iadd C.1 C.2.1 dX13_takesBlock_54 ?_
      refine sh_puti C hw fl_X13_177 fp_11_37 hf tbM_0 rfl dX13_takesBlock_55 (fun S4 H locs hw hf => ?_)
      refine lv_iload_n C.1 C.2.1 dX13_takesBlock_58 rfl (lv_at hl 2 rfl) ?_
      exact sh_ri C hw hr hf dX13_takesBlock_59
    · obtain ⟨y5, ey5, hf⟩ := sh_nm hf
      refine lv_iinc (v := y5) (lv' := [(2, .int y5), (0, .ref (G.2.1 0)), (1, .int v1)]) C.1 C.2.1 dX13_takesBlock_13 hl (k := 2) rfl (by rw [← ey5]; rfl) (by decide) rfl (fun ls hl => ?_)
      refine lv_goto (tgt := 2) C.1 C.2.1 dX13_takesBlock_16 (by decide) ?_
      exact hr2 S v1 y5 hf _ _ _ hw (lv_sub hl [1, 2, 0] rfl)
def fX13_takesBlock (S : sh_St) (v1 : Int32) : Option (Int32 × sh_St) :=
    fX13_takesBlock_2 sh_FU S v1 0
set_option maxRecDepth 100000 in
set_option maxHeartbeats 4000000 in
theorem kX13_takesBlock (l : Launch) (v1 : Int32) : sh_Mi l yX13_takesBlock cX13_takesBlock 3 .int 1 tbM (fun G => [.ref (G.2.1 0), .int v1]) (fun S => fX13_takesBlock S v1) := by
  refine sh_mki (by decide) (fun G => Nat.le_of_ble_eq_true rfl) ?_
  intro p e s m args below meth c G A S res ls hf C hr hw hl
  have C : sh_Cx p s m args meth c cX13_takesBlock 3 RX13 G A := C
  have hl : lv_has ls 3 [(0, .ref (G.2.1 0)), (1, .int v1)] := hl
  replace hf : fX13_takesBlock S v1 = some res := hf
  rw [fX13_takesBlock] at hf
  refine lv_iconst (v := 0) C.1 C.2.1 dX13_takesBlock_0 (by decide) ?_
  refine lv_istore_n (lv' := [(2, .int 0), (0, .ref (G.2.1 0)), (1, .int v1)]) C.1 C.2.1 dX13_takesBlock_1 rfl hl (by decide) rfl (fun ls hl => ?_)
  exact wX13_takesBlock_2 C hr _ S v1 0 hf _ _ _ hw (lv_sub hl [1, 2, 0] rfl)
def fX13_lays (S : sh_St) (v1 : Int32) (v2 : Int32) (v3 : Int64) (v5 : Int32) : Option (Unit × sh_St) :=
    sh_c (fX13_slotAt S v1 v2) fun r2 S1 =>
    sh_g r2 240 (sh_t (sh_L S1 2 r2.toNatClampNeg v3) fun S3 =>
    sh_c (fX13_slotAt S3 v1 v2) fun r5 S4 =>
    sh_g (840 + r5) 1084 (sh_t (sh_I S4 1 (840 + r5).toNatClampNeg v5) fun S6 =>
    some ((), S6)))
set_option maxRecDepth 100000 in
set_option maxHeartbeats 4000000 in
theorem kX13_lays (l : Launch) (v1 : Int32) (v2 : Int32) (v3 : Int64) (v5 : Int32) : sh_Mv l yX13_lays cX13_lays 6 2 tbM (fun G => [.ref (G.2.1 0), .int v1, .int v2, .long v3, .int v5]) (fun S => fX13_lays S v1 v2 v3 v5) := by
  refine sh_mkv (by decide) (fun G => Nat.le_of_ble_eq_true rfl) ?_
  intro p e s m args below meth c G A S res ls hf C hr hw hl
  have C : sh_Cx p s m args meth c cX13_lays 6 RX13 G A := C
  have hl : lv_has ls 6 [(0, .ref (G.2.1 0)), (1, .int v1), (2, .int v2), (3, .long v3), (5, .int v5)] := hl
  replace hf : fX13_lays S v1 v2 v3 v5 = some res := hf
  rw [fX13_lays] at hf
  refine lv_aload_n C.1 C.2.1 dX13_lays_0 rfl (lv_at hl 0 rfl) ?_
  refine sh_getr C hw fl_X13_13 tbM_0 rfl dX13_lays_1 ?_
  refine lv_iload_n C.1 C.2.1 dX13_lays_4 rfl (lv_at hl 1 rfl) ?_
  refine lv_iload_n C.1 C.2.1 dX13_lays_5 rfl (lv_at hl 2 rfl) ?_
  refine sh_Si (As := [.int v1, .int v2]) (rest := [.ref (G.2.1 2)]) C hw (kX13_slotAt l v1 v2) yy_X13_slotAt ys_X13_slotAt ml_X13_82 rfl hf rfl rfl rfl (Nat.le_of_ble_eq_true rfl) (by decide) hl.1 dX13_lays_6 (fun r2 S1 H locs hw hf => ?_)
  refine lv_lload_n C.1 C.2.1 dX13_lays_9 rfl (lv_at hl 3 rfl) ?_
  refine sh_last C hw hf tbM_2 dX13_lays_10 (fun S3 H locs hw hf => ?_)
  refine lv_aload_n C.1 C.2.1 dX13_lays_11 rfl (lv_at hl 0 rfl) ?_
  refine sh_getr C hw fl_X13_7 tbM_0 rfl dX13_lays_12 ?_
  refine lv_sipush (v := 840) C.1 C.2.1 dX13_lays_15 (by decide) ?_
  refine lv_iload_n C.1 C.2.1 dX13_lays_18 rfl (lv_at hl 1 rfl) ?_
  refine lv_iload_n C.1 C.2.1 dX13_lays_19 rfl (lv_at hl 2 rfl) ?_
  refine sh_Si (As := [.int v1, .int v2]) (rest := [.int 840, .ref (G.2.1 1)]) C hw (kX13_slotAt l v1 v2) yy_X13_slotAt ys_X13_slotAt ml_X13_82 rfl hf rfl rfl rfl (Nat.le_of_ble_eq_true rfl) (by decide) hl.1 dX13_lays_20 (fun r5 S4 H locs hw hf => ?_)
  refine lv_iadd C.1 C.2.1 dX13_lays_23 ?_
  refine lv_iload C.1 C.2.1 dX13_lays_24 (lv_at hl 4 rfl) ?_
  refine sh_iast C hw hf tbM_1 dX13_lays_26 (fun S6 H locs hw hf => ?_)
  exact sh_rv C hw hr hf dX13_lays_27
def fX13_empties_2 : Nat → sh_St → Int32 → Int32 → Option (Unit × sh_St)
  | 0, _, _, _ => none
  | n + 1, S, v1, v2 =>
    if 6 ≤ v2 then (some ((), S))
    else (sh_c (fX13_lays S v1 v2 0 (-1)) fun _ S1 =>
    sh_t (v2 + 1) fun y3 =>
    (fX13_empties_2 n) S1 v1 y3)
set_option maxRecDepth 100000 in
set_option maxHeartbeats 4000000 in
theorem wX13_empties_2 {p : Program} {l : Launch} {e : Env} {s : State} {m : MethodId} {args : Array Value} {below : List Frame} {meth : Method} {c : Code} {G : sh_Ev} {A : Nat → Prop} {res : Unit × sh_St} (C : sh_Cx p s m args meth c cX13_empties 3 RX13 G A) (hr : meth.sig.returnType = none) : ∀ (n : Nat) (S : sh_St) (v1 : Int32) (v2 : Int32), fX13_empties_2 n S v1 v2 = some res → ∀ (H : Heap) (locs : List Loc) (ls : Array Slot), sh_Wx G tbM A s H locs S → lv_has ls 3 [(0, .ref (G.2.1 0)), (1, .int v1), (2, .int v2)] → W p l e (sh_rm 3) s m args below meth c H locs 0 0 (sh_Qv below args s G tbM A res) (F0 m 2 ls []) := by
  intro n
  induction n with
  | zero => intro S v1 v2 hf; exact nomatch (show (none : Option (Unit × sh_St)) = some res from hf)
  | succ n ih =>
    intro S v1 v2 hf H locs ls hw hl
    have hr2 := ih
    rw [fX13_empties_2] at hf
    refine lv_iload_n C.1 C.2.1 dX13_empties_2 rfl (lv_at hl 2 rfl) ?_
    refine lv_bipush (v := 6) C.1 C.2.1 dX13_empties_3 (by decide) ?_
    refine sh_icmp_ge (tgt := 22) C hf dX13_empties_5 (by decide) (fun hf => ?_) (fun hf => ?_)
    · exact sh_rv C hw hr hf dX13_empties_22
    · refine lv_aload_n C.1 C.2.1 dX13_empties_8 rfl (lv_at hl 0 rfl) ?_
      refine lv_iload_n C.1 C.2.1 dX13_empties_9 rfl (lv_at hl 1 rfl) ?_
      refine lv_iload_n C.1 C.2.1 dX13_empties_10 rfl (lv_at hl 2 rfl) ?_
      refine lv_lconst (v := 0) C.1 C.2.1 dX13_empties_11 (by decide) ?_
      refine lv_iconst (v := -1) C.1 C.2.1 dX13_empties_12 (by decide) ?_
      refine sh_Vv (As := [.int v1, .int v2, .long 0, .int (-1)]) (rest := []) C hw (kX13_lays l v1 v2 0 (-1)) yy_X13_lays yv_X13_lays ml_X13_180 hf tbM_0 rfl rfl rfl rfl (Nat.le_of_ble_eq_true rfl) (by decide) hl.1 dX13_empties_13 (fun S1 H locs hw hf => ?_)
      obtain ⟨y3, ey3, hf⟩ := sh_nm hf
      refine lv_iinc (v := y3) (lv' := [(2, .int y3), (0, .ref (G.2.1 0)), (1, .int v1)]) C.1 C.2.1 dX13_empties_16 hl (k := 2) rfl (by rw [← ey3]; rfl) (by decide) rfl (fun ls hl => ?_)
      refine lv_goto (tgt := 2) C.1 C.2.1 dX13_empties_19 (by decide) ?_
      exact hr2 S1 v1 y3 hf _ _ _ hw (lv_sub hl [1, 2, 0] rfl)
def fX13_empties (S : sh_St) (v1 : Int32) : Option (Unit × sh_St) :=
    fX13_empties_2 sh_FU S v1 0
set_option maxRecDepth 100000 in
set_option maxHeartbeats 4000000 in
theorem kX13_empties (l : Launch) (v1 : Int32) : sh_Mv l yX13_empties cX13_empties 3 3 tbM (fun G => [.ref (G.2.1 0), .int v1]) (fun S => fX13_empties S v1) := by
  refine sh_mkv (by decide) (fun G => Nat.le_of_ble_eq_true rfl) ?_
  intro p e s m args below meth c G A S res ls hf C hr hw hl
  have C : sh_Cx p s m args meth c cX13_empties 3 RX13 G A := C
  have hl : lv_has ls 3 [(0, .ref (G.2.1 0)), (1, .int v1)] := hl
  replace hf : fX13_empties S v1 = some res := hf
  rw [fX13_empties] at hf
  refine lv_iconst (v := 0) C.1 C.2.1 dX13_empties_0 (by decide) ?_
  refine lv_istore_n (lv' := [(2, .int 0), (0, .ref (G.2.1 0)), (1, .int v1)]) C.1 C.2.1 dX13_empties_1 rfl hl (by decide) rfl (fun ls hl => ?_)
  exact wX13_empties_2 C hr _ S v1 0 hf _ _ _ hw (lv_sub hl [1, 2, 0] rfl)
def fX13_laysRow (S : sh_St) (v1 : Int32) (v2 : Int32) (v3 : Int32) (v4 : Int32) (v5 : Int32) : Option (Unit × sh_St) :=
    sh_c (fX13_rowAt S v1 v2 0) fun r2 S1 =>
    sh_g r2 1084 (sh_t (sh_I S1 1 r2.toNatClampNeg v3) fun S3 =>
    sh_c (fX13_rowAt S3 v1 v2 1) fun r5 S4 =>
    sh_g r5 1084 (sh_t (sh_I S4 1 r5.toNatClampNeg v4) fun S6 =>
    sh_c (fX13_rowAt S6 v1 v2 2) fun r8 S7 =>
    sh_g r8 1084 (sh_t (sh_I S7 1 r8.toNatClampNeg v5) fun S9 =>
    some ((), S9))))
set_option maxRecDepth 100000 in
set_option maxHeartbeats 4000000 in
theorem kX13_laysRow (l : Launch) (v1 : Int32) (v2 : Int32) (v3 : Int32) (v4 : Int32) (v5 : Int32) : sh_Mv l yX13_laysRow cX13_laysRow 6 2 tbM (fun G => [.ref (G.2.1 0), .int v1, .int v2, .int v3, .int v4, .int v5]) (fun S => fX13_laysRow S v1 v2 v3 v4 v5) := by
  refine sh_mkv (by decide) (fun G => Nat.le_of_ble_eq_true rfl) ?_
  intro p e s m args below meth c G A S res ls hf C hr hw hl
  have C : sh_Cx p s m args meth c cX13_laysRow 6 RX13 G A := C
  have hl : lv_has ls 6 [(0, .ref (G.2.1 0)), (1, .int v1), (2, .int v2), (3, .int v3), (4, .int v4), (5, .int v5)] := hl
  replace hf : fX13_laysRow S v1 v2 v3 v4 v5 = some res := hf
  rw [fX13_laysRow] at hf
  refine lv_aload_n C.1 C.2.1 dX13_laysRow_0 rfl (lv_at hl 0 rfl) ?_
  refine sh_getr C hw fl_X13_7 tbM_0 rfl dX13_laysRow_1 ?_
  refine lv_iload_n C.1 C.2.1 dX13_laysRow_4 rfl (lv_at hl 1 rfl) ?_
  refine lv_iload_n C.1 C.2.1 dX13_laysRow_5 rfl (lv_at hl 2 rfl) ?_
  refine lv_iconst (v := 0) C.1 C.2.1 dX13_laysRow_6 (by decide) ?_
  refine sh_Si (As := [.int v1, .int v2, .int 0]) (rest := [.ref (G.2.1 1)]) C hw (kX13_rowAt l v1 v2 0) yy_X13_rowAt ys_X13_rowAt ml_X13_117 rfl hf rfl rfl rfl (Nat.le_of_ble_eq_true rfl) (by decide) hl.1 dX13_laysRow_7 (fun r2 S1 H locs hw hf => ?_)
  refine lv_iload_n C.1 C.2.1 dX13_laysRow_10 rfl (lv_at hl 3 rfl) ?_
  refine sh_iast C hw hf tbM_1 dX13_laysRow_11 (fun S3 H locs hw hf => ?_)
  refine lv_aload_n C.1 C.2.1 dX13_laysRow_12 rfl (lv_at hl 0 rfl) ?_
  refine sh_getr C hw fl_X13_7 tbM_0 rfl dX13_laysRow_13 ?_
  refine lv_iload_n C.1 C.2.1 dX13_laysRow_16 rfl (lv_at hl 1 rfl) ?_
  refine lv_iload_n C.1 C.2.1 dX13_laysRow_17 rfl (lv_at hl 2 rfl) ?_
  refine lv_iconst (v := 1) C.1 C.2.1 dX13_laysRow_18 (by decide) ?_
  refine sh_Si (As := [.int v1, .int v2, .int 1]) (rest := [.ref (G.2.1 1)]) C hw (kX13_rowAt l v1 v2 1) yy_X13_rowAt ys_X13_rowAt ml_X13_117 rfl hf rfl rfl rfl (Nat.le_of_ble_eq_true rfl) (by decide) hl.1 dX13_laysRow_19 (fun r5 S4 H locs hw hf => ?_)
  refine lv_iload C.1 C.2.1 dX13_laysRow_22 (lv_at hl 4 rfl) ?_
  refine sh_iast C hw hf tbM_1 dX13_laysRow_24 (fun S6 H locs hw hf => ?_)
  refine lv_aload_n C.1 C.2.1 dX13_laysRow_25 rfl (lv_at hl 0 rfl) ?_
  refine sh_getr C hw fl_X13_7 tbM_0 rfl dX13_laysRow_26 ?_
  refine lv_iload_n C.1 C.2.1 dX13_laysRow_29 rfl (lv_at hl 1 rfl) ?_
  refine lv_iload_n C.1 C.2.1 dX13_laysRow_30 rfl (lv_at hl 2 rfl) ?_
  refine lv_iconst (v := 2) C.1 C.2.1 dX13_laysRow_31 (by decide) ?_
  refine sh_Si (As := [.int v1, .int v2, .int 2]) (rest := [.ref (G.2.1 1)]) C hw (kX13_rowAt l v1 v2 2) yy_X13_rowAt ys_X13_rowAt ml_X13_117 rfl hf rfl rfl rfl (Nat.le_of_ble_eq_true rfl) (by decide) hl.1 dX13_laysRow_32 (fun r8 S7 H locs hw hf => ?_)
  refine lv_iload C.1 C.2.1 dX13_laysRow_35 (lv_at hl 5 rfl) ?_
  refine sh_iast C hw hf tbM_1 dX13_laysRow_37 (fun S9 H locs hw hf => ?_)
  exact sh_rv C hw hr hf dX13_laysRow_38
def fX13_copiesRow (S : sh_St) (v1 : Int32) (v2 : Int32) (v3 : Int32) (v4 : Int32) : Option (Unit × sh_St) :=
    sh_c (fX13_rowAt S v1 v2 0) fun r2 S1 =>
    sh_g r2 1084 (sh_c (fX13_rowAt S1 v1 v2 1) fun r4 S3 =>
    sh_g r4 1084 (sh_c (fX13_rowAt S3 v1 v2 2) fun r6 S5 =>
    sh_g r6 1084 (sh_c (fX13_laysRow S5 v3 v4 (S1.1 1 r2.toNatClampNeg) (S3.1 1 r4.toNatClampNeg) (S5.1 1 r6.toNatClampNeg)) fun _ S7 =>
    some ((), S7))))
set_option maxRecDepth 100000 in
set_option maxHeartbeats 4000000 in
theorem kX13_copiesRow (l : Launch) (v1 : Int32) (v2 : Int32) (v3 : Int32) (v4 : Int32) : sh_Mv l yX13_copiesRow cX13_copiesRow 5 3 tbM (fun G => [.ref (G.2.1 0), .int v1, .int v2, .int v3, .int v4]) (fun S => fX13_copiesRow S v1 v2 v3 v4) := by
  refine sh_mkv (by decide) (fun G => Nat.le_of_ble_eq_true rfl) ?_
  intro p e s m args below meth c G A S res ls hf C hr hw hl
  have C : sh_Cx p s m args meth c cX13_copiesRow 5 RX13 G A := C
  have hl : lv_has ls 5 [(0, .ref (G.2.1 0)), (1, .int v1), (2, .int v2), (3, .int v3), (4, .int v4)] := hl
  replace hf : fX13_copiesRow S v1 v2 v3 v4 = some res := hf
  rw [fX13_copiesRow] at hf
  refine lv_aload_n C.1 C.2.1 dX13_copiesRow_0 rfl (lv_at hl 0 rfl) ?_
  refine lv_iload_n C.1 C.2.1 dX13_copiesRow_1 rfl (lv_at hl 3 rfl) ?_
  refine lv_iload C.1 C.2.1 dX13_copiesRow_2 (lv_at hl 4 rfl) ?_
  refine lv_aload_n C.1 C.2.1 dX13_copiesRow_4 rfl (lv_at hl 0 rfl) ?_
  refine sh_getr C hw fl_X13_7 tbM_0 rfl dX13_copiesRow_5 ?_
  refine lv_iload_n C.1 C.2.1 dX13_copiesRow_8 rfl (lv_at hl 1 rfl) ?_
  refine lv_iload_n C.1 C.2.1 dX13_copiesRow_9 rfl (lv_at hl 2 rfl) ?_
  refine lv_iconst (v := 0) C.1 C.2.1 dX13_copiesRow_10 (by decide) ?_
  refine sh_Si (As := [.int v1, .int v2, .int 0]) (rest := [.ref (G.2.1 1), .int v4, .int v3, .ref (G.2.1 0)]) C hw (kX13_rowAt l v1 v2 0) yy_X13_rowAt ys_X13_rowAt ml_X13_117 rfl hf rfl rfl rfl (Nat.le_of_ble_eq_true rfl) (by decide) hl.1 dX13_copiesRow_11 (fun r2 S1 H locs hw hf => ?_)
  refine sh_iald C hw hf tbM_1 dX13_copiesRow_14 (fun hf => ?_)
  refine lv_aload_n C.1 C.2.1 dX13_copiesRow_15 rfl (lv_at hl 0 rfl) ?_
  refine sh_getr C hw fl_X13_7 tbM_0 rfl dX13_copiesRow_16 ?_
  refine lv_iload_n C.1 C.2.1 dX13_copiesRow_19 rfl (lv_at hl 1 rfl) ?_
  refine lv_iload_n C.1 C.2.1 dX13_copiesRow_20 rfl (lv_at hl 2 rfl) ?_
  refine lv_iconst (v := 1) C.1 C.2.1 dX13_copiesRow_21 (by decide) ?_
  refine sh_Si (As := [.int v1, .int v2, .int 1]) (rest := [.ref (G.2.1 1), .int (S1.1 1 r2.toNatClampNeg), .int v4, .int v3, .ref (G.2.1 0)]) C hw (kX13_rowAt l v1 v2 1) yy_X13_rowAt ys_X13_rowAt ml_X13_117 rfl hf rfl rfl rfl (Nat.le_of_ble_eq_true rfl) (by decide) hl.1 dX13_copiesRow_22 (fun r4 S3 H locs hw hf => ?_)
  refine sh_iald C hw hf tbM_1 dX13_copiesRow_25 (fun hf => ?_)
  refine lv_aload_n C.1 C.2.1 dX13_copiesRow_26 rfl (lv_at hl 0 rfl) ?_
  refine sh_getr C hw fl_X13_7 tbM_0 rfl dX13_copiesRow_27 ?_
  refine lv_iload_n C.1 C.2.1 dX13_copiesRow_30 rfl (lv_at hl 1 rfl) ?_
  refine lv_iload_n C.1 C.2.1 dX13_copiesRow_31 rfl (lv_at hl 2 rfl) ?_
  refine lv_iconst (v := 2) C.1 C.2.1 dX13_copiesRow_32 (by decide) ?_
  refine sh_Si (As := [.int v1, .int v2, .int 2]) (rest := [.ref (G.2.1 1), .int (S3.1 1 r4.toNatClampNeg), .int (S1.1 1 r2.toNatClampNeg), .int v4, .int v3, .ref (G.2.1 0)]) C hw (kX13_rowAt l v1 v2 2) yy_X13_rowAt ys_X13_rowAt ml_X13_117 rfl hf rfl rfl rfl (Nat.le_of_ble_eq_true rfl) (by decide) hl.1 dX13_copiesRow_33 (fun r6 S5 H locs hw hf => ?_)
  refine sh_iald C hw hf tbM_1 dX13_copiesRow_36 (fun hf => ?_)
  refine sh_Vv (As := [.int v3, .int v4, .int (S1.1 1 r2.toNatClampNeg), .int (S3.1 1 r4.toNatClampNeg), .int (S5.1 1 r6.toNatClampNeg)]) (rest := []) C hw (kX13_laysRow l v3 v4 (S1.1 1 r2.toNatClampNeg) (S3.1 1 r4.toNatClampNeg) (S5.1 1 r6.toNatClampNeg)) yy_X13_laysRow yv_X13_laysRow ml_X13_184 hf tbM_0 rfl rfl rfl rfl (Nat.le_of_ble_eq_true rfl) (by decide) hl.1 dX13_copiesRow_37 (fun S7 H locs hw hf => ?_)
  exact sh_rv C hw hr hf dX13_copiesRow_40
def fX13_sorts_107 (S : sh_St) (v1 : Int64) (v3 : Int32) (v4 : Int32) (v5 : Int32) : Option (Unit × sh_St) :=
    sh_g v5 240 (sh_t (sh_I S 20 v5.toNatClampNeg v4) fun S2 =>
    sh_g v5 240 (sh_t (sh_L S2 18 v5.toNatClampNeg v1) fun S3 =>
    sh_g v5 240 (sh_t (sh_I S3 19 v5.toNatClampNeg v3) fun S4 =>
    sh_t (sh_I S4 0 36 ((S4.1 0 36) + 1)) fun S5 =>
    some ((), S5))))
set_option maxRecDepth 100000 in
set_option maxHeartbeats 4000000 in
theorem wX13_sorts_107 {p : Program} {l : Launch} {e : Env} {s : State} {m : MethodId} {args : Array Value} {below : List Frame} {meth : Method} {c : Code} {G : sh_Ev} {A : Nat → Prop} {res : Unit × sh_St} (C : sh_Cx p s m args meth c cX13_sorts 6 RX13 G A) (hr : meth.sig.returnType = none) : ∀ (S : sh_St) (v1 : Int64) (v3 : Int32) (v4 : Int32) (v5 : Int32), fX13_sorts_107 S v1 v3 v4 v5 = some res → ∀ (H : Heap) (locs : List Loc) (ls : Array Slot), sh_Wx G tbM A s H locs S → lv_has ls 6 [(0, .ref (G.2.1 0)), (1, .long v1), (3, .int v3), (4, .int v4), (5, .int v5)] → W p l e (sh_rm 1) s m args below meth c H locs 0 0 (sh_Qv below args s G tbM A res) (F0 m 107 ls []) := by
  intro S v1 v3 v4 v5 hf H locs ls hw hl
  rw [fX13_sorts_107] at hf
  refine lv_aload_n C.1 C.2.1 dX13_sorts_107 rfl (lv_at hl 0 rfl) ?_
  refine sh_getr C hw fl_X13_73 tbM_0 rfl dX13_sorts_108 ?_
  refine lv_iload C.1 C.2.1 dX13_sorts_111 (lv_at hl 4 rfl) ?_
  refine lv_iload C.1 C.2.1 dX13_sorts_113 (lv_at hl 3 rfl) ?_
  refine sh_iast C hw hf tbM_20 dX13_sorts_115 (fun S2 H locs hw hf => ?_)
  refine lv_aload_n C.1 C.2.1 dX13_sorts_116 rfl (lv_at hl 0 rfl) ?_
  refine sh_getr C hw fl_X13_67 tbM_0 rfl dX13_sorts_117 ?_
  refine lv_iload C.1 C.2.1 dX13_sorts_120 (lv_at hl 4 rfl) ?_
  refine lv_lload_n C.1 C.2.1 dX13_sorts_122 rfl (lv_at hl 1 rfl) ?_
  refine sh_last C hw hf tbM_18 dX13_sorts_123 (fun S3 H locs hw hf => ?_)
  refine lv_aload_n C.1 C.2.1 dX13_sorts_124 rfl (lv_at hl 0 rfl) ?_
  refine sh_getr C hw fl_X13_70 tbM_0 rfl dX13_sorts_125 ?_
  refine lv_iload C.1 C.2.1 dX13_sorts_128 (lv_at hl 4 rfl) ?_
  refine lv_iload_n C.1 C.2.1 dX13_sorts_130 rfl (lv_at hl 2 rfl) ?_
  refine sh_iast C hw hf tbM_19 dX13_sorts_131 (fun S4 H locs hw hf => ?_)
  refine lv_aload_n C.1 C.2.1 dX13_sorts_132 rfl (lv_at hl 0 rfl) ?_
  refine lv_dup C.1 C.2.1 dX13_sorts_133 rfl ?_
  refine sh_geti C hw fl_X13_188 tbM_0 rfl dX13_sorts_134 ?_
  refine lv_iconst (v := 1) C.1 C.2.1 dX13_sorts_137 (by decide) ?_
  refine lv_iadd C.1 C.2.1 dX13_sorts_138 ?_
  refine sh_puti C hw fl_X13_188 fp_11_36 hf tbM_0 rfl dX13_sorts_139 (fun S5 H locs hw hf => ?_)
  exact sh_rv C hw hr hf dX13_sorts_142
def fX13_sorts_53 (rk6 : sh_St → Int64 → Int32 → Int32 → Int32 → Option (Unit × sh_St)) (S : sh_St) (v1 : Int64) (v3 : Int32) (v4 : Int32) (v5 : Int32) : Option (Unit × sh_St) :=
    sh_g (v5 - 1) 240 (sh_g v5 240 (sh_t (sh_I S 20 v5.toNatClampNeg (S.1 20 (v5 - 1).toNatClampNeg)) fun S6 =>
    sh_g (v5 - 1) 240 (sh_g v5 240 (sh_t (sh_L S6 18 v5.toNatClampNeg (S6.2 18 (v5 - 1).toNatClampNeg)) fun S7 =>
    sh_g (v5 - 1) 240 (sh_g v5 240 (sh_t (sh_I S7 19 v5.toNatClampNeg (S7.1 19 (v5 - 1).toNatClampNeg)) fun S8 =>
    sh_t (v5 + (-1)) fun y9 =>
    rk6 S8 v1 v3 v4 y9))))))
set_option maxRecDepth 100000 in
set_option maxHeartbeats 4000000 in
theorem wX13_sorts_53 {p : Program} {l : Launch} {e : Env} {s : State} {m : MethodId} {args : Array Value} {below : List Frame} {meth : Method} {c : Code} {G : sh_Ev} {A : Nat → Prop} {res : Unit × sh_St} (C : sh_Cx p s m args meth c cX13_sorts 6 RX13 G A) (hr : meth.sig.returnType = none) (rk6 : sh_St → Int64 → Int32 → Int32 → Int32 → Option (Unit × sh_St)) (hr6 : ∀ (S : sh_St) (v1 : Int64) (v3 : Int32) (v4 : Int32) (v5 : Int32), rk6 S v1 v3 v4 v5 = some res → ∀ (H : Heap) (locs : List Loc) (ls : Array Slot), sh_Wx G tbM A s H locs S → lv_has ls 6 [(0, .ref (G.2.1 0)), (1, .long v1), (3, .int v3), (4, .int v4), (5, .int v5)] → W p l e (sh_rm 1) s m args below meth c H locs 0 0 (sh_Qv below args s G tbM A res) (F0 m 6 ls [])) : ∀ (S : sh_St) (v1 : Int64) (v3 : Int32) (v4 : Int32) (v5 : Int32), fX13_sorts_53 rk6 S v1 v3 v4 v5 = some res → ∀ (H : Heap) (locs : List Loc) (ls : Array Slot), sh_Wx G tbM A s H locs S → lv_has ls 6 [(0, .ref (G.2.1 0)), (1, .long v1), (3, .int v3), (4, .int v4), (5, .int v5)] → W p l e (sh_rm 1) s m args below meth c H locs 0 0 (sh_Qv below args s G tbM A res) (F0 m 53 ls []) := by
  intro S v1 v3 v4 v5 hf H locs ls hw hl
  rw [fX13_sorts_53] at hf
  refine lv_aload_n C.1 C.2.1 dX13_sorts_53 rfl (lv_at hl 0 rfl) ?_
  refine sh_getr C hw fl_X13_73 tbM_0 rfl dX13_sorts_54 ?_
  refine lv_iload C.1 C.2.1 dX13_sorts_57 (lv_at hl 4 rfl) ?_
  refine lv_aload_n C.1 C.2.1 dX13_sorts_59 rfl (lv_at hl 0 rfl) ?_
  refine sh_getr C hw fl_X13_73 tbM_0 rfl dX13_sorts_60 ?_
  refine lv_iload C.1 C.2.1 dX13_sorts_63 (lv_at hl 4 rfl) ?_
  refine lv_iconst (v := 1) C.1 C.2.1 dX13_sorts_65 (by decide) ?_
  refine lv_isub C.1 C.2.1 dX13_sorts_66 ?_
  refine sh_iald C hw hf tbM_20 dX13_sorts_67 (fun hf => ?_)
  refine sh_iast C hw hf tbM_20 dX13_sorts_68 (fun S6 H locs hw hf => ?_)
  refine lv_aload_n C.1 C.2.1 dX13_sorts_69 rfl (lv_at hl 0 rfl) ?_
  refine sh_getr C hw fl_X13_67 tbM_0 rfl dX13_sorts_70 ?_
  refine lv_iload C.1 C.2.1 dX13_sorts_73 (lv_at hl 4 rfl) ?_
  refine lv_aload_n C.1 C.2.1 dX13_sorts_75 rfl (lv_at hl 0 rfl) ?_
  refine sh_getr C hw fl_X13_67 tbM_0 rfl dX13_sorts_76 ?_
  refine lv_iload C.1 C.2.1 dX13_sorts_79 (lv_at hl 4 rfl) ?_
  refine lv_iconst (v := 1) C.1 C.2.1 dX13_sorts_81 (by decide) ?_
  refine lv_isub C.1 C.2.1 dX13_sorts_82 ?_
  refine sh_lald C hw hf tbM_18 dX13_sorts_83 (fun hf => ?_)
  refine sh_last C hw hf tbM_18 dX13_sorts_84 (fun S7 H locs hw hf => ?_)
  refine lv_aload_n C.1 C.2.1 dX13_sorts_85 rfl (lv_at hl 0 rfl) ?_
  refine sh_getr C hw fl_X13_70 tbM_0 rfl dX13_sorts_86 ?_
  refine lv_iload C.1 C.2.1 dX13_sorts_89 (lv_at hl 4 rfl) ?_
  refine lv_aload_n C.1 C.2.1 dX13_sorts_91 rfl (lv_at hl 0 rfl) ?_
  refine sh_getr C hw fl_X13_70 tbM_0 rfl dX13_sorts_92 ?_
  refine lv_iload C.1 C.2.1 dX13_sorts_95 (lv_at hl 4 rfl) ?_
  refine lv_iconst (v := 1) C.1 C.2.1 dX13_sorts_97 (by decide) ?_
  refine lv_isub C.1 C.2.1 dX13_sorts_98 ?_
  refine sh_iald C hw hf tbM_19 dX13_sorts_99 (fun hf => ?_)
  refine sh_iast C hw hf tbM_19 dX13_sorts_100 (fun S8 H locs hw hf => ?_)
  obtain ⟨y9, ey9, hf⟩ := sh_nm hf
  refine lv_iinc (v := y9) (lv' := [(5, .int y9), (0, .ref (G.2.1 0)), (1, .long v1), (3, .int v3), (4, .int v4)]) C.1 C.2.1 dX13_sorts_101 hl (k := 4) rfl (by rw [← ey9]; rfl) (by decide) rfl (fun ls hl => ?_)
  refine lv_goto (tgt := 6) C.1 C.2.1 dX13_sorts_104 (by decide) ?_
  exact hr6 S8 v1 v3 v4 y9 hf _ _ _ hw (lv_sub hl [1, 2, 3, 4, 0] rfl)
def fX13_sorts_6 : Nat → sh_St → Int64 → Int32 → Int32 → Int32 → Option (Unit × sh_St)
  | 0, _, _, _, _, _ => none
  | n + 1, S, v1, v3, v4, v5 =>
    if v5 ≤ 0 then (fX13_sorts_107 S v1 v3 v4 v5)
    else (sh_g (v5 - 1) 240 (if v4 < (S.1 20 (v5 - 1).toNatClampNeg) then (fX13_sorts_53 (fX13_sorts_6 n) S v1 v3 v4 v5)
    else (sh_g (v5 - 1) 240 (if (S.1 20 (v5 - 1).toNatClampNeg) = v4 then (sh_g (v5 - 1) 240 (if (S.2 18 (v5 - 1).toNatClampNeg) ≤ v1 then (fX13_sorts_107 S v1 v3 v4 v5)
    else (fX13_sorts_53 (fX13_sorts_6 n) S v1 v3 v4 v5)))
    else (fX13_sorts_107 S v1 v3 v4 v5)))))
set_option maxRecDepth 100000 in
set_option maxHeartbeats 4000000 in
theorem wX13_sorts_6 {p : Program} {l : Launch} {e : Env} {s : State} {m : MethodId} {args : Array Value} {below : List Frame} {meth : Method} {c : Code} {G : sh_Ev} {A : Nat → Prop} {res : Unit × sh_St} (C : sh_Cx p s m args meth c cX13_sorts 6 RX13 G A) (hr : meth.sig.returnType = none) : ∀ (n : Nat) (S : sh_St) (v1 : Int64) (v3 : Int32) (v4 : Int32) (v5 : Int32), fX13_sorts_6 n S v1 v3 v4 v5 = some res → ∀ (H : Heap) (locs : List Loc) (ls : Array Slot), sh_Wx G tbM A s H locs S → lv_has ls 6 [(0, .ref (G.2.1 0)), (1, .long v1), (3, .int v3), (4, .int v4), (5, .int v5)] → W p l e (sh_rm 1) s m args below meth c H locs 0 0 (sh_Qv below args s G tbM A res) (F0 m 6 ls []) := by
  intro n
  induction n with
  | zero => intro S v1 v3 v4 v5 hf; exact nomatch (show (none : Option (Unit × sh_St)) = some res from hf)
  | succ n ih =>
    intro S v1 v3 v4 v5 hf H locs ls hw hl
    have hr6 := ih
    rw [fX13_sorts_6] at hf
    refine lv_iload C.1 C.2.1 dX13_sorts_6 (lv_at hl 4 rfl) ?_
    refine sh_if_le (tgt := 107) C hf dX13_sorts_8 (by decide) (fun hf => ?_) (fun hf => ?_)
    · exact wX13_sorts_107 C hr S v1 v3 v4 v5 hf _ _ _ hw (lv_sub hl [0, 1, 2, 3, 4] rfl)
    · refine lv_aload_n C.1 C.2.1 dX13_sorts_11 rfl (lv_at hl 0 rfl) ?_
      refine sh_getr C hw fl_X13_73 tbM_0 rfl dX13_sorts_12 ?_
      refine lv_iload C.1 C.2.1 dX13_sorts_15 (lv_at hl 4 rfl) ?_
      refine lv_iconst (v := 1) C.1 C.2.1 dX13_sorts_17 (by decide) ?_
      refine lv_isub C.1 C.2.1 dX13_sorts_18 ?_
      refine sh_iald C hw hf tbM_20 dX13_sorts_19 (fun hf => ?_)
      refine lv_iload C.1 C.2.1 dX13_sorts_20 (lv_at hl 3 rfl) ?_
      refine sh_icmp_gt (tgt := 53) C hf dX13_sorts_22 (by decide) (fun hf => ?_) (fun hf => ?_)
      · exact wX13_sorts_53 C hr (fX13_sorts_6 n) hr6 S v1 v3 v4 v5 hf _ _ _ hw (lv_sub hl [0, 1, 2, 3, 4] rfl)
      · refine lv_aload_n C.1 C.2.1 dX13_sorts_25 rfl (lv_at hl 0 rfl) ?_
        refine sh_getr C hw fl_X13_73 tbM_0 rfl dX13_sorts_26 ?_
        refine lv_iload C.1 C.2.1 dX13_sorts_29 (lv_at hl 4 rfl) ?_
        refine lv_iconst (v := 1) C.1 C.2.1 dX13_sorts_31 (by decide) ?_
        refine lv_isub C.1 C.2.1 dX13_sorts_32 ?_
        refine sh_iald C hw hf tbM_20 dX13_sorts_33 (fun hf => ?_)
        refine lv_iload C.1 C.2.1 dX13_sorts_34 (lv_at hl 3 rfl) ?_
        refine sh_icmp_ne (tgt := 107) C hf dX13_sorts_36 (by decide) (fun hf => ?_) (fun hf => ?_)
        · exact wX13_sorts_107 C hr S v1 v3 v4 v5 hf _ _ _ hw (lv_sub hl [0, 1, 2, 3, 4] rfl)
        · refine lv_aload_n C.1 C.2.1 dX13_sorts_39 rfl (lv_at hl 0 rfl) ?_
          refine sh_getr C hw fl_X13_67 tbM_0 rfl dX13_sorts_40 ?_
          refine lv_iload C.1 C.2.1 dX13_sorts_43 (lv_at hl 4 rfl) ?_
          refine lv_iconst (v := 1) C.1 C.2.1 dX13_sorts_45 (by decide) ?_
          refine lv_isub C.1 C.2.1 dX13_sorts_46 ?_
          refine sh_lald C hw hf tbM_18 dX13_sorts_47 (fun hf => ?_)
          refine lv_lload_n C.1 C.2.1 dX13_sorts_48 rfl (lv_at hl 1 rfl) ?_
          refine sh_lcmp_le (tgt := 107) C hf dX13_sorts_49 dX13_sorts_50 (by decide) (fun hf => ?_) (fun hf => ?_)
          · exact wX13_sorts_107 C hr S v1 v3 v4 v5 hf _ _ _ hw (lv_sub hl [0, 1, 2, 3, 4] rfl)
          · exact wX13_sorts_53 C hr (fX13_sorts_6 n) hr6 S v1 v3 v4 v5 hf _ _ _ hw (lv_sub hl [0, 1, 2, 3, 4] rfl)
def fX13_sorts (S : sh_St) (v1 : Int64) (v3 : Int32) (v4 : Int32) : Option (Unit × sh_St) :=
    sh_t (S.1 0 36) fun y1 =>
    fX13_sorts_6 sh_FU S v1 v3 v4 y1
set_option maxRecDepth 100000 in
set_option maxHeartbeats 4000000 in
theorem kX13_sorts (l : Launch) (v1 : Int64) (v3 : Int32) (v4 : Int32) : sh_Mv l yX13_sorts cX13_sorts 6 1 tbM (fun G => [.ref (G.2.1 0), .long v1, .int v3, .int v4]) (fun S => fX13_sorts S v1 v3 v4) := by
  refine sh_mkv (by decide) (fun G => Nat.le_of_ble_eq_true rfl) ?_
  intro p e s m args below meth c G A S res ls hf C hr hw hl
  have C : sh_Cx p s m args meth c cX13_sorts 6 RX13 G A := C
  have hl : lv_has ls 6 [(0, .ref (G.2.1 0)), (1, .long v1), (3, .int v3), (4, .int v4)] := hl
  replace hf : fX13_sorts S v1 v3 v4 = some res := hf
  rw [fX13_sorts] at hf
  refine lv_aload_n C.1 C.2.1 dX13_sorts_0 rfl (lv_at hl 0 rfl) ?_
  refine sh_geti C hw fl_X13_188 tbM_0 rfl dX13_sorts_1 ?_
  refine sh_ni hf (fun y1 hf => ?_)
  refine lv_istore (lv' := [(5, .int y1), (0, .ref (G.2.1 0)), (1, .long v1), (3, .int v3), (4, .int v4)]) C.1 C.2.1 dX13_sorts_4 hl (by decide) rfl (fun ls hl => ?_)
  exact wX13_sorts_6 C hr _ S v1 v3 v4 y1 hf _ _ _ hw (lv_sub hl [1, 2, 3, 4, 0] rfl)
def fX13_fills_8 : Nat → sh_St → Int32 → Int32 → Int32 → Int32 → Option (Unit × sh_St)
  | 0, _, _, _, _, _ => none
  | n + 1, S, v1, v2, v3, v4 =>
    if v3 ≤ v4 then (some ((), S))
    else (sh_g (v2 + v4) 240 (sh_g (v2 + v4) 240 (sh_c (fX13_lays S v1 v4 (S.2 18 (v2 + v4).toNatClampNeg) (S.1 19 (v2 + v4).toNatClampNeg)) fun _ S3 =>
    sh_t (v4 + 1) fun y5 =>
    (fX13_fills_8 n) S3 v1 v2 v3 y5)))
set_option maxRecDepth 100000 in
set_option maxHeartbeats 4000000 in
theorem wX13_fills_8 {p : Program} {l : Launch} {e : Env} {s : State} {m : MethodId} {args : Array Value} {below : List Frame} {meth : Method} {c : Code} {G : sh_Ev} {A : Nat → Prop} {res : Unit × sh_St} (C : sh_Cx p s m args meth c cX13_fills 5 RX13 G A) (hr : meth.sig.returnType = none) : ∀ (n : Nat) (S : sh_St) (v1 : Int32) (v2 : Int32) (v3 : Int32) (v4 : Int32), fX13_fills_8 n S v1 v2 v3 v4 = some res → ∀ (H : Heap) (locs : List Loc) (ls : Array Slot), sh_Wx G tbM A s H locs S → lv_has ls 5 [(0, .ref (G.2.1 0)), (1, .int v1), (2, .int v2), (3, .int v3), (4, .int v4)] → W p l e (sh_rm 4) s m args below meth c H locs 0 0 (sh_Qv below args s G tbM A res) (F0 m 8 ls []) := by
  intro n
  induction n with
  | zero => intro S v1 v2 v3 v4 hf; exact nomatch (show (none : Option (Unit × sh_St)) = some res from hf)
  | succ n ih =>
    intro S v1 v2 v3 v4 hf H locs ls hw hl
    have hr8 := ih
    rw [fX13_fills_8] at hf
    refine lv_iload C.1 C.2.1 dX13_fills_8 (lv_at hl 4 rfl) ?_
    refine lv_iload_n C.1 C.2.1 dX13_fills_10 rfl (lv_at hl 3 rfl) ?_
    refine sh_icmp_ge (tgt := 45) C hf dX13_fills_11 (by decide) (fun hf => ?_) (fun hf => ?_)
    · exact sh_rv C hw hr hf dX13_fills_45
    · refine lv_aload_n C.1 C.2.1 dX13_fills_14 rfl (lv_at hl 0 rfl) ?_
      refine lv_iload_n C.1 C.2.1 dX13_fills_15 rfl (lv_at hl 1 rfl) ?_
      refine lv_iload C.1 C.2.1 dX13_fills_16 (lv_at hl 4 rfl) ?_
      refine lv_aload_n C.1 C.2.1 dX13_fills_18 rfl (lv_at hl 0 rfl) ?_
      refine sh_getr C hw fl_X13_67 tbM_0 rfl dX13_fills_19 ?_
      refine lv_iload_n C.1 C.2.1 dX13_fills_22 rfl (lv_at hl 2 rfl) ?_
      refine lv_iload C.1 C.2.1 dX13_fills_23 (lv_at hl 4 rfl) ?_
      refine lv_iadd C.1 C.2.1 dX13_fills_25 ?_
      refine sh_lald C hw hf tbM_18 dX13_fills_26 (fun hf => ?_)
      refine lv_aload_n C.1 C.2.1 dX13_fills_27 rfl (lv_at hl 0 rfl) ?_
      refine sh_getr C hw fl_X13_70 tbM_0 rfl dX13_fills_28 ?_
      refine lv_iload_n C.1 C.2.1 dX13_fills_31 rfl (lv_at hl 2 rfl) ?_
      refine lv_iload C.1 C.2.1 dX13_fills_32 (lv_at hl 4 rfl) ?_
      refine lv_iadd C.1 C.2.1 dX13_fills_34 ?_
      refine sh_iald C hw hf tbM_19 dX13_fills_35 (fun hf => ?_)
      refine sh_Vv (As := [.int v1, .int v4, .long (S.2 18 (v2 + v4).toNatClampNeg), .int (S.1 19 (v2 + v4).toNatClampNeg)]) (rest := []) C hw (kX13_lays l v1 v4 (S.2 18 (v2 + v4).toNatClampNeg) (S.1 19 (v2 + v4).toNatClampNeg)) yy_X13_lays yv_X13_lays ml_X13_180 hf tbM_0 rfl rfl rfl rfl (Nat.le_of_ble_eq_true rfl) (by decide) hl.1 dX13_fills_36 (fun S3 H locs hw hf => ?_)
      obtain ⟨y5, ey5, hf⟩ := sh_nm hf
      refine lv_iinc (v := y5) (lv' := [(4, .int y5), (0, .ref (G.2.1 0)), (1, .int v1), (2, .int v2), (3, .int v3)]) C.1 C.2.1 dX13_fills_39 hl (k := 4) rfl (by rw [← ey5]; rfl) (by decide) rfl (fun ls hl => ?_)
      refine lv_goto (tgt := 8) C.1 C.2.1 dX13_fills_42 (by decide) ?_
      exact hr8 S3 v1 v2 v3 y5 hf _ _ _ hw (lv_sub hl [1, 2, 3, 4, 0] rfl)
def fX13_fills (S : sh_St) (v1 : Int32) (v2 : Int32) (v3 : Int32) : Option (Unit × sh_St) :=
    sh_c (fX13_empties S v1) fun _ S1 =>
    fX13_fills_8 sh_FU S1 v1 v2 v3 0
set_option maxRecDepth 100000 in
set_option maxHeartbeats 4000000 in
theorem kX13_fills (l : Launch) (v1 : Int32) (v2 : Int32) (v3 : Int32) : sh_Mv l yX13_fills cX13_fills 5 4 tbM (fun G => [.ref (G.2.1 0), .int v1, .int v2, .int v3]) (fun S => fX13_fills S v1 v2 v3) := by
  refine sh_mkv (by decide) (fun G => Nat.le_of_ble_eq_true rfl) ?_
  intro p e s m args below meth c G A S res ls hf C hr hw hl
  have C : sh_Cx p s m args meth c cX13_fills 5 RX13 G A := C
  have hl : lv_has ls 5 [(0, .ref (G.2.1 0)), (1, .int v1), (2, .int v2), (3, .int v3)] := hl
  replace hf : fX13_fills S v1 v2 v3 = some res := hf
  rw [fX13_fills] at hf
  refine lv_aload_n C.1 C.2.1 dX13_fills_0 rfl (lv_at hl 0 rfl) ?_
  refine lv_iload_n C.1 C.2.1 dX13_fills_1 rfl (lv_at hl 1 rfl) ?_
  refine sh_Vv (As := [.int v1]) (rest := []) C hw (kX13_empties l v1) yy_X13_empties yv_X13_empties ml_X13_191 hf tbM_0 rfl rfl rfl rfl (Nat.le_of_ble_eq_true rfl) (by decide) hl.1 dX13_fills_2 (fun S1 H locs hw hf => ?_)
  refine lv_iconst (v := 0) C.1 C.2.1 dX13_fills_5 (by decide) ?_
  refine lv_istore (lv' := [(4, .int 0), (0, .ref (G.2.1 0)), (1, .int v1), (2, .int v2), (3, .int v3)]) C.1 C.2.1 dX13_fills_6 hl (by decide) rfl (fun ls hl => ?_)
  exact wX13_fills_8 C hr _ S1 v1 v2 v3 0 hf _ _ _ hw (lv_sub hl [1, 2, 3, 4, 0] rfl)
def fX13_cut0 (S : sh_St) (v1 : Int64) : Option (Int32 × sh_St) :=
    sh_c (fX13_seeks S v1) fun r2 S1 =>
    if r2 = 0 then (some (4, S1))
    else (sh_c (fX13_lays S1 (S1.1 0 30) (S1.1 0 31) 0 (-1)) fun _ S3 =>
    some (0, S3))
set_option maxRecDepth 100000 in
set_option maxHeartbeats 4000000 in
theorem kX13_cut0 (l : Launch) (v1 : Int64) : sh_Mi l yX13_cut0 cX13_cut0 3 .int 6 tbM (fun G => [.ref (G.2.1 0), .long v1]) (fun S => fX13_cut0 S v1) := by
  refine sh_mki (by decide) (fun G => Nat.le_of_ble_eq_true rfl) ?_
  intro p e s m args below meth c G A S res ls hf C hr hw hl
  have C : sh_Cx p s m args meth c cX13_cut0 3 RX13 G A := C
  have hl : lv_has ls 3 [(0, .ref (G.2.1 0)), (1, .long v1)] := hl
  replace hf : fX13_cut0 S v1 = some res := hf
  rw [fX13_cut0] at hf
  refine lv_aload_n C.1 C.2.1 dX13_cut0_0 rfl (lv_at hl 0 rfl) ?_
  refine lv_lload_n C.1 C.2.1 dX13_cut0_1 rfl (lv_at hl 1 rfl) ?_
  refine sh_Vi (As := [.long v1]) (rest := []) C hw (kX13_seeks l v1) yy_X13_seeks yv_X13_seeks ml_X13_226 hf tbM_0 rfl rfl rfl rfl (Nat.le_of_ble_eq_true rfl) (by decide) hl.1 dX13_cut0_2 (fun r2 S1 H locs hw hf => ?_)
  refine sh_if_ne (tgt := 10) C hf dX13_cut0_5 (by decide) (fun hf => ?_) (fun hf => ?_)
  · refine lv_aload_n C.1 C.2.1 dX13_cut0_10 rfl (lv_at hl 0 rfl) ?_
    refine lv_aload_n C.1 C.2.1 dX13_cut0_11 rfl (lv_at hl 0 rfl) ?_
    refine sh_geti C hw fl_X13_150 tbM_0 rfl dX13_cut0_12 ?_
    refine lv_aload_n C.1 C.2.1 dX13_cut0_15 rfl (lv_at hl 0 rfl) ?_
    refine sh_geti C hw fl_X13_153 tbM_0 rfl dX13_cut0_16 ?_
    refine lv_lconst (v := 0) C.1 C.2.1 dX13_cut0_19 (by decide) ?_
    refine lv_iconst (v := -1) C.1 C.2.1 dX13_cut0_20 (by decide) ?_
    refine sh_Vv (As := [.int (S1.1 0 30), .int (S1.1 0 31), .long 0, .int (-1)]) (rest := []) C hw (kX13_lays l (S1.1 0 30) (S1.1 0 31) 0 (-1)) yy_X13_lays yv_X13_lays ml_X13_180 hf tbM_0 rfl rfl rfl rfl (Nat.le_of_ble_eq_true rfl) (by decide) hl.1 dX13_cut0_21 (fun S3 H locs hw hf => ?_)
    refine lv_iconst (v := 0) C.1 C.2.1 dX13_cut0_24 (by decide) ?_
    exact sh_ri C hw hr hf dX13_cut0_25
  · refine lv_iconst (v := 4) C.1 C.2.1 dX13_cut0_8 (by decide) ?_
    exact sh_ri C hw hr hf dX13_cut0_9
def fX13_leavesFor (S : sh_St) (v0 : Int32) : Option (Int32 × sh_St) :=
    if 5 ≤ v0 then (some ((v0 + 3) / 4, S))
    else (some (1, S))
set_option maxRecDepth 100000 in
set_option maxHeartbeats 4000000 in
theorem kX13_leavesFor (l : Launch) (v0 : Int32) : sh_Mi l yX13_leavesFor cX13_leavesFor 1 .int 1 tbM (fun G => [.int v0]) (fun S => fX13_leavesFor S v0) := by
  refine sh_mki (by decide) (fun G => Nat.le_of_ble_eq_true rfl) ?_
  intro p e s m args below meth c G A S res ls hf C hr hw hl
  have C : sh_Cx p s m args meth c cX13_leavesFor 1 RX13 G A := C
  have hl : lv_has ls 1 [(0, .int v0)] := hl
  replace hf : fX13_leavesFor S v0 = some res := hf
  rw [fX13_leavesFor] at hf
  refine lv_iload_n C.1 C.2.1 dX13_leavesFor_0 rfl (lv_at hl 0 rfl) ?_
  refine lv_iconst (v := 5) C.1 C.2.1 dX13_leavesFor_1 (by decide) ?_
  refine sh_icmp_ge (tgt := 9) C hf dX13_leavesFor_2 (by decide) (fun hf => ?_) (fun hf => ?_)
  · refine lv_iload_n C.1 C.2.1 dX13_leavesFor_9 rfl (lv_at hl 0 rfl) ?_
    refine lv_iconst (v := 3) C.1 C.2.1 dX13_leavesFor_10 (by decide) ?_
    refine lv_iadd C.1 C.2.1 dX13_leavesFor_11 ?_
    refine lv_iconst (v := 4) C.1 C.2.1 dX13_leavesFor_12 (by decide) ?_
    refine lv_idiv C.1 C.2.1 dX13_leavesFor_13 (by decide) ?_
    exact sh_ri C hw hr hf dX13_leavesFor_14
  · refine lv_iconst (v := 1) C.1 C.2.1 dX13_leavesFor_5 (by decide) ?_
    refine lv_goto (tgt := 14) C.1 C.2.1 dX13_leavesFor_6 (by decide) ?_
    exact sh_ri C hw hr hf dX13_leavesFor_14
def fX13_sortsAll_66 (rk8 : sh_St → Int32 → Int32 → Int32 → Int32 → Option (Unit × sh_St)) (S : sh_St) (v1 : Int32) (v2 : Int32) (v3 : Int32) (v4 : Int32) : Option (Unit × sh_St) :=
    sh_t (v4 + 1) fun y2 =>
    rk8 S v1 v2 v3 y2
set_option maxRecDepth 100000 in
set_option maxHeartbeats 4000000 in
theorem wX13_sortsAll_66 {p : Program} {l : Launch} {e : Env} {s : State} {m : MethodId} {args : Array Value} {below : List Frame} {meth : Method} {c : Code} {G : sh_Ev} {A : Nat → Prop} {res : Unit × sh_St} (C : sh_Cx p s m args meth c cX13_sortsAll 5 RX13 G A) (hr : meth.sig.returnType = none) (rk8 : sh_St → Int32 → Int32 → Int32 → Int32 → Option (Unit × sh_St)) (hr8 : ∀ (S : sh_St) (v1 : Int32) (v2 : Int32) (v3 : Int32) (v4 : Int32), rk8 S v1 v2 v3 v4 = some res → ∀ (H : Heap) (locs : List Loc) (ls : Array Slot), sh_Wx G tbM A s H locs S → lv_has ls 5 [(0, .ref (G.2.1 0)), (1, .int v1), (2, .int v2), (3, .int v3), (4, .int v4)] → W p l e (sh_rm 4) s m args below meth c H locs 0 0 (sh_Qv below args s G tbM A res) (F0 m 8 ls [])) : ∀ (S : sh_St) (v1 : Int32) (v2 : Int32) (v3 : Int32) (v4 : Int32), fX13_sortsAll_66 rk8 S v1 v2 v3 v4 = some res → ∀ (H : Heap) (locs : List Loc) (ls : Array Slot), sh_Wx G tbM A s H locs S → lv_has ls 5 [(0, .ref (G.2.1 0)), (1, .int v1), (2, .int v2), (3, .int v3), (4, .int v4)] → W p l e (sh_rm 4) s m args below meth c H locs 0 0 (sh_Qv below args s G tbM A res) (F0 m 66 ls []) := by
  intro S v1 v2 v3 v4 hf H locs ls hw hl
  rw [fX13_sortsAll_66] at hf
  obtain ⟨y2, ey2, hf⟩ := sh_nm hf
  refine lv_iinc (v := y2) (lv' := [(4, .int y2), (0, .ref (G.2.1 0)), (1, .int v1), (2, .int v2), (3, .int v3)]) C.1 C.2.1 dX13_sortsAll_66 hl (k := 4) rfl (by rw [← ey2]; rfl) (by decide) rfl (fun ls hl => ?_)
  refine lv_goto (tgt := 8) C.1 C.2.1 dX13_sortsAll_69 (by decide) ?_
  exact hr8 S v1 v2 v3 y2 hf _ _ _ hw (lv_sub hl [1, 2, 3, 4, 0] rfl)
def fX13_sortsAll_8 : Nat → sh_St → Int32 → Int32 → Int32 → Int32 → Option (Unit × sh_St)
  | 0, _, _, _, _, _ => none
  | n + 1, S, v1, v2, v3, v4 =>
    if 240 ≤ v4 then (some ((), S))
    else (sh_g (840 + v4) 1084 (if (S.1 1 (840 + v4).toNatClampNeg) = (-1) then (fX13_sortsAll_66 (fX13_sortsAll_8 n) S v1 v2 v3 v4)
    else (sh_g v4 240 (sh_g (840 + v4) 1084 (sh_g v4 240 (sh_c (fX13_hash S (S.2 2 v4.toNatClampNeg) v1 v2 v3) fun r4 S3 =>
    sh_c (fX13_sorts S3 (S.2 2 v4.toNatClampNeg) (S.1 1 (840 + v4).toNatClampNeg) r4) fun _ S5 =>
    fX13_sortsAll_66 (fX13_sortsAll_8 n) S5 v1 v2 v3 v4))))))
set_option maxRecDepth 100000 in
set_option maxHeartbeats 4000000 in
theorem wX13_sortsAll_8 {p : Program} {l : Launch} {e : Env} {s : State} {m : MethodId} {args : Array Value} {below : List Frame} {meth : Method} {c : Code} {G : sh_Ev} {A : Nat → Prop} {res : Unit × sh_St} (C : sh_Cx p s m args meth c cX13_sortsAll 5 RX13 G A) (hr : meth.sig.returnType = none) : ∀ (n : Nat) (S : sh_St) (v1 : Int32) (v2 : Int32) (v3 : Int32) (v4 : Int32), fX13_sortsAll_8 n S v1 v2 v3 v4 = some res → ∀ (H : Heap) (locs : List Loc) (ls : Array Slot), sh_Wx G tbM A s H locs S → lv_has ls 5 [(0, .ref (G.2.1 0)), (1, .int v1), (2, .int v2), (3, .int v3), (4, .int v4)] → W p l e (sh_rm 4) s m args below meth c H locs 0 0 (sh_Qv below args s G tbM A res) (F0 m 8 ls []) := by
  intro n
  induction n with
  | zero => intro S v1 v2 v3 v4 hf; exact nomatch (show (none : Option (Unit × sh_St)) = some res from hf)
  | succ n ih =>
    intro S v1 v2 v3 v4 hf H locs ls hw hl
    have hr8 := ih
    rw [fX13_sortsAll_8] at hf
    refine lv_iload C.1 C.2.1 dX13_sortsAll_8 (lv_at hl 4 rfl) ?_
    refine lv_sipush (v := 240) C.1 C.2.1 dX13_sortsAll_10 (by decide) ?_
    refine sh_icmp_ge (tgt := 72) C hf dX13_sortsAll_13 (by decide) (fun hf => ?_) (fun hf => ?_)
    · exact sh_rv C hw hr hf dX13_sortsAll_72
    · refine lv_aload_n C.1 C.2.1 dX13_sortsAll_16 rfl (lv_at hl 0 rfl) ?_
      refine sh_getr C hw fl_X13_7 tbM_0 rfl dX13_sortsAll_17 ?_
      refine lv_sipush (v := 840) C.1 C.2.1 dX13_sortsAll_20 (by decide) ?_
      refine lv_iload C.1 C.2.1 dX13_sortsAll_23 (lv_at hl 4 rfl) ?_
      refine lv_iadd C.1 C.2.1 dX13_sortsAll_25 ?_
      refine sh_iald C hw hf tbM_1 dX13_sortsAll_26 (fun hf => ?_)
      refine lv_iconst (v := -1) C.1 C.2.1 dX13_sortsAll_27 (by decide) ?_
      refine sh_icmp_eq (tgt := 66) C hf dX13_sortsAll_28 (by decide) (fun hf => ?_) (fun hf => ?_)
      · exact wX13_sortsAll_66 C hr (fX13_sortsAll_8 n) hr8 S v1 v2 v3 v4 hf _ _ _ hw (lv_sub hl [0, 1, 2, 3, 4] rfl)
      · refine lv_aload_n C.1 C.2.1 dX13_sortsAll_31 rfl (lv_at hl 0 rfl) ?_
        refine lv_aload_n C.1 C.2.1 dX13_sortsAll_32 rfl (lv_at hl 0 rfl) ?_
        refine sh_getr C hw fl_X13_13 tbM_0 rfl dX13_sortsAll_33 ?_
        refine lv_iload C.1 C.2.1 dX13_sortsAll_36 (lv_at hl 4 rfl) ?_
        refine sh_lald C hw hf tbM_2 dX13_sortsAll_38 (fun hf => ?_)
        refine lv_aload_n C.1 C.2.1 dX13_sortsAll_39 rfl (lv_at hl 0 rfl) ?_
        refine sh_getr C hw fl_X13_7 tbM_0 rfl dX13_sortsAll_40 ?_
        refine lv_sipush (v := 840) C.1 C.2.1 dX13_sortsAll_43 (by decide) ?_
        refine lv_iload C.1 C.2.1 dX13_sortsAll_46 (lv_at hl 4 rfl) ?_
        refine lv_iadd C.1 C.2.1 dX13_sortsAll_48 ?_
        refine sh_iald C hw hf tbM_1 dX13_sortsAll_49 (fun hf => ?_)
        refine lv_aload_n C.1 C.2.1 dX13_sortsAll_50 rfl (lv_at hl 0 rfl) ?_
        refine sh_getr C hw fl_X13_13 tbM_0 rfl dX13_sortsAll_51 ?_
        refine lv_iload C.1 C.2.1 dX13_sortsAll_54 (lv_at hl 4 rfl) ?_
        refine sh_lald C hw hf tbM_2 dX13_sortsAll_56 (fun hf => ?_)
        refine lv_iload_n C.1 C.2.1 dX13_sortsAll_57 rfl (lv_at hl 1 rfl) ?_
        refine lv_iload_n C.1 C.2.1 dX13_sortsAll_58 rfl (lv_at hl 2 rfl) ?_
        refine lv_iload_n C.1 C.2.1 dX13_sortsAll_59 rfl (lv_at hl 3 rfl) ?_
        refine sh_Si (As := [.long (S.2 2 v4.toNatClampNeg), .int v1, .int v2, .int v3]) (rest := [.int (S.1 1 (840 + v4).toNatClampNeg), .long (S.2 2 v4.toNatClampNeg), .ref (G.2.1 0)]) C hw (kX13_hash l (S.2 2 v4.toNatClampNeg) v1 v2 v3) yy_X13_hash ys_X13_hash ml_X13_110 rfl hf rfl rfl rfl (Nat.le_of_ble_eq_true rfl) (by decide) hl.1 dX13_sortsAll_60 (fun r4 S3 H locs hw hf => ?_)
        refine sh_Vv (As := [.long (S.2 2 v4.toNatClampNeg), .int (S.1 1 (840 + v4).toNatClampNeg), .int r4]) (rest := []) C hw (kX13_sorts l (S.2 2 v4.toNatClampNeg) (S.1 1 (840 + v4).toNatClampNeg) r4) yy_X13_sorts yv_X13_sorts ml_X13_210 hf tbM_0 rfl rfl rfl rfl (Nat.le_of_ble_eq_true rfl) (by decide) hl.1 dX13_sortsAll_63 (fun S5 H locs hw hf => ?_)
        exact wX13_sortsAll_66 C hr (fX13_sortsAll_8 n) hr8 S5 v1 v2 v3 v4 hf _ _ _ hw (lv_sub hl [0, 1, 2, 3, 4] rfl)
def fX13_sortsAll (S : sh_St) (v1 : Int32) (v2 : Int32) (v3 : Int32) : Option (Unit × sh_St) :=
    sh_t (sh_I S 0 36 0) fun S1 =>
    fX13_sortsAll_8 sh_FU S1 v1 v2 v3 0
set_option maxRecDepth 100000 in
set_option maxHeartbeats 4000000 in
theorem kX13_sortsAll (l : Launch) (v1 : Int32) (v2 : Int32) (v3 : Int32) : sh_Mv l yX13_sortsAll cX13_sortsAll 5 4 tbM (fun G => [.ref (G.2.1 0), .int v1, .int v2, .int v3]) (fun S => fX13_sortsAll S v1 v2 v3) := by
  refine sh_mkv (by decide) (fun G => Nat.le_of_ble_eq_true rfl) ?_
  intro p e s m args below meth c G A S res ls hf C hr hw hl
  have C : sh_Cx p s m args meth c cX13_sortsAll 5 RX13 G A := C
  have hl : lv_has ls 5 [(0, .ref (G.2.1 0)), (1, .int v1), (2, .int v2), (3, .int v3)] := hl
  replace hf : fX13_sortsAll S v1 v2 v3 = some res := hf
  rw [fX13_sortsAll] at hf
  refine lv_aload_n C.1 C.2.1 dX13_sortsAll_0 rfl (lv_at hl 0 rfl) ?_
  refine lv_iconst (v := 0) C.1 C.2.1 dX13_sortsAll_1 (by decide) ?_
  refine sh_puti C hw fl_X13_188 fp_11_36 hf tbM_0 rfl dX13_sortsAll_2 (fun S1 H locs hw hf => ?_)
  refine lv_iconst (v := 0) C.1 C.2.1 dX13_sortsAll_5 (by decide) ?_
  refine lv_istore (lv' := [(4, .int 0), (0, .ref (G.2.1 0)), (1, .int v1), (2, .int v2), (3, .int v3)]) C.1 C.2.1 dX13_sortsAll_6 hl (by decide) rfl (fun ls hl => ?_)
  exact wX13_sortsAll_8 C hr _ S1 v1 v2 v3 0 hf _ _ _ hw (lv_sub hl [1, 2, 3, 4, 0] rfl)
def fX13_areTwoOne_12 (rk2 : sh_St → Int32 → Option (Int32 × sh_St)) : Nat → sh_St → Int32 → Int32 → Option (Int32 × sh_St)
  | 0, _, _, _ => none
  | n + 1, S, v1, v2 =>
    if v1 ≤ v2 then (sh_t (v1 + 1) fun y1 =>
    rk2 S y1)
    else (sh_g v1 240 (sh_c (fX13_folded S (S.2 18 v1.toNatClampNeg)) fun r3 S2 =>
    sh_g v2 240 (sh_c (fX13_folded S2 (S2.2 18 v2.toNatClampNeg)) fun r5 S4 =>
    if r3 = r5 then (sh_b 1 (some (1, S4)))
    else (sh_t (v2 + 1) fun y6 =>
    (fX13_areTwoOne_12 rk2 n) S4 v1 y6))))
set_option maxRecDepth 100000 in
set_option maxHeartbeats 4000000 in
theorem wX13_areTwoOne_12 {p : Program} {l : Launch} {e : Env} {s : State} {m : MethodId} {args : Array Value} {below : List Frame} {meth : Method} {c : Code} {G : sh_Ev} {A : Nat → Prop} {res : Int32 × sh_St} (C : sh_Cx p s m args meth c cX13_areTwoOne 3 RX13 G A) (hr : meth.sig.returnType = some .boolean) (rk2 : sh_St → Int32 → Option (Int32 × sh_St)) (hr2 : ∀ (S : sh_St) (v1 : Int32), rk2 S v1 = some res → ∀ (H : Heap) (locs : List Loc) (ls : Array Slot), sh_Wx G tbM A s H locs S → lv_has ls 3 [(0, .ref (G.2.1 0)), (1, .int v1)] → W p l e (sh_rm 3) s m args below meth c H locs 0 0 (sh_Qi below args s G tbM A res) (F0 m 2 ls [])) : ∀ (n : Nat) (S : sh_St) (v1 : Int32) (v2 : Int32), fX13_areTwoOne_12 rk2 n S v1 v2 = some res → ∀ (H : Heap) (locs : List Loc) (ls : Array Slot), sh_Wx G tbM A s H locs S → lv_has ls 3 [(0, .ref (G.2.1 0)), (1, .int v1), (2, .int v2)] → W p l e (sh_rm 3) s m args below meth c H locs 0 0 (sh_Qi below args s G tbM A res) (F0 m 12 ls []) := by
  intro n
  induction n with
  | zero => intro S v1 v2 hf; exact nomatch (show (none : Option (Int32 × sh_St)) = some res from hf)
  | succ n ih =>
    intro S v1 v2 hf H locs ls hw hl
    have hr12 := ih
    rw [fX13_areTwoOne_12] at hf
    refine lv_iload_n C.1 C.2.1 dX13_areTwoOne_12 rfl (lv_at hl 2 rfl) ?_
    refine lv_iload_n C.1 C.2.1 dX13_areTwoOne_13 rfl (lv_at hl 1 rfl) ?_
    refine sh_icmp_ge (tgt := 47) C hf dX13_areTwoOne_14 (by decide) (fun hf => ?_) (fun hf => ?_)
    · obtain ⟨y1, ey1, hf⟩ := sh_nm hf
      refine lv_iinc (v := y1) (lv' := [(1, .int y1), (0, .ref (G.2.1 0)), (2, .int v2)]) C.1 C.2.1 dX13_areTwoOne_47 hl (k := 1) rfl (by rw [← ey1]; rfl) (by decide) rfl (fun ls hl => ?_)
      refine lv_goto (tgt := 2) C.1 C.2.1 dX13_areTwoOne_50 (by decide) ?_
      exact hr2 S y1 hf _ _ _ hw (lv_sub hl [1, 0] rfl)
    · refine lv_aload_n C.1 C.2.1 dX13_areTwoOne_17 rfl (lv_at hl 0 rfl) ?_
      refine sh_getr C hw fl_X13_67 tbM_0 rfl dX13_areTwoOne_18 ?_
      refine lv_iload_n C.1 C.2.1 dX13_areTwoOne_21 rfl (lv_at hl 1 rfl) ?_
      refine sh_lald C hw hf tbM_18 dX13_areTwoOne_22 (fun hf => ?_)
      refine sh_Sl (As := [.long (S.2 18 v1.toNatClampNeg)]) (rest := []) C hw (kX13_folded l (S.2 18 v1.toNatClampNeg)) yy_X13_folded ys_X13_folded ml_X13_101 rfl hf rfl rfl rfl (Nat.le_of_ble_eq_true rfl) (by decide) hl.1 dX13_areTwoOne_23 (fun r3 S2 H locs hw hf => ?_)
      refine lv_aload_n C.1 C.2.1 dX13_areTwoOne_26 rfl (lv_at hl 0 rfl) ?_
      refine sh_getr C hw fl_X13_67 tbM_0 rfl dX13_areTwoOne_27 ?_
      refine lv_iload_n C.1 C.2.1 dX13_areTwoOne_30 rfl (lv_at hl 2 rfl) ?_
      refine sh_lald C hw hf tbM_18 dX13_areTwoOne_31 (fun hf => ?_)
      refine sh_Sl (As := [.long (S2.2 18 v2.toNatClampNeg)]) (rest := [.long r3]) C hw (kX13_folded l (S2.2 18 v2.toNatClampNeg)) yy_X13_folded ys_X13_folded ml_X13_101 rfl hf rfl rfl rfl (Nat.le_of_ble_eq_true rfl) (by decide) hl.1 dX13_areTwoOne_32 (fun r5 S4 H locs hw hf => ?_)
      refine sh_lcmp_ne (tgt := 41) C hf dX13_areTwoOne_35 dX13_areTwoOne_36 (by decide) (fun hf => ?_) (fun hf => ?_)
      · obtain ⟨y6, ey6, hf⟩ := sh_nm hf
        refine lv_iinc (v := y6) (lv' := [(2, .int y6), (0, .ref (G.2.1 0)), (1, .int v1)]) C.1 C.2.1 dX13_areTwoOne_41 hl (k := 2) rfl (by rw [← ey6]; rfl) (by decide) rfl (fun ls hl => ?_)
        refine lv_goto (tgt := 12) C.1 C.2.1 dX13_areTwoOne_44 (by decide) ?_
        exact hr12 S4 v1 y6 hf _ _ _ hw (lv_sub hl [1, 2, 0] rfl)
      · refine lv_iconst (v := 1) C.1 C.2.1 dX13_areTwoOne_39 (by decide) ?_
        exact sh_rz C hw hr hf dX13_areTwoOne_40
def fX13_areTwoOne_2 : Nat → sh_St → Int32 → Option (Int32 × sh_St)
  | 0, _, _ => none
  | n + 1, S, v1 =>
    if (S.1 0 36) ≤ v1 then (sh_b 0 (some (0, S)))
    else (fX13_areTwoOne_12 (fX13_areTwoOne_2 n) sh_FU S v1 0)
set_option maxRecDepth 100000 in
set_option maxHeartbeats 4000000 in
theorem wX13_areTwoOne_2 {p : Program} {l : Launch} {e : Env} {s : State} {m : MethodId} {args : Array Value} {below : List Frame} {meth : Method} {c : Code} {G : sh_Ev} {A : Nat → Prop} {res : Int32 × sh_St} (C : sh_Cx p s m args meth c cX13_areTwoOne 3 RX13 G A) (hr : meth.sig.returnType = some .boolean) : ∀ (n : Nat) (S : sh_St) (v1 : Int32), fX13_areTwoOne_2 n S v1 = some res → ∀ (H : Heap) (locs : List Loc) (ls : Array Slot), sh_Wx G tbM A s H locs S → lv_has ls 3 [(0, .ref (G.2.1 0)), (1, .int v1)] → W p l e (sh_rm 3) s m args below meth c H locs 0 0 (sh_Qi below args s G tbM A res) (F0 m 2 ls []) := by
  intro n
  induction n with
  | zero => intro S v1 hf; exact nomatch (show (none : Option (Int32 × sh_St)) = some res from hf)
  | succ n ih =>
    intro S v1 hf H locs ls hw hl
    have hr2 := ih
    rw [fX13_areTwoOne_2] at hf
    refine lv_iload_n C.1 C.2.1 dX13_areTwoOne_2 rfl (lv_at hl 1 rfl) ?_
    refine lv_aload_n C.1 C.2.1 dX13_areTwoOne_3 rfl (lv_at hl 0 rfl) ?_
    refine sh_geti C hw fl_X13_188 tbM_0 rfl dX13_areTwoOne_4 ?_
    refine sh_icmp_ge (tgt := 53) C hf dX13_areTwoOne_7 (by decide) (fun hf => ?_) (fun hf => ?_)
    · refine lv_iconst (v := 0) C.1 C.2.1 dX13_areTwoOne_53 (by decide) ?_
      exact sh_rz C hw hr hf dX13_areTwoOne_54
    · refine lv_iconst (v := 0) C.1 C.2.1 dX13_areTwoOne_10 (by decide) ?_
      refine lv_istore_n (lv' := [(2, .int 0), (0, .ref (G.2.1 0)), (1, .int v1)]) C.1 C.2.1 dX13_areTwoOne_11 rfl hl (by decide) rfl (fun ls hl => ?_)
      exact wX13_areTwoOne_12 C hr (fX13_areTwoOne_2 n) hr2 _ S v1 0 hf _ _ _ hw (lv_sub hl [1, 2, 0] rfl)
def fX13_areTwoOne (S : sh_St) : Option (Int32 × sh_St) :=
    fX13_areTwoOne_2 sh_FU S 0
set_option maxRecDepth 100000 in
set_option maxHeartbeats 4000000 in
theorem kX13_areTwoOne (l : Launch) : sh_Mi l yX13_areTwoOne cX13_areTwoOne 3 .boolean 3 tbM (fun G => [.ref (G.2.1 0)]) (fun S => fX13_areTwoOne S) := by
  refine sh_mki (by decide) (fun G => Nat.le_of_ble_eq_true rfl) ?_
  intro p e s m args below meth c G A S res ls hf C hr hw hl
  have C : sh_Cx p s m args meth c cX13_areTwoOne 3 RX13 G A := C
  have hl : lv_has ls 3 [(0, .ref (G.2.1 0))] := hl
  replace hf : fX13_areTwoOne S = some res := hf
  rw [fX13_areTwoOne] at hf
  refine lv_iconst (v := 0) C.1 C.2.1 dX13_areTwoOne_0 (by decide) ?_
  refine lv_istore_n (lv' := [(1, .int 0), (0, .ref (G.2.1 0))]) C.1 C.2.1 dX13_areTwoOne_1 rfl hl (by decide) rfl (fun ls hl => ?_)
  exact wX13_areTwoOne_2 C hr _ S 0 hf _ _ _ hw (lv_sub hl [1, 0] rfl)
def fX13_limitOf (S : sh_St) (v1 : Int32) : Option (Int32 × sh_St) :=
    if v1 = 0 then (some (0, S))
    else (sh_g (4 * v1) 240 (some (S.1 20 (4 * v1).toNatClampNeg, S)))
set_option maxRecDepth 100000 in
set_option maxHeartbeats 4000000 in
theorem kX13_limitOf (l : Launch) (v1 : Int32) : sh_Mi l yX13_limitOf cX13_limitOf 2 .int 1 tbM (fun G => [.ref (G.2.1 0), .int v1]) (fun S => fX13_limitOf S v1) := by
  refine sh_mki (by decide) (fun G => Nat.le_of_ble_eq_true rfl) ?_
  intro p e s m args below meth c G A S res ls hf C hr hw hl
  have C : sh_Cx p s m args meth c cX13_limitOf 2 RX13 G A := C
  have hl : lv_has ls 2 [(0, .ref (G.2.1 0)), (1, .int v1)] := hl
  replace hf : fX13_limitOf S v1 = some res := hf
  rw [fX13_limitOf] at hf
  refine lv_iload_n C.1 C.2.1 dX13_limitOf_0 rfl (lv_at hl 1 rfl) ?_
  refine sh_if_ne (tgt := 8) C hf dX13_limitOf_1 (by decide) (fun hf => ?_) (fun hf => ?_)
  · refine lv_aload_n C.1 C.2.1 dX13_limitOf_8 rfl (lv_at hl 0 rfl) ?_
    refine sh_getr C hw fl_X13_73 tbM_0 rfl dX13_limitOf_9 ?_
    refine lv_iconst (v := 4) C.1 C.2.1 dX13_limitOf_12 (by decide) ?_
    refine lv_iload_n C.1 C.2.1 dX13_limitOf_13 rfl (lv_at hl 1 rfl) ?_
    refine lv_imul C.1 C.2.1 dX13_limitOf_14 ?_
    refine sh_iald C hw hf tbM_20 dX13_limitOf_15 (fun hf => ?_)
    exact sh_ri C hw hr hf dX13_limitOf_16
  · refine lv_iconst (v := 0) C.1 C.2.1 dX13_limitOf_4 (by decide) ?_
    refine lv_goto (tgt := 16) C.1 C.2.1 dX13_limitOf_5 (by decide) ?_
    exact sh_ri C hw hr hf dX13_limitOf_16
def fX13_markOf (S : sh_St) (v1 : Int32) : Option (Int32 × sh_St) :=
    if v1 ≤ 0 then (some (0, S))
    else (sh_g (4 * v1) 240 (sh_g ((4 * v1) - 1) 240 (if (S.1 20 (4 * v1).toNatClampNeg) = (S.1 20 ((4 * v1) - 1).toNatClampNeg) then (some (1, S))
    else (some (0, S)))))
set_option maxRecDepth 100000 in
set_option maxHeartbeats 4000000 in
theorem kX13_markOf (l : Launch) (v1 : Int32) : sh_Mi l yX13_markOf cX13_markOf 2 .int 1 tbM (fun G => [.ref (G.2.1 0), .int v1]) (fun S => fX13_markOf S v1) := by
  refine sh_mki (by decide) (fun G => Nat.le_of_ble_eq_true rfl) ?_
  intro p e s m args below meth c G A S res ls hf C hr hw hl
  have C : sh_Cx p s m args meth c cX13_markOf 2 RX13 G A := C
  have hl : lv_has ls 2 [(0, .ref (G.2.1 0)), (1, .int v1)] := hl
  replace hf : fX13_markOf S v1 = some res := hf
  rw [fX13_markOf] at hf
  refine lv_iload_n C.1 C.2.1 dX13_markOf_0 rfl (lv_at hl 1 rfl) ?_
  refine sh_if_le (tgt := 29) C hf dX13_markOf_1 (by decide) (fun hf => ?_) (fun hf => ?_)
  · refine lv_iconst (v := 0) C.1 C.2.1 dX13_markOf_29 (by decide) ?_
    exact sh_ri C hw hr hf dX13_markOf_30
  · refine lv_aload_n C.1 C.2.1 dX13_markOf_4 rfl (lv_at hl 0 rfl) ?_
    refine sh_getr C hw fl_X13_73 tbM_0 rfl dX13_markOf_5 ?_
    refine lv_iconst (v := 4) C.1 C.2.1 dX13_markOf_8 (by decide) ?_
    refine lv_iload_n C.1 C.2.1 dX13_markOf_9 rfl (lv_at hl 1 rfl) ?_
    refine lv_imul C.1 C.2.1 dX13_markOf_10 ?_
    refine sh_iald C hw hf tbM_20 dX13_markOf_11 (fun hf => ?_)
    refine lv_aload_n C.1 C.2.1 dX13_markOf_12 rfl (lv_at hl 0 rfl) ?_
    refine sh_getr C hw fl_X13_73 tbM_0 rfl dX13_markOf_13 ?_
    refine lv_iconst (v := 4) C.1 C.2.1 dX13_markOf_16 (by decide) ?_
    refine lv_iload_n C.1 C.2.1 dX13_markOf_17 rfl (lv_at hl 1 rfl) ?_
    refine lv_imul C.1 C.2.1 dX13_markOf_18 ?_
    refine lv_iconst (v := 1) C.1 C.2.1 dX13_markOf_19 (by decide) ?_
    refine lv_isub C.1 C.2.1 dX13_markOf_20 ?_
    refine sh_iald C hw hf tbM_20 dX13_markOf_21 (fun hf => ?_)
    refine sh_icmp_ne (tgt := 29) C hf dX13_markOf_22 (by decide) (fun hf => ?_) (fun hf => ?_)
    · refine lv_iconst (v := 0) C.1 C.2.1 dX13_markOf_29 (by decide) ?_
      exact sh_ri C hw hr hf dX13_markOf_30
    · refine lv_iconst (v := 1) C.1 C.2.1 dX13_markOf_25 (by decide) ?_
      refine lv_goto (tgt := 30) C.1 C.2.1 dX13_markOf_26 (by decide) ?_
      exact sh_ri C hw hr hf dX13_markOf_30
def fX13_build0_379 (rk310 : sh_St → Int32 → Int32 → Option (Int32 × sh_St)) (S : sh_St) (v4 : Int32) (v5 : Int32) (v6 : Int32) : Option (Int32 × sh_St) :=
    sh_c (fX13_limitOf S v5) fun r12 S11 =>
    sh_c (fX13_markOf S11 v5) fun r14 S13 =>
    sh_c (fX13_laysRow S13 v6 (v5 - v5 / 4 * 4) r12 r14 (1 + v5)) fun _ S15 =>
    sh_g (80 + v6) 1084 (sh_g (80 + v6) 1084 (sh_t (sh_I S15 1 (80 + v6).toNatClampNeg ((S15.1 1 (80 + v6).toNatClampNeg) + 1)) fun S17 =>
    sh_t (v5 + 1) fun y18 =>
    rk310 S17 v4 y18))
set_option maxRecDepth 100000 in
set_option maxHeartbeats 4000000 in
theorem wX13_build0_379 {p : Program} {l : Launch} {e : Env} {s : State} {m : MethodId} {args : Array Value} {below : List Frame} {meth : Method} {c : Code} {G : sh_Ev} {A : Nat → Prop} {res : Int32 × sh_St} (C : sh_Cx p s m args meth c cX13_build0 7 RX13 G A) (hr : meth.sig.returnType = some .int) (rk310 : sh_St → Int32 → Int32 → Option (Int32 × sh_St)) (hr310 : ∀ (S : sh_St) (v4 : Int32) (v5 : Int32), rk310 S v4 v5 = some res → ∀ (H : Heap) (locs : List Loc) (ls : Array Slot), sh_Wx G tbM A s H locs S → lv_has ls 7 [(0, .ref (G.2.1 0)), (4, .int v4), (5, .int v5)] → W p l e (sh_rm 5) s m args below meth c H locs 0 0 (sh_Qi below args s G tbM A res) (F0 m 310 ls [])) : ∀ (S : sh_St) (v4 : Int32) (v5 : Int32) (v6 : Int32), fX13_build0_379 rk310 S v4 v5 v6 = some res → ∀ (H : Heap) (locs : List Loc) (ls : Array Slot), sh_Wx G tbM A s H locs S → lv_has ls 7 [(0, .ref (G.2.1 0)), (4, .int v4), (5, .int v5), (6, .int v6)] → W p l e (sh_rm 5) s m args below meth c H locs 0 0 (sh_Qi below args s G tbM A res) (F0 m 379 ls []) := by
  intro S v4 v5 v6 hf H locs ls hw hl
  rw [fX13_build0_379] at hf
  refine lv_aload_n C.1 C.2.1 dX13_build0_379 rfl (lv_at hl 0 rfl) ?_
  refine lv_iload C.1 C.2.1 dX13_build0_380 (lv_at hl 3 rfl) ?_
  refine lv_iload C.1 C.2.1 dX13_build0_382 (lv_at hl 2 rfl) ?_
  refine lv_iconst (v := 4) C.1 C.2.1 dX13_build0_384 (by decide) ?_
  refine lv_irem C.1 C.2.1 dX13_build0_385 (by decide) ?_
  refine lv_aload_n C.1 C.2.1 dX13_build0_386 rfl (lv_at hl 0 rfl) ?_
  refine lv_iload C.1 C.2.1 dX13_build0_387 (lv_at hl 2 rfl) ?_
  refine sh_Vi (As := [.int v5]) (rest := [.int (v5 - v5 / 4 * 4), .int v6, .ref (G.2.1 0)]) C hw (kX13_limitOf l v5) yy_X13_limitOf yv_X13_limitOf ml_X13_242 hf tbM_0 rfl rfl rfl rfl (Nat.le_of_ble_eq_true rfl) (by decide) hl.1 dX13_build0_389 (fun r12 S11 H locs hw hf => ?_)
  refine lv_aload_n C.1 C.2.1 dX13_build0_392 rfl (lv_at hl 0 rfl) ?_
  refine lv_iload C.1 C.2.1 dX13_build0_393 (lv_at hl 2 rfl) ?_
  refine sh_Vi (As := [.int v5]) (rest := [.int r12, .int (v5 - v5 / 4 * 4), .int v6, .ref (G.2.1 0)]) C hw (kX13_markOf l v5) yy_X13_markOf yv_X13_markOf ml_X13_245 hf tbM_0 rfl rfl rfl rfl (Nat.le_of_ble_eq_true rfl) (by decide) hl.1 dX13_build0_395 (fun r14 S13 H locs hw hf => ?_)
  refine lv_iconst (v := 1) C.1 C.2.1 dX13_build0_398 (by decide) ?_
  refine lv_iload C.1 C.2.1 dX13_build0_399 (lv_at hl 2 rfl) ?_
  refine lv_iadd C.1 C.2.1 dX13_build0_401 ?_
  refine sh_Vv (As := [.int v6, .int (v5 - v5 / 4 * 4), .int r12, .int r14, .int (1 + v5)]) (rest := []) C hw (kX13_laysRow l v6 (v5 - v5 / 4 * 4) r12 r14 (1 + v5)) yy_X13_laysRow yv_X13_laysRow ml_X13_184 hf tbM_0 rfl rfl rfl rfl (Nat.le_of_ble_eq_true rfl) (by decide) hl.1 dX13_build0_402 (fun S15 H locs hw hf => ?_)
  refine lv_aload_n C.1 C.2.1 dX13_build0_405 rfl (lv_at hl 0 rfl) ?_
  refine sh_getr C hw fl_X13_7 tbM_0 rfl dX13_build0_406 ?_
  refine lv_bipush (v := 80) C.1 C.2.1 dX13_build0_409 (by decide) ?_
  refine lv_iload C.1 C.2.1 dX13_build0_411 (lv_at hl 3 rfl) ?_
  refine lv_iadd C.1 C.2.1 dX13_build0_413 ?_
  refine lv_dup2_11 C.1 C.2.1 dX13_build0_414 rfl rfl ?_
  refine sh_iald C hw hf tbM_1 dX13_build0_415 (fun hf => ?_)
  refine lv_iconst (v := 1) C.1 C.2.1 dX13_build0_416 (by decide) ?_
  refine lv_iadd C.1 C.2.1 dX13_build0_417 ?_
  refine sh_iast C hw hf tbM_1 dX13_build0_418 (fun S17 H locs hw hf => ?_)
  obtain ⟨y18, ey18, hf⟩ := sh_nm hf
  refine lv_iinc (v := y18) (lv' := [(5, .int y18), (0, .ref (G.2.1 0)), (4, .int v4), (6, .int v6)]) C.1 C.2.1 dX13_build0_419 hl (k := 2) rfl (by rw [← ey18]; rfl) (by decide) rfl (fun ls hl => ?_)
  refine lv_goto (tgt := 310) C.1 C.2.1 dX13_build0_422 (by decide) ?_
  exact hr310 S17 v4 y18 hf _ _ _ hw (lv_sub hl [1, 2, 0] rfl)
def fX13_build0_310 : Nat → sh_St → Int32 → Int32 → Option (Int32 × sh_St)
  | 0, _, _, _ => none
  | n + 1, S, v4, v5 =>
    if v4 ≤ v5 then (some (0, S))
    else (sh_t ((1 + v4) + (v5 / 4)) fun y10 =>
    if (v5 - v5 / 4 * 4) = 0 then (sh_g (0 + y10) 1084 (sh_t (sh_I S 1 (0 + y10).toNatClampNeg 2) fun S19 =>
    sh_c (fX13_limitOf S19 v5) fun r21 S20 =>
    sh_c (fX13_markOf S20 v5) fun r23 S22 =>
    sh_c (fX13_laysRow S22 0 (v5 / 4) r21 r23 y10) fun _ S24 =>
    sh_g 80 1084 (sh_g 80 1084 (sh_t (sh_I S24 1 (80 : Int32).toNatClampNeg ((S24.1 1 (80 : Int32).toNatClampNeg) + 1)) fun S26 =>
    fX13_build0_379 (fX13_build0_310 n) S26 v4 v5 y10))))
    else (fX13_build0_379 (fX13_build0_310 n) S v4 v5 y10))
set_option maxRecDepth 100000 in
set_option maxHeartbeats 4000000 in
theorem wX13_build0_310 {p : Program} {l : Launch} {e : Env} {s : State} {m : MethodId} {args : Array Value} {below : List Frame} {meth : Method} {c : Code} {G : sh_Ev} {A : Nat → Prop} {res : Int32 × sh_St} (C : sh_Cx p s m args meth c cX13_build0 7 RX13 G A) (hr : meth.sig.returnType = some .int) : ∀ (n : Nat) (S : sh_St) (v4 : Int32) (v5 : Int32), fX13_build0_310 n S v4 v5 = some res → ∀ (H : Heap) (locs : List Loc) (ls : Array Slot), sh_Wx G tbM A s H locs S → lv_has ls 7 [(0, .ref (G.2.1 0)), (4, .int v4), (5, .int v5)] → W p l e (sh_rm 5) s m args below meth c H locs 0 0 (sh_Qi below args s G tbM A res) (F0 m 310 ls []) := by
  intro n
  induction n with
  | zero => intro S v4 v5 hf; exact nomatch (show (none : Option (Int32 × sh_St)) = some res from hf)
  | succ n ih =>
    intro S v4 v5 hf H locs ls hw hl
    have hr310 := ih
    rw [fX13_build0_310] at hf
    refine lv_iload C.1 C.2.1 dX13_build0_310 (lv_at hl 2 rfl) ?_
    refine lv_iload C.1 C.2.1 dX13_build0_312 (lv_at hl 1 rfl) ?_
    refine sh_icmp_ge (tgt := 425) C hf dX13_build0_314 (by decide) (fun hf => ?_) (fun hf => ?_)
    · refine lv_iconst (v := 0) C.1 C.2.1 dX13_build0_425 (by decide) ?_
      exact sh_ri C hw hr hf dX13_build0_426
    · refine lv_iconst (v := 1) C.1 C.2.1 dX13_build0_317 (by decide) ?_
      refine lv_iload C.1 C.2.1 dX13_build0_318 (lv_at hl 1 rfl) ?_
      refine lv_iadd C.1 C.2.1 dX13_build0_320 ?_
      refine lv_iload C.1 C.2.1 dX13_build0_321 (lv_at hl 2 rfl) ?_
      refine lv_iconst (v := 4) C.1 C.2.1 dX13_build0_323 (by decide) ?_
      refine lv_idiv C.1 C.2.1 dX13_build0_324 (by decide) ?_
      refine lv_iadd C.1 C.2.1 dX13_build0_325 ?_
      refine sh_ni hf (fun y10 hf => ?_)
      refine lv_istore (lv' := [(6, .int y10), (0, .ref (G.2.1 0)), (4, .int v4), (5, .int v5)]) C.1 C.2.1 dX13_build0_326 hl (by decide) rfl (fun ls hl => ?_)
      refine lv_iload C.1 C.2.1 dX13_build0_328 (lv_at hl 3 rfl) ?_
      refine lv_iconst (v := 4) C.1 C.2.1 dX13_build0_330 (by decide) ?_
      refine lv_irem C.1 C.2.1 dX13_build0_331 (by decide) ?_
      refine sh_if_ne (tgt := 379) C hf dX13_build0_332 (by decide) (fun hf => ?_) (fun hf => ?_)
      · exact wX13_build0_379 C hr (fX13_build0_310 n) hr310 S v4 v5 y10 hf _ _ _ hw (lv_sub hl [1, 2, 3, 0] rfl)
      · refine lv_aload_n C.1 C.2.1 dX13_build0_335 rfl (lv_at hl 1 rfl) ?_
        refine sh_getr C hw fl_X13_7 tbM_0 rfl dX13_build0_336 ?_
        refine lv_iconst (v := 0) C.1 C.2.1 dX13_build0_339 (by decide) ?_
        refine lv_iload C.1 C.2.1 dX13_build0_340 (lv_at hl 0 rfl) ?_
        refine lv_iadd C.1 C.2.1 dX13_build0_342 ?_
        refine lv_iconst (v := 2) C.1 C.2.1 dX13_build0_343 (by decide) ?_
        refine sh_iast C hw hf tbM_1 dX13_build0_344 (fun S19 H locs hw hf => ?_)
        refine lv_aload_n C.1 C.2.1 dX13_build0_345 rfl (lv_at hl 1 rfl) ?_
        refine lv_iconst (v := 0) C.1 C.2.1 dX13_build0_346 (by decide) ?_
        refine lv_iload C.1 C.2.1 dX13_build0_347 (lv_at hl 3 rfl) ?_
        refine lv_iconst (v := 4) C.1 C.2.1 dX13_build0_349 (by decide) ?_
        refine lv_idiv C.1 C.2.1 dX13_build0_350 (by decide) ?_
        refine lv_aload_n C.1 C.2.1 dX13_build0_351 rfl (lv_at hl 1 rfl) ?_
        refine lv_iload C.1 C.2.1 dX13_build0_352 (lv_at hl 3 rfl) ?_
        refine sh_Vi (As := [.int v5]) (rest := [.int (v5 / 4), .int 0, .ref (G.2.1 0)]) C hw (kX13_limitOf l v5) yy_X13_limitOf yv_X13_limitOf ml_X13_242 hf tbM_0 rfl rfl rfl rfl (Nat.le_of_ble_eq_true rfl) (by decide) hl.1 dX13_build0_354 (fun r21 S20 H locs hw hf => ?_)
        refine lv_aload_n C.1 C.2.1 dX13_build0_357 rfl (lv_at hl 1 rfl) ?_
        refine lv_iload C.1 C.2.1 dX13_build0_358 (lv_at hl 3 rfl) ?_
        refine sh_Vi (As := [.int v5]) (rest := [.int r21, .int (v5 / 4), .int 0, .ref (G.2.1 0)]) C hw (kX13_markOf l v5) yy_X13_markOf yv_X13_markOf ml_X13_245 hf tbM_0 rfl rfl rfl rfl (Nat.le_of_ble_eq_true rfl) (by decide) hl.1 dX13_build0_360 (fun r23 S22 H locs hw hf => ?_)
        refine lv_iload C.1 C.2.1 dX13_build0_363 (lv_at hl 0 rfl) ?_
        refine sh_Vv (As := [.int 0, .int (v5 / 4), .int r21, .int r23, .int y10]) (rest := []) C hw (kX13_laysRow l 0 (v5 / 4) r21 r23 y10) yy_X13_laysRow yv_X13_laysRow ml_X13_184 hf tbM_0 rfl rfl rfl rfl (Nat.le_of_ble_eq_true rfl) (by decide) hl.1 dX13_build0_365 (fun S24 H locs hw hf => ?_)
        refine lv_aload_n C.1 C.2.1 dX13_build0_368 rfl (lv_at hl 1 rfl) ?_
        refine sh_getr C hw fl_X13_7 tbM_0 rfl dX13_build0_369 ?_
        refine lv_bipush (v := 80) C.1 C.2.1 dX13_build0_372 (by decide) ?_
        refine lv_dup2_11 C.1 C.2.1 dX13_build0_374 rfl rfl ?_
        refine sh_iald C hw hf tbM_1 dX13_build0_375 (fun hf => ?_)
        refine lv_iconst (v := 1) C.1 C.2.1 dX13_build0_376 (by decide) ?_
        refine lv_iadd C.1 C.2.1 dX13_build0_377 ?_
        refine sh_iast C hw hf tbM_1 dX13_build0_378 (fun S26 H locs hw hf => ?_)
        exact wX13_build0_379 C hr (fX13_build0_310 n) hr310 S26 v4 v5 y10 hf _ _ _ hw (lv_sub hl [1, 2, 3, 0] rfl)
def fX13_build0_260 : Nat → sh_St → Int32 → Int32 → Option (Int32 × sh_St)
  | 0, _, _, _ => none
  | n + 1, S, v4, v5 =>
    if v4 ≤ v5 then (some (0, S))
    else (sh_c (fX13_limitOf S v5) fun r30 S29 =>
    sh_c (fX13_markOf S29 v5) fun r32 S31 =>
    sh_c (fX13_laysRow S31 0 v5 r30 r32 (1 + v5)) fun _ S33 =>
    sh_t (v5 + 1) fun y35 =>
    (fX13_build0_260 n) S33 v4 y35)
set_option maxRecDepth 100000 in
set_option maxHeartbeats 4000000 in
theorem wX13_build0_260 {p : Program} {l : Launch} {e : Env} {s : State} {m : MethodId} {args : Array Value} {below : List Frame} {meth : Method} {c : Code} {G : sh_Ev} {A : Nat → Prop} {res : Int32 × sh_St} (C : sh_Cx p s m args meth c cX13_build0 7 RX13 G A) (hr : meth.sig.returnType = some .int) : ∀ (n : Nat) (S : sh_St) (v4 : Int32) (v5 : Int32), fX13_build0_260 n S v4 v5 = some res → ∀ (H : Heap) (locs : List Loc) (ls : Array Slot), sh_Wx G tbM A s H locs S → lv_has ls 7 [(0, .ref (G.2.1 0)), (4, .int v4), (5, .int v5)] → W p l e (sh_rm 5) s m args below meth c H locs 0 0 (sh_Qi below args s G tbM A res) (F0 m 260 ls []) := by
  intro n
  induction n with
  | zero => intro S v4 v5 hf; exact nomatch (show (none : Option (Int32 × sh_St)) = some res from hf)
  | succ n ih =>
    intro S v4 v5 hf H locs ls hw hl
    have hr260 := ih
    rw [fX13_build0_260] at hf
    refine lv_iload C.1 C.2.1 dX13_build0_260 (lv_at hl 2 rfl) ?_
    refine lv_iload C.1 C.2.1 dX13_build0_262 (lv_at hl 1 rfl) ?_
    refine sh_icmp_ge (tgt := 296) C hf dX13_build0_264 (by decide) (fun hf => ?_) (fun hf => ?_)
    · refine lv_iconst (v := 0) C.1 C.2.1 dX13_build0_296 (by decide) ?_
      exact sh_ri C hw hr hf dX13_build0_297
    · refine lv_aload_n C.1 C.2.1 dX13_build0_267 rfl (lv_at hl 0 rfl) ?_
      refine lv_iconst (v := 0) C.1 C.2.1 dX13_build0_268 (by decide) ?_
      refine lv_iload C.1 C.2.1 dX13_build0_269 (lv_at hl 2 rfl) ?_
      refine lv_aload_n C.1 C.2.1 dX13_build0_271 rfl (lv_at hl 0 rfl) ?_
      refine lv_iload C.1 C.2.1 dX13_build0_272 (lv_at hl 2 rfl) ?_
      refine sh_Vi (As := [.int v5]) (rest := [.int v5, .int 0, .ref (G.2.1 0)]) C hw (kX13_limitOf l v5) yy_X13_limitOf yv_X13_limitOf ml_X13_242 hf tbM_0 rfl rfl rfl rfl (Nat.le_of_ble_eq_true rfl) (by decide) hl.1 dX13_build0_274 (fun r30 S29 H locs hw hf => ?_)
      refine lv_aload_n C.1 C.2.1 dX13_build0_277 rfl (lv_at hl 0 rfl) ?_
      refine lv_iload C.1 C.2.1 dX13_build0_278 (lv_at hl 2 rfl) ?_
      refine sh_Vi (As := [.int v5]) (rest := [.int r30, .int v5, .int 0, .ref (G.2.1 0)]) C hw (kX13_markOf l v5) yy_X13_markOf yv_X13_markOf ml_X13_245 hf tbM_0 rfl rfl rfl rfl (Nat.le_of_ble_eq_true rfl) (by decide) hl.1 dX13_build0_280 (fun r32 S31 H locs hw hf => ?_)
      refine lv_iconst (v := 1) C.1 C.2.1 dX13_build0_283 (by decide) ?_
      refine lv_iload C.1 C.2.1 dX13_build0_284 (lv_at hl 2 rfl) ?_
      refine lv_iadd C.1 C.2.1 dX13_build0_286 ?_
      refine sh_Vv (As := [.int 0, .int v5, .int r30, .int r32, .int (1 + v5)]) (rest := []) C hw (kX13_laysRow l 0 v5 r30 r32 (1 + v5)) yy_X13_laysRow yv_X13_laysRow ml_X13_184 hf tbM_0 rfl rfl rfl rfl (Nat.le_of_ble_eq_true rfl) (by decide) hl.1 dX13_build0_287 (fun S33 H locs hw hf => ?_)
      obtain ⟨y35, ey35, hf⟩ := sh_nm hf
      refine lv_iinc (v := y35) (lv' := [(5, .int y35), (0, .ref (G.2.1 0)), (4, .int v4)]) C.1 C.2.1 dX13_build0_290 hl (k := 2) rfl (by rw [← ey35]; rfl) (by decide) rfl (fun ls hl => ?_)
      refine lv_goto (tgt := 260) C.1 C.2.1 dX13_build0_293 (by decide) ?_
      exact hr260 S33 v4 y35 hf _ _ _ hw (lv_sub hl [1, 2, 0] rfl)
def fX13_build0_223 (rk175 : sh_St → Int32 → Int32 → Option (Int32 × sh_St)) (S : sh_St) (v4 : Int32) (v5 : Int32) (t0 : Int32) (t1 : Int32) (t2 : Int32) : Option (Int32 × sh_St) :=
    sh_c (fX13_fills S t2 t1 t0) fun _ S37 =>
    sh_t (v5 + 1) fun y39 =>
    rk175 S37 v4 y39
set_option maxRecDepth 100000 in
set_option maxHeartbeats 4000000 in
theorem wX13_build0_223 {p : Program} {l : Launch} {e : Env} {s : State} {m : MethodId} {args : Array Value} {below : List Frame} {meth : Method} {c : Code} {G : sh_Ev} {A : Nat → Prop} {res : Int32 × sh_St} (C : sh_Cx p s m args meth c cX13_build0 7 RX13 G A) (hr : meth.sig.returnType = some .int) (rk175 : sh_St → Int32 → Int32 → Option (Int32 × sh_St)) (hr175 : ∀ (S : sh_St) (v4 : Int32) (v5 : Int32), rk175 S v4 v5 = some res → ∀ (H : Heap) (locs : List Loc) (ls : Array Slot), sh_Wx G tbM A s H locs S → lv_has ls 7 [(0, .ref (G.2.1 0)), (4, .int v4), (5, .int v5)] → W p l e (sh_rm 5) s m args below meth c H locs 0 0 (sh_Qi below args s G tbM A res) (F0 m 175 ls [])) : ∀ (S : sh_St) (v4 : Int32) (v5 : Int32) (t0 : Int32) (t1 : Int32) (t2 : Int32), fX13_build0_223 rk175 S v4 v5 t0 t1 t2 = some res → ∀ (H : Heap) (locs : List Loc) (ls : Array Slot), sh_Wx G tbM A s H locs S → lv_has ls 7 [(0, .ref (G.2.1 0)), (4, .int v4), (5, .int v5)] → W p l e (sh_rm 5) s m args below meth c H locs 0 0 (sh_Qi below args s G tbM A res) (F0 m 223 ls [.int t0, .int t1, .int t2, .ref (G.2.1 0)]) := by
  intro S v4 v5 t0 t1 t2 hf H locs ls hw hl
  rw [fX13_build0_223] at hf
  refine sh_Vv (As := [.int t2, .int t1, .int t0]) (rest := []) C hw (kX13_fills l t2 t1 t0) yy_X13_fills yv_X13_fills ml_X13_214 hf tbM_0 rfl rfl rfl rfl (Nat.le_of_ble_eq_true rfl) (by decide) hl.1 dX13_build0_223 (fun S37 H locs hw hf => ?_)
  obtain ⟨y39, ey39, hf⟩ := sh_nm hf
  refine lv_iinc (v := y39) (lv' := [(5, .int y39), (0, .ref (G.2.1 0)), (4, .int v4)]) C.1 C.2.1 dX13_build0_226 hl (k := 2) rfl (by rw [← ey39]; rfl) (by decide) rfl (fun ls hl => ?_)
  refine lv_goto (tgt := 175) C.1 C.2.1 dX13_build0_229 (by decide) ?_
  exact hr175 S37 v4 y39 hf _ _ _ hw (lv_sub hl [1, 2, 0] rfl)
def fX13_build0_175 : Nat → sh_St → Int32 → Int32 → Option (Int32 × sh_St)
  | 0, _, _, _ => none
  | n + 1, S, v4, v5 =>
    if v4 ≤ v5 then (if 6 ≤ v4 then (sh_g 1080 1084 (sh_t (sh_I S 1 (1080 : Int32).toNatClampNeg 2) fun S9 =>
    fX13_build0_310 sh_FU S9 v4 0))
    else (sh_g 1080 1084 (sh_t (sh_I S 1 (1080 : Int32).toNatClampNeg 1) fun S27 =>
    sh_g 80 1084 (sh_t (sh_I S27 1 (80 : Int32).toNatClampNeg v4) fun S28 =>
    fX13_build0_260 sh_FU S28 v4 0))))
    else (sh_g (1 + v5) 1084 (sh_t (sh_I S 1 (1 + v5).toNatClampNeg 1) fun S36 =>
    if v5 = (v4 - 1) then (fX13_build0_223 (fX13_build0_175 n) S36 v4 v5 ((S36.1 0 36) - (4 * v5)) (4 * v5) (1 + v5))
    else (fX13_build0_223 (fX13_build0_175 n) S36 v4 v5 4 (4 * v5) (1 + v5))))
set_option maxRecDepth 100000 in
set_option maxHeartbeats 4000000 in
theorem wX13_build0_175 {p : Program} {l : Launch} {e : Env} {s : State} {m : MethodId} {args : Array Value} {below : List Frame} {meth : Method} {c : Code} {G : sh_Ev} {A : Nat → Prop} {res : Int32 × sh_St} (C : sh_Cx p s m args meth c cX13_build0 7 RX13 G A) (hr : meth.sig.returnType = some .int) : ∀ (n : Nat) (S : sh_St) (v4 : Int32) (v5 : Int32), fX13_build0_175 n S v4 v5 = some res → ∀ (H : Heap) (locs : List Loc) (ls : Array Slot), sh_Wx G tbM A s H locs S → lv_has ls 7 [(0, .ref (G.2.1 0)), (4, .int v4), (5, .int v5)] → W p l e (sh_rm 5) s m args below meth c H locs 0 0 (sh_Qi below args s G tbM A res) (F0 m 175 ls []) := by
  intro n
  induction n with
  | zero => intro S v4 v5 hf; exact nomatch (show (none : Option (Int32 × sh_St)) = some res from hf)
  | succ n ih =>
    intro S v4 v5 hf H locs ls hw hl
    have hr175 := ih
    rw [fX13_build0_175] at hf
    refine lv_iload C.1 C.2.1 dX13_build0_175 (lv_at hl 2 rfl) ?_
    refine lv_iload C.1 C.2.1 dX13_build0_177 (lv_at hl 1 rfl) ?_
    refine sh_icmp_ge (tgt := 232) C hf dX13_build0_179 (by decide) (fun hf => ?_) (fun hf => ?_)
    · refine lv_iload C.1 C.2.1 dX13_build0_232 (lv_at hl 1 rfl) ?_
      refine lv_bipush (v := 6) C.1 C.2.1 dX13_build0_234 (by decide) ?_
      refine sh_icmp_ge (tgt := 298) C hf dX13_build0_236 (by decide) (fun hf => ?_) (fun hf => ?_)
      · refine lv_aload_n C.1 C.2.1 dX13_build0_298 rfl (lv_at hl 0 rfl) ?_
        refine sh_getr C hw fl_X13_7 tbM_0 rfl dX13_build0_299 ?_
        refine lv_sipush (v := 1080) C.1 C.2.1 dX13_build0_302 (by decide) ?_
        refine lv_iconst (v := 2) C.1 C.2.1 dX13_build0_305 (by decide) ?_
        refine sh_iast C hw hf tbM_1 dX13_build0_306 (fun S9 H locs hw hf => ?_)
        refine lv_iconst (v := 0) C.1 C.2.1 dX13_build0_307 (by decide) ?_
        refine lv_istore (lv' := [(5, .int 0), (0, .ref (G.2.1 0)), (4, .int v4)]) C.1 C.2.1 dX13_build0_308 hl (by decide) rfl (fun ls hl => ?_)
        exact wX13_build0_310 C hr _ S9 v4 0 hf _ _ _ hw (lv_sub hl [1, 2, 0] rfl)
      · refine lv_aload_n C.1 C.2.1 dX13_build0_239 rfl (lv_at hl 0 rfl) ?_
        refine sh_getr C hw fl_X13_7 tbM_0 rfl dX13_build0_240 ?_
        refine lv_sipush (v := 1080) C.1 C.2.1 dX13_build0_243 (by decide) ?_
        refine lv_iconst (v := 1) C.1 C.2.1 dX13_build0_246 (by decide) ?_
        refine sh_iast C hw hf tbM_1 dX13_build0_247 (fun S27 H locs hw hf => ?_)
        refine lv_aload_n C.1 C.2.1 dX13_build0_248 rfl (lv_at hl 0 rfl) ?_
        refine sh_getr C hw fl_X13_7 tbM_0 rfl dX13_build0_249 ?_
        refine lv_bipush (v := 80) C.1 C.2.1 dX13_build0_252 (by decide) ?_
        refine lv_iload C.1 C.2.1 dX13_build0_254 (lv_at hl 1 rfl) ?_
        refine sh_iast C hw hf tbM_1 dX13_build0_256 (fun S28 H locs hw hf => ?_)
        refine lv_iconst (v := 0) C.1 C.2.1 dX13_build0_257 (by decide) ?_
        refine lv_istore (lv' := [(5, .int 0), (0, .ref (G.2.1 0)), (4, .int v4)]) C.1 C.2.1 dX13_build0_258 hl (by decide) rfl (fun ls hl => ?_)
        exact wX13_build0_260 C hr _ S28 v4 0 hf _ _ _ hw (lv_sub hl [1, 2, 0] rfl)
    · refine lv_aload_n C.1 C.2.1 dX13_build0_182 rfl (lv_at hl 0 rfl) ?_
      refine sh_getr C hw fl_X13_7 tbM_0 rfl dX13_build0_183 ?_
      refine lv_iconst (v := 1) C.1 C.2.1 dX13_build0_186 (by decide) ?_
      refine lv_iload C.1 C.2.1 dX13_build0_187 (lv_at hl 2 rfl) ?_
      refine lv_iadd C.1 C.2.1 dX13_build0_189 ?_
      refine lv_iconst (v := 1) C.1 C.2.1 dX13_build0_190 (by decide) ?_
      refine sh_iast C hw hf tbM_1 dX13_build0_191 (fun S36 H locs hw hf => ?_)
      refine lv_aload_n C.1 C.2.1 dX13_build0_192 rfl (lv_at hl 0 rfl) ?_
      refine lv_iconst (v := 1) C.1 C.2.1 dX13_build0_193 (by decide) ?_
      refine lv_iload C.1 C.2.1 dX13_build0_194 (lv_at hl 2 rfl) ?_
      refine lv_iadd C.1 C.2.1 dX13_build0_196 ?_
      refine lv_iconst (v := 4) C.1 C.2.1 dX13_build0_197 (by decide) ?_
      refine lv_iload C.1 C.2.1 dX13_build0_198 (lv_at hl 2 rfl) ?_
      refine lv_imul C.1 C.2.1 dX13_build0_200 ?_
      refine lv_iload C.1 C.2.1 dX13_build0_201 (lv_at hl 2 rfl) ?_
      refine lv_iload C.1 C.2.1 dX13_build0_203 (lv_at hl 1 rfl) ?_
      refine lv_iconst (v := 1) C.1 C.2.1 dX13_build0_205 (by decide) ?_
      refine lv_isub C.1 C.2.1 dX13_build0_206 ?_
      refine sh_icmp_ne (tgt := 222) C hf dX13_build0_207 (by decide) (fun hf => ?_) (fun hf => ?_)
      · refine lv_iconst (v := 4) C.1 C.2.1 dX13_build0_222 (by decide) ?_
        exact wX13_build0_223 C hr (fX13_build0_175 n) hr175 S36 v4 v5 4 (4 * v5) (1 + v5) hf _ _ _ hw (lv_sub hl [0, 1, 2] rfl)
      · refine lv_aload_n C.1 C.2.1 dX13_build0_210 rfl (lv_at hl 0 rfl) ?_
        refine sh_geti C hw fl_X13_188 tbM_0 rfl dX13_build0_211 ?_
        refine lv_iconst (v := 4) C.1 C.2.1 dX13_build0_214 (by decide) ?_
        refine lv_iload C.1 C.2.1 dX13_build0_215 (lv_at hl 2 rfl) ?_
        refine lv_imul C.1 C.2.1 dX13_build0_217 ?_
        refine lv_isub C.1 C.2.1 dX13_build0_218 ?_
        refine lv_goto (tgt := 223) C.1 C.2.1 dX13_build0_219 (by decide) ?_
        exact wX13_build0_223 C hr (fX13_build0_175 n) hr175 S36 v4 v5 ((S36.1 0 36) - (4 * v5)) (4 * v5) (1 + v5) hf _ _ _ hw (lv_sub hl [0, 1, 2] rfl)
def fX13_build0_80 : Nat → sh_St → Int32 → Int32 → Option (Int32 × sh_St)
  | 0, _, _, _ => none
  | n + 1, S, v4, v5 =>
    if 40 ≤ v5 then (if v4 = 1 then (sh_g 0 1084 (sh_t (sh_I S 1 (0 : Int32).toNatClampNeg 1) fun S40 =>
    sh_g 1080 1084 (sh_t (sh_I S40 1 (1080 : Int32).toNatClampNeg 0) fun S41 =>
    sh_c (fX13_fills S41 0 0 (S41.1 0 36)) fun _ S42 =>
    some (0, S42))))
    else (sh_g 0 1084 (sh_t (sh_I S 1 (0 : Int32).toNatClampNeg 2) fun S8 =>
    fX13_build0_175 sh_FU S8 v4 0)))
    else (sh_g (0 + v5) 1084 (sh_t (sh_I S 1 (0 + v5).toNatClampNeg 0) fun S44 =>
    sh_g (40 + v5) 1084 (sh_t (sh_I S44 1 (40 + v5).toNatClampNeg 0) fun S45 =>
    sh_g (80 + v5) 1084 (sh_t (sh_I S45 1 (80 + v5).toNatClampNeg 0) fun S46 =>
    sh_c (fX13_empties S46 v5) fun _ S47 =>
    sh_t (v5 + 1) fun y49 =>
    (fX13_build0_80 n) S47 v4 y49))))
set_option maxRecDepth 100000 in
set_option maxHeartbeats 4000000 in
theorem wX13_build0_80 {p : Program} {l : Launch} {e : Env} {s : State} {m : MethodId} {args : Array Value} {below : List Frame} {meth : Method} {c : Code} {G : sh_Ev} {A : Nat → Prop} {res : Int32 × sh_St} (C : sh_Cx p s m args meth c cX13_build0 7 RX13 G A) (hr : meth.sig.returnType = some .int) : ∀ (n : Nat) (S : sh_St) (v4 : Int32) (v5 : Int32), fX13_build0_80 n S v4 v5 = some res → ∀ (H : Heap) (locs : List Loc) (ls : Array Slot), sh_Wx G tbM A s H locs S → lv_has ls 7 [(0, .ref (G.2.1 0)), (4, .int v4), (5, .int v5)] → W p l e (sh_rm 5) s m args below meth c H locs 0 0 (sh_Qi below args s G tbM A res) (F0 m 80 ls []) := by
  intro n
  induction n with
  | zero => intro S v4 v5 hf; exact nomatch (show (none : Option (Int32 × sh_St)) = some res from hf)
  | succ n ih =>
    intro S v4 v5 hf H locs ls hw hl
    have hr80 := ih
    rw [fX13_build0_80] at hf
    refine lv_iload C.1 C.2.1 dX13_build0_80 (lv_at hl 2 rfl) ?_
    refine lv_bipush (v := 40) C.1 C.2.1 dX13_build0_82 (by decide) ?_
    refine sh_icmp_ge (tgt := 131) C hf dX13_build0_84 (by decide) (fun hf => ?_) (fun hf => ?_)
    · refine lv_iload C.1 C.2.1 dX13_build0_131 (lv_at hl 1 rfl) ?_
      refine lv_iconst (v := 1) C.1 C.2.1 dX13_build0_133 (by decide) ?_
      refine sh_icmp_ne (tgt := 165) C hf dX13_build0_134 (by decide) (fun hf => ?_) (fun hf => ?_)
      · refine lv_aload_n C.1 C.2.1 dX13_build0_165 rfl (lv_at hl 0 rfl) ?_
        refine sh_getr C hw fl_X13_7 tbM_0 rfl dX13_build0_166 ?_
        refine lv_iconst (v := 0) C.1 C.2.1 dX13_build0_169 (by decide) ?_
        refine lv_iconst (v := 2) C.1 C.2.1 dX13_build0_170 (by decide) ?_
        refine sh_iast C hw hf tbM_1 dX13_build0_171 (fun S8 H locs hw hf => ?_)
        refine lv_iconst (v := 0) C.1 C.2.1 dX13_build0_172 (by decide) ?_
        refine lv_istore (lv' := [(5, .int 0), (0, .ref (G.2.1 0)), (4, .int v4)]) C.1 C.2.1 dX13_build0_173 hl (by decide) rfl (fun ls hl => ?_)
        exact wX13_build0_175 C hr _ S8 v4 0 hf _ _ _ hw (lv_sub hl [1, 2, 0] rfl)
      · refine lv_aload_n C.1 C.2.1 dX13_build0_137 rfl (lv_at hl 0 rfl) ?_
        refine sh_getr C hw fl_X13_7 tbM_0 rfl dX13_build0_138 ?_
        refine lv_iconst (v := 0) C.1 C.2.1 dX13_build0_141 (by decide) ?_
        refine lv_iconst (v := 1) C.1 C.2.1 dX13_build0_142 (by decide) ?_
        refine sh_iast C hw hf tbM_1 dX13_build0_143 (fun S40 H locs hw hf => ?_)
        refine lv_aload_n C.1 C.2.1 dX13_build0_144 rfl (lv_at hl 0 rfl) ?_
        refine sh_getr C hw fl_X13_7 tbM_0 rfl dX13_build0_145 ?_
        refine lv_sipush (v := 1080) C.1 C.2.1 dX13_build0_148 (by decide) ?_
        refine lv_iconst (v := 0) C.1 C.2.1 dX13_build0_151 (by decide) ?_
        refine sh_iast C hw hf tbM_1 dX13_build0_152 (fun S41 H locs hw hf => ?_)
        refine lv_aload_n C.1 C.2.1 dX13_build0_153 rfl (lv_at hl 0 rfl) ?_
        refine lv_iconst (v := 0) C.1 C.2.1 dX13_build0_154 (by decide) ?_
        refine lv_iconst (v := 0) C.1 C.2.1 dX13_build0_155 (by decide) ?_
        refine lv_aload_n C.1 C.2.1 dX13_build0_156 rfl (lv_at hl 0 rfl) ?_
        refine sh_geti C hw fl_X13_188 tbM_0 rfl dX13_build0_157 ?_
        refine sh_Vv (As := [.int 0, .int 0, .int (S41.1 0 36)]) (rest := []) C hw (kX13_fills l 0 0 (S41.1 0 36)) yy_X13_fills yv_X13_fills ml_X13_214 hf tbM_0 rfl rfl rfl rfl (Nat.le_of_ble_eq_true rfl) (by decide) hl.1 dX13_build0_160 (fun S42 H locs hw hf => ?_)
        refine lv_iconst (v := 0) C.1 C.2.1 dX13_build0_163 (by decide) ?_
        exact sh_ri C hw hr hf dX13_build0_164
    · refine lv_aload_n C.1 C.2.1 dX13_build0_87 rfl (lv_at hl 0 rfl) ?_
      refine sh_getr C hw fl_X13_7 tbM_0 rfl dX13_build0_88 ?_
      refine lv_iconst (v := 0) C.1 C.2.1 dX13_build0_91 (by decide) ?_
      refine lv_iload C.1 C.2.1 dX13_build0_92 (lv_at hl 2 rfl) ?_
      refine lv_iadd C.1 C.2.1 dX13_build0_94 ?_
      refine lv_iconst (v := 0) C.1 C.2.1 dX13_build0_95 (by decide) ?_
      refine sh_iast C hw hf tbM_1 dX13_build0_96 (fun S44 H locs hw hf => ?_)
      refine lv_aload_n C.1 C.2.1 dX13_build0_97 rfl (lv_at hl 0 rfl) ?_
      refine sh_getr C hw fl_X13_7 tbM_0 rfl dX13_build0_98 ?_
      refine lv_bipush (v := 40) C.1 C.2.1 dX13_build0_101 (by decide) ?_
      refine lv_iload C.1 C.2.1 dX13_build0_103 (lv_at hl 2 rfl) ?_
      refine lv_iadd C.1 C.2.1 dX13_build0_105 ?_
      refine lv_iconst (v := 0) C.1 C.2.1 dX13_build0_106 (by decide) ?_
      refine sh_iast C hw hf tbM_1 dX13_build0_107 (fun S45 H locs hw hf => ?_)
      refine lv_aload_n C.1 C.2.1 dX13_build0_108 rfl (lv_at hl 0 rfl) ?_
      refine sh_getr C hw fl_X13_7 tbM_0 rfl dX13_build0_109 ?_
      refine lv_bipush (v := 80) C.1 C.2.1 dX13_build0_112 (by decide) ?_
      refine lv_iload C.1 C.2.1 dX13_build0_114 (lv_at hl 2 rfl) ?_
      refine lv_iadd C.1 C.2.1 dX13_build0_116 ?_
      refine lv_iconst (v := 0) C.1 C.2.1 dX13_build0_117 (by decide) ?_
      refine sh_iast C hw hf tbM_1 dX13_build0_118 (fun S46 H locs hw hf => ?_)
      refine lv_aload_n C.1 C.2.1 dX13_build0_119 rfl (lv_at hl 0 rfl) ?_
      refine lv_iload C.1 C.2.1 dX13_build0_120 (lv_at hl 2 rfl) ?_
      refine sh_Vv (As := [.int v5]) (rest := []) C hw (kX13_empties l v5) yy_X13_empties yv_X13_empties ml_X13_191 hf tbM_0 rfl rfl rfl rfl (Nat.le_of_ble_eq_true rfl) (by decide) hl.1 dX13_build0_122 (fun S47 H locs hw hf => ?_)
      obtain ⟨y49, ey49, hf⟩ := sh_nm hf
      refine lv_iinc (v := y49) (lv' := [(5, .int y49), (0, .ref (G.2.1 0)), (4, .int v4)]) C.1 C.2.1 dX13_build0_125 hl (k := 2) rfl (by rw [← ey49]; rfl) (by decide) rfl (fun ls hl => ?_)
      refine lv_goto (tgt := 80) C.1 C.2.1 dX13_build0_128 (by decide) ?_
      exact hr80 S47 v4 y49 hf _ _ _ hw (lv_sub hl [1, 2, 0] rfl)
def fX13_build0_50 (S : sh_St) (v1 : Int32) (v2 : Int32) (v3 : Int32) (v4 : Int32) : Option (Int32 × sh_St) :=
    sh_g 1081 1084 (sh_t (sh_I S 1 (1081 : Int32).toNatClampNeg v1) fun S5 =>
    sh_g 1082 1084 (sh_t (sh_I S5 1 (1082 : Int32).toNatClampNeg v2) fun S6 =>
    sh_g 1083 1084 (sh_t (sh_I S6 1 (1083 : Int32).toNatClampNeg v3) fun S7 =>
    fX13_build0_80 sh_FU S7 v4 0)))
set_option maxRecDepth 100000 in
set_option maxHeartbeats 4000000 in
theorem wX13_build0_50 {p : Program} {l : Launch} {e : Env} {s : State} {m : MethodId} {args : Array Value} {below : List Frame} {meth : Method} {c : Code} {G : sh_Ev} {A : Nat → Prop} {res : Int32 × sh_St} (C : sh_Cx p s m args meth c cX13_build0 7 RX13 G A) (hr : meth.sig.returnType = some .int) : ∀ (S : sh_St) (v1 : Int32) (v2 : Int32) (v3 : Int32) (v4 : Int32), fX13_build0_50 S v1 v2 v3 v4 = some res → ∀ (H : Heap) (locs : List Loc) (ls : Array Slot), sh_Wx G tbM A s H locs S → lv_has ls 7 [(0, .ref (G.2.1 0)), (1, .int v1), (2, .int v2), (3, .int v3), (4, .int v4)] → W p l e (sh_rm 5) s m args below meth c H locs 0 0 (sh_Qi below args s G tbM A res) (F0 m 50 ls []) := by
  intro S v1 v2 v3 v4 hf H locs ls hw hl
  rw [fX13_build0_50] at hf
  refine lv_aload_n C.1 C.2.1 dX13_build0_50 rfl (lv_at hl 0 rfl) ?_
  refine sh_getr C hw fl_X13_7 tbM_0 rfl dX13_build0_51 ?_
  refine lv_sipush (v := 1081) C.1 C.2.1 dX13_build0_54 (by decide) ?_
  refine lv_iload_n C.1 C.2.1 dX13_build0_57 rfl (lv_at hl 1 rfl) ?_
  refine sh_iast C hw hf tbM_1 dX13_build0_58 (fun S5 H locs hw hf => ?_)
  refine lv_aload_n C.1 C.2.1 dX13_build0_59 rfl (lv_at hl 0 rfl) ?_
  refine sh_getr C hw fl_X13_7 tbM_0 rfl dX13_build0_60 ?_
  refine lv_sipush (v := 1082) C.1 C.2.1 dX13_build0_63 (by decide) ?_
  refine lv_iload_n C.1 C.2.1 dX13_build0_66 rfl (lv_at hl 2 rfl) ?_
  refine sh_iast C hw hf tbM_1 dX13_build0_67 (fun S6 H locs hw hf => ?_)
  refine lv_aload_n C.1 C.2.1 dX13_build0_68 rfl (lv_at hl 0 rfl) ?_
  refine sh_getr C hw fl_X13_7 tbM_0 rfl dX13_build0_69 ?_
  refine lv_sipush (v := 1083) C.1 C.2.1 dX13_build0_72 (by decide) ?_
  refine lv_iload_n C.1 C.2.1 dX13_build0_75 rfl (lv_at hl 3 rfl) ?_
  refine sh_iast C hw hf tbM_1 dX13_build0_76 (fun S7 H locs hw hf => ?_)
  refine lv_iconst (v := 0) C.1 C.2.1 dX13_build0_77 (by decide) ?_
  refine lv_istore (lv' := [(5, .int 0), (0, .ref (G.2.1 0)), (1, .int v1), (2, .int v2), (3, .int v3), (4, .int v4)]) C.1 C.2.1 dX13_build0_78 hl (by decide) rfl (fun ls hl => ?_)
  exact wX13_build0_80 C hr _ S7 v4 0 hf _ _ _ hw (lv_sub hl [1, 5, 0] rfl)
def fX13_build0 (S : sh_St) (v1 : Int32) (v2 : Int32) (v3 : Int32) : Option (Int32 × sh_St) :=
    sh_c (fX13_sortsAll S v1 v2 v3) fun _ S1 =>
    sh_c (fX13_leavesFor S1 (S1.1 0 36)) fun r4 S3 =>
    if r4 ≤ 20 then (if v3 = 1 then (sh_g 1083 1084 (if (S3.1 1 (1083 : Int32).toNatClampNeg) = 0 then (sh_c (fX13_areTwoOne S3 ) fun r51 S50 =>
    if r51 = 0 then (fX13_build0_50 S50 v1 v2 v3 r4)
    else (some (1, S50)))
    else (fX13_build0_50 S3 v1 v2 v3 r4)))
    else (fX13_build0_50 S3 v1 v2 v3 r4))
    else (some (3, S3))
set_option maxRecDepth 100000 in
set_option maxHeartbeats 4000000 in
theorem kX13_build0 (l : Launch) (v1 : Int32) (v2 : Int32) (v3 : Int32) : sh_Mi l yX13_build0 cX13_build0 7 .int 5 tbM (fun G => [.ref (G.2.1 0), .int v1, .int v2, .int v3]) (fun S => fX13_build0 S v1 v2 v3) := by
  refine sh_mki (by decide) (fun G => Nat.le_of_ble_eq_true rfl) ?_
  intro p e s m args below meth c G A S res ls hf C hr hw hl
  have C : sh_Cx p s m args meth c cX13_build0 7 RX13 G A := C
  have hl : lv_has ls 7 [(0, .ref (G.2.1 0)), (1, .int v1), (2, .int v2), (3, .int v3)] := hl
  replace hf : fX13_build0 S v1 v2 v3 = some res := hf
  rw [fX13_build0] at hf
  refine lv_aload_n C.1 C.2.1 dX13_build0_0 rfl (lv_at hl 0 rfl) ?_
  refine lv_iload_n C.1 C.2.1 dX13_build0_1 rfl (lv_at hl 1 rfl) ?_
  refine lv_iload_n C.1 C.2.1 dX13_build0_2 rfl (lv_at hl 2 rfl) ?_
  refine lv_iload_n C.1 C.2.1 dX13_build0_3 rfl (lv_at hl 3 rfl) ?_
  refine sh_Vv (As := [.int v1, .int v2, .int v3]) (rest := []) C hw (kX13_sortsAll l v1 v2 v3) yy_X13_sortsAll yv_X13_sortsAll ml_X13_233 hf tbM_0 rfl rfl rfl rfl (Nat.le_of_ble_eq_true rfl) (by decide) hl.1 dX13_build0_4 (fun S1 H locs hw hf => ?_)
  refine lv_aload_n C.1 C.2.1 dX13_build0_7 rfl (lv_at hl 0 rfl) ?_
  refine sh_geti C hw fl_X13_188 tbM_0 rfl dX13_build0_8 ?_
  refine sh_Si (As := [.int (S1.1 0 36)]) (rest := []) C hw (kX13_leavesFor l (S1.1 0 36)) yy_X13_leavesFor ys_X13_leavesFor ml_X13_236 rfl hf rfl rfl rfl (Nat.le_of_ble_eq_true rfl) (by decide) hl.1 dX13_build0_11 (fun r4 S3 H locs hw hf => ?_)
  refine lv_istore (lv' := [(4, .int r4), (0, .ref (G.2.1 0)), (1, .int v1), (2, .int v2), (3, .int v3)]) C.1 C.2.1 dX13_build0_14 hl (by decide) rfl (fun ls hl => ?_)
  refine lv_iload C.1 C.2.1 dX13_build0_16 (lv_at hl 0 rfl) ?_
  refine lv_bipush (v := 20) C.1 C.2.1 dX13_build0_18 (by decide) ?_
  refine sh_icmp_le (tgt := 25) C hf dX13_build0_20 (by decide) (fun hf => ?_) (fun hf => ?_)
  · refine lv_iload_n C.1 C.2.1 dX13_build0_25 rfl (lv_at hl 4 rfl) ?_
    refine lv_iconst (v := 1) C.1 C.2.1 dX13_build0_26 (by decide) ?_
    refine sh_icmp_ne (tgt := 50) C hf dX13_build0_27 (by decide) (fun hf => ?_) (fun hf => ?_)
    · exact wX13_build0_50 C hr S3 v1 v2 v3 r4 hf _ _ _ hw (lv_sub hl [1, 2, 3, 4, 0] rfl)
    · refine lv_aload_n C.1 C.2.1 dX13_build0_30 rfl (lv_at hl 1 rfl) ?_
      refine sh_getr C hw fl_X13_7 tbM_0 rfl dX13_build0_31 ?_
      refine lv_sipush (v := 1083) C.1 C.2.1 dX13_build0_34 (by decide) ?_
      refine sh_iald C hw hf tbM_1 dX13_build0_37 (fun hf => ?_)
      refine sh_if_ne (tgt := 50) C hf dX13_build0_38 (by decide) (fun hf => ?_) (fun hf => ?_)
      · exact wX13_build0_50 C hr S3 v1 v2 v3 r4 hf _ _ _ hw (lv_sub hl [1, 2, 3, 4, 0] rfl)
      · refine lv_aload_n C.1 C.2.1 dX13_build0_41 rfl (lv_at hl 1 rfl) ?_
        refine sh_Vi (As := []) (rest := []) C hw (kX13_areTwoOne l ) yy_X13_areTwoOne yv_X13_areTwoOne ml_X13_239 hf tbM_0 rfl rfl rfl rfl (Nat.le_of_ble_eq_true rfl) (by decide) hl.1 dX13_build0_42 (fun r51 S50 H locs hw hf => ?_)
        refine sh_if_eq (tgt := 50) C hf dX13_build0_45 (by decide) (fun hf => ?_) (fun hf => ?_)
        · exact wX13_build0_50 C hr S50 v1 v2 v3 r4 hf _ _ _ hw (lv_sub hl [1, 2, 3, 4, 0] rfl)
        · refine lv_iconst (v := 1) C.1 C.2.1 dX13_build0_48 (by decide) ?_
          exact sh_ri C hw hr hf dX13_build0_49
  · refine lv_iconst (v := 3) C.1 C.2.1 dX13_build0_23 (by decide) ?_
    exact sh_ri C hw hr hf dX13_build0_24
def fX13_tune0_58 : Nat → sh_St → Int32 → Int32 → Option (Int32 × sh_St)
  | 0, _, _, _ => none
  | n + 1, S, v3, v4 =>
    if 4 ≤ v4 then (some (v3, S))
    else (if v3 = 0 then (sh_g v4 4 (sh_b 0 (sh_t (sh_I S 9 v4.toNatClampNeg 0) fun S3 =>
    sh_t (v4 + 1) fun y4 =>
    (fX13_tune0_58 n) S3 v3 y4)))
    else (some (v3, S)))
set_option maxRecDepth 100000 in
set_option maxHeartbeats 4000000 in
theorem wX13_tune0_58 {p : Program} {l : Launch} {e : Env} {s : State} {m : MethodId} {args : Array Value} {below : List Frame} {meth : Method} {c : Code} {G : sh_Ev} {A : Nat → Prop} {res : Int32 × sh_St} (C : sh_Cx p s m args meth c cX13_tune0 5 RX13 G A) (hr : meth.sig.returnType = some .int) : ∀ (n : Nat) (S : sh_St) (v3 : Int32) (v4 : Int32), fX13_tune0_58 n S v3 v4 = some res → ∀ (H : Heap) (locs : List Loc) (ls : Array Slot), sh_Wx G tbM A s H locs S → lv_has ls 5 [(0, .ref (G.2.1 0)), (3, .int v3), (4, .int v4)] → W p l e (sh_rm 6) s m args below meth c H locs 0 0 (sh_Qi below args s G tbM A res) (F0 m 58 ls []) := by
  intro n
  induction n with
  | zero => intro S v3 v4 hf; exact nomatch (show (none : Option (Int32 × sh_St)) = some res from hf)
  | succ n ih =>
    intro S v3 v4 hf H locs ls hw hl
    have hr58 := ih
    rw [fX13_tune0_58] at hf
    refine lv_iload C.1 C.2.1 dX13_tune0_58 (lv_at hl 2 rfl) ?_
    refine lv_iconst (v := 4) C.1 C.2.1 dX13_tune0_60 (by decide) ?_
    refine sh_icmp_ge (tgt := 82) C hf dX13_tune0_61 (by decide) (fun hf => ?_) (fun hf => ?_)
    · refine lv_iload_n C.1 C.2.1 dX13_tune0_82 rfl (lv_at hl 1 rfl) ?_
      exact sh_ri C hw hr hf dX13_tune0_83
    · refine lv_iload_n C.1 C.2.1 dX13_tune0_64 rfl (lv_at hl 1 rfl) ?_
      refine sh_if_ne (tgt := 82) C hf dX13_tune0_65 (by decide) (fun hf => ?_) (fun hf => ?_)
      · refine lv_iload_n C.1 C.2.1 dX13_tune0_82 rfl (lv_at hl 1 rfl) ?_
        exact sh_ri C hw hr hf dX13_tune0_83
      · refine lv_aload_n C.1 C.2.1 dX13_tune0_68 rfl (lv_at hl 0 rfl) ?_
        refine sh_getr C hw fl_X13_35 tbM_0 rfl dX13_tune0_69 ?_
        refine lv_iload C.1 C.2.1 dX13_tune0_72 (lv_at hl 2 rfl) ?_
        refine lv_iconst (v := 0) C.1 C.2.1 dX13_tune0_74 (by decide) ?_
        refine sh_zast C hw hf tbM_9 dX13_tune0_75 (fun S3 H locs hw hf => ?_)
        obtain ⟨y4, ey4, hf⟩ := sh_nm hf
        refine lv_iinc (v := y4) (lv' := [(4, .int y4), (0, .ref (G.2.1 0)), (3, .int v3)]) C.1 C.2.1 dX13_tune0_76 hl (k := 2) rfl (by rw [← ey4]; rfl) (by decide) rfl (fun ls hl => ?_)
        refine lv_goto (tgt := 58) C.1 C.2.1 dX13_tune0_79 (by decide) ?_
        exact hr58 S3 v3 y4 hf _ _ _ hw (lv_sub hl [1, 2, 0] rfl)
def fX13_tune0_51 (S : sh_St) (t0 : Int32) (t1 : Int32) (t2 : Int32) : Option (Int32 × sh_St) :=
    sh_c (fX13_build0 S t2 t1 t0) fun r2 S1 =>
    fX13_tune0_58 sh_FU S1 r2 0
set_option maxRecDepth 100000 in
set_option maxHeartbeats 4000000 in
theorem wX13_tune0_51 {p : Program} {l : Launch} {e : Env} {s : State} {m : MethodId} {args : Array Value} {below : List Frame} {meth : Method} {c : Code} {G : sh_Ev} {A : Nat → Prop} {res : Int32 × sh_St} (C : sh_Cx p s m args meth c cX13_tune0 5 RX13 G A) (hr : meth.sig.returnType = some .int) : ∀ (S : sh_St) (t0 : Int32) (t1 : Int32) (t2 : Int32), fX13_tune0_51 S t0 t1 t2 = some res → ∀ (H : Heap) (locs : List Loc) (ls : Array Slot), sh_Wx G tbM A s H locs S → lv_has ls 5 [(0, .ref (G.2.1 0))] → W p l e (sh_rm 6) s m args below meth c H locs 0 0 (sh_Qi below args s G tbM A res) (F0 m 51 ls [.int t0, .int t1, .int t2, .ref (G.2.1 0)]) := by
  intro S t0 t1 t2 hf H locs ls hw hl
  rw [fX13_tune0_51] at hf
  refine sh_Vi (As := [.int t2, .int t1, .int t0]) (rest := []) C hw (kX13_build0 l t2 t1 t0) yy_X13_build0 yv_X13_build0 ml_X13_248 hf tbM_0 rfl rfl rfl rfl (Nat.le_of_ble_eq_true rfl) (by decide) hl.1 dX13_tune0_51 (fun r2 S1 H locs hw hf => ?_)
  refine lv_istore_n (lv' := [(3, .int r2), (0, .ref (G.2.1 0))]) C.1 C.2.1 dX13_tune0_54 rfl hl (by decide) rfl (fun ls hl => ?_)
  refine lv_iconst (v := 0) C.1 C.2.1 dX13_tune0_55 (by decide) ?_
  refine lv_istore (lv' := [(4, .int 0), (3, .int r2), (0, .ref (G.2.1 0))]) C.1 C.2.1 dX13_tune0_56 hl (by decide) rfl (fun ls hl => ?_)
  exact wX13_tune0_58 C hr _ S1 r2 0 hf _ _ _ hw (lv_sub hl [2, 1, 0] rfl)
def fX13_tune0_34 (S : sh_St) (v1 : Int32) (v2 : Int32) (t0 : Int32) (t1 : Int32) : Option (Int32 × sh_St) :=
    if v1 = 2 then (fX13_tune0_51 S v2 t0 t1)
    else (sh_g 1083 1084 (fX13_tune0_51 S (S.1 1 (1083 : Int32).toNatClampNeg) t0 t1))
set_option maxRecDepth 100000 in
set_option maxHeartbeats 4000000 in
theorem wX13_tune0_34 {p : Program} {l : Launch} {e : Env} {s : State} {m : MethodId} {args : Array Value} {below : List Frame} {meth : Method} {c : Code} {G : sh_Ev} {A : Nat → Prop} {res : Int32 × sh_St} (C : sh_Cx p s m args meth c cX13_tune0 5 RX13 G A) (hr : meth.sig.returnType = some .int) : ∀ (S : sh_St) (v1 : Int32) (v2 : Int32) (t0 : Int32) (t1 : Int32), fX13_tune0_34 S v1 v2 t0 t1 = some res → ∀ (H : Heap) (locs : List Loc) (ls : Array Slot), sh_Wx G tbM A s H locs S → lv_has ls 5 [(0, .ref (G.2.1 0)), (1, .int v1), (2, .int v2)] → W p l e (sh_rm 6) s m args below meth c H locs 0 0 (sh_Qi below args s G tbM A res) (F0 m 34 ls [.int t0, .int t1, .ref (G.2.1 0)]) := by
  intro S v1 v2 t0 t1 hf H locs ls hw hl
  rw [fX13_tune0_34] at hf
  refine lv_iload_n C.1 C.2.1 dX13_tune0_34 rfl (lv_at hl 1 rfl) ?_
  refine lv_iconst (v := 2) C.1 C.2.1 dX13_tune0_35 (by decide) ?_
  refine sh_icmp_ne (tgt := 43) C hf dX13_tune0_36 (by decide) (fun hf => ?_) (fun hf => ?_)
  · refine lv_aload_n C.1 C.2.1 dX13_tune0_43 rfl (lv_at hl 0 rfl) ?_
    refine sh_getr C hw fl_X13_7 tbM_0 rfl dX13_tune0_44 ?_
    refine lv_sipush (v := 1083) C.1 C.2.1 dX13_tune0_47 (by decide) ?_
    refine sh_iald C hw hf tbM_1 dX13_tune0_50 (fun hf => ?_)
    exact wX13_tune0_51 C hr S (S.1 1 (1083 : Int32).toNatClampNeg) t0 t1 hf _ _ _ hw (lv_sub hl [0] rfl)
  · refine lv_iload_n C.1 C.2.1 dX13_tune0_39 rfl (lv_at hl 2 rfl) ?_
    refine lv_goto (tgt := 51) C.1 C.2.1 dX13_tune0_40 (by decide) ?_
    exact wX13_tune0_51 C hr S v2 t0 t1 hf _ _ _ hw (lv_sub hl [0] rfl)
def fX13_tune0_17 (S : sh_St) (v1 : Int32) (v2 : Int32) (t0 : Int32) : Option (Int32 × sh_St) :=
    if v1 = 1 then (fX13_tune0_34 S v1 v2 v2 t0)
    else (sh_g 1082 1084 (fX13_tune0_34 S v1 v2 (S.1 1 (1082 : Int32).toNatClampNeg) t0))
set_option maxRecDepth 100000 in
set_option maxHeartbeats 4000000 in
theorem wX13_tune0_17 {p : Program} {l : Launch} {e : Env} {s : State} {m : MethodId} {args : Array Value} {below : List Frame} {meth : Method} {c : Code} {G : sh_Ev} {A : Nat → Prop} {res : Int32 × sh_St} (C : sh_Cx p s m args meth c cX13_tune0 5 RX13 G A) (hr : meth.sig.returnType = some .int) : ∀ (S : sh_St) (v1 : Int32) (v2 : Int32) (t0 : Int32), fX13_tune0_17 S v1 v2 t0 = some res → ∀ (H : Heap) (locs : List Loc) (ls : Array Slot), sh_Wx G tbM A s H locs S → lv_has ls 5 [(0, .ref (G.2.1 0)), (1, .int v1), (2, .int v2)] → W p l e (sh_rm 6) s m args below meth c H locs 0 0 (sh_Qi below args s G tbM A res) (F0 m 17 ls [.int t0, .ref (G.2.1 0)]) := by
  intro S v1 v2 t0 hf H locs ls hw hl
  rw [fX13_tune0_17] at hf
  refine lv_iload_n C.1 C.2.1 dX13_tune0_17 rfl (lv_at hl 1 rfl) ?_
  refine lv_iconst (v := 1) C.1 C.2.1 dX13_tune0_18 (by decide) ?_
  refine sh_icmp_ne (tgt := 26) C hf dX13_tune0_19 (by decide) (fun hf => ?_) (fun hf => ?_)
  · refine lv_aload_n C.1 C.2.1 dX13_tune0_26 rfl (lv_at hl 0 rfl) ?_
    refine sh_getr C hw fl_X13_7 tbM_0 rfl dX13_tune0_27 ?_
    refine lv_sipush (v := 1082) C.1 C.2.1 dX13_tune0_30 (by decide) ?_
    refine sh_iald C hw hf tbM_1 dX13_tune0_33 (fun hf => ?_)
    exact wX13_tune0_34 C hr S v1 v2 (S.1 1 (1082 : Int32).toNatClampNeg) t0 hf _ _ _ hw (lv_sub hl [0, 1, 2] rfl)
  · refine lv_iload_n C.1 C.2.1 dX13_tune0_22 rfl (lv_at hl 2 rfl) ?_
    refine lv_goto (tgt := 34) C.1 C.2.1 dX13_tune0_23 (by decide) ?_
    exact wX13_tune0_34 C hr S v1 v2 v2 t0 hf _ _ _ hw (lv_sub hl [0, 1, 2] rfl)
def fX13_tune0 (S : sh_St) (v1 : Int32) (v2 : Int32) : Option (Int32 × sh_St) :=
    if v1 = 0 then (fX13_tune0_17 S v1 v2 v2)
    else (sh_g 1081 1084 (fX13_tune0_17 S v1 v2 (S.1 1 (1081 : Int32).toNatClampNeg)))
set_option maxRecDepth 100000 in
set_option maxHeartbeats 4000000 in
theorem kX13_tune0 (l : Launch) (v1 : Int32) (v2 : Int32) : sh_Mi l yX13_tune0 cX13_tune0 5 .int 6 tbM (fun G => [.ref (G.2.1 0), .int v1, .int v2]) (fun S => fX13_tune0 S v1 v2) := by
  refine sh_mki (by decide) (fun G => Nat.le_of_ble_eq_true rfl) ?_
  intro p e s m args below meth c G A S res ls hf C hr hw hl
  have C : sh_Cx p s m args meth c cX13_tune0 5 RX13 G A := C
  have hl : lv_has ls 5 [(0, .ref (G.2.1 0)), (1, .int v1), (2, .int v2)] := hl
  replace hf : fX13_tune0 S v1 v2 = some res := hf
  rw [fX13_tune0] at hf
  refine lv_aload_n C.1 C.2.1 dX13_tune0_0 rfl (lv_at hl 0 rfl) ?_
  refine lv_iload_n C.1 C.2.1 dX13_tune0_1 rfl (lv_at hl 1 rfl) ?_
  refine sh_if_ne (tgt := 9) C hf dX13_tune0_2 (by decide) (fun hf => ?_) (fun hf => ?_)
  · refine lv_aload_n C.1 C.2.1 dX13_tune0_9 rfl (lv_at hl 0 rfl) ?_
    refine sh_getr C hw fl_X13_7 tbM_0 rfl dX13_tune0_10 ?_
    refine lv_sipush (v := 1081) C.1 C.2.1 dX13_tune0_13 (by decide) ?_
    refine sh_iald C hw hf tbM_1 dX13_tune0_16 (fun hf => ?_)
    exact wX13_tune0_17 C hr S v1 v2 (S.1 1 (1081 : Int32).toNatClampNeg) hf _ _ _ hw (lv_sub hl [0, 1, 2] rfl)
  · refine lv_iload_n C.1 C.2.1 dX13_tune0_5 rfl (lv_at hl 2 rfl) ?_
    refine lv_goto (tgt := 17) C.1 C.2.1 dX13_tune0_6 (by decide) ?_
    exact wX13_tune0_17 C hr S v1 v2 v2 hf _ _ _ hw (lv_sub hl [0, 1, 2] rfl)
def fX13_tear0 (S : sh_St) (v1 : Int32) : Option (Int32 × sh_St) :=
    sh_g (0 + v1) 1084 (if (S.1 1 (0 + v1).toNatClampNeg) = 2 then (sh_g (40 + v1) 1084 (sh_t (sh_I S 1 (40 + v1).toNatClampNeg 1) fun S1 =>
    some (0, S1)))
    else (some (5, S)))
set_option maxRecDepth 100000 in
set_option maxHeartbeats 4000000 in
theorem kX13_tear0 (l : Launch) (v1 : Int32) : sh_Mi l yX13_tear0 cX13_tear0 2 .int 1 tbM (fun G => [.ref (G.2.1 0), .int v1]) (fun S => fX13_tear0 S v1) := by
  refine sh_mki (by decide) (fun G => Nat.le_of_ble_eq_true rfl) ?_
  intro p e s m args below meth c G A S res ls hf C hr hw hl
  have C : sh_Cx p s m args meth c cX13_tear0 2 RX13 G A := C
  have hl : lv_has ls 2 [(0, .ref (G.2.1 0)), (1, .int v1)] := hl
  replace hf : fX13_tear0 S v1 = some res := hf
  rw [fX13_tear0] at hf
  refine lv_aload_n C.1 C.2.1 dX13_tear0_0 rfl (lv_at hl 0 rfl) ?_
  refine sh_getr C hw fl_X13_7 tbM_0 rfl dX13_tear0_1 ?_
  refine lv_iconst (v := 0) C.1 C.2.1 dX13_tear0_4 (by decide) ?_
  refine lv_iload_n C.1 C.2.1 dX13_tear0_5 rfl (lv_at hl 1 rfl) ?_
  refine lv_iadd C.1 C.2.1 dX13_tear0_6 ?_
  refine sh_iald C hw hf tbM_1 dX13_tear0_7 (fun hf => ?_)
  refine lv_iconst (v := 2) C.1 C.2.1 dX13_tear0_8 (by decide) ?_
  refine sh_icmp_eq (tgt := 14) C hf dX13_tear0_9 (by decide) (fun hf => ?_) (fun hf => ?_)
  · refine lv_aload_n C.1 C.2.1 dX13_tear0_14 rfl (lv_at hl 0 rfl) ?_
    refine sh_getr C hw fl_X13_7 tbM_0 rfl dX13_tear0_15 ?_
    refine lv_bipush (v := 40) C.1 C.2.1 dX13_tear0_18 (by decide) ?_
    refine lv_iload_n C.1 C.2.1 dX13_tear0_20 rfl (lv_at hl 1 rfl) ?_
    refine lv_iadd C.1 C.2.1 dX13_tear0_21 ?_
    refine lv_iconst (v := 1) C.1 C.2.1 dX13_tear0_22 (by decide) ?_
    refine sh_iast C hw hf tbM_1 dX13_tear0_23 (fun S1 H locs hw hf => ?_)
    refine lv_iconst (v := 0) C.1 C.2.1 dX13_tear0_24 (by decide) ?_
    exact sh_ri C hw hr hf dX13_tear0_25
  · refine lv_iconst (v := 5) C.1 C.2.1 dX13_tear0_12 (by decide) ?_
    exact sh_ri C hw hr hf dX13_tear0_13
def fX13_putsAside_29 : Nat → sh_St → Int32 → Option (Unit × sh_St)
  | 0, _, _ => none
  | n + 1, S, v1 =>
    if 240 ≤ v1 then (some ((), S))
    else (sh_g v1 240 (sh_g v1 240 (sh_t (sh_L S 6 v1.toNatClampNeg (S.2 2 v1.toNatClampNeg)) fun S1 =>
    sh_t (v1 + 1) fun y2 =>
    (fX13_putsAside_29 n) S1 y2)))
set_option maxRecDepth 100000 in
set_option maxHeartbeats 4000000 in
theorem wX13_putsAside_29 {p : Program} {l : Launch} {e : Env} {s : State} {m : MethodId} {args : Array Value} {below : List Frame} {meth : Method} {c : Code} {G : sh_Ev} {A : Nat → Prop} {res : Unit × sh_St} (C : sh_Cx p s m args meth c cX13_putsAside 2 RX13 G A) (hr : meth.sig.returnType = none) : ∀ (n : Nat) (S : sh_St) (v1 : Int32), fX13_putsAside_29 n S v1 = some res → ∀ (H : Heap) (locs : List Loc) (ls : Array Slot), sh_Wx G tbM A s H locs S → lv_has ls 2 [(0, .ref (G.2.1 0)), (1, .int v1)] → W p l e (sh_rm 1) s m args below meth c H locs 0 0 (sh_Qv below args s G tbM A res) (F0 m 29 ls []) := by
  intro n
  induction n with
  | zero => intro S v1 hf; exact nomatch (show (none : Option (Unit × sh_St)) = some res from hf)
  | succ n ih =>
    intro S v1 hf H locs ls hw hl
    have hr29 := ih
    rw [fX13_putsAside_29] at hf
    refine lv_iload_n C.1 C.2.1 dX13_putsAside_29 rfl (lv_at hl 1 rfl) ?_
    refine lv_sipush (v := 240) C.1 C.2.1 dX13_putsAside_30 (by decide) ?_
    refine sh_icmp_ge (tgt := 54) C hf dX13_putsAside_33 (by decide) (fun hf => ?_) (fun hf => ?_)
    · exact sh_rv C hw hr hf dX13_putsAside_54
    · refine lv_aload_n C.1 C.2.1 dX13_putsAside_36 rfl (lv_at hl 0 rfl) ?_
      refine sh_getr C hw fl_X13_26 tbM_0 rfl dX13_putsAside_37 ?_
      refine lv_iload_n C.1 C.2.1 dX13_putsAside_40 rfl (lv_at hl 1 rfl) ?_
      refine lv_aload_n C.1 C.2.1 dX13_putsAside_41 rfl (lv_at hl 0 rfl) ?_
      refine sh_getr C hw fl_X13_13 tbM_0 rfl dX13_putsAside_42 ?_
      refine lv_iload_n C.1 C.2.1 dX13_putsAside_45 rfl (lv_at hl 1 rfl) ?_
      refine sh_lald C hw hf tbM_2 dX13_putsAside_46 (fun hf => ?_)
      refine sh_last C hw hf tbM_6 dX13_putsAside_47 (fun S1 H locs hw hf => ?_)
      obtain ⟨y2, ey2, hf⟩ := sh_nm hf
      refine lv_iinc (v := y2) (lv' := [(1, .int y2), (0, .ref (G.2.1 0))]) C.1 C.2.1 dX13_putsAside_48 hl (k := 1) rfl (by rw [← ey2]; rfl) (by decide) rfl (fun ls hl => ?_)
      refine lv_goto (tgt := 29) C.1 C.2.1 dX13_putsAside_51 (by decide) ?_
      exact hr29 S1 y2 hf _ _ _ hw (lv_sub hl [1, 0] rfl)
def fX13_putsAside_2 : Nat → sh_St → Int32 → Option (Unit × sh_St)
  | 0, _, _ => none
  | n + 1, S, v1 =>
    if 1084 ≤ v1 then (fX13_putsAside_29 sh_FU S 0)
    else (sh_g v1 1084 (sh_g v1 1084 (sh_t (sh_I S 5 v1.toNatClampNeg (S.1 1 v1.toNatClampNeg)) fun S3 =>
    sh_t (v1 + 1) fun y4 =>
    (fX13_putsAside_2 n) S3 y4)))
set_option maxRecDepth 100000 in
set_option maxHeartbeats 4000000 in
theorem wX13_putsAside_2 {p : Program} {l : Launch} {e : Env} {s : State} {m : MethodId} {args : Array Value} {below : List Frame} {meth : Method} {c : Code} {G : sh_Ev} {A : Nat → Prop} {res : Unit × sh_St} (C : sh_Cx p s m args meth c cX13_putsAside 2 RX13 G A) (hr : meth.sig.returnType = none) : ∀ (n : Nat) (S : sh_St) (v1 : Int32), fX13_putsAside_2 n S v1 = some res → ∀ (H : Heap) (locs : List Loc) (ls : Array Slot), sh_Wx G tbM A s H locs S → lv_has ls 2 [(0, .ref (G.2.1 0)), (1, .int v1)] → W p l e (sh_rm 1) s m args below meth c H locs 0 0 (sh_Qv below args s G tbM A res) (F0 m 2 ls []) := by
  intro n
  induction n with
  | zero => intro S v1 hf; exact nomatch (show (none : Option (Unit × sh_St)) = some res from hf)
  | succ n ih =>
    intro S v1 hf H locs ls hw hl
    have hr2 := ih
    rw [fX13_putsAside_2] at hf
    refine lv_iload_n C.1 C.2.1 dX13_putsAside_2 rfl (lv_at hl 1 rfl) ?_
    refine lv_sipush (v := 1084) C.1 C.2.1 dX13_putsAside_3 (by decide) ?_
    refine sh_icmp_ge (tgt := 27) C hf dX13_putsAside_6 (by decide) (fun hf => ?_) (fun hf => ?_)
    · refine lv_iconst (v := 0) C.1 C.2.1 dX13_putsAside_27 (by decide) ?_
      refine lv_istore_n (lv' := [(1, .int 0), (0, .ref (G.2.1 0))]) C.1 C.2.1 dX13_putsAside_28 rfl hl (by decide) rfl (fun ls hl => ?_)
      exact wX13_putsAside_29 C hr _ S 0 hf _ _ _ hw (lv_sub hl [1, 0] rfl)
    · refine lv_aload_n C.1 C.2.1 dX13_putsAside_9 rfl (lv_at hl 0 rfl) ?_
      refine sh_getr C hw fl_X13_23 tbM_0 rfl dX13_putsAside_10 ?_
      refine lv_iload_n C.1 C.2.1 dX13_putsAside_13 rfl (lv_at hl 1 rfl) ?_
      refine lv_aload_n C.1 C.2.1 dX13_putsAside_14 rfl (lv_at hl 0 rfl) ?_
      refine sh_getr C hw fl_X13_7 tbM_0 rfl dX13_putsAside_15 ?_
      refine lv_iload_n C.1 C.2.1 dX13_putsAside_18 rfl (lv_at hl 1 rfl) ?_
      refine sh_iald C hw hf tbM_1 dX13_putsAside_19 (fun hf => ?_)
      refine sh_iast C hw hf tbM_5 dX13_putsAside_20 (fun S3 H locs hw hf => ?_)
      obtain ⟨y4, ey4, hf⟩ := sh_nm hf
      refine lv_iinc (v := y4) (lv' := [(1, .int y4), (0, .ref (G.2.1 0))]) C.1 C.2.1 dX13_putsAside_21 hl (k := 1) rfl (by rw [← ey4]; rfl) (by decide) rfl (fun ls hl => ?_)
      refine lv_goto (tgt := 2) C.1 C.2.1 dX13_putsAside_24 (by decide) ?_
      exact hr2 S3 y4 hf _ _ _ hw (lv_sub hl [1, 0] rfl)
def fX13_putsAside (S : sh_St) : Option (Unit × sh_St) :=
    fX13_putsAside_2 sh_FU S 0
set_option maxRecDepth 100000 in
set_option maxHeartbeats 4000000 in
theorem kX13_putsAside (l : Launch) : sh_Mv l yX13_putsAside cX13_putsAside 2 1 tbM (fun G => [.ref (G.2.1 0)]) (fun S => fX13_putsAside S) := by
  refine sh_mkv (by decide) (fun G => Nat.le_of_ble_eq_true rfl) ?_
  intro p e s m args below meth c G A S res ls hf C hr hw hl
  have C : sh_Cx p s m args meth c cX13_putsAside 2 RX13 G A := C
  have hl : lv_has ls 2 [(0, .ref (G.2.1 0))] := hl
  replace hf : fX13_putsAside S = some res := hf
  rw [fX13_putsAside] at hf
  refine lv_iconst (v := 0) C.1 C.2.1 dX13_putsAside_0 (by decide) ?_
  refine lv_istore_n (lv' := [(1, .int 0), (0, .ref (G.2.1 0))]) C.1 C.2.1 dX13_putsAside_1 rfl hl (by decide) rfl (fun ls hl => ?_)
  exact wX13_putsAside_2 C hr _ S 0 hf _ _ _ hw (lv_sub hl [1, 0] rfl)
def fX13_comesBack_29 : Nat → sh_St → Int32 → Option (Unit × sh_St)
  | 0, _, _ => none
  | n + 1, S, v1 =>
    if 240 ≤ v1 then (some ((), S))
    else (sh_g v1 240 (sh_g v1 240 (sh_t (sh_L S 2 v1.toNatClampNeg (S.2 6 v1.toNatClampNeg)) fun S1 =>
    sh_t (v1 + 1) fun y2 =>
    (fX13_comesBack_29 n) S1 y2)))
set_option maxRecDepth 100000 in
set_option maxHeartbeats 4000000 in
theorem wX13_comesBack_29 {p : Program} {l : Launch} {e : Env} {s : State} {m : MethodId} {args : Array Value} {below : List Frame} {meth : Method} {c : Code} {G : sh_Ev} {A : Nat → Prop} {res : Unit × sh_St} (C : sh_Cx p s m args meth c cX13_comesBack 2 RX13 G A) (hr : meth.sig.returnType = none) : ∀ (n : Nat) (S : sh_St) (v1 : Int32), fX13_comesBack_29 n S v1 = some res → ∀ (H : Heap) (locs : List Loc) (ls : Array Slot), sh_Wx G tbM A s H locs S → lv_has ls 2 [(0, .ref (G.2.1 0)), (1, .int v1)] → W p l e (sh_rm 1) s m args below meth c H locs 0 0 (sh_Qv below args s G tbM A res) (F0 m 29 ls []) := by
  intro n
  induction n with
  | zero => intro S v1 hf; exact nomatch (show (none : Option (Unit × sh_St)) = some res from hf)
  | succ n ih =>
    intro S v1 hf H locs ls hw hl
    have hr29 := ih
    rw [fX13_comesBack_29] at hf
    refine lv_iload_n C.1 C.2.1 dX13_comesBack_29 rfl (lv_at hl 1 rfl) ?_
    refine lv_sipush (v := 240) C.1 C.2.1 dX13_comesBack_30 (by decide) ?_
    refine sh_icmp_ge (tgt := 54) C hf dX13_comesBack_33 (by decide) (fun hf => ?_) (fun hf => ?_)
    · exact sh_rv C hw hr hf dX13_comesBack_54
    · refine lv_aload_n C.1 C.2.1 dX13_comesBack_36 rfl (lv_at hl 0 rfl) ?_
      refine sh_getr C hw fl_X13_13 tbM_0 rfl dX13_comesBack_37 ?_
      refine lv_iload_n C.1 C.2.1 dX13_comesBack_40 rfl (lv_at hl 1 rfl) ?_
      refine lv_aload_n C.1 C.2.1 dX13_comesBack_41 rfl (lv_at hl 0 rfl) ?_
      refine sh_getr C hw fl_X13_26 tbM_0 rfl dX13_comesBack_42 ?_
      refine lv_iload_n C.1 C.2.1 dX13_comesBack_45 rfl (lv_at hl 1 rfl) ?_
      refine sh_lald C hw hf tbM_6 dX13_comesBack_46 (fun hf => ?_)
      refine sh_last C hw hf tbM_2 dX13_comesBack_47 (fun S1 H locs hw hf => ?_)
      obtain ⟨y2, ey2, hf⟩ := sh_nm hf
      refine lv_iinc (v := y2) (lv' := [(1, .int y2), (0, .ref (G.2.1 0))]) C.1 C.2.1 dX13_comesBack_48 hl (k := 1) rfl (by rw [← ey2]; rfl) (by decide) rfl (fun ls hl => ?_)
      refine lv_goto (tgt := 29) C.1 C.2.1 dX13_comesBack_51 (by decide) ?_
      exact hr29 S1 y2 hf _ _ _ hw (lv_sub hl [1, 0] rfl)
def fX13_comesBack_2 : Nat → sh_St → Int32 → Option (Unit × sh_St)
  | 0, _, _ => none
  | n + 1, S, v1 =>
    if 1084 ≤ v1 then (fX13_comesBack_29 sh_FU S 0)
    else (sh_g v1 1084 (sh_g v1 1084 (sh_t (sh_I S 1 v1.toNatClampNeg (S.1 5 v1.toNatClampNeg)) fun S3 =>
    sh_t (v1 + 1) fun y4 =>
    (fX13_comesBack_2 n) S3 y4)))
set_option maxRecDepth 100000 in
set_option maxHeartbeats 4000000 in
theorem wX13_comesBack_2 {p : Program} {l : Launch} {e : Env} {s : State} {m : MethodId} {args : Array Value} {below : List Frame} {meth : Method} {c : Code} {G : sh_Ev} {A : Nat → Prop} {res : Unit × sh_St} (C : sh_Cx p s m args meth c cX13_comesBack 2 RX13 G A) (hr : meth.sig.returnType = none) : ∀ (n : Nat) (S : sh_St) (v1 : Int32), fX13_comesBack_2 n S v1 = some res → ∀ (H : Heap) (locs : List Loc) (ls : Array Slot), sh_Wx G tbM A s H locs S → lv_has ls 2 [(0, .ref (G.2.1 0)), (1, .int v1)] → W p l e (sh_rm 1) s m args below meth c H locs 0 0 (sh_Qv below args s G tbM A res) (F0 m 2 ls []) := by
  intro n
  induction n with
  | zero => intro S v1 hf; exact nomatch (show (none : Option (Unit × sh_St)) = some res from hf)
  | succ n ih =>
    intro S v1 hf H locs ls hw hl
    have hr2 := ih
    rw [fX13_comesBack_2] at hf
    refine lv_iload_n C.1 C.2.1 dX13_comesBack_2 rfl (lv_at hl 1 rfl) ?_
    refine lv_sipush (v := 1084) C.1 C.2.1 dX13_comesBack_3 (by decide) ?_
    refine sh_icmp_ge (tgt := 27) C hf dX13_comesBack_6 (by decide) (fun hf => ?_) (fun hf => ?_)
    · refine lv_iconst (v := 0) C.1 C.2.1 dX13_comesBack_27 (by decide) ?_
      refine lv_istore_n (lv' := [(1, .int 0), (0, .ref (G.2.1 0))]) C.1 C.2.1 dX13_comesBack_28 rfl hl (by decide) rfl (fun ls hl => ?_)
      exact wX13_comesBack_29 C hr _ S 0 hf _ _ _ hw (lv_sub hl [1, 0] rfl)
    · refine lv_aload_n C.1 C.2.1 dX13_comesBack_9 rfl (lv_at hl 0 rfl) ?_
      refine sh_getr C hw fl_X13_7 tbM_0 rfl dX13_comesBack_10 ?_
      refine lv_iload_n C.1 C.2.1 dX13_comesBack_13 rfl (lv_at hl 1 rfl) ?_
      refine lv_aload_n C.1 C.2.1 dX13_comesBack_14 rfl (lv_at hl 0 rfl) ?_
      refine sh_getr C hw fl_X13_23 tbM_0 rfl dX13_comesBack_15 ?_
      refine lv_iload_n C.1 C.2.1 dX13_comesBack_18 rfl (lv_at hl 1 rfl) ?_
      refine sh_iald C hw hf tbM_5 dX13_comesBack_19 (fun hf => ?_)
      refine sh_iast C hw hf tbM_1 dX13_comesBack_20 (fun S3 H locs hw hf => ?_)
      obtain ⟨y4, ey4, hf⟩ := sh_nm hf
      refine lv_iinc (v := y4) (lv' := [(1, .int y4), (0, .ref (G.2.1 0))]) C.1 C.2.1 dX13_comesBack_21 hl (k := 1) rfl (by rw [← ey4]; rfl) (by decide) rfl (fun ls hl => ?_)
      refine lv_goto (tgt := 2) C.1 C.2.1 dX13_comesBack_24 (by decide) ?_
      exact hr2 S3 y4 hf _ _ _ hw (lv_sub hl [1, 0] rfl)
def fX13_comesBack (S : sh_St) : Option (Unit × sh_St) :=
    fX13_comesBack_2 sh_FU S 0
set_option maxRecDepth 100000 in
set_option maxHeartbeats 4000000 in
theorem kX13_comesBack (l : Launch) : sh_Mv l yX13_comesBack cX13_comesBack 2 1 tbM (fun G => [.ref (G.2.1 0)]) (fun S => fX13_comesBack S) := by
  refine sh_mkv (by decide) (fun G => Nat.le_of_ble_eq_true rfl) ?_
  intro p e s m args below meth c G A S res ls hf C hr hw hl
  have C : sh_Cx p s m args meth c cX13_comesBack 2 RX13 G A := C
  have hl : lv_has ls 2 [(0, .ref (G.2.1 0))] := hl
  replace hf : fX13_comesBack S = some res := hf
  rw [fX13_comesBack] at hf
  refine lv_iconst (v := 0) C.1 C.2.1 dX13_comesBack_0 (by decide) ?_
  refine lv_istore_n (lv' := [(1, .int 0), (0, .ref (G.2.1 0))]) C.1 C.2.1 dX13_comesBack_1 rfl hl (by decide) rfl (fun ls hl => ?_)
  exact wX13_comesBack_2 C hr _ S 0 hf _ _ _ hw (lv_sub hl [1, 0] rfl)
def fX13_remembers_119 : Nat → sh_St → Int32 → Option (Unit × sh_St)
  | 0, _, _ => none
  | n + 1, S, v1 =>
    if 240 ≤ v1 then (sh_t (sh_I S 0 5 ((S.1 0 5) + 1)) fun S1 =>
    some ((), S1))
    else (sh_g v1 240 (sh_g ((240 * (S.1 0 5)) + v1) 1920 (sh_t (sh_L S 4 ((240 * (S.1 0 5)) + v1).toNatClampNeg (S.2 6 v1.toNatClampNeg)) fun S2 =>
    sh_t (v1 + 1) fun y3 =>
    (fX13_remembers_119 n) S2 y3)))
set_option maxRecDepth 100000 in
set_option maxHeartbeats 4000000 in
theorem wX13_remembers_119 {p : Program} {l : Launch} {e : Env} {s : State} {m : MethodId} {args : Array Value} {below : List Frame} {meth : Method} {c : Code} {G : sh_Ev} {A : Nat → Prop} {res : Unit × sh_St} (C : sh_Cx p s m args meth c cX13_remembers 2 RX13 G A) (hr : meth.sig.returnType = none) : ∀ (n : Nat) (S : sh_St) (v1 : Int32), fX13_remembers_119 n S v1 = some res → ∀ (H : Heap) (locs : List Loc) (ls : Array Slot), sh_Wx G tbM A s H locs S → lv_has ls 2 [(0, .ref (G.2.1 0)), (1, .int v1)] → W p l e (sh_rm 1) s m args below meth c H locs 0 0 (sh_Qv below args s G tbM A res) (F0 m 119 ls []) := by
  intro n
  induction n with
  | zero => intro S v1 hf; exact nomatch (show (none : Option (Unit × sh_St)) = some res from hf)
  | succ n ih =>
    intro S v1 hf H locs ls hw hl
    have hr119 := ih
    rw [fX13_remembers_119] at hf
    refine lv_iload_n C.1 C.2.1 dX13_remembers_119 rfl (lv_at hl 1 rfl) ?_
    refine lv_sipush (v := 240) C.1 C.2.1 dX13_remembers_120 (by decide) ?_
    refine sh_icmp_ge (tgt := 153) C hf dX13_remembers_123 (by decide) (fun hf => ?_) (fun hf => ?_)
    · refine lv_aload_n C.1 C.2.1 dX13_remembers_153 rfl (lv_at hl 0 rfl) ?_
      refine lv_dup C.1 C.2.1 dX13_remembers_154 rfl ?_
      refine sh_geti C hw fl_X13_251 tbM_0 rfl dX13_remembers_155 ?_
      refine lv_iconst (v := 1) C.1 C.2.1 dX13_remembers_158 (by decide) ?_
      refine lv_iadd C.1 C.2.1 dX13_remembers_159 ?_
      refine sh_puti C hw fl_X13_251 fp_11_5 hf tbM_0 rfl dX13_remembers_160 (fun S1 H locs hw hf => ?_)
      exact sh_rv C hw hr hf dX13_remembers_163
    · refine lv_aload_n C.1 C.2.1 dX13_remembers_126 rfl (lv_at hl 0 rfl) ?_
      refine sh_getr C hw fl_X13_20 tbM_0 rfl dX13_remembers_127 ?_
      refine lv_sipush (v := 240) C.1 C.2.1 dX13_remembers_130 (by decide) ?_
      refine lv_aload_n C.1 C.2.1 dX13_remembers_133 rfl (lv_at hl 0 rfl) ?_
      refine sh_geti C hw fl_X13_251 tbM_0 rfl dX13_remembers_134 ?_
      refine lv_imul C.1 C.2.1 dX13_remembers_137 ?_
      refine lv_iload_n C.1 C.2.1 dX13_remembers_138 rfl (lv_at hl 1 rfl) ?_
      refine lv_iadd C.1 C.2.1 dX13_remembers_139 ?_
      refine lv_aload_n C.1 C.2.1 dX13_remembers_140 rfl (lv_at hl 0 rfl) ?_
      refine sh_getr C hw fl_X13_26 tbM_0 rfl dX13_remembers_141 ?_
      refine lv_iload_n C.1 C.2.1 dX13_remembers_144 rfl (lv_at hl 1 rfl) ?_
      refine sh_lald C hw hf tbM_6 dX13_remembers_145 (fun hf => ?_)
      refine sh_last C hw hf tbM_4 dX13_remembers_146 (fun S2 H locs hw hf => ?_)
      obtain ⟨y3, ey3, hf⟩ := sh_nm hf
      refine lv_iinc (v := y3) (lv' := [(1, .int y3), (0, .ref (G.2.1 0))]) C.1 C.2.1 dX13_remembers_147 hl (k := 1) rfl (by rw [← ey3]; rfl) (by decide) rfl (fun ls hl => ?_)
      refine lv_goto (tgt := 119) C.1 C.2.1 dX13_remembers_150 (by decide) ?_
      exact hr119 S2 y3 hf _ _ _ hw (lv_sub hl [1, 0] rfl)
def fX13_remembers_83 : Nat → sh_St → Int32 → Option (Unit × sh_St)
  | 0, _, _ => none
  | n + 1, S, v1 =>
    if 1084 ≤ v1 then (fX13_remembers_119 sh_FU S 0)
    else (sh_g v1 1084 (sh_g ((1084 * (S.1 0 5)) + v1) 8672 (sh_t (sh_I S 3 ((1084 * (S.1 0 5)) + v1).toNatClampNeg (S.1 5 v1.toNatClampNeg)) fun S4 =>
    sh_t (v1 + 1) fun y5 =>
    (fX13_remembers_83 n) S4 y5)))
set_option maxRecDepth 100000 in
set_option maxHeartbeats 4000000 in
theorem wX13_remembers_83 {p : Program} {l : Launch} {e : Env} {s : State} {m : MethodId} {args : Array Value} {below : List Frame} {meth : Method} {c : Code} {G : sh_Ev} {A : Nat → Prop} {res : Unit × sh_St} (C : sh_Cx p s m args meth c cX13_remembers 2 RX13 G A) (hr : meth.sig.returnType = none) : ∀ (n : Nat) (S : sh_St) (v1 : Int32), fX13_remembers_83 n S v1 = some res → ∀ (H : Heap) (locs : List Loc) (ls : Array Slot), sh_Wx G tbM A s H locs S → lv_has ls 2 [(0, .ref (G.2.1 0)), (1, .int v1)] → W p l e (sh_rm 1) s m args below meth c H locs 0 0 (sh_Qv below args s G tbM A res) (F0 m 83 ls []) := by
  intro n
  induction n with
  | zero => intro S v1 hf; exact nomatch (show (none : Option (Unit × sh_St)) = some res from hf)
  | succ n ih =>
    intro S v1 hf H locs ls hw hl
    have hr83 := ih
    rw [fX13_remembers_83] at hf
    refine lv_iload_n C.1 C.2.1 dX13_remembers_83 rfl (lv_at hl 1 rfl) ?_
    refine lv_sipush (v := 1084) C.1 C.2.1 dX13_remembers_84 (by decide) ?_
    refine sh_icmp_ge (tgt := 117) C hf dX13_remembers_87 (by decide) (fun hf => ?_) (fun hf => ?_)
    · refine lv_iconst (v := 0) C.1 C.2.1 dX13_remembers_117 (by decide) ?_
      refine lv_istore_n (lv' := [(1, .int 0), (0, .ref (G.2.1 0))]) C.1 C.2.1 dX13_remembers_118 rfl hl (by decide) rfl (fun ls hl => ?_)
      exact wX13_remembers_119 C hr _ S 0 hf _ _ _ hw (lv_sub hl [1, 0] rfl)
    · refine lv_aload_n C.1 C.2.1 dX13_remembers_90 rfl (lv_at hl 0 rfl) ?_
      refine sh_getr C hw fl_X13_17 tbM_0 rfl dX13_remembers_91 ?_
      refine lv_sipush (v := 1084) C.1 C.2.1 dX13_remembers_94 (by decide) ?_
      refine lv_aload_n C.1 C.2.1 dX13_remembers_97 rfl (lv_at hl 0 rfl) ?_
      refine sh_geti C hw fl_X13_251 tbM_0 rfl dX13_remembers_98 ?_
      refine lv_imul C.1 C.2.1 dX13_remembers_101 ?_
      refine lv_iload_n C.1 C.2.1 dX13_remembers_102 rfl (lv_at hl 1 rfl) ?_
      refine lv_iadd C.1 C.2.1 dX13_remembers_103 ?_
      refine lv_aload_n C.1 C.2.1 dX13_remembers_104 rfl (lv_at hl 0 rfl) ?_
      refine sh_getr C hw fl_X13_23 tbM_0 rfl dX13_remembers_105 ?_
      refine lv_iload_n C.1 C.2.1 dX13_remembers_108 rfl (lv_at hl 1 rfl) ?_
      refine sh_iald C hw hf tbM_5 dX13_remembers_109 (fun hf => ?_)
      refine sh_iast C hw hf tbM_3 dX13_remembers_110 (fun S4 H locs hw hf => ?_)
      obtain ⟨y5, ey5, hf⟩ := sh_nm hf
      refine lv_iinc (v := y5) (lv' := [(1, .int y5), (0, .ref (G.2.1 0))]) C.1 C.2.1 dX13_remembers_111 hl (k := 1) rfl (by rw [← ey5]; rfl) (by decide) rfl (fun ls hl => ?_)
      refine lv_goto (tgt := 83) C.1 C.2.1 dX13_remembers_114 (by decide) ?_
      exact hr83 S4 y5 hf _ _ _ hw (lv_sub hl [1, 0] rfl)
def fX13_remembers_81 (S : sh_St) : Option (Unit × sh_St) :=
    fX13_remembers_83 sh_FU S 0
set_option maxRecDepth 100000 in
set_option maxHeartbeats 4000000 in
theorem wX13_remembers_81 {p : Program} {l : Launch} {e : Env} {s : State} {m : MethodId} {args : Array Value} {below : List Frame} {meth : Method} {c : Code} {G : sh_Ev} {A : Nat → Prop} {res : Unit × sh_St} (C : sh_Cx p s m args meth c cX13_remembers 2 RX13 G A) (hr : meth.sig.returnType = none) : ∀ (S : sh_St), fX13_remembers_81 S = some res → ∀ (H : Heap) (locs : List Loc) (ls : Array Slot), sh_Wx G tbM A s H locs S → lv_has ls 2 [(0, .ref (G.2.1 0))] → W p l e (sh_rm 1) s m args below meth c H locs 0 0 (sh_Qv below args s G tbM A res) (F0 m 81 ls []) := by
  intro S hf H locs ls hw hl
  rw [fX13_remembers_81] at hf
  refine lv_iconst (v := 0) C.1 C.2.1 dX13_remembers_81 (by decide) ?_
  refine lv_istore_n (lv' := [(1, .int 0), (0, .ref (G.2.1 0))]) C.1 C.2.1 dX13_remembers_82 rfl hl (by decide) rfl (fun ls hl => ?_)
  exact wX13_remembers_83 C hr _ S 0 hf _ _ _ hw (lv_sub hl [1, 0] rfl)
def fX13_remembers_42 : Nat → sh_St → Int32 → Option (Unit × sh_St)
  | 0, _, _ => none
  | n + 1, S, v1 =>
    if 1680 ≤ v1 then (sh_t (sh_I S 0 5 ((S.1 0 5) - 1)) fun S6 =>
    fX13_remembers_81 S6)
    else (sh_g (v1 + 240) 1920 (sh_g v1 1920 (sh_t (sh_L S 4 v1.toNatClampNeg (S.2 4 (v1 + 240).toNatClampNeg)) fun S7 =>
    sh_t (v1 + 1) fun y8 =>
    (fX13_remembers_42 n) S7 y8)))
set_option maxRecDepth 100000 in
set_option maxHeartbeats 4000000 in
theorem wX13_remembers_42 {p : Program} {l : Launch} {e : Env} {s : State} {m : MethodId} {args : Array Value} {below : List Frame} {meth : Method} {c : Code} {G : sh_Ev} {A : Nat → Prop} {res : Unit × sh_St} (C : sh_Cx p s m args meth c cX13_remembers 2 RX13 G A) (hr : meth.sig.returnType = none) : ∀ (n : Nat) (S : sh_St) (v1 : Int32), fX13_remembers_42 n S v1 = some res → ∀ (H : Heap) (locs : List Loc) (ls : Array Slot), sh_Wx G tbM A s H locs S → lv_has ls 2 [(0, .ref (G.2.1 0)), (1, .int v1)] → W p l e (sh_rm 1) s m args below meth c H locs 0 0 (sh_Qv below args s G tbM A res) (F0 m 42 ls []) := by
  intro n
  induction n with
  | zero => intro S v1 hf; exact nomatch (show (none : Option (Unit × sh_St)) = some res from hf)
  | succ n ih =>
    intro S v1 hf H locs ls hw hl
    have hr42 := ih
    rw [fX13_remembers_42] at hf
    refine lv_iload_n C.1 C.2.1 dX13_remembers_42 rfl (lv_at hl 1 rfl) ?_
    refine lv_sipush (v := 1680) C.1 C.2.1 dX13_remembers_43 (by decide) ?_
    refine sh_icmp_ge (tgt := 71) C hf dX13_remembers_46 (by decide) (fun hf => ?_) (fun hf => ?_)
    · refine lv_aload_n C.1 C.2.1 dX13_remembers_71 rfl (lv_at hl 0 rfl) ?_
      refine lv_dup C.1 C.2.1 dX13_remembers_72 rfl ?_
      refine sh_geti C hw fl_X13_251 tbM_0 rfl dX13_remembers_73 ?_
      refine lv_iconst (v := 1) C.1 C.2.1 dX13_remembers_76 (by decide) ?_
      refine lv_isub C.1 C.2.1 dX13_remembers_77 ?_
      refine sh_puti C hw fl_X13_251 fp_11_5 hf tbM_0 rfl dX13_remembers_78 (fun S6 H locs hw hf => ?_)
      exact wX13_remembers_81 C hr S6  hf _ _ _ hw (lv_sub hl [0] rfl)
    · refine lv_aload_n C.1 C.2.1 dX13_remembers_49 rfl (lv_at hl 0 rfl) ?_
      refine sh_getr C hw fl_X13_20 tbM_0 rfl dX13_remembers_50 ?_
      refine lv_iload_n C.1 C.2.1 dX13_remembers_53 rfl (lv_at hl 1 rfl) ?_
      refine lv_aload_n C.1 C.2.1 dX13_remembers_54 rfl (lv_at hl 0 rfl) ?_
      refine sh_getr C hw fl_X13_20 tbM_0 rfl dX13_remembers_55 ?_
      refine lv_iload_n C.1 C.2.1 dX13_remembers_58 rfl (lv_at hl 1 rfl) ?_
      refine lv_sipush (v := 240) C.1 C.2.1 dX13_remembers_59 (by decide) ?_
      refine lv_iadd C.1 C.2.1 dX13_remembers_62 ?_
      refine sh_lald C hw hf tbM_4 dX13_remembers_63 (fun hf => ?_)
      refine sh_last C hw hf tbM_4 dX13_remembers_64 (fun S7 H locs hw hf => ?_)
      obtain ⟨y8, ey8, hf⟩ := sh_nm hf
      refine lv_iinc (v := y8) (lv' := [(1, .int y8), (0, .ref (G.2.1 0))]) C.1 C.2.1 dX13_remembers_65 hl (k := 1) rfl (by rw [← ey8]; rfl) (by decide) rfl (fun ls hl => ?_)
      refine lv_goto (tgt := 42) C.1 C.2.1 dX13_remembers_68 (by decide) ?_
      exact hr42 S7 y8 hf _ _ _ hw (lv_sub hl [1, 0] rfl)
def fX13_remembers_11 : Nat → sh_St → Int32 → Option (Unit × sh_St)
  | 0, _, _ => none
  | n + 1, S, v1 =>
    if 7588 ≤ v1 then (fX13_remembers_42 sh_FU S 0)
    else (sh_g (v1 + 1084) 8672 (sh_g v1 8672 (sh_t (sh_I S 3 v1.toNatClampNeg (S.1 3 (v1 + 1084).toNatClampNeg)) fun S9 =>
    sh_t (v1 + 1) fun y10 =>
    (fX13_remembers_11 n) S9 y10)))
set_option maxRecDepth 100000 in
set_option maxHeartbeats 4000000 in
theorem wX13_remembers_11 {p : Program} {l : Launch} {e : Env} {s : State} {m : MethodId} {args : Array Value} {below : List Frame} {meth : Method} {c : Code} {G : sh_Ev} {A : Nat → Prop} {res : Unit × sh_St} (C : sh_Cx p s m args meth c cX13_remembers 2 RX13 G A) (hr : meth.sig.returnType = none) : ∀ (n : Nat) (S : sh_St) (v1 : Int32), fX13_remembers_11 n S v1 = some res → ∀ (H : Heap) (locs : List Loc) (ls : Array Slot), sh_Wx G tbM A s H locs S → lv_has ls 2 [(0, .ref (G.2.1 0)), (1, .int v1)] → W p l e (sh_rm 1) s m args below meth c H locs 0 0 (sh_Qv below args s G tbM A res) (F0 m 11 ls []) := by
  intro n
  induction n with
  | zero => intro S v1 hf; exact nomatch (show (none : Option (Unit × sh_St)) = some res from hf)
  | succ n ih =>
    intro S v1 hf H locs ls hw hl
    have hr11 := ih
    rw [fX13_remembers_11] at hf
    refine lv_iload_n C.1 C.2.1 dX13_remembers_11 rfl (lv_at hl 1 rfl) ?_
    refine lv_sipush (v := 7588) C.1 C.2.1 dX13_remembers_12 (by decide) ?_
    refine sh_icmp_ge (tgt := 40) C hf dX13_remembers_15 (by decide) (fun hf => ?_) (fun hf => ?_)
    · refine lv_iconst (v := 0) C.1 C.2.1 dX13_remembers_40 (by decide) ?_
      refine lv_istore_n (lv' := [(1, .int 0), (0, .ref (G.2.1 0))]) C.1 C.2.1 dX13_remembers_41 rfl hl (by decide) rfl (fun ls hl => ?_)
      exact wX13_remembers_42 C hr _ S 0 hf _ _ _ hw (lv_sub hl [1, 0] rfl)
    · refine lv_aload_n C.1 C.2.1 dX13_remembers_18 rfl (lv_at hl 0 rfl) ?_
      refine sh_getr C hw fl_X13_17 tbM_0 rfl dX13_remembers_19 ?_
      refine lv_iload_n C.1 C.2.1 dX13_remembers_22 rfl (lv_at hl 1 rfl) ?_
      refine lv_aload_n C.1 C.2.1 dX13_remembers_23 rfl (lv_at hl 0 rfl) ?_
      refine sh_getr C hw fl_X13_17 tbM_0 rfl dX13_remembers_24 ?_
      refine lv_iload_n C.1 C.2.1 dX13_remembers_27 rfl (lv_at hl 1 rfl) ?_
      refine lv_sipush (v := 1084) C.1 C.2.1 dX13_remembers_28 (by decide) ?_
      refine lv_iadd C.1 C.2.1 dX13_remembers_31 ?_
      refine sh_iald C hw hf tbM_3 dX13_remembers_32 (fun hf => ?_)
      refine sh_iast C hw hf tbM_3 dX13_remembers_33 (fun S9 H locs hw hf => ?_)
      obtain ⟨y10, ey10, hf⟩ := sh_nm hf
      refine lv_iinc (v := y10) (lv' := [(1, .int y10), (0, .ref (G.2.1 0))]) C.1 C.2.1 dX13_remembers_34 hl (k := 1) rfl (by rw [← ey10]; rfl) (by decide) rfl (fun ls hl => ?_)
      refine lv_goto (tgt := 11) C.1 C.2.1 dX13_remembers_37 (by decide) ?_
      exact hr11 S9 y10 hf _ _ _ hw (lv_sub hl [1, 0] rfl)
def fX13_remembers (S : sh_St) : Option (Unit × sh_St) :=
    if (S.1 0 5) = 8 then (fX13_remembers_11 sh_FU S 0)
    else (fX13_remembers_81 S)
set_option maxRecDepth 100000 in
set_option maxHeartbeats 4000000 in
theorem kX13_remembers (l : Launch) : sh_Mv l yX13_remembers cX13_remembers 2 1 tbM (fun G => [.ref (G.2.1 0)]) (fun S => fX13_remembers S) := by
  refine sh_mkv (by decide) (fun G => Nat.le_of_ble_eq_true rfl) ?_
  intro p e s m args below meth c G A S res ls hf C hr hw hl
  have C : sh_Cx p s m args meth c cX13_remembers 2 RX13 G A := C
  have hl : lv_has ls 2 [(0, .ref (G.2.1 0))] := hl
  replace hf : fX13_remembers S = some res := hf
  rw [fX13_remembers] at hf
  refine lv_aload_n C.1 C.2.1 dX13_remembers_0 rfl (lv_at hl 0 rfl) ?_
  refine sh_geti C hw fl_X13_251 tbM_0 rfl dX13_remembers_1 ?_
  refine lv_bipush (v := 8) C.1 C.2.1 dX13_remembers_4 (by decide) ?_
  refine sh_icmp_ne (tgt := 81) C hf dX13_remembers_6 (by decide) (fun hf => ?_) (fun hf => ?_)
  · exact wX13_remembers_81 C hr S  hf _ _ _ hw (lv_sub hl [0] rfl)
  · refine lv_iconst (v := 0) C.1 C.2.1 dX13_remembers_9 (by decide) ?_
    refine lv_istore_n (lv' := [(1, .int 0), (0, .ref (G.2.1 0))]) C.1 C.2.1 dX13_remembers_10 rfl hl (by decide) rfl (fun ls hl => ?_)
    exact wX13_remembers_11 C hr _ S 0 hf _ _ _ hw (lv_sub hl [1, 0] rfl)
def fX13_isDone_26 (S : sh_St) (v1 : Int32) : Option (Int32 × sh_St) :=
    if v1 = 0 then (sh_b 1 (some (1, S)))
    else (sh_b 0 (some (0, S)))
set_option maxRecDepth 100000 in
set_option maxHeartbeats 4000000 in
theorem wX13_isDone_26 {p : Program} {l : Launch} {e : Env} {s : State} {m : MethodId} {args : Array Value} {below : List Frame} {meth : Method} {c : Code} {G : sh_Ev} {A : Nat → Prop} {res : Int32 × sh_St} (C : sh_Cx p s m args meth c cX13_isDone 3 RX13 G A) (hr : meth.sig.returnType = some .boolean) : ∀ (S : sh_St) (v1 : Int32), fX13_isDone_26 S v1 = some res → ∀ (H : Heap) (locs : List Loc) (ls : Array Slot), sh_Wx G tbM A s H locs S → lv_has ls 3 [(1, .int v1)] → W p l e (sh_rm 2) s m args below meth c H locs 0 0 (sh_Qi below args s G tbM A res) (F0 m 26 ls []) := by
  intro S v1 hf H locs ls hw hl
  rw [fX13_isDone_26] at hf
  refine lv_iload_n C.1 C.2.1 dX13_isDone_26 rfl (lv_at hl 0 rfl) ?_
  refine sh_if_ne (tgt := 34) C hf dX13_isDone_27 (by decide) (fun hf => ?_) (fun hf => ?_)
  · refine lv_iconst (v := 0) C.1 C.2.1 dX13_isDone_34 (by decide) ?_
    exact sh_rz C hw hr hf dX13_isDone_35
  · refine lv_iconst (v := 1) C.1 C.2.1 dX13_isDone_30 (by decide) ?_
    refine lv_goto (tgt := 35) C.1 C.2.1 dX13_isDone_31 (by decide) ?_
    exact sh_rz C hw hr hf dX13_isDone_35
def fX13_isDone_15 (S : sh_St) (v1 : Int32) (t0 : Int32) : Option (Int32 × sh_St) :=
    sh_t (sh_I S 0 0 t0) fun S2 =>
    if v1 = 0 then (sh_c (fX13_remembers S2 ) fun _ S3 =>
    fX13_isDone_26 S3 v1)
    else (fX13_isDone_26 S2 v1)
set_option maxRecDepth 100000 in
set_option maxHeartbeats 4000000 in
theorem wX13_isDone_15 {p : Program} {l : Launch} {e : Env} {s : State} {m : MethodId} {args : Array Value} {below : List Frame} {meth : Method} {c : Code} {G : sh_Ev} {A : Nat → Prop} {res : Int32 × sh_St} (C : sh_Cx p s m args meth c cX13_isDone 3 RX13 G A) (hr : meth.sig.returnType = some .boolean) : ∀ (S : sh_St) (v1 : Int32) (t0 : Int32), fX13_isDone_15 S v1 t0 = some res → ∀ (H : Heap) (locs : List Loc) (ls : Array Slot), sh_Wx G tbM A s H locs S → lv_has ls 3 [(0, .ref (G.2.1 0)), (1, .int v1)] → W p l e (sh_rm 2) s m args below meth c H locs 0 0 (sh_Qi below args s G tbM A res) (F0 m 15 ls [.int t0, .ref (G.2.1 0)]) := by
  intro S v1 t0 hf H locs ls hw hl
  rw [fX13_isDone_15] at hf
  refine sh_puti C hw fl_X13_79 fp_11_0 hf tbM_0 rfl dX13_isDone_15 (fun S2 H locs hw hf => ?_)
  refine lv_iload_n C.1 C.2.1 dX13_isDone_18 rfl (lv_at hl 1 rfl) ?_
  refine sh_if_ne (tgt := 26) C hf dX13_isDone_19 (by decide) (fun hf => ?_) (fun hf => ?_)
  · exact wX13_isDone_26 C hr S2 v1 hf _ _ _ hw (lv_sub hl [1] rfl)
  · refine lv_aload_n C.1 C.2.1 dX13_isDone_22 rfl (lv_at hl 0 rfl) ?_
    refine sh_Vv (As := []) (rest := []) C hw (kX13_remembers l ) yy_X13_remembers yv_X13_remembers ml_X13_257 hf tbM_0 rfl rfl rfl rfl (Nat.le_of_ble_eq_true rfl) (by decide) hl.1 dX13_isDone_23 (fun S3 H locs hw hf => ?_)
    exact wX13_isDone_26 C hr S3 v1 hf _ _ _ hw (lv_sub hl [1] rfl)
def fX13_isDone (S : sh_St) (v1 : Int32) (v2 : Int32) : Option (Int32 × sh_St) :=
    sh_t (sh_I S 0 21 v1) fun S1 =>
    if v1 ≤ 0 then (fX13_isDone_15 S1 v1 0)
    else (fX13_isDone_15 S1 v1 v2)
set_option maxRecDepth 100000 in
set_option maxHeartbeats 4000000 in
theorem kX13_isDone (l : Launch) (v1 : Int32) (v2 : Int32) : sh_Mi l yX13_isDone cX13_isDone 3 .boolean 2 tbM (fun G => [.ref (G.2.1 0), .int v1, .int v2]) (fun S => fX13_isDone S v1 v2) := by
  refine sh_mki (by decide) (fun G => Nat.le_of_ble_eq_true rfl) ?_
  intro p e s m args below meth c G A S res ls hf C hr hw hl
  have C : sh_Cx p s m args meth c cX13_isDone 3 RX13 G A := C
  have hl : lv_has ls 3 [(0, .ref (G.2.1 0)), (1, .int v1), (2, .int v2)] := hl
  replace hf : fX13_isDone S v1 v2 = some res := hf
  rw [fX13_isDone] at hf
  refine lv_aload_n C.1 C.2.1 dX13_isDone_0 rfl (lv_at hl 0 rfl) ?_
  refine lv_iload_n C.1 C.2.1 dX13_isDone_1 rfl (lv_at hl 1 rfl) ?_
  refine sh_puti C hw fl_X13_254 fp_11_21 hf tbM_0 rfl dX13_isDone_2 (fun S1 H locs hw hf => ?_)
  refine lv_aload_n C.1 C.2.1 dX13_isDone_5 rfl (lv_at hl 0 rfl) ?_
  refine lv_iload_n C.1 C.2.1 dX13_isDone_6 rfl (lv_at hl 1 rfl) ?_
  refine sh_if_le (tgt := 14) C hf dX13_isDone_7 (by decide) (fun hf => ?_) (fun hf => ?_)
  · refine lv_iconst (v := 0) C.1 C.2.1 dX13_isDone_14 (by decide) ?_
    exact wX13_isDone_15 C hr S1 v1 0 hf _ _ _ hw (lv_sub hl [0, 1] rfl)
  · refine lv_iload_n C.1 C.2.1 dX13_isDone_10 rfl (lv_at hl 2 rfl) ?_
    refine lv_goto (tgt := 15) C.1 C.2.1 dX13_isDone_11 (by decide) ?_
    exact wX13_isDone_15 C hr S1 v1 v2 hf _ _ _ hw (lv_sub hl [0, 1] rfl)
def fX13_feed_76 (rk23 : sh_St → Int32 → Int32 → Int32 → Int32 → Int32 → Int32 → Option (Int32 × sh_St)) (S : sh_St) (v1 : Int32) (v2 : Int32) (v3 : Int32) (v4 : Int32) (v5 : Int32) (v6 : Int32) (t0 : Int32) : Option (Int32 × sh_St) :=
    sh_g (S.1 0 17) 400 (sh_t (sh_I S 14 (S.1 0 17).toNatClampNeg (((t0.toUInt32 >>> (Int32.toUInt32 (24 - (8 * (v6 - v6 / 4 * 4))) &&& Int32.toUInt32 31)).toInt32) &&& 255)) fun S2 =>
    sh_t (sh_I S2 0 17 ((S2.1 0 17) + 1)) fun S3 =>
    sh_t (v6 + 1) fun y4 =>
    rk23 S3 v1 v2 v3 v4 v5 y4)
set_option maxRecDepth 100000 in
set_option maxHeartbeats 4000000 in
theorem wX13_feed_76 {p : Program} {l : Launch} {e : Env} {s : State} {m : MethodId} {args : Array Value} {below : List Frame} {meth : Method} {c : Code} {G : sh_Ev} {A : Nat → Prop} {res : Int32 × sh_St} (C : sh_Cx p s m args meth c cX13_feed 8 RX13 G A) (hr : meth.sig.returnType = some .int) (rk23 : sh_St → Int32 → Int32 → Int32 → Int32 → Int32 → Int32 → Option (Int32 × sh_St)) (hr23 : ∀ (S : sh_St) (v1 : Int32) (v2 : Int32) (v3 : Int32) (v4 : Int32) (v5 : Int32) (v6 : Int32), rk23 S v1 v2 v3 v4 v5 v6 = some res → ∀ (H : Heap) (locs : List Loc) (ls : Array Slot), sh_Wx G tbM A s H locs S → lv_has ls 8 [(0, .ref (G.2.1 0)), (1, .int v1), (2, .int v2), (3, .int v3), (4, .int v4), (5, .int v5), (6, .int v6)] → W p l e (sh_rm 1) s m args below meth c H locs 0 0 (sh_Qi below args s G tbM A res) (F0 m 23 ls [])) : ∀ (S : sh_St) (v1 : Int32) (v2 : Int32) (v3 : Int32) (v4 : Int32) (v5 : Int32) (v6 : Int32) (t0 : Int32), fX13_feed_76 rk23 S v1 v2 v3 v4 v5 v6 t0 = some res → ∀ (H : Heap) (locs : List Loc) (ls : Array Slot), sh_Wx G tbM A s H locs S → lv_has ls 8 [(0, .ref (G.2.1 0)), (1, .int v1), (2, .int v2), (3, .int v3), (4, .int v4), (5, .int v5), (6, .int v6)] → W p l e (sh_rm 1) s m args below meth c H locs 0 0 (sh_Qi below args s G tbM A res) (F0 m 76 ls [.int t0]) := by
  intro S v1 v2 v3 v4 v5 v6 t0 hf H locs ls hw hl
  rw [fX13_feed_76] at hf
  refine lv_istore (lv' := [(7, .int t0), (0, .ref (G.2.1 0)), (1, .int v1), (2, .int v2), (3, .int v3), (4, .int v4), (5, .int v5), (6, .int v6)]) C.1 C.2.1 dX13_feed_76 hl (by decide) rfl (fun ls hl => ?_)
  refine lv_aload_n C.1 C.2.1 dX13_feed_78 rfl (lv_at hl 1 rfl) ?_
  refine sh_getr C hw fl_X13_51 tbM_0 rfl dX13_feed_79 ?_
  refine lv_aload_n C.1 C.2.1 dX13_feed_82 rfl (lv_at hl 1 rfl) ?_
  refine sh_geti C hw fl_X13_260 tbM_0 rfl dX13_feed_83 ?_
  refine lv_iload C.1 C.2.1 dX13_feed_86 (lv_at hl 0 rfl) ?_
  refine lv_bipush (v := 24) C.1 C.2.1 dX13_feed_88 (by decide) ?_
  refine lv_bipush (v := 8) C.1 C.2.1 dX13_feed_90 (by decide) ?_
  refine lv_iload C.1 C.2.1 dX13_feed_92 (lv_at hl 7 rfl) ?_
  refine lv_iconst (v := 4) C.1 C.2.1 dX13_feed_94 (by decide) ?_
  refine lv_irem C.1 C.2.1 dX13_feed_95 (by decide) ?_
  refine lv_imul C.1 C.2.1 dX13_feed_96 ?_
  refine lv_isub C.1 C.2.1 dX13_feed_97 ?_
  refine lv_iushr C.1 C.2.1 dX13_feed_98 rfl ?_
  refine lv_sipush (v := 255) C.1 C.2.1 dX13_feed_99 (by decide) ?_
  refine lv_iand C.1 C.2.1 dX13_feed_102 ?_
  refine sh_iast C hw hf tbM_14 dX13_feed_103 (fun S2 H locs hw hf => ?_)
  refine lv_aload_n C.1 C.2.1 dX13_feed_104 rfl (lv_at hl 1 rfl) ?_
  refine lv_dup C.1 C.2.1 dX13_feed_105 rfl ?_
  refine sh_geti C hw fl_X13_260 tbM_0 rfl dX13_feed_106 ?_
  refine lv_iconst (v := 1) C.1 C.2.1 dX13_feed_109 (by decide) ?_
  refine lv_iadd C.1 C.2.1 dX13_feed_110 ?_
  refine sh_puti C hw fl_X13_260 fp_11_17 hf tbM_0 rfl dX13_feed_111 (fun S3 H locs hw hf => ?_)
  obtain ⟨y4, ey4, hf⟩ := sh_nm hf
  refine lv_iinc (v := y4) (lv' := [(6, .int y4), (7, .int t0), (0, .ref (G.2.1 0)), (1, .int v1), (2, .int v2), (3, .int v3), (4, .int v4), (5, .int v5)]) C.1 C.2.1 dX13_feed_114 hl (k := 7) rfl (by rw [← ey4]; rfl) (by decide) rfl (fun ls hl => ?_)
  refine lv_goto (tgt := 23) C.1 C.2.1 dX13_feed_117 (by decide) ?_
  exact hr23 S3 v1 v2 v3 v4 v5 y4 hf _ _ _ hw (lv_sub hl [2, 3, 4, 5, 6, 7, 0] rfl)
def fX13_feed_23 : Nat → sh_St → Int32 → Int32 → Int32 → Int32 → Int32 → Int32 → Option (Int32 × sh_St)
  | 0, _, _, _, _, _, _, _ => none
  | n + 1, S, v1, v2, v3, v4, v5, v6 =>
    if 20 ≤ v6 then (some (S.1 0 17, S))
    else (if 4 ≤ v6 then (if 8 ≤ v6 then (if 12 ≤ v6 then (if 16 ≤ v6 then (fX13_feed_76 (fX13_feed_23 n) S v1 v2 v3 v4 v5 v6 v5)
    else (fX13_feed_76 (fX13_feed_23 n) S v1 v2 v3 v4 v5 v6 v4))
    else (fX13_feed_76 (fX13_feed_23 n) S v1 v2 v3 v4 v5 v6 v3))
    else (fX13_feed_76 (fX13_feed_23 n) S v1 v2 v3 v4 v5 v6 v2))
    else (fX13_feed_76 (fX13_feed_23 n) S v1 v2 v3 v4 v5 v6 v1))
set_option maxRecDepth 100000 in
set_option maxHeartbeats 4000000 in
theorem wX13_feed_23 {p : Program} {l : Launch} {e : Env} {s : State} {m : MethodId} {args : Array Value} {below : List Frame} {meth : Method} {c : Code} {G : sh_Ev} {A : Nat → Prop} {res : Int32 × sh_St} (C : sh_Cx p s m args meth c cX13_feed 8 RX13 G A) (hr : meth.sig.returnType = some .int) : ∀ (n : Nat) (S : sh_St) (v1 : Int32) (v2 : Int32) (v3 : Int32) (v4 : Int32) (v5 : Int32) (v6 : Int32), fX13_feed_23 n S v1 v2 v3 v4 v5 v6 = some res → ∀ (H : Heap) (locs : List Loc) (ls : Array Slot), sh_Wx G tbM A s H locs S → lv_has ls 8 [(0, .ref (G.2.1 0)), (1, .int v1), (2, .int v2), (3, .int v3), (4, .int v4), (5, .int v5), (6, .int v6)] → W p l e (sh_rm 1) s m args below meth c H locs 0 0 (sh_Qi below args s G tbM A res) (F0 m 23 ls []) := by
  intro n
  induction n with
  | zero => intro S v1 v2 v3 v4 v5 v6 hf; exact nomatch (show (none : Option (Int32 × sh_St)) = some res from hf)
  | succ n ih =>
    intro S v1 v2 v3 v4 v5 v6 hf H locs ls hw hl
    have hr23 := ih
    rw [fX13_feed_23] at hf
    refine lv_iload C.1 C.2.1 dX13_feed_23 (lv_at hl 6 rfl) ?_
    refine lv_bipush (v := 20) C.1 C.2.1 dX13_feed_25 (by decide) ?_
    refine sh_icmp_ge (tgt := 120) C hf dX13_feed_27 (by decide) (fun hf => ?_) (fun hf => ?_)
    · refine lv_aload_n C.1 C.2.1 dX13_feed_120 rfl (lv_at hl 0 rfl) ?_
      refine sh_geti C hw fl_X13_260 tbM_0 rfl dX13_feed_121 ?_
      exact sh_ri C hw hr hf dX13_feed_124
    · refine lv_iload C.1 C.2.1 dX13_feed_30 (lv_at hl 6 rfl) ?_
      refine lv_iconst (v := 4) C.1 C.2.1 dX13_feed_32 (by decide) ?_
      refine sh_icmp_ge (tgt := 40) C hf dX13_feed_33 (by decide) (fun hf => ?_) (fun hf => ?_)
      · refine lv_iload C.1 C.2.1 dX13_feed_40 (lv_at hl 6 rfl) ?_
        refine lv_bipush (v := 8) C.1 C.2.1 dX13_feed_42 (by decide) ?_
        refine sh_icmp_ge (tgt := 51) C hf dX13_feed_44 (by decide) (fun hf => ?_) (fun hf => ?_)
        · refine lv_iload C.1 C.2.1 dX13_feed_51 (lv_at hl 6 rfl) ?_
          refine lv_bipush (v := 12) C.1 C.2.1 dX13_feed_53 (by decide) ?_
          refine sh_icmp_ge (tgt := 62) C hf dX13_feed_55 (by decide) (fun hf => ?_) (fun hf => ?_)
          · refine lv_iload C.1 C.2.1 dX13_feed_62 (lv_at hl 6 rfl) ?_
            refine lv_bipush (v := 16) C.1 C.2.1 dX13_feed_64 (by decide) ?_
            refine sh_icmp_ge (tgt := 74) C hf dX13_feed_66 (by decide) (fun hf => ?_) (fun hf => ?_)
            · refine lv_iload C.1 C.2.1 dX13_feed_74 (lv_at hl 5 rfl) ?_
              exact wX13_feed_76 C hr (fX13_feed_23 n) hr23 S v1 v2 v3 v4 v5 v6 v5 hf _ _ _ hw (lv_sub hl [0, 1, 2, 3, 4, 5, 6] rfl)
            · refine lv_iload C.1 C.2.1 dX13_feed_69 (lv_at hl 4 rfl) ?_
              refine lv_goto (tgt := 76) C.1 C.2.1 dX13_feed_71 (by decide) ?_
              exact wX13_feed_76 C hr (fX13_feed_23 n) hr23 S v1 v2 v3 v4 v5 v6 v4 hf _ _ _ hw (lv_sub hl [0, 1, 2, 3, 4, 5, 6] rfl)
          · refine lv_iload_n C.1 C.2.1 dX13_feed_58 rfl (lv_at hl 3 rfl) ?_
            refine lv_goto (tgt := 76) C.1 C.2.1 dX13_feed_59 (by decide) ?_
            exact wX13_feed_76 C hr (fX13_feed_23 n) hr23 S v1 v2 v3 v4 v5 v6 v3 hf _ _ _ hw (lv_sub hl [0, 1, 2, 3, 4, 5, 6] rfl)
        · refine lv_iload_n C.1 C.2.1 dX13_feed_47 rfl (lv_at hl 2 rfl) ?_
          refine lv_goto (tgt := 76) C.1 C.2.1 dX13_feed_48 (by decide) ?_
          exact wX13_feed_76 C hr (fX13_feed_23 n) hr23 S v1 v2 v3 v4 v5 v6 v2 hf _ _ _ hw (lv_sub hl [0, 1, 2, 3, 4, 5, 6] rfl)
      · refine lv_iload_n C.1 C.2.1 dX13_feed_36 rfl (lv_at hl 1 rfl) ?_
        refine lv_goto (tgt := 76) C.1 C.2.1 dX13_feed_37 (by decide) ?_
        exact wX13_feed_76 C hr (fX13_feed_23 n) hr23 S v1 v2 v3 v4 v5 v6 v1 hf _ _ _ hw (lv_sub hl [0, 1, 2, 3, 4, 5, 6] rfl)
def fX13_feed (S : sh_St) (v1 : Int32) (v2 : Int32) (v3 : Int32) (v4 : Int32) (v5 : Int32) : Option (Int32 × sh_St) :=
    sh_t (sh_I S 0 0 0) fun S1 =>
    if ((S1.1 0 17) + 20) ≤ 400 then (fX13_feed_23 sh_FU S1 v1 v2 v3 v4 v5 0)
    else (some ((-1), S1))
set_option maxRecDepth 100000 in
set_option maxHeartbeats 4000000 in
theorem kX13_feed (l : Launch) (v1 : Int32) (v2 : Int32) (v3 : Int32) (v4 : Int32) (v5 : Int32) : sh_Mi l yX13_feed cX13_feed 8 .int 1 tbM (fun G => [.ref (G.2.1 0), .int v1, .int v2, .int v3, .int v4, .int v5]) (fun S => fX13_feed S v1 v2 v3 v4 v5) := by
  refine sh_mki (by decide) (fun G => Nat.le_of_ble_eq_true rfl) ?_
  intro p e s m args below meth c G A S res ls hf C hr hw hl
  have C : sh_Cx p s m args meth c cX13_feed 8 RX13 G A := C
  have hl : lv_has ls 8 [(0, .ref (G.2.1 0)), (1, .int v1), (2, .int v2), (3, .int v3), (4, .int v4), (5, .int v5)] := hl
  replace hf : fX13_feed S v1 v2 v3 v4 v5 = some res := hf
  rw [fX13_feed] at hf
  refine lv_aload_n C.1 C.2.1 dX13_feed_0 rfl (lv_at hl 0 rfl) ?_
  refine lv_iconst (v := 0) C.1 C.2.1 dX13_feed_1 (by decide) ?_
  refine sh_puti C hw fl_X13_79 fp_11_0 hf tbM_0 rfl dX13_feed_2 (fun S1 H locs hw hf => ?_)
  refine lv_aload_n C.1 C.2.1 dX13_feed_5 rfl (lv_at hl 0 rfl) ?_
  refine sh_geti C hw fl_X13_260 tbM_0 rfl dX13_feed_6 ?_
  refine lv_bipush (v := 20) C.1 C.2.1 dX13_feed_9 (by decide) ?_
  refine lv_iadd C.1 C.2.1 dX13_feed_11 ?_
  refine lv_sipush (v := 400) C.1 C.2.1 dX13_feed_12 (by decide) ?_
  refine sh_icmp_le (tgt := 20) C hf dX13_feed_15 (by decide) (fun hf => ?_) (fun hf => ?_)
  · refine lv_iconst (v := 0) C.1 C.2.1 dX13_feed_20 (by decide) ?_
    refine lv_istore (lv' := [(6, .int 0), (0, .ref (G.2.1 0)), (1, .int v1), (2, .int v2), (3, .int v3), (4, .int v4), (5, .int v5)]) C.1 C.2.1 dX13_feed_21 hl (by decide) rfl (fun ls hl => ?_)
    exact wX13_feed_23 C hr _ S1 v1 v2 v3 v4 v5 0 hf _ _ _ hw (lv_sub hl [1, 2, 3, 4, 5, 6, 0] rfl)
  · refine lv_iconst (v := -1) C.1 C.2.1 dX13_feed_18 (by decide) ?_
    exact sh_ri C hw hr hf dX13_feed_19
def fX13_end (S : sh_St) (v1 : Int32) : Option (Int32 × sh_St) :=
    sh_t (sh_I S 0 0 0) fun S1 =>
    sh_c (fX13_isIn S1 v1 0 (S1.1 0 17)) fun r3 S2 =>
    if r3 = 0 then (sh_b 0 (some (0, S2)))
    else (sh_t (sh_I S2 0 17 v1) fun S4 =>
    sh_b 1 (some (1, S4)))
set_option maxRecDepth 100000 in
set_option maxHeartbeats 4000000 in
theorem kX13_end (l : Launch) (v1 : Int32) : sh_Mi l yX13_end cX13_end 2 .boolean 2 tbM (fun G => [.ref (G.2.1 0), .int v1]) (fun S => fX13_end S v1) := by
  refine sh_mki (by decide) (fun G => Nat.le_of_ble_eq_true rfl) ?_
  intro p e s m args below meth c G A S res ls hf C hr hw hl
  have C : sh_Cx p s m args meth c cX13_end 2 RX13 G A := C
  have hl : lv_has ls 2 [(0, .ref (G.2.1 0)), (1, .int v1)] := hl
  replace hf : fX13_end S v1 = some res := hf
  rw [fX13_end] at hf
  refine lv_aload_n C.1 C.2.1 dX13_end_0 rfl (lv_at hl 0 rfl) ?_
  refine lv_iconst (v := 0) C.1 C.2.1 dX13_end_1 (by decide) ?_
  refine sh_puti C hw fl_X13_79 fp_11_0 hf tbM_0 rfl dX13_end_2 (fun S1 H locs hw hf => ?_)
  refine lv_iload_n C.1 C.2.1 dX13_end_5 rfl (lv_at hl 1 rfl) ?_
  refine lv_iconst (v := 0) C.1 C.2.1 dX13_end_6 (by decide) ?_
  refine lv_aload_n C.1 C.2.1 dX13_end_7 rfl (lv_at hl 0 rfl) ?_
  refine sh_geti C hw fl_X13_260 tbM_0 rfl dX13_end_8 ?_
  refine sh_Si (As := [.int v1, .int 0, .int (S1.1 0 17)]) (rest := []) C hw (kX13_isIn l v1 0 (S1.1 0 17)) yy_X13_isIn ys_X13_isIn ml_X13_263 rfl hf rfl rfl rfl (Nat.le_of_ble_eq_true rfl) (by decide) hl.1 dX13_end_11 (fun r3 S2 H locs hw hf => ?_)
  refine sh_if_ne (tgt := 19) C hf dX13_end_14 (by decide) (fun hf => ?_) (fun hf => ?_)
  · refine lv_aload_n C.1 C.2.1 dX13_end_19 rfl (lv_at hl 0 rfl) ?_
    refine lv_iload_n C.1 C.2.1 dX13_end_20 rfl (lv_at hl 1 rfl) ?_
    refine sh_puti C hw fl_X13_260 fp_11_17 hf tbM_0 rfl dX13_end_21 (fun S4 H locs hw hf => ?_)
    refine lv_iconst (v := 1) C.1 C.2.1 dX13_end_24 (by decide) ?_
    exact sh_rz C hw hr hf dX13_end_25
  · refine lv_iconst (v := 0) C.1 C.2.1 dX13_end_17 (by decide) ?_
    exact sh_rz C hw hr hf dX13_end_18
