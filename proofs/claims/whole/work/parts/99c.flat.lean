/-! constructors without calls, written by gen/mk_ctor.py -/
theorem ob_i : Cond.instanceMethod objectInit ∈ sh_ws := sh_t1 (i := 35) (by decide +kernel) (by decide +kernel)
theorem ob_c : Cond.code objectInit ⟨#[0xb1]⟩ 1 none ∈ sh_ws := sh_t1 (i := 36) (by decide +kernel) (by decide +kernel)
theorem ar_i : Cond.arrayClass .int ∈ sh_ws := sh_t1 (i := 52) (by decide +kernel) (by decide +kernel)
theorem ar_l : Cond.arrayClass .long ∈ sh_ws := sh_t1 (i := 183) (by decide +kernel) (by decide +kernel)
theorem ar_z : Cond.arrayClass .boolean ∈ sh_ws := sh_t6 (i := 164) (by decide +kernel) (by decide +kernel)
theorem ob_X9 : Cond.methodLink RX9 3 objectInit ∈ sh_ws := sh_t1 (i := 42) (by decide +kernel) (by decide +kernel)
theorem im_X9 : Cond.instanceMethod yX9_init ∈ sh_ws := sh_t1 (i := 40) (by decide +kernel) (by decide +kernel)
theorem it_X9 : Cond.instantiable RX9 2 ∈ sh_ws := sh_t1 (i := 38) (by decide +kernel) (by decide +kernel)
def wN_Tape (G : sh_Ev) (h0 : Nat) (a : Nat → Nat) : va_W := [(h0, .inr (7, [.ref (a 1), .int 0])), ((a 1), .inl (G.2.2.2.1 0, 400, .inl (fun _ => nI 0)))]
set_option maxRecDepth 100000 in
set_option maxHeartbeats 8000000 in
theorem kN_Tape (l : Launch) (G : sh_Ev) (h0 : Nat) : sh_Nt l yX9_init cX9_init 1 2 1 400 G [.ref h0] [(h0, .inr (7, [.null, .int 0]))] (wN_Tape G h0) := by
  refine sh_mkN (by decide) rfl (Nat.le_of_ble_eq_true rfl) (fun p e s m args below meth c A ls C hAo hin hr hP hD hS hl => ?_)
  obtain ⟨hx, hb, hml, hown, hts, hK, hA, hlocks, hSf⟩ := id C
  have hl : lv_has ls 1 [(0, .ref h0)] := hl
  refine lv_aload_n hx hb dX9_init_0 rfl (lv_at hl 0 rfl) ?_
  refine W.objInit hx hb hown (hts _ ob_X9) (hts _ ob_i) (hts _ ob_c) rfl (by rw [hml]; exact hl.1) rfl dX9_init_1 (Nat.le_of_ble_eq_true rfl) (Nat.le_of_ble_eq_true rfl) ?_
  refine W.eq (g2 := F0 m 4 ls []) rfl ?_
  refine lv_aload_n hx hb dX9_init_4 rfl (lv_at hl 0 rfl) ?_
  refine lv_sipush (v := nI 400) hx hb dX9_init_5 (by decide) ?_
  refine sh_newi hx hb (hts _ ar_i) hK hP hD hS hA (by omega) (Nat.le_of_ble_eq_true rfl) (Nat.le_of_ble_eq_true rfl) dX9_init_8 (fun q1 H hP hD hS => ?_)
  have hP : va_P G.1 vwCl ([(h0, .inr (7, [.null, .int 0])), (q1, .inl (G.2.2.2.1 0, 400, .inl (fun _ => nI 0)))]) H := hP
  have hD : va_D A ([(h0, .inr (7, [.null, .int 0])), (q1, .inl (G.2.2.2.1 0, 400, .inl (fun _ => nI 0)))]) := hD
  refine va_putF (D := G.1) (ci := 7) (v := .ref q1) (ty := .array .int) (C := RX9) (T := TX9) (N := 2) hx hb hts inX9 tyX9 tyX9_ok nmX9 hown hK hP hD hS 0 rfl rfl 0 (by decide) (hts _ (sh_t1 (i := 43) (by decide +kernel) (by decide +kernel))) (fun _ h9 => h9) rfl hin rfl (by decide +kernel) rfl rfl (Nat.le_of_ble_eq_true rfl) dX9_init_10 (fun H locs hP hD hS => ?_)
  have hP : va_P G.1 vwCl ([(h0, .inr (7, [.ref q1, .int 0])), (q1, .inl (G.2.2.2.1 0, 400, .inl (fun _ => nI 0)))]) H := hP
  have hD : va_D A ([(h0, .inr (7, [.ref q1, .int 0])), (q1, .inl (G.2.2.2.1 0, 400, .inl (fun _ => nI 0)))]) := hD
  refine lv_aload_n hx hb dX9_init_13 rfl (lv_at hl 0 rfl) ?_
  refine lv_iconst (v := 0) hx hb dX9_init_14 (by decide) ?_
  refine va_put (D := G.1) (ci := 7) (v := .int 0) (ty := .int) (C := RX9) (T := TX9) (N := 2) hx hb hts inX9 tyX9 tyX9_ok nmX9 hown hK hP hD hS 0 rfl rfl 1 (by decide) (hts _ (sh_t1 (i := 45) (by decide +kernel) (by decide +kernel))) (fun _ h9 => h9) rfl (by decide +kernel) rfl rfl (Nat.le_of_ble_eq_true rfl) dX9_init_15 (fun H locs hP hD hS => ?_)
  have hP : va_P G.1 vwCl ([(h0, .inr (7, [.ref q1, .int 0])), (q1, .inl (G.2.2.2.1 0, 400, .inl (fun _ => nI 0)))]) H := hP
  have hD : va_D A ([(h0, .inr (7, [.ref q1, .int 0])), (q1, .inl (G.2.2.2.1 0, 400, .inl (fun _ => nI 0)))]) := hD
  exact W.vret hx hb hr (fun t ht hW => ⟨⟨(fun k => if k = 1 then q1 else 0), rfl, trivial, by rw [ht]; exact hP, hD⟩, hS.F ht⟩) hS.2.2 dX9_init_18
theorem ob_X10 : Cond.methodLink RX10 3 objectInit ∈ sh_ws := sh_t1 (i := 58) (by decide +kernel) (by decide +kernel)
theorem im_X10 : Cond.instanceMethod yX10_init ∈ sh_ws := sh_t1 (i := 56) (by decide +kernel) (by decide +kernel)
theorem it_X10 : Cond.instantiable RX10 9 ∈ sh_ws := sh_t1 (i := 54) (by decide +kernel) (by decide +kernel)
def wN_Text (G : sh_Ev) (ta : Nat) (h0 : Nat) (a : Nat → Nat) : va_W := [(h0, .inr (8, [.ref ta, .int 0, .int 0, .int (-1), .int 0, .ref (G.2.2.1 8), .long 0, .long 0, .int 0]))]
set_option maxRecDepth 100000 in
set_option maxHeartbeats 8000000 in
theorem kN_Text (l : Launch) (G : sh_Ev) (ta : Nat) (h0 : Nat) : sh_Nt l yX10_init cX10_init 2 2 0 0 G [.ref h0, .ref ta] [(h0, .inr (8, [.null, .int 0, .int 0, .int 0, .int 0, .null, .long 0, .long 0, .int 0]))] (wN_Text G ta h0) := by
  refine sh_mkN (by decide) rfl (Nat.le_of_ble_eq_true rfl) (fun p e s m args below meth c A ls C hAo hin hr hP hD hS hl => ?_)
  obtain ⟨hx, hb, hml, hown, hts, hK, hA, hlocks, hSf⟩ := id C
  have hl : lv_has ls 2 [(0, .ref h0), (1, .ref ta)] := hl
  refine lv_aload_n hx hb dX10_init_0 rfl (lv_at hl 0 rfl) ?_
  refine W.objInit hx hb hown (hts _ ob_X10) (hts _ ob_i) (hts _ ob_c) rfl (by rw [hml]; exact hl.1) rfl dX10_init_1 (Nat.le_of_ble_eq_true rfl) (Nat.le_of_ble_eq_true rfl) ?_
  refine W.eq (g2 := F0 m 4 ls []) rfl ?_
  refine lv_aload_n hx hb dX10_init_4 rfl (lv_at hl 0 rfl) ?_
  refine lv_iconst (v := 0) hx hb dX10_init_5 (by decide) ?_
  refine va_put (D := G.1) (ci := 8) (v := .int 0) (ty := .int) (C := RX10) (T := TX10) (N := 9) hx hb hts inX10 tyX10 tyX10_ok nmX10 hown hK hP hD hS 0 rfl rfl 1 (by decide) (hts _ (sh_t1 (i := 62) (by decide +kernel) (by decide +kernel))) (fun _ h9 => h9) rfl (by decide +kernel) rfl rfl (Nat.le_of_ble_eq_true rfl) dX10_init_6 (fun H locs hP hD hS => ?_)
  have hP : va_P G.1 vwCl ([(h0, .inr (8, [.null, .int 0, .int 0, .int 0, .int 0, .null, .long 0, .long 0, .int 0]))]) H := hP
  have hD : va_D A ([(h0, .inr (8, [.null, .int 0, .int 0, .int 0, .int 0, .null, .long 0, .long 0, .int 0]))]) := hD
  refine lv_aload_n hx hb dX10_init_9 rfl (lv_at hl 0 rfl) ?_
  refine lv_iconst (v := 0) hx hb dX10_init_10 (by decide) ?_
  refine va_put (D := G.1) (ci := 8) (v := .int 0) (ty := .int) (C := RX10) (T := TX10) (N := 9) hx hb hts inX10 tyX10 tyX10_ok nmX10 hown hK hP hD hS 0 rfl rfl 2 (by decide) (hts _ (sh_t1 (i := 63) (by decide +kernel) (by decide +kernel))) (fun _ h9 => h9) rfl (by decide +kernel) rfl rfl (Nat.le_of_ble_eq_true rfl) dX10_init_11 (fun H locs hP hD hS => ?_)
  have hP : va_P G.1 vwCl ([(h0, .inr (8, [.null, .int 0, .int 0, .int 0, .int 0, .null, .long 0, .long 0, .int 0]))]) H := hP
  have hD : va_D A ([(h0, .inr (8, [.null, .int 0, .int 0, .int 0, .int 0, .null, .long 0, .long 0, .int 0]))]) := hD
  refine lv_aload_n hx hb dX10_init_14 rfl (lv_at hl 0 rfl) ?_
  refine lv_iconst (v := (-1)) hx hb dX10_init_15 (by decide) ?_
  refine va_put (D := G.1) (ci := 8) (v := .int (-1)) (ty := .int) (C := RX10) (T := TX10) (N := 9) hx hb hts inX10 tyX10 tyX10_ok nmX10 hown hK hP hD hS 0 rfl rfl 3 (by decide) (hts _ (sh_t1 (i := 65) (by decide +kernel) (by decide +kernel))) (fun _ h9 => h9) rfl (by decide +kernel) rfl rfl (Nat.le_of_ble_eq_true rfl) dX10_init_16 (fun H locs hP hD hS => ?_)
  have hP : va_P G.1 vwCl ([(h0, .inr (8, [.null, .int 0, .int 0, .int (-1), .int 0, .null, .long 0, .long 0, .int 0]))]) H := hP
  have hD : va_D A ([(h0, .inr (8, [.null, .int 0, .int 0, .int (-1), .int 0, .null, .long 0, .long 0, .int 0]))]) := hD
  refine lv_aload_n hx hb dX10_init_19 rfl (lv_at hl 0 rfl) ?_
  refine lv_iconst (v := 0) hx hb dX10_init_20 (by decide) ?_
  refine va_put (D := G.1) (ci := 8) (v := .int 0) (ty := .int) (C := RX10) (T := TX10) (N := 9) hx hb hts inX10 tyX10 tyX10_ok nmX10 hown hK hP hD hS 0 rfl rfl 4 (by decide) (hts _ (sh_t1 (i := 67) (by decide +kernel) (by decide +kernel))) (fun _ h9 => h9) rfl (by decide +kernel) rfl rfl (Nat.le_of_ble_eq_true rfl) dX10_init_21 (fun H locs hP hD hS => ?_)
  have hP : va_P G.1 vwCl ([(h0, .inr (8, [.null, .int 0, .int 0, .int (-1), .int 0, .null, .long 0, .long 0, .int 0]))]) H := hP
  have hD : va_D A ([(h0, .inr (8, [.null, .int 0, .int 0, .int (-1), .int 0, .null, .long 0, .long 0, .int 0]))]) := hD
  refine lv_aload_n hx hb dX10_init_24 rfl (lv_at hl 0 rfl) ?_
  refine va_gets hx hb ((sh_En C).1 8 (by decide)).1 hS hown (hts _ (sh_t1 (i := 59) (by decide +kernel) (by decide +kernel))) (fun _ h9 => h9) dX10_init_25 ?_
  refine va_put (D := G.1) (ci := 8) (v := .ref (G.2.2.1 8)) (ty := .object "SteadyShelf$Act") (C := RX10) (T := TX10) (N := 9) hx hb hts inX10 tyX10 tyX10_ok nmX10 hown hK hP hD hS 0 rfl rfl 5 (by decide) (hts _ (sh_t1 (i := 69) (by decide +kernel) (by decide +kernel))) (fun _ h9 => h9) rfl (by decide +kernel) rfl rfl (Nat.le_of_ble_eq_true rfl) dX10_init_28 (fun H locs hP hD hS => ?_)
  have hP : va_P G.1 vwCl ([(h0, .inr (8, [.null, .int 0, .int 0, .int (-1), .int 0, .ref (G.2.2.1 8), .long 0, .long 0, .int 0]))]) H := hP
  have hD : va_D A ([(h0, .inr (8, [.null, .int 0, .int 0, .int (-1), .int 0, .ref (G.2.2.1 8), .long 0, .long 0, .int 0]))]) := hD
  refine lv_aload_n hx hb dX10_init_31 rfl (lv_at hl 0 rfl) ?_
  refine lv_lconst (v := 0) hx hb dX10_init_32 (by decide) ?_
  refine va_put (D := G.1) (ci := 8) (v := .long 0) (ty := .long) (C := RX10) (T := TX10) (N := 9) hx hb hts inX10 tyX10 tyX10_ok nmX10 hown hK hP hD hS 0 rfl rfl 6 (by decide) (hts _ (sh_t1 (i := 71) (by decide +kernel) (by decide +kernel))) (fun _ h9 => h9) rfl (by decide +kernel) rfl rfl (Nat.le_of_ble_eq_true rfl) dX10_init_33 (fun H locs hP hD hS => ?_)
  have hP : va_P G.1 vwCl ([(h0, .inr (8, [.null, .int 0, .int 0, .int (-1), .int 0, .ref (G.2.2.1 8), .long 0, .long 0, .int 0]))]) H := hP
  have hD : va_D A ([(h0, .inr (8, [.null, .int 0, .int 0, .int (-1), .int 0, .ref (G.2.2.1 8), .long 0, .long 0, .int 0]))]) := hD
  refine lv_aload_n hx hb dX10_init_36 rfl (lv_at hl 0 rfl) ?_
  refine lv_lconst (v := 0) hx hb dX10_init_37 (by decide) ?_
  refine va_put (D := G.1) (ci := 8) (v := .long 0) (ty := .long) (C := RX10) (T := TX10) (N := 9) hx hb hts inX10 tyX10 tyX10_ok nmX10 hown hK hP hD hS 0 rfl rfl 7 (by decide) (hts _ (sh_t1 (i := 73) (by decide +kernel) (by decide +kernel))) (fun _ h9 => h9) rfl (by decide +kernel) rfl rfl (Nat.le_of_ble_eq_true rfl) dX10_init_38 (fun H locs hP hD hS => ?_)
  have hP : va_P G.1 vwCl ([(h0, .inr (8, [.null, .int 0, .int 0, .int (-1), .int 0, .ref (G.2.2.1 8), .long 0, .long 0, .int 0]))]) H := hP
  have hD : va_D A ([(h0, .inr (8, [.null, .int 0, .int 0, .int (-1), .int 0, .ref (G.2.2.1 8), .long 0, .long 0, .int 0]))]) := hD
  refine lv_aload_n hx hb dX10_init_41 rfl (lv_at hl 0 rfl) ?_
  refine lv_iconst (v := 0) hx hb dX10_init_42 (by decide) ?_
  refine va_put (D := G.1) (ci := 8) (v := .int 0) (ty := .int) (C := RX10) (T := TX10) (N := 9) hx hb hts inX10 tyX10 tyX10_ok nmX10 hown hK hP hD hS 0 rfl rfl 8 (by decide) (hts _ (sh_t1 (i := 75) (by decide +kernel) (by decide +kernel))) (fun _ h9 => h9) rfl (by decide +kernel) rfl rfl (Nat.le_of_ble_eq_true rfl) dX10_init_43 (fun H locs hP hD hS => ?_)
  have hP : va_P G.1 vwCl ([(h0, .inr (8, [.null, .int 0, .int 0, .int (-1), .int 0, .ref (G.2.2.1 8), .long 0, .long 0, .int 0]))]) H := hP
  have hD : va_D A ([(h0, .inr (8, [.null, .int 0, .int 0, .int (-1), .int 0, .ref (G.2.2.1 8), .long 0, .long 0, .int 0]))]) := hD
  refine lv_aload_n hx hb dX10_init_46 rfl (lv_at hl 0 rfl) ?_
  refine lv_aload_n hx hb dX10_init_47 rfl (lv_at hl 1 rfl) ?_
  refine va_putF (D := G.1) (ci := 8) (v := .ref ta) (ty := .object "SteadyShelf$Tape") (C := RX10) (T := TX10) (N := 9) hx hb hts inX10 tyX10 tyX10_ok nmX10 hown hK hP hD hS 0 rfl rfl 0 (by decide) (hts _ (sh_t1 (i := 61) (by decide +kernel) (by decide +kernel))) (fun _ h9 => h9) rfl hin rfl (by decide +kernel) rfl rfl (Nat.le_of_ble_eq_true rfl) dX10_init_48 (fun H locs hP hD hS => ?_)
  have hP : va_P G.1 vwCl ([(h0, .inr (8, [.ref ta, .int 0, .int 0, .int (-1), .int 0, .ref (G.2.2.1 8), .long 0, .long 0, .int 0]))]) H := hP
  have hD : va_D A ([(h0, .inr (8, [.ref ta, .int 0, .int 0, .int (-1), .int 0, .ref (G.2.2.1 8), .long 0, .long 0, .int 0]))]) := hD
  exact W.vret hx hb hr (fun t ht hW => ⟨⟨(fun k => 0), rfl, trivial, by rw [ht]; exact hP, hD⟩, hS.F ht⟩) hS.2.2 dX10_init_51
theorem ob_X5 : Cond.methodLink RX5 3 objectInit ∈ sh_ws := sh_t1 (i := 215) (by decide +kernel) (by decide +kernel)
theorem im_X5 : Cond.instanceMethod yX5_init ∈ sh_ws := sh_t1 (i := 213) (by decide +kernel) (by decide +kernel)
theorem it_X5 : Cond.instantiable RX5 4 ∈ sh_ws := sh_t1 (i := 211) (by decide +kernel) (by decide +kernel)
def wN_Order (G : sh_Ev) (h0 : Nat) (a : Nat → Nat) : va_W := [(h0, .inr (3, [.ref (a 1), .ref (a 2), .ref (a 3), .int 0])), ((a 1), .inl (G.2.2.2.1 0, 40, .inl (fun _ => nI 0))), ((a 2), .inl (G.2.2.2.1 0, 40, .inl (fun _ => nI 0))), ((a 3), .inl (G.2.2.2.1 0, 40, .inl (fun _ => nI 0)))]
set_option maxRecDepth 100000 in
set_option maxHeartbeats 8000000 in
theorem kN_Order (l : Launch) (G : sh_Ev) (h0 : Nat) : sh_Nt l yX5_init cX5_init 1 2 3 120 G [.ref h0] [(h0, .inr (3, [.null, .null, .null, .int 0]))] (wN_Order G h0) := by
  refine sh_mkN (by decide) rfl (Nat.le_of_ble_eq_true rfl) (fun p e s m args below meth c A ls C hAo hin hr hP hD hS hl => ?_)
  obtain ⟨hx, hb, hml, hown, hts, hK, hA, hlocks, hSf⟩ := id C
  have hl : lv_has ls 1 [(0, .ref h0)] := hl
  refine lv_aload_n hx hb dX5_init_0 rfl (lv_at hl 0 rfl) ?_
  refine W.objInit hx hb hown (hts _ ob_X5) (hts _ ob_i) (hts _ ob_c) rfl (by rw [hml]; exact hl.1) rfl dX5_init_1 (Nat.le_of_ble_eq_true rfl) (Nat.le_of_ble_eq_true rfl) ?_
  refine W.eq (g2 := F0 m 4 ls []) rfl ?_
  refine lv_aload_n hx hb dX5_init_4 rfl (lv_at hl 0 rfl) ?_
  refine lv_bipush (v := nI 40) hx hb dX5_init_5 (by decide) ?_
  refine sh_newi hx hb (hts _ ar_i) hK hP hD hS hA (by omega) (Nat.le_of_ble_eq_true rfl) (Nat.le_of_ble_eq_true rfl) dX5_init_7 (fun q1 H hP hD hS => ?_)
  have hP : va_P G.1 vwCl ([(h0, .inr (3, [.null, .null, .null, .int 0])), (q1, .inl (G.2.2.2.1 0, 40, .inl (fun _ => nI 0)))]) H := hP
  have hD : va_D A ([(h0, .inr (3, [.null, .null, .null, .int 0])), (q1, .inl (G.2.2.2.1 0, 40, .inl (fun _ => nI 0)))]) := hD
  refine va_putF (D := G.1) (ci := 3) (v := .ref q1) (ty := .array .int) (C := RX5) (T := TX5) (N := 4) hx hb hts inX5 tyX5 tyX5_ok nmX5 hown hK hP hD hS 0 rfl rfl 0 (by decide) (hts _ (sh_t1 (i := 216) (by decide +kernel) (by decide +kernel))) (fun _ h9 => h9) rfl hin rfl (by decide +kernel) rfl rfl (Nat.le_of_ble_eq_true rfl) dX5_init_9 (fun H locs hP hD hS => ?_)
  have hP : va_P G.1 vwCl ([(h0, .inr (3, [.ref q1, .null, .null, .int 0])), (q1, .inl (G.2.2.2.1 0, 40, .inl (fun _ => nI 0)))]) H := hP
  have hD : va_D A ([(h0, .inr (3, [.ref q1, .null, .null, .int 0])), (q1, .inl (G.2.2.2.1 0, 40, .inl (fun _ => nI 0)))]) := hD
  refine lv_aload_n hx hb dX5_init_12 rfl (lv_at hl 0 rfl) ?_
  refine lv_bipush (v := nI 40) hx hb dX5_init_13 (by decide) ?_
  refine sh_newi hx hb (hts _ ar_i) hK hP hD hS hA (by omega) (Nat.le_of_ble_eq_true rfl) (Nat.le_of_ble_eq_true rfl) dX5_init_15 (fun q2 H hP hD hS => ?_)
  have hP : va_P G.1 vwCl ([(h0, .inr (3, [.ref q1, .null, .null, .int 0])), (q1, .inl (G.2.2.2.1 0, 40, .inl (fun _ => nI 0))), (q2, .inl (G.2.2.2.1 0, 40, .inl (fun _ => nI 0)))]) H := hP
  have hD : va_D A ([(h0, .inr (3, [.ref q1, .null, .null, .int 0])), (q1, .inl (G.2.2.2.1 0, 40, .inl (fun _ => nI 0))), (q2, .inl (G.2.2.2.1 0, 40, .inl (fun _ => nI 0)))]) := hD
  refine va_putF (D := G.1) (ci := 3) (v := .ref q2) (ty := .array .int) (C := RX5) (T := TX5) (N := 4) hx hb hts inX5 tyX5 tyX5_ok nmX5 hown hK hP hD hS 0 rfl rfl 1 (by decide) (hts _ (sh_t1 (i := 220) (by decide +kernel) (by decide +kernel))) (fun _ h9 => h9) rfl hin rfl (by decide +kernel) rfl rfl (Nat.le_of_ble_eq_true rfl) dX5_init_17 (fun H locs hP hD hS => ?_)
  have hP : va_P G.1 vwCl ([(h0, .inr (3, [.ref q1, .ref q2, .null, .int 0])), (q1, .inl (G.2.2.2.1 0, 40, .inl (fun _ => nI 0))), (q2, .inl (G.2.2.2.1 0, 40, .inl (fun _ => nI 0)))]) H := hP
  have hD : va_D A ([(h0, .inr (3, [.ref q1, .ref q2, .null, .int 0])), (q1, .inl (G.2.2.2.1 0, 40, .inl (fun _ => nI 0))), (q2, .inl (G.2.2.2.1 0, 40, .inl (fun _ => nI 0)))]) := hD
  refine lv_aload_n hx hb dX5_init_20 rfl (lv_at hl 0 rfl) ?_
  refine lv_bipush (v := nI 40) hx hb dX5_init_21 (by decide) ?_
  refine sh_newi hx hb (hts _ ar_i) hK hP hD hS hA (by omega) (Nat.le_of_ble_eq_true rfl) (Nat.le_of_ble_eq_true rfl) dX5_init_23 (fun q3 H hP hD hS => ?_)
  have hP : va_P G.1 vwCl ([(h0, .inr (3, [.ref q1, .ref q2, .null, .int 0])), (q1, .inl (G.2.2.2.1 0, 40, .inl (fun _ => nI 0))), (q2, .inl (G.2.2.2.1 0, 40, .inl (fun _ => nI 0))), (q3, .inl (G.2.2.2.1 0, 40, .inl (fun _ => nI 0)))]) H := hP
  have hD : va_D A ([(h0, .inr (3, [.ref q1, .ref q2, .null, .int 0])), (q1, .inl (G.2.2.2.1 0, 40, .inl (fun _ => nI 0))), (q2, .inl (G.2.2.2.1 0, 40, .inl (fun _ => nI 0))), (q3, .inl (G.2.2.2.1 0, 40, .inl (fun _ => nI 0)))]) := hD
  refine va_putF (D := G.1) (ci := 3) (v := .ref q3) (ty := .array .int) (C := RX5) (T := TX5) (N := 4) hx hb hts inX5 tyX5 tyX5_ok nmX5 hown hK hP hD hS 0 rfl rfl 2 (by decide) (hts _ (sh_t1 (i := 222) (by decide +kernel) (by decide +kernel))) (fun _ h9 => h9) rfl hin rfl (by decide +kernel) rfl rfl (Nat.le_of_ble_eq_true rfl) dX5_init_25 (fun H locs hP hD hS => ?_)
  have hP : va_P G.1 vwCl ([(h0, .inr (3, [.ref q1, .ref q2, .ref q3, .int 0])), (q1, .inl (G.2.2.2.1 0, 40, .inl (fun _ => nI 0))), (q2, .inl (G.2.2.2.1 0, 40, .inl (fun _ => nI 0))), (q3, .inl (G.2.2.2.1 0, 40, .inl (fun _ => nI 0)))]) H := hP
  have hD : va_D A ([(h0, .inr (3, [.ref q1, .ref q2, .ref q3, .int 0])), (q1, .inl (G.2.2.2.1 0, 40, .inl (fun _ => nI 0))), (q2, .inl (G.2.2.2.1 0, 40, .inl (fun _ => nI 0))), (q3, .inl (G.2.2.2.1 0, 40, .inl (fun _ => nI 0)))]) := hD
  refine lv_aload_n hx hb dX5_init_28 rfl (lv_at hl 0 rfl) ?_
  refine lv_iconst (v := 0) hx hb dX5_init_29 (by decide) ?_
  refine va_put (D := G.1) (ci := 3) (v := .int 0) (ty := .int) (C := RX5) (T := TX5) (N := 4) hx hb hts inX5 tyX5 tyX5_ok nmX5 hown hK hP hD hS 0 rfl rfl 3 (by decide) (hts _ (sh_t1 (i := 224) (by decide +kernel) (by decide +kernel))) (fun _ h9 => h9) rfl (by decide +kernel) rfl rfl (Nat.le_of_ble_eq_true rfl) dX5_init_30 (fun H locs hP hD hS => ?_)
  have hP : va_P G.1 vwCl ([(h0, .inr (3, [.ref q1, .ref q2, .ref q3, .int 0])), (q1, .inl (G.2.2.2.1 0, 40, .inl (fun _ => nI 0))), (q2, .inl (G.2.2.2.1 0, 40, .inl (fun _ => nI 0))), (q3, .inl (G.2.2.2.1 0, 40, .inl (fun _ => nI 0)))]) H := hP
  have hD : va_D A ([(h0, .inr (3, [.ref q1, .ref q2, .ref q3, .int 0])), (q1, .inl (G.2.2.2.1 0, 40, .inl (fun _ => nI 0))), (q2, .inl (G.2.2.2.1 0, 40, .inl (fun _ => nI 0))), (q3, .inl (G.2.2.2.1 0, 40, .inl (fun _ => nI 0)))]) := hD
  exact W.vret hx hb hr (fun t ht hW => ⟨⟨(fun k => if k = 1 then q1 else if k = 2 then q2 else if k = 3 then q3 else 0), rfl, trivial, by rw [ht]; exact hP, hD⟩, hS.F ht⟩) hS.2.2 dX5_init_33
theorem ob_X11 : Cond.methodLink RX11 3 objectInit ∈ sh_ws := sh_t2 (i := 2) (by decide +kernel) (by decide +kernel)
theorem im_X11 : Cond.instanceMethod yX11_init ∈ sh_ws := sh_t2 (i := 0) (by decide +kernel) (by decide +kernel)
theorem it_X11 : Cond.instantiable RX11 4 ∈ sh_ws := sh_t1 (i := 238) (by decide +kernel) (by decide +kernel)
def wN_Way (G : sh_Ev) (h0 : Nat) (a : Nat → Nat) : va_W := [(h0, .inr (9, [.ref (a 1), .ref (a 2), .int 0, .int 0])), ((a 1), .inl (G.2.2.2.1 0, 42, .inl (fun _ => nI 0))), ((a 2), .inl (G.2.2.2.1 0, 2, .inl (fun _ => nI 0)))]
set_option maxRecDepth 100000 in
set_option maxHeartbeats 8000000 in
theorem kN_Way (l : Launch) (G : sh_Ev) (h0 : Nat) : sh_Nt l yX11_init cX11_init 1 2 2 44 G [.ref h0] [(h0, .inr (9, [.null, .null, .int 0, .int 0]))] (wN_Way G h0) := by
  refine sh_mkN (by decide) rfl (Nat.le_of_ble_eq_true rfl) (fun p e s m args below meth c A ls C hAo hin hr hP hD hS hl => ?_)
  obtain ⟨hx, hb, hml, hown, hts, hK, hA, hlocks, hSf⟩ := id C
  have hl : lv_has ls 1 [(0, .ref h0)] := hl
  refine lv_aload_n hx hb dX11_init_0 rfl (lv_at hl 0 rfl) ?_
  refine W.objInit hx hb hown (hts _ ob_X11) (hts _ ob_i) (hts _ ob_c) rfl (by rw [hml]; exact hl.1) rfl dX11_init_1 (Nat.le_of_ble_eq_true rfl) (Nat.le_of_ble_eq_true rfl) ?_
  refine W.eq (g2 := F0 m 4 ls []) rfl ?_
  refine lv_aload_n hx hb dX11_init_4 rfl (lv_at hl 0 rfl) ?_
  refine lv_bipush (v := nI 42) hx hb dX11_init_5 (by decide) ?_
  refine sh_newi hx hb (hts _ ar_i) hK hP hD hS hA (by omega) (Nat.le_of_ble_eq_true rfl) (Nat.le_of_ble_eq_true rfl) dX11_init_7 (fun q1 H hP hD hS => ?_)
  have hP : va_P G.1 vwCl ([(h0, .inr (9, [.null, .null, .int 0, .int 0])), (q1, .inl (G.2.2.2.1 0, 42, .inl (fun _ => nI 0)))]) H := hP
  have hD : va_D A ([(h0, .inr (9, [.null, .null, .int 0, .int 0])), (q1, .inl (G.2.2.2.1 0, 42, .inl (fun _ => nI 0)))]) := hD
  refine va_putF (D := G.1) (ci := 9) (v := .ref q1) (ty := .array .int) (C := RX11) (T := TX11) (N := 4) hx hb hts inX11 tyX11 tyX11_ok nmX11 hown hK hP hD hS 0 rfl rfl 0 (by decide) (hts _ (sh_t2 (i := 3) (by decide +kernel) (by decide +kernel))) (fun _ h9 => h9) rfl hin rfl (by decide +kernel) rfl rfl (Nat.le_of_ble_eq_true rfl) dX11_init_9 (fun H locs hP hD hS => ?_)
  have hP : va_P G.1 vwCl ([(h0, .inr (9, [.ref q1, .null, .int 0, .int 0])), (q1, .inl (G.2.2.2.1 0, 42, .inl (fun _ => nI 0)))]) H := hP
  have hD : va_D A ([(h0, .inr (9, [.ref q1, .null, .int 0, .int 0])), (q1, .inl (G.2.2.2.1 0, 42, .inl (fun _ => nI 0)))]) := hD
  refine lv_aload_n hx hb dX11_init_12 rfl (lv_at hl 0 rfl) ?_
  refine lv_iconst (v := nI 2) hx hb dX11_init_13 (by decide) ?_
  refine sh_newi hx hb (hts _ ar_i) hK hP hD hS hA (by omega) (Nat.le_of_ble_eq_true rfl) (Nat.le_of_ble_eq_true rfl) dX11_init_14 (fun q2 H hP hD hS => ?_)
  have hP : va_P G.1 vwCl ([(h0, .inr (9, [.ref q1, .null, .int 0, .int 0])), (q1, .inl (G.2.2.2.1 0, 42, .inl (fun _ => nI 0))), (q2, .inl (G.2.2.2.1 0, 2, .inl (fun _ => nI 0)))]) H := hP
  have hD : va_D A ([(h0, .inr (9, [.ref q1, .null, .int 0, .int 0])), (q1, .inl (G.2.2.2.1 0, 42, .inl (fun _ => nI 0))), (q2, .inl (G.2.2.2.1 0, 2, .inl (fun _ => nI 0)))]) := hD
  refine va_putF (D := G.1) (ci := 9) (v := .ref q2) (ty := .array .int) (C := RX11) (T := TX11) (N := 4) hx hb hts inX11 tyX11 tyX11_ok nmX11 hown hK hP hD hS 0 rfl rfl 1 (by decide) (hts _ (sh_t2 (i := 6) (by decide +kernel) (by decide +kernel))) (fun _ h9 => h9) rfl hin rfl (by decide +kernel) rfl rfl (Nat.le_of_ble_eq_true rfl) dX11_init_16 (fun H locs hP hD hS => ?_)
  have hP : va_P G.1 vwCl ([(h0, .inr (9, [.ref q1, .ref q2, .int 0, .int 0])), (q1, .inl (G.2.2.2.1 0, 42, .inl (fun _ => nI 0))), (q2, .inl (G.2.2.2.1 0, 2, .inl (fun _ => nI 0)))]) H := hP
  have hD : va_D A ([(h0, .inr (9, [.ref q1, .ref q2, .int 0, .int 0])), (q1, .inl (G.2.2.2.1 0, 42, .inl (fun _ => nI 0))), (q2, .inl (G.2.2.2.1 0, 2, .inl (fun _ => nI 0)))]) := hD
  refine lv_aload_n hx hb dX11_init_19 rfl (lv_at hl 0 rfl) ?_
  refine lv_iconst (v := 0) hx hb dX11_init_20 (by decide) ?_
  refine va_put (D := G.1) (ci := 9) (v := .int 0) (ty := .int) (C := RX11) (T := TX11) (N := 4) hx hb hts inX11 tyX11 tyX11_ok nmX11 hown hK hP hD hS 0 rfl rfl 2 (by decide) (hts _ (sh_t2 (i := 8) (by decide +kernel) (by decide +kernel))) (fun _ h9 => h9) rfl (by decide +kernel) rfl rfl (Nat.le_of_ble_eq_true rfl) dX11_init_21 (fun H locs hP hD hS => ?_)
  have hP : va_P G.1 vwCl ([(h0, .inr (9, [.ref q1, .ref q2, .int 0, .int 0])), (q1, .inl (G.2.2.2.1 0, 42, .inl (fun _ => nI 0))), (q2, .inl (G.2.2.2.1 0, 2, .inl (fun _ => nI 0)))]) H := hP
  have hD : va_D A ([(h0, .inr (9, [.ref q1, .ref q2, .int 0, .int 0])), (q1, .inl (G.2.2.2.1 0, 42, .inl (fun _ => nI 0))), (q2, .inl (G.2.2.2.1 0, 2, .inl (fun _ => nI 0)))]) := hD
  refine lv_aload_n hx hb dX11_init_24 rfl (lv_at hl 0 rfl) ?_
  refine lv_iconst (v := 0) hx hb dX11_init_25 (by decide) ?_
  refine va_put (D := G.1) (ci := 9) (v := .int 0) (ty := .int) (C := RX11) (T := TX11) (N := 4) hx hb hts inX11 tyX11 tyX11_ok nmX11 hown hK hP hD hS 0 rfl rfl 3 (by decide) (hts _ (sh_t2 (i := 11) (by decide +kernel) (by decide +kernel))) (fun _ h9 => h9) rfl (by decide +kernel) rfl rfl (Nat.le_of_ble_eq_true rfl) dX11_init_26 (fun H locs hP hD hS => ?_)
  have hP : va_P G.1 vwCl ([(h0, .inr (9, [.ref q1, .ref q2, .int 0, .int 0])), (q1, .inl (G.2.2.2.1 0, 42, .inl (fun _ => nI 0))), (q2, .inl (G.2.2.2.1 0, 2, .inl (fun _ => nI 0)))]) H := hP
  have hD : va_D A ([(h0, .inr (9, [.ref q1, .ref q2, .int 0, .int 0])), (q1, .inl (G.2.2.2.1 0, 42, .inl (fun _ => nI 0))), (q2, .inl (G.2.2.2.1 0, 2, .inl (fun _ => nI 0)))]) := hD
  exact W.vret hx hb hr (fun t ht hW => ⟨⟨(fun k => if k = 1 then q1 else if k = 2 then q2 else 0), rfl, trivial, by rw [ht]; exact hP, hD⟩, hS.F ht⟩) hS.2.2 dX11_init_29
theorem ob_X6 : Cond.methodLink RX6 3 objectInit ∈ sh_ws := sh_t2 (i := 28) (by decide +kernel) (by decide +kernel)
theorem im_X6 : Cond.instanceMethod yX6_init ∈ sh_ws := sh_t2 (i := 26) (by decide +kernel) (by decide +kernel)
theorem it_X6 : Cond.instantiable RX6 4 ∈ sh_ws := sh_t2 (i := 24) (by decide +kernel) (by decide +kernel)
def wN_Pool (G : sh_Ev) (h0 : Nat) (a : Nat → Nat) : va_W := [(h0, .inr (4, [.ref (a 1), .ref (a 2), .ref (a 3), .int 0])), ((a 1), .inl (G.2.2.2.1 1, 240, .inr (.inl (fun _ => 0)))), ((a 2), .inl (G.2.2.2.1 0, 240, .inl (fun _ => nI 0))), ((a 3), .inl (G.2.2.2.1 0, 240, .inl (fun _ => nI 0)))]
set_option maxRecDepth 100000 in
set_option maxHeartbeats 8000000 in
theorem kN_Pool (l : Launch) (G : sh_Ev) (h0 : Nat) : sh_Nt l yX6_init cX6_init 1 2 3 720 G [.ref h0] [(h0, .inr (4, [.null, .null, .null, .int 0]))] (wN_Pool G h0) := by
  refine sh_mkN (by decide) rfl (Nat.le_of_ble_eq_true rfl) (fun p e s m args below meth c A ls C hAo hin hr hP hD hS hl => ?_)
  obtain ⟨hx, hb, hml, hown, hts, hK, hA, hlocks, hSf⟩ := id C
  have hl : lv_has ls 1 [(0, .ref h0)] := hl
  refine lv_aload_n hx hb dX6_init_0 rfl (lv_at hl 0 rfl) ?_
  refine W.objInit hx hb hown (hts _ ob_X6) (hts _ ob_i) (hts _ ob_c) rfl (by rw [hml]; exact hl.1) rfl dX6_init_1 (Nat.le_of_ble_eq_true rfl) (Nat.le_of_ble_eq_true rfl) ?_
  refine W.eq (g2 := F0 m 4 ls []) rfl ?_
  refine lv_aload_n hx hb dX6_init_4 rfl (lv_at hl 0 rfl) ?_
  refine lv_sipush (v := nI 240) hx hb dX6_init_5 (by decide) ?_
  refine sh_newl hx hb (hts _ ar_l) hK hP hD hS hA (by omega) (Nat.le_of_ble_eq_true rfl) (Nat.le_of_ble_eq_true rfl) dX6_init_8 (fun q1 H hP hD hS => ?_)
  have hP : va_P G.1 vwCl ([(h0, .inr (4, [.null, .null, .null, .int 0])), (q1, .inl (G.2.2.2.1 1, 240, .inr (.inl (fun _ => 0))))]) H := hP
  have hD : va_D A ([(h0, .inr (4, [.null, .null, .null, .int 0])), (q1, .inl (G.2.2.2.1 1, 240, .inr (.inl (fun _ => 0))))]) := hD
  refine va_putF (D := G.1) (ci := 4) (v := .ref q1) (ty := .array .long) (C := RX6) (T := TX6) (N := 4) hx hb hts inX6 tyX6 tyX6_ok nmX6 hown hK hP hD hS 0 rfl rfl 0 (by decide) (hts _ (sh_t2 (i := 29) (by decide +kernel) (by decide +kernel))) (fun _ h9 => h9) rfl hin rfl (by decide +kernel) rfl rfl (Nat.le_of_ble_eq_true rfl) dX6_init_10 (fun H locs hP hD hS => ?_)
  have hP : va_P G.1 vwCl ([(h0, .inr (4, [.ref q1, .null, .null, .int 0])), (q1, .inl (G.2.2.2.1 1, 240, .inr (.inl (fun _ => 0))))]) H := hP
  have hD : va_D A ([(h0, .inr (4, [.ref q1, .null, .null, .int 0])), (q1, .inl (G.2.2.2.1 1, 240, .inr (.inl (fun _ => 0))))]) := hD
  refine lv_aload_n hx hb dX6_init_13 rfl (lv_at hl 0 rfl) ?_
  refine lv_sipush (v := nI 240) hx hb dX6_init_14 (by decide) ?_
  refine sh_newi hx hb (hts _ ar_i) hK hP hD hS hA (by omega) (Nat.le_of_ble_eq_true rfl) (Nat.le_of_ble_eq_true rfl) dX6_init_17 (fun q2 H hP hD hS => ?_)
  have hP : va_P G.1 vwCl ([(h0, .inr (4, [.ref q1, .null, .null, .int 0])), (q1, .inl (G.2.2.2.1 1, 240, .inr (.inl (fun _ => 0)))), (q2, .inl (G.2.2.2.1 0, 240, .inl (fun _ => nI 0)))]) H := hP
  have hD : va_D A ([(h0, .inr (4, [.ref q1, .null, .null, .int 0])), (q1, .inl (G.2.2.2.1 1, 240, .inr (.inl (fun _ => 0)))), (q2, .inl (G.2.2.2.1 0, 240, .inl (fun _ => nI 0)))]) := hD
  refine va_putF (D := G.1) (ci := 4) (v := .ref q2) (ty := .array .int) (C := RX6) (T := TX6) (N := 4) hx hb hts inX6 tyX6 tyX6_ok nmX6 hown hK hP hD hS 0 rfl rfl 1 (by decide) (hts _ (sh_t2 (i := 32) (by decide +kernel) (by decide +kernel))) (fun _ h9 => h9) rfl hin rfl (by decide +kernel) rfl rfl (Nat.le_of_ble_eq_true rfl) dX6_init_19 (fun H locs hP hD hS => ?_)
  have hP : va_P G.1 vwCl ([(h0, .inr (4, [.ref q1, .ref q2, .null, .int 0])), (q1, .inl (G.2.2.2.1 1, 240, .inr (.inl (fun _ => 0)))), (q2, .inl (G.2.2.2.1 0, 240, .inl (fun _ => nI 0)))]) H := hP
  have hD : va_D A ([(h0, .inr (4, [.ref q1, .ref q2, .null, .int 0])), (q1, .inl (G.2.2.2.1 1, 240, .inr (.inl (fun _ => 0)))), (q2, .inl (G.2.2.2.1 0, 240, .inl (fun _ => nI 0)))]) := hD
  refine lv_aload_n hx hb dX6_init_22 rfl (lv_at hl 0 rfl) ?_
  refine lv_sipush (v := nI 240) hx hb dX6_init_23 (by decide) ?_
  refine sh_newi hx hb (hts _ ar_i) hK hP hD hS hA (by omega) (Nat.le_of_ble_eq_true rfl) (Nat.le_of_ble_eq_true rfl) dX6_init_26 (fun q3 H hP hD hS => ?_)
  have hP : va_P G.1 vwCl ([(h0, .inr (4, [.ref q1, .ref q2, .null, .int 0])), (q1, .inl (G.2.2.2.1 1, 240, .inr (.inl (fun _ => 0)))), (q2, .inl (G.2.2.2.1 0, 240, .inl (fun _ => nI 0))), (q3, .inl (G.2.2.2.1 0, 240, .inl (fun _ => nI 0)))]) H := hP
  have hD : va_D A ([(h0, .inr (4, [.ref q1, .ref q2, .null, .int 0])), (q1, .inl (G.2.2.2.1 1, 240, .inr (.inl (fun _ => 0)))), (q2, .inl (G.2.2.2.1 0, 240, .inl (fun _ => nI 0))), (q3, .inl (G.2.2.2.1 0, 240, .inl (fun _ => nI 0)))]) := hD
  refine va_putF (D := G.1) (ci := 4) (v := .ref q3) (ty := .array .int) (C := RX6) (T := TX6) (N := 4) hx hb hts inX6 tyX6 tyX6_ok nmX6 hown hK hP hD hS 0 rfl rfl 2 (by decide) (hts _ (sh_t2 (i := 35) (by decide +kernel) (by decide +kernel))) (fun _ h9 => h9) rfl hin rfl (by decide +kernel) rfl rfl (Nat.le_of_ble_eq_true rfl) dX6_init_28 (fun H locs hP hD hS => ?_)
  have hP : va_P G.1 vwCl ([(h0, .inr (4, [.ref q1, .ref q2, .ref q3, .int 0])), (q1, .inl (G.2.2.2.1 1, 240, .inr (.inl (fun _ => 0)))), (q2, .inl (G.2.2.2.1 0, 240, .inl (fun _ => nI 0))), (q3, .inl (G.2.2.2.1 0, 240, .inl (fun _ => nI 0)))]) H := hP
  have hD : va_D A ([(h0, .inr (4, [.ref q1, .ref q2, .ref q3, .int 0])), (q1, .inl (G.2.2.2.1 1, 240, .inr (.inl (fun _ => 0)))), (q2, .inl (G.2.2.2.1 0, 240, .inl (fun _ => nI 0))), (q3, .inl (G.2.2.2.1 0, 240, .inl (fun _ => nI 0)))]) := hD
  refine lv_aload_n hx hb dX6_init_31 rfl (lv_at hl 0 rfl) ?_
  refine lv_iconst (v := 0) hx hb dX6_init_32 (by decide) ?_
  refine va_put (D := G.1) (ci := 4) (v := .int 0) (ty := .int) (C := RX6) (T := TX6) (N := 4) hx hb hts inX6 tyX6 tyX6_ok nmX6 hown hK hP hD hS 0 rfl rfl 3 (by decide) (hts _ (sh_t2 (i := 38) (by decide +kernel) (by decide +kernel))) (fun _ h9 => h9) rfl (by decide +kernel) rfl rfl (Nat.le_of_ble_eq_true rfl) dX6_init_33 (fun H locs hP hD hS => ?_)
  have hP : va_P G.1 vwCl ([(h0, .inr (4, [.ref q1, .ref q2, .ref q3, .int 0])), (q1, .inl (G.2.2.2.1 1, 240, .inr (.inl (fun _ => 0)))), (q2, .inl (G.2.2.2.1 0, 240, .inl (fun _ => nI 0))), (q3, .inl (G.2.2.2.1 0, 240, .inl (fun _ => nI 0)))]) H := hP
  have hD : va_D A ([(h0, .inr (4, [.ref q1, .ref q2, .ref q3, .int 0])), (q1, .inl (G.2.2.2.1 1, 240, .inr (.inl (fun _ => 0)))), (q2, .inl (G.2.2.2.1 0, 240, .inl (fun _ => nI 0))), (q3, .inl (G.2.2.2.1 0, 240, .inl (fun _ => nI 0)))]) := hD
  exact W.vret hx hb hr (fun t ht hW => ⟨⟨(fun k => if k = 1 then q1 else if k = 2 then q2 else if k = 3 then q3 else 0), rfl, trivial, by rw [ht]; exact hP, hD⟩, hS.F ht⟩) hS.2.2 dX6_init_36
theorem ob_X2 : Cond.methodLink RX2 3 objectInit ∈ sh_ws := sh_t2 (i := 101) (by decide +kernel) (by decide +kernel)
theorem im_X2 : Cond.instanceMethod yX2_init ∈ sh_ws := sh_t2 (i := 99) (by decide +kernel) (by decide +kernel)
theorem it_X2 : Cond.instantiable RX2 5 ∈ sh_ws := sh_t2 (i := 97) (by decide +kernel) (by decide +kernel)
def wN_Cursor (G : sh_Ev) (h0 : Nat) (a : Nat → Nat) : va_W := [(h0, .inr (0, [.ref (a 1), .int 0, .int 0, .int 0, .int 0])), ((a 1), .inl (G.2.2.2.1 0, 60, .inl (fun _ => nI 0)))]
set_option maxRecDepth 100000 in
set_option maxHeartbeats 8000000 in
theorem kN_Cursor (l : Launch) (G : sh_Ev) (h0 : Nat) : sh_Nt l yX2_init cX2_init 1 2 1 60 G [.ref h0] [(h0, .inr (0, [.null, .int 0, .int 0, .int 0, .int 0]))] (wN_Cursor G h0) := by
  refine sh_mkN (by decide) rfl (Nat.le_of_ble_eq_true rfl) (fun p e s m args below meth c A ls C hAo hin hr hP hD hS hl => ?_)
  obtain ⟨hx, hb, hml, hown, hts, hK, hA, hlocks, hSf⟩ := id C
  have hl : lv_has ls 1 [(0, .ref h0)] := hl
  refine lv_aload_n hx hb dX2_init_0 rfl (lv_at hl 0 rfl) ?_
  refine W.objInit hx hb hown (hts _ ob_X2) (hts _ ob_i) (hts _ ob_c) rfl (by rw [hml]; exact hl.1) rfl dX2_init_1 (Nat.le_of_ble_eq_true rfl) (Nat.le_of_ble_eq_true rfl) ?_
  refine W.eq (g2 := F0 m 4 ls []) rfl ?_
  refine lv_aload_n hx hb dX2_init_4 rfl (lv_at hl 0 rfl) ?_
  refine lv_bipush (v := nI 60) hx hb dX2_init_5 (by decide) ?_
  refine sh_newi hx hb (hts _ ar_i) hK hP hD hS hA (by omega) (Nat.le_of_ble_eq_true rfl) (Nat.le_of_ble_eq_true rfl) dX2_init_7 (fun q1 H hP hD hS => ?_)
  have hP : va_P G.1 vwCl ([(h0, .inr (0, [.null, .int 0, .int 0, .int 0, .int 0])), (q1, .inl (G.2.2.2.1 0, 60, .inl (fun _ => nI 0)))]) H := hP
  have hD : va_D A ([(h0, .inr (0, [.null, .int 0, .int 0, .int 0, .int 0])), (q1, .inl (G.2.2.2.1 0, 60, .inl (fun _ => nI 0)))]) := hD
  refine va_putF (D := G.1) (ci := 0) (v := .ref q1) (ty := .array .int) (C := RX2) (T := TX2) (N := 5) hx hb hts inX2 tyX2 tyX2_ok nmX2 hown hK hP hD hS 0 rfl rfl 0 (by decide) (hts _ (sh_t2 (i := 102) (by decide +kernel) (by decide +kernel))) (fun _ h9 => h9) rfl hin rfl (by decide +kernel) rfl rfl (Nat.le_of_ble_eq_true rfl) dX2_init_9 (fun H locs hP hD hS => ?_)
  have hP : va_P G.1 vwCl ([(h0, .inr (0, [.ref q1, .int 0, .int 0, .int 0, .int 0])), (q1, .inl (G.2.2.2.1 0, 60, .inl (fun _ => nI 0)))]) H := hP
  have hD : va_D A ([(h0, .inr (0, [.ref q1, .int 0, .int 0, .int 0, .int 0])), (q1, .inl (G.2.2.2.1 0, 60, .inl (fun _ => nI 0)))]) := hD
  refine lv_aload_n hx hb dX2_init_12 rfl (lv_at hl 0 rfl) ?_
  refine lv_iconst (v := 0) hx hb dX2_init_13 (by decide) ?_
  refine va_put (D := G.1) (ci := 0) (v := .int 0) (ty := .boolean) (C := RX2) (T := TX2) (N := 5) hx hb hts inX2 tyX2 tyX2_ok nmX2 hown hK hP hD hS 0 rfl rfl 1 (by decide) (hts _ (sh_t2 (i := 104) (by decide +kernel) (by decide +kernel))) (fun _ h9 => h9) rfl (by decide +kernel) rfl rfl (Nat.le_of_ble_eq_true rfl) dX2_init_14 (fun H locs hP hD hS => ?_)
  have hP : va_P G.1 vwCl ([(h0, .inr (0, [.ref q1, .int 0, .int 0, .int 0, .int 0])), (q1, .inl (G.2.2.2.1 0, 60, .inl (fun _ => nI 0)))]) H := hP
  have hD : va_D A ([(h0, .inr (0, [.ref q1, .int 0, .int 0, .int 0, .int 0])), (q1, .inl (G.2.2.2.1 0, 60, .inl (fun _ => nI 0)))]) := hD
  refine lv_aload_n hx hb dX2_init_17 rfl (lv_at hl 0 rfl) ?_
  refine lv_iconst (v := 0) hx hb dX2_init_18 (by decide) ?_
  refine va_put (D := G.1) (ci := 0) (v := .int 0) (ty := .int) (C := RX2) (T := TX2) (N := 5) hx hb hts inX2 tyX2 tyX2_ok nmX2 hown hK hP hD hS 0 rfl rfl 2 (by decide) (hts _ (sh_t2 (i := 106) (by decide +kernel) (by decide +kernel))) (fun _ h9 => h9) rfl (by decide +kernel) rfl rfl (Nat.le_of_ble_eq_true rfl) dX2_init_19 (fun H locs hP hD hS => ?_)
  have hP : va_P G.1 vwCl ([(h0, .inr (0, [.ref q1, .int 0, .int 0, .int 0, .int 0])), (q1, .inl (G.2.2.2.1 0, 60, .inl (fun _ => nI 0)))]) H := hP
  have hD : va_D A ([(h0, .inr (0, [.ref q1, .int 0, .int 0, .int 0, .int 0])), (q1, .inl (G.2.2.2.1 0, 60, .inl (fun _ => nI 0)))]) := hD
  refine lv_aload_n hx hb dX2_init_22 rfl (lv_at hl 0 rfl) ?_
  refine lv_iconst (v := 0) hx hb dX2_init_23 (by decide) ?_
  refine va_put (D := G.1) (ci := 0) (v := .int 0) (ty := .int) (C := RX2) (T := TX2) (N := 5) hx hb hts inX2 tyX2 tyX2_ok nmX2 hown hK hP hD hS 0 rfl rfl 3 (by decide) (hts _ (sh_t2 (i := 108) (by decide +kernel) (by decide +kernel))) (fun _ h9 => h9) rfl (by decide +kernel) rfl rfl (Nat.le_of_ble_eq_true rfl) dX2_init_24 (fun H locs hP hD hS => ?_)
  have hP : va_P G.1 vwCl ([(h0, .inr (0, [.ref q1, .int 0, .int 0, .int 0, .int 0])), (q1, .inl (G.2.2.2.1 0, 60, .inl (fun _ => nI 0)))]) H := hP
  have hD : va_D A ([(h0, .inr (0, [.ref q1, .int 0, .int 0, .int 0, .int 0])), (q1, .inl (G.2.2.2.1 0, 60, .inl (fun _ => nI 0)))]) := hD
  refine lv_aload_n hx hb dX2_init_27 rfl (lv_at hl 0 rfl) ?_
  refine lv_iconst (v := 0) hx hb dX2_init_28 (by decide) ?_
  refine va_put (D := G.1) (ci := 0) (v := .int 0) (ty := .int) (C := RX2) (T := TX2) (N := 5) hx hb hts inX2 tyX2 tyX2_ok nmX2 hown hK hP hD hS 0 rfl rfl 4 (by decide) (hts _ (sh_t2 (i := 110) (by decide +kernel) (by decide +kernel))) (fun _ h9 => h9) rfl (by decide +kernel) rfl rfl (Nat.le_of_ble_eq_true rfl) dX2_init_29 (fun H locs hP hD hS => ?_)
  have hP : va_P G.1 vwCl ([(h0, .inr (0, [.ref q1, .int 0, .int 0, .int 0, .int 0])), (q1, .inl (G.2.2.2.1 0, 60, .inl (fun _ => nI 0)))]) H := hP
  have hD : va_D A ([(h0, .inr (0, [.ref q1, .int 0, .int 0, .int 0, .int 0])), (q1, .inl (G.2.2.2.1 0, 60, .inl (fun _ => nI 0)))]) := hD
  exact W.vret hx hb hr (fun t ht hW => ⟨⟨(fun k => if k = 1 then q1 else 0), rfl, trivial, by rw [ht]; exact hP, hD⟩, hS.F ht⟩) hS.2.2 dX2_init_32
theorem ob_X7 : Cond.methodLink RX7 3 objectInit ∈ sh_ws := sh_t1 (i := 101) (by decide +kernel) (by decide +kernel)
theorem im_X7 : Cond.instanceMethod yX7_init ∈ sh_ws := sh_t1 (i := 99) (by decide +kernel) (by decide +kernel)
theorem it_X7 : Cond.instantiable RX7 13 ∈ sh_ws := sh_t1 (i := 97) (by decide +kernel) (by decide +kernel)
def wN_Store (G : sh_Ev) (h0 : Nat) (a : Nat → Nat) : va_W := [(h0, .inr (5, [.int 6, .int 1, .int 0, .int 0, .ref (a 1), .ref (a 2), .ref (a 3), .ref (a 4), .ref (a 5), .ref (a 6), .ref (a 7), .ref (a 8), .ref (a 9)])), ((a 1), .inl (G.2.2.2.1 0, 40, .inl (upd (fun _ => nI 0) 0 (nI 1)))), ((a 2), .inl (G.2.2.2.1 0, 40, .inl (fun _ => nI 0))), ((a 3), .inl (G.2.2.2.1 0, 40, .inl (fun _ => nI 0))), ((a 4), .inl (G.2.2.2.1 1, 240, .inr (.inl (fun _ => 0)))), ((a 5), .inl (G.2.2.2.1 0, 240, .inl (fun _ => nI 0))), ((a 6), .inl (G.2.2.2.1 0, 240, .inl (fun _ => nI 0))), ((a 7), .inl (G.2.2.2.1 0, 240, .inl (fun _ => nI 0))), ((a 8), .inl (G.2.2.2.1 0, 240, .inl (fun _ => nI 0))), ((a 9), .inl (G.2.2.2.1 0, 240, .inl (fun _ => nI 0)))]
set_option maxRecDepth 100000 in
set_option maxHeartbeats 8000000 in
theorem kN_Store (l : Launch) (G : sh_Ev) (h0 : Nat) : sh_Nt l yX7_init cX7_init 1 2 9 1560 G [.ref h0] [(h0, .inr (5, [.int 0, .int 0, .int 0, .int 0, .null, .null, .null, .null, .null, .null, .null, .null, .null]))] (wN_Store G h0) := by
  refine sh_mkN (by decide) rfl (Nat.le_of_ble_eq_true rfl) (fun p e s m args below meth c A ls C hAo hin hr hP hD hS hl => ?_)
  obtain ⟨hx, hb, hml, hown, hts, hK, hA, hlocks, hSf⟩ := id C
  have hl : lv_has ls 1 [(0, .ref h0)] := hl
  refine lv_aload_n hx hb dX7_init_0 rfl (lv_at hl 0 rfl) ?_
  refine W.objInit hx hb hown (hts _ ob_X7) (hts _ ob_i) (hts _ ob_c) rfl (by rw [hml]; exact hl.1) rfl dX7_init_1 (Nat.le_of_ble_eq_true rfl) (Nat.le_of_ble_eq_true rfl) ?_
  refine W.eq (g2 := F0 m 4 ls []) rfl ?_
  refine lv_aload_n hx hb dX7_init_4 rfl (lv_at hl 0 rfl) ?_
  refine lv_bipush (v := 6) hx hb dX7_init_5 (by decide) ?_
  refine va_put (D := G.1) (ci := 5) (v := .int 6) (ty := .int) (C := RX7) (T := TX7) (N := 13) hx hb hts inX7 tyX7 tyX7_ok nmX7 hown hK hP hD hS 0 rfl rfl 0 (by decide) (hts _ (sh_t1 (i := 102) (by decide +kernel) (by decide +kernel))) (fun _ h9 => h9) rfl (by decide +kernel) rfl rfl (Nat.le_of_ble_eq_true rfl) dX7_init_7 (fun H locs hP hD hS => ?_)
  have hP : va_P G.1 vwCl ([(h0, .inr (5, [.int 6, .int 0, .int 0, .int 0, .null, .null, .null, .null, .null, .null, .null, .null, .null]))]) H := hP
  have hD : va_D A ([(h0, .inr (5, [.int 6, .int 0, .int 0, .int 0, .null, .null, .null, .null, .null, .null, .null, .null, .null]))]) := hD
  refine lv_aload_n hx hb dX7_init_10 rfl (lv_at hl 0 rfl) ?_
  refine lv_iconst (v := 1) hx hb dX7_init_11 (by decide) ?_
  refine va_put (D := G.1) (ci := 5) (v := .int 1) (ty := .int) (C := RX7) (T := TX7) (N := 13) hx hb hts inX7 tyX7 tyX7_ok nmX7 hown hK hP hD hS 0 rfl rfl 1 (by decide) (hts _ (sh_t1 (i := 106) (by decide +kernel) (by decide +kernel))) (fun _ h9 => h9) rfl (by decide +kernel) rfl rfl (Nat.le_of_ble_eq_true rfl) dX7_init_12 (fun H locs hP hD hS => ?_)
  have hP : va_P G.1 vwCl ([(h0, .inr (5, [.int 6, .int 1, .int 0, .int 0, .null, .null, .null, .null, .null, .null, .null, .null, .null]))]) H := hP
  have hD : va_D A ([(h0, .inr (5, [.int 6, .int 1, .int 0, .int 0, .null, .null, .null, .null, .null, .null, .null, .null, .null]))]) := hD
  refine lv_aload_n hx hb dX7_init_15 rfl (lv_at hl 0 rfl) ?_
  refine lv_iconst (v := 0) hx hb dX7_init_16 (by decide) ?_
  refine va_put (D := G.1) (ci := 5) (v := .int 0) (ty := .boolean) (C := RX7) (T := TX7) (N := 13) hx hb hts inX7 tyX7 tyX7_ok nmX7 hown hK hP hD hS 0 rfl rfl 2 (by decide) (hts _ (sh_t1 (i := 110) (by decide +kernel) (by decide +kernel))) (fun _ h9 => h9) rfl (by decide +kernel) rfl rfl (Nat.le_of_ble_eq_true rfl) dX7_init_17 (fun H locs hP hD hS => ?_)
  have hP : va_P G.1 vwCl ([(h0, .inr (5, [.int 6, .int 1, .int 0, .int 0, .null, .null, .null, .null, .null, .null, .null, .null, .null]))]) H := hP
  have hD : va_D A ([(h0, .inr (5, [.int 6, .int 1, .int 0, .int 0, .null, .null, .null, .null, .null, .null, .null, .null, .null]))]) := hD
  refine lv_aload_n hx hb dX7_init_20 rfl (lv_at hl 0 rfl) ?_
  refine lv_iconst (v := 0) hx hb dX7_init_21 (by decide) ?_
  refine va_put (D := G.1) (ci := 5) (v := .int 0) (ty := .int) (C := RX7) (T := TX7) (N := 13) hx hb hts inX7 tyX7 tyX7_ok nmX7 hown hK hP hD hS 0 rfl rfl 3 (by decide) (hts _ (sh_t1 (i := 114) (by decide +kernel) (by decide +kernel))) (fun _ h9 => h9) rfl (by decide +kernel) rfl rfl (Nat.le_of_ble_eq_true rfl) dX7_init_22 (fun H locs hP hD hS => ?_)
  have hP : va_P G.1 vwCl ([(h0, .inr (5, [.int 6, .int 1, .int 0, .int 0, .null, .null, .null, .null, .null, .null, .null, .null, .null]))]) H := hP
  have hD : va_D A ([(h0, .inr (5, [.int 6, .int 1, .int 0, .int 0, .null, .null, .null, .null, .null, .null, .null, .null, .null]))]) := hD
  refine lv_aload_n hx hb dX7_init_25 rfl (lv_at hl 0 rfl) ?_
  refine lv_bipush (v := nI 40) hx hb dX7_init_26 (by decide) ?_
  refine sh_newi hx hb (hts _ ar_i) hK hP hD hS hA (by omega) (Nat.le_of_ble_eq_true rfl) (Nat.le_of_ble_eq_true rfl) dX7_init_28 (fun q1 H hP hD hS => ?_)
  have hP : va_P G.1 vwCl ([(h0, .inr (5, [.int 6, .int 1, .int 0, .int 0, .null, .null, .null, .null, .null, .null, .null, .null, .null])), (q1, .inl (G.2.2.2.1 0, 40, .inl (fun _ => nI 0)))]) H := hP
  have hD : va_D A ([(h0, .inr (5, [.int 6, .int 1, .int 0, .int 0, .null, .null, .null, .null, .null, .null, .null, .null, .null])), (q1, .inl (G.2.2.2.1 0, 40, .inl (fun _ => nI 0)))]) := hD
  refine va_putF (D := G.1) (ci := 5) (v := .ref q1) (ty := .array .int) (C := RX7) (T := TX7) (N := 13) hx hb hts inX7 tyX7 tyX7_ok nmX7 hown hK hP hD hS 0 rfl rfl 4 (by decide) (hts _ (sh_t1 (i := 119) (by decide +kernel) (by decide +kernel))) (fun _ h9 => h9) rfl hin rfl (by decide +kernel) rfl rfl (Nat.le_of_ble_eq_true rfl) dX7_init_30 (fun H locs hP hD hS => ?_)
  have hP : va_P G.1 vwCl ([(h0, .inr (5, [.int 6, .int 1, .int 0, .int 0, .ref q1, .null, .null, .null, .null, .null, .null, .null, .null])), (q1, .inl (G.2.2.2.1 0, 40, .inl (fun _ => nI 0)))]) H := hP
  have hD : va_D A ([(h0, .inr (5, [.int 6, .int 1, .int 0, .int 0, .ref q1, .null, .null, .null, .null, .null, .null, .null, .null])), (q1, .inl (G.2.2.2.1 0, 40, .inl (fun _ => nI 0)))]) := hD
  refine lv_aload_n hx hb dX7_init_33 rfl (lv_at hl 0 rfl) ?_
  refine lv_bipush (v := nI 40) hx hb dX7_init_34 (by decide) ?_
  refine sh_newi hx hb (hts _ ar_i) hK hP hD hS hA (by omega) (Nat.le_of_ble_eq_true rfl) (Nat.le_of_ble_eq_true rfl) dX7_init_36 (fun q2 H hP hD hS => ?_)
  have hP : va_P G.1 vwCl ([(h0, .inr (5, [.int 6, .int 1, .int 0, .int 0, .ref q1, .null, .null, .null, .null, .null, .null, .null, .null])), (q1, .inl (G.2.2.2.1 0, 40, .inl (fun _ => nI 0))), (q2, .inl (G.2.2.2.1 0, 40, .inl (fun _ => nI 0)))]) H := hP
  have hD : va_D A ([(h0, .inr (5, [.int 6, .int 1, .int 0, .int 0, .ref q1, .null, .null, .null, .null, .null, .null, .null, .null])), (q1, .inl (G.2.2.2.1 0, 40, .inl (fun _ => nI 0))), (q2, .inl (G.2.2.2.1 0, 40, .inl (fun _ => nI 0)))]) := hD
  refine va_putF (D := G.1) (ci := 5) (v := .ref q2) (ty := .array .int) (C := RX7) (T := TX7) (N := 13) hx hb hts inX7 tyX7 tyX7_ok nmX7 hown hK hP hD hS 0 rfl rfl 5 (by decide) (hts _ (sh_t1 (i := 122) (by decide +kernel) (by decide +kernel))) (fun _ h9 => h9) rfl hin rfl (by decide +kernel) rfl rfl (Nat.le_of_ble_eq_true rfl) dX7_init_38 (fun H locs hP hD hS => ?_)
  have hP : va_P G.1 vwCl ([(h0, .inr (5, [.int 6, .int 1, .int 0, .int 0, .ref q1, .ref q2, .null, .null, .null, .null, .null, .null, .null])), (q1, .inl (G.2.2.2.1 0, 40, .inl (fun _ => nI 0))), (q2, .inl (G.2.2.2.1 0, 40, .inl (fun _ => nI 0)))]) H := hP
  have hD : va_D A ([(h0, .inr (5, [.int 6, .int 1, .int 0, .int 0, .ref q1, .ref q2, .null, .null, .null, .null, .null, .null, .null])), (q1, .inl (G.2.2.2.1 0, 40, .inl (fun _ => nI 0))), (q2, .inl (G.2.2.2.1 0, 40, .inl (fun _ => nI 0)))]) := hD
  refine lv_aload_n hx hb dX7_init_41 rfl (lv_at hl 0 rfl) ?_
  refine lv_bipush (v := nI 40) hx hb dX7_init_42 (by decide) ?_
  refine sh_newi hx hb (hts _ ar_i) hK hP hD hS hA (by omega) (Nat.le_of_ble_eq_true rfl) (Nat.le_of_ble_eq_true rfl) dX7_init_44 (fun q3 H hP hD hS => ?_)
  have hP : va_P G.1 vwCl ([(h0, .inr (5, [.int 6, .int 1, .int 0, .int 0, .ref q1, .ref q2, .null, .null, .null, .null, .null, .null, .null])), (q1, .inl (G.2.2.2.1 0, 40, .inl (fun _ => nI 0))), (q2, .inl (G.2.2.2.1 0, 40, .inl (fun _ => nI 0))), (q3, .inl (G.2.2.2.1 0, 40, .inl (fun _ => nI 0)))]) H := hP
  have hD : va_D A ([(h0, .inr (5, [.int 6, .int 1, .int 0, .int 0, .ref q1, .ref q2, .null, .null, .null, .null, .null, .null, .null])), (q1, .inl (G.2.2.2.1 0, 40, .inl (fun _ => nI 0))), (q2, .inl (G.2.2.2.1 0, 40, .inl (fun _ => nI 0))), (q3, .inl (G.2.2.2.1 0, 40, .inl (fun _ => nI 0)))]) := hD
  refine va_putF (D := G.1) (ci := 5) (v := .ref q3) (ty := .array .int) (C := RX7) (T := TX7) (N := 13) hx hb hts inX7 tyX7 tyX7_ok nmX7 hown hK hP hD hS 0 rfl rfl 6 (by decide) (hts _ (sh_t1 (i := 128) (by decide +kernel) (by decide +kernel))) (fun _ h9 => h9) rfl hin rfl (by decide +kernel) rfl rfl (Nat.le_of_ble_eq_true rfl) dX7_init_46 (fun H locs hP hD hS => ?_)
  have hP : va_P G.1 vwCl ([(h0, .inr (5, [.int 6, .int 1, .int 0, .int 0, .ref q1, .ref q2, .ref q3, .null, .null, .null, .null, .null, .null])), (q1, .inl (G.2.2.2.1 0, 40, .inl (fun _ => nI 0))), (q2, .inl (G.2.2.2.1 0, 40, .inl (fun _ => nI 0))), (q3, .inl (G.2.2.2.1 0, 40, .inl (fun _ => nI 0)))]) H := hP
  have hD : va_D A ([(h0, .inr (5, [.int 6, .int 1, .int 0, .int 0, .ref q1, .ref q2, .ref q3, .null, .null, .null, .null, .null, .null])), (q1, .inl (G.2.2.2.1 0, 40, .inl (fun _ => nI 0))), (q2, .inl (G.2.2.2.1 0, 40, .inl (fun _ => nI 0))), (q3, .inl (G.2.2.2.1 0, 40, .inl (fun _ => nI 0)))]) := hD
  refine lv_aload_n hx hb dX7_init_49 rfl (lv_at hl 0 rfl) ?_
  refine lv_sipush (v := nI 240) hx hb dX7_init_50 (by decide) ?_
  refine sh_newl hx hb (hts _ ar_l) hK hP hD hS hA (by omega) (Nat.le_of_ble_eq_true rfl) (Nat.le_of_ble_eq_true rfl) dX7_init_53 (fun q4 H hP hD hS => ?_)
  have hP : va_P G.1 vwCl ([(h0, .inr (5, [.int 6, .int 1, .int 0, .int 0, .ref q1, .ref q2, .ref q3, .null, .null, .null, .null, .null, .null])), (q1, .inl (G.2.2.2.1 0, 40, .inl (fun _ => nI 0))), (q2, .inl (G.2.2.2.1 0, 40, .inl (fun _ => nI 0))), (q3, .inl (G.2.2.2.1 0, 40, .inl (fun _ => nI 0))), (q4, .inl (G.2.2.2.1 1, 240, .inr (.inl (fun _ => 0))))]) H := hP
  have hD : va_D A ([(h0, .inr (5, [.int 6, .int 1, .int 0, .int 0, .ref q1, .ref q2, .ref q3, .null, .null, .null, .null, .null, .null])), (q1, .inl (G.2.2.2.1 0, 40, .inl (fun _ => nI 0))), (q2, .inl (G.2.2.2.1 0, 40, .inl (fun _ => nI 0))), (q3, .inl (G.2.2.2.1 0, 40, .inl (fun _ => nI 0))), (q4, .inl (G.2.2.2.1 1, 240, .inr (.inl (fun _ => 0))))]) := hD
  refine va_putF (D := G.1) (ci := 5) (v := .ref q4) (ty := .array .long) (C := RX7) (T := TX7) (N := 13) hx hb hts inX7 tyX7 tyX7_ok nmX7 hown hK hP hD hS 0 rfl rfl 7 (by decide) (hts _ (sh_t1 (i := 131) (by decide +kernel) (by decide +kernel))) (fun _ h9 => h9) rfl hin rfl (by decide +kernel) rfl rfl (Nat.le_of_ble_eq_true rfl) dX7_init_55 (fun H locs hP hD hS => ?_)
  have hP : va_P G.1 vwCl ([(h0, .inr (5, [.int 6, .int 1, .int 0, .int 0, .ref q1, .ref q2, .ref q3, .ref q4, .null, .null, .null, .null, .null])), (q1, .inl (G.2.2.2.1 0, 40, .inl (fun _ => nI 0))), (q2, .inl (G.2.2.2.1 0, 40, .inl (fun _ => nI 0))), (q3, .inl (G.2.2.2.1 0, 40, .inl (fun _ => nI 0))), (q4, .inl (G.2.2.2.1 1, 240, .inr (.inl (fun _ => 0))))]) H := hP
  have hD : va_D A ([(h0, .inr (5, [.int 6, .int 1, .int 0, .int 0, .ref q1, .ref q2, .ref q3, .ref q4, .null, .null, .null, .null, .null])), (q1, .inl (G.2.2.2.1 0, 40, .inl (fun _ => nI 0))), (q2, .inl (G.2.2.2.1 0, 40, .inl (fun _ => nI 0))), (q3, .inl (G.2.2.2.1 0, 40, .inl (fun _ => nI 0))), (q4, .inl (G.2.2.2.1 1, 240, .inr (.inl (fun _ => 0))))]) := hD
  refine lv_aload_n hx hb dX7_init_58 rfl (lv_at hl 0 rfl) ?_
  refine lv_sipush (v := nI 240) hx hb dX7_init_59 (by decide) ?_
  refine sh_newi hx hb (hts _ ar_i) hK hP hD hS hA (by omega) (Nat.le_of_ble_eq_true rfl) (Nat.le_of_ble_eq_true rfl) dX7_init_62 (fun q5 H hP hD hS => ?_)
  have hP : va_P G.1 vwCl ([(h0, .inr (5, [.int 6, .int 1, .int 0, .int 0, .ref q1, .ref q2, .ref q3, .ref q4, .null, .null, .null, .null, .null])), (q1, .inl (G.2.2.2.1 0, 40, .inl (fun _ => nI 0))), (q2, .inl (G.2.2.2.1 0, 40, .inl (fun _ => nI 0))), (q3, .inl (G.2.2.2.1 0, 40, .inl (fun _ => nI 0))), (q4, .inl (G.2.2.2.1 1, 240, .inr (.inl (fun _ => 0)))), (q5, .inl (G.2.2.2.1 0, 240, .inl (fun _ => nI 0)))]) H := hP
  have hD : va_D A ([(h0, .inr (5, [.int 6, .int 1, .int 0, .int 0, .ref q1, .ref q2, .ref q3, .ref q4, .null, .null, .null, .null, .null])), (q1, .inl (G.2.2.2.1 0, 40, .inl (fun _ => nI 0))), (q2, .inl (G.2.2.2.1 0, 40, .inl (fun _ => nI 0))), (q3, .inl (G.2.2.2.1 0, 40, .inl (fun _ => nI 0))), (q4, .inl (G.2.2.2.1 1, 240, .inr (.inl (fun _ => 0)))), (q5, .inl (G.2.2.2.1 0, 240, .inl (fun _ => nI 0)))]) := hD
  refine va_putF (D := G.1) (ci := 5) (v := .ref q5) (ty := .array .int) (C := RX7) (T := TX7) (N := 13) hx hb hts inX7 tyX7 tyX7_ok nmX7 hown hK hP hD hS 0 rfl rfl 8 (by decide) (hts _ (sh_t1 (i := 135) (by decide +kernel) (by decide +kernel))) (fun _ h9 => h9) rfl hin rfl (by decide +kernel) rfl rfl (Nat.le_of_ble_eq_true rfl) dX7_init_64 (fun H locs hP hD hS => ?_)
  have hP : va_P G.1 vwCl ([(h0, .inr (5, [.int 6, .int 1, .int 0, .int 0, .ref q1, .ref q2, .ref q3, .ref q4, .ref q5, .null, .null, .null, .null])), (q1, .inl (G.2.2.2.1 0, 40, .inl (fun _ => nI 0))), (q2, .inl (G.2.2.2.1 0, 40, .inl (fun _ => nI 0))), (q3, .inl (G.2.2.2.1 0, 40, .inl (fun _ => nI 0))), (q4, .inl (G.2.2.2.1 1, 240, .inr (.inl (fun _ => 0)))), (q5, .inl (G.2.2.2.1 0, 240, .inl (fun _ => nI 0)))]) H := hP
  have hD : va_D A ([(h0, .inr (5, [.int 6, .int 1, .int 0, .int 0, .ref q1, .ref q2, .ref q3, .ref q4, .ref q5, .null, .null, .null, .null])), (q1, .inl (G.2.2.2.1 0, 40, .inl (fun _ => nI 0))), (q2, .inl (G.2.2.2.1 0, 40, .inl (fun _ => nI 0))), (q3, .inl (G.2.2.2.1 0, 40, .inl (fun _ => nI 0))), (q4, .inl (G.2.2.2.1 1, 240, .inr (.inl (fun _ => 0)))), (q5, .inl (G.2.2.2.1 0, 240, .inl (fun _ => nI 0)))]) := hD
  refine lv_aload_n hx hb dX7_init_67 rfl (lv_at hl 0 rfl) ?_
  refine lv_sipush (v := nI 240) hx hb dX7_init_68 (by decide) ?_
  refine sh_newi hx hb (hts _ ar_i) hK hP hD hS hA (by omega) (Nat.le_of_ble_eq_true rfl) (Nat.le_of_ble_eq_true rfl) dX7_init_71 (fun q6 H hP hD hS => ?_)
  have hP : va_P G.1 vwCl ([(h0, .inr (5, [.int 6, .int 1, .int 0, .int 0, .ref q1, .ref q2, .ref q3, .ref q4, .ref q5, .null, .null, .null, .null])), (q1, .inl (G.2.2.2.1 0, 40, .inl (fun _ => nI 0))), (q2, .inl (G.2.2.2.1 0, 40, .inl (fun _ => nI 0))), (q3, .inl (G.2.2.2.1 0, 40, .inl (fun _ => nI 0))), (q4, .inl (G.2.2.2.1 1, 240, .inr (.inl (fun _ => 0)))), (q5, .inl (G.2.2.2.1 0, 240, .inl (fun _ => nI 0))), (q6, .inl (G.2.2.2.1 0, 240, .inl (fun _ => nI 0)))]) H := hP
  have hD : va_D A ([(h0, .inr (5, [.int 6, .int 1, .int 0, .int 0, .ref q1, .ref q2, .ref q3, .ref q4, .ref q5, .null, .null, .null, .null])), (q1, .inl (G.2.2.2.1 0, 40, .inl (fun _ => nI 0))), (q2, .inl (G.2.2.2.1 0, 40, .inl (fun _ => nI 0))), (q3, .inl (G.2.2.2.1 0, 40, .inl (fun _ => nI 0))), (q4, .inl (G.2.2.2.1 1, 240, .inr (.inl (fun _ => 0)))), (q5, .inl (G.2.2.2.1 0, 240, .inl (fun _ => nI 0))), (q6, .inl (G.2.2.2.1 0, 240, .inl (fun _ => nI 0)))]) := hD
  refine va_putF (D := G.1) (ci := 5) (v := .ref q6) (ty := .array .int) (C := RX7) (T := TX7) (N := 13) hx hb hts inX7 tyX7 tyX7_ok nmX7 hown hK hP hD hS 0 rfl rfl 9 (by decide) (hts _ (sh_t1 (i := 138) (by decide +kernel) (by decide +kernel))) (fun _ h9 => h9) rfl hin rfl (by decide +kernel) rfl rfl (Nat.le_of_ble_eq_true rfl) dX7_init_73 (fun H locs hP hD hS => ?_)
  have hP : va_P G.1 vwCl ([(h0, .inr (5, [.int 6, .int 1, .int 0, .int 0, .ref q1, .ref q2, .ref q3, .ref q4, .ref q5, .ref q6, .null, .null, .null])), (q1, .inl (G.2.2.2.1 0, 40, .inl (fun _ => nI 0))), (q2, .inl (G.2.2.2.1 0, 40, .inl (fun _ => nI 0))), (q3, .inl (G.2.2.2.1 0, 40, .inl (fun _ => nI 0))), (q4, .inl (G.2.2.2.1 1, 240, .inr (.inl (fun _ => 0)))), (q5, .inl (G.2.2.2.1 0, 240, .inl (fun _ => nI 0))), (q6, .inl (G.2.2.2.1 0, 240, .inl (fun _ => nI 0)))]) H := hP
  have hD : va_D A ([(h0, .inr (5, [.int 6, .int 1, .int 0, .int 0, .ref q1, .ref q2, .ref q3, .ref q4, .ref q5, .ref q6, .null, .null, .null])), (q1, .inl (G.2.2.2.1 0, 40, .inl (fun _ => nI 0))), (q2, .inl (G.2.2.2.1 0, 40, .inl (fun _ => nI 0))), (q3, .inl (G.2.2.2.1 0, 40, .inl (fun _ => nI 0))), (q4, .inl (G.2.2.2.1 1, 240, .inr (.inl (fun _ => 0)))), (q5, .inl (G.2.2.2.1 0, 240, .inl (fun _ => nI 0))), (q6, .inl (G.2.2.2.1 0, 240, .inl (fun _ => nI 0)))]) := hD
  refine lv_aload_n hx hb dX7_init_76 rfl (lv_at hl 0 rfl) ?_
  refine lv_sipush (v := nI 240) hx hb dX7_init_77 (by decide) ?_
  refine sh_newi hx hb (hts _ ar_i) hK hP hD hS hA (by omega) (Nat.le_of_ble_eq_true rfl) (Nat.le_of_ble_eq_true rfl) dX7_init_80 (fun q7 H hP hD hS => ?_)
  have hP : va_P G.1 vwCl ([(h0, .inr (5, [.int 6, .int 1, .int 0, .int 0, .ref q1, .ref q2, .ref q3, .ref q4, .ref q5, .ref q6, .null, .null, .null])), (q1, .inl (G.2.2.2.1 0, 40, .inl (fun _ => nI 0))), (q2, .inl (G.2.2.2.1 0, 40, .inl (fun _ => nI 0))), (q3, .inl (G.2.2.2.1 0, 40, .inl (fun _ => nI 0))), (q4, .inl (G.2.2.2.1 1, 240, .inr (.inl (fun _ => 0)))), (q5, .inl (G.2.2.2.1 0, 240, .inl (fun _ => nI 0))), (q6, .inl (G.2.2.2.1 0, 240, .inl (fun _ => nI 0))), (q7, .inl (G.2.2.2.1 0, 240, .inl (fun _ => nI 0)))]) H := hP
  have hD : va_D A ([(h0, .inr (5, [.int 6, .int 1, .int 0, .int 0, .ref q1, .ref q2, .ref q3, .ref q4, .ref q5, .ref q6, .null, .null, .null])), (q1, .inl (G.2.2.2.1 0, 40, .inl (fun _ => nI 0))), (q2, .inl (G.2.2.2.1 0, 40, .inl (fun _ => nI 0))), (q3, .inl (G.2.2.2.1 0, 40, .inl (fun _ => nI 0))), (q4, .inl (G.2.2.2.1 1, 240, .inr (.inl (fun _ => 0)))), (q5, .inl (G.2.2.2.1 0, 240, .inl (fun _ => nI 0))), (q6, .inl (G.2.2.2.1 0, 240, .inl (fun _ => nI 0))), (q7, .inl (G.2.2.2.1 0, 240, .inl (fun _ => nI 0)))]) := hD
  refine va_putF (D := G.1) (ci := 5) (v := .ref q7) (ty := .array .int) (C := RX7) (T := TX7) (N := 13) hx hb hts inX7 tyX7 tyX7_ok nmX7 hown hK hP hD hS 0 rfl rfl 10 (by decide) (hts _ (sh_t1 (i := 142) (by decide +kernel) (by decide +kernel))) (fun _ h9 => h9) rfl hin rfl (by decide +kernel) rfl rfl (Nat.le_of_ble_eq_true rfl) dX7_init_82 (fun H locs hP hD hS => ?_)
  have hP : va_P G.1 vwCl ([(h0, .inr (5, [.int 6, .int 1, .int 0, .int 0, .ref q1, .ref q2, .ref q3, .ref q4, .ref q5, .ref q6, .ref q7, .null, .null])), (q1, .inl (G.2.2.2.1 0, 40, .inl (fun _ => nI 0))), (q2, .inl (G.2.2.2.1 0, 40, .inl (fun _ => nI 0))), (q3, .inl (G.2.2.2.1 0, 40, .inl (fun _ => nI 0))), (q4, .inl (G.2.2.2.1 1, 240, .inr (.inl (fun _ => 0)))), (q5, .inl (G.2.2.2.1 0, 240, .inl (fun _ => nI 0))), (q6, .inl (G.2.2.2.1 0, 240, .inl (fun _ => nI 0))), (q7, .inl (G.2.2.2.1 0, 240, .inl (fun _ => nI 0)))]) H := hP
  have hD : va_D A ([(h0, .inr (5, [.int 6, .int 1, .int 0, .int 0, .ref q1, .ref q2, .ref q3, .ref q4, .ref q5, .ref q6, .ref q7, .null, .null])), (q1, .inl (G.2.2.2.1 0, 40, .inl (fun _ => nI 0))), (q2, .inl (G.2.2.2.1 0, 40, .inl (fun _ => nI 0))), (q3, .inl (G.2.2.2.1 0, 40, .inl (fun _ => nI 0))), (q4, .inl (G.2.2.2.1 1, 240, .inr (.inl (fun _ => 0)))), (q5, .inl (G.2.2.2.1 0, 240, .inl (fun _ => nI 0))), (q6, .inl (G.2.2.2.1 0, 240, .inl (fun _ => nI 0))), (q7, .inl (G.2.2.2.1 0, 240, .inl (fun _ => nI 0)))]) := hD
  refine lv_aload_n hx hb dX7_init_85 rfl (lv_at hl 0 rfl) ?_
  refine lv_sipush (v := nI 240) hx hb dX7_init_86 (by decide) ?_
  refine sh_newi hx hb (hts _ ar_i) hK hP hD hS hA (by omega) (Nat.le_of_ble_eq_true rfl) (Nat.le_of_ble_eq_true rfl) dX7_init_89 (fun q8 H hP hD hS => ?_)
  have hP : va_P G.1 vwCl ([(h0, .inr (5, [.int 6, .int 1, .int 0, .int 0, .ref q1, .ref q2, .ref q3, .ref q4, .ref q5, .ref q6, .ref q7, .null, .null])), (q1, .inl (G.2.2.2.1 0, 40, .inl (fun _ => nI 0))), (q2, .inl (G.2.2.2.1 0, 40, .inl (fun _ => nI 0))), (q3, .inl (G.2.2.2.1 0, 40, .inl (fun _ => nI 0))), (q4, .inl (G.2.2.2.1 1, 240, .inr (.inl (fun _ => 0)))), (q5, .inl (G.2.2.2.1 0, 240, .inl (fun _ => nI 0))), (q6, .inl (G.2.2.2.1 0, 240, .inl (fun _ => nI 0))), (q7, .inl (G.2.2.2.1 0, 240, .inl (fun _ => nI 0))), (q8, .inl (G.2.2.2.1 0, 240, .inl (fun _ => nI 0)))]) H := hP
  have hD : va_D A ([(h0, .inr (5, [.int 6, .int 1, .int 0, .int 0, .ref q1, .ref q2, .ref q3, .ref q4, .ref q5, .ref q6, .ref q7, .null, .null])), (q1, .inl (G.2.2.2.1 0, 40, .inl (fun _ => nI 0))), (q2, .inl (G.2.2.2.1 0, 40, .inl (fun _ => nI 0))), (q3, .inl (G.2.2.2.1 0, 40, .inl (fun _ => nI 0))), (q4, .inl (G.2.2.2.1 1, 240, .inr (.inl (fun _ => 0)))), (q5, .inl (G.2.2.2.1 0, 240, .inl (fun _ => nI 0))), (q6, .inl (G.2.2.2.1 0, 240, .inl (fun _ => nI 0))), (q7, .inl (G.2.2.2.1 0, 240, .inl (fun _ => nI 0))), (q8, .inl (G.2.2.2.1 0, 240, .inl (fun _ => nI 0)))]) := hD
  refine va_putF (D := G.1) (ci := 5) (v := .ref q8) (ty := .array .int) (C := RX7) (T := TX7) (N := 13) hx hb hts inX7 tyX7 tyX7_ok nmX7 hown hK hP hD hS 0 rfl rfl 11 (by decide) (hts _ (sh_t1 (i := 147) (by decide +kernel) (by decide +kernel))) (fun _ h9 => h9) rfl hin rfl (by decide +kernel) rfl rfl (Nat.le_of_ble_eq_true rfl) dX7_init_91 (fun H locs hP hD hS => ?_)
  have hP : va_P G.1 vwCl ([(h0, .inr (5, [.int 6, .int 1, .int 0, .int 0, .ref q1, .ref q2, .ref q3, .ref q4, .ref q5, .ref q6, .ref q7, .ref q8, .null])), (q1, .inl (G.2.2.2.1 0, 40, .inl (fun _ => nI 0))), (q2, .inl (G.2.2.2.1 0, 40, .inl (fun _ => nI 0))), (q3, .inl (G.2.2.2.1 0, 40, .inl (fun _ => nI 0))), (q4, .inl (G.2.2.2.1 1, 240, .inr (.inl (fun _ => 0)))), (q5, .inl (G.2.2.2.1 0, 240, .inl (fun _ => nI 0))), (q6, .inl (G.2.2.2.1 0, 240, .inl (fun _ => nI 0))), (q7, .inl (G.2.2.2.1 0, 240, .inl (fun _ => nI 0))), (q8, .inl (G.2.2.2.1 0, 240, .inl (fun _ => nI 0)))]) H := hP
  have hD : va_D A ([(h0, .inr (5, [.int 6, .int 1, .int 0, .int 0, .ref q1, .ref q2, .ref q3, .ref q4, .ref q5, .ref q6, .ref q7, .ref q8, .null])), (q1, .inl (G.2.2.2.1 0, 40, .inl (fun _ => nI 0))), (q2, .inl (G.2.2.2.1 0, 40, .inl (fun _ => nI 0))), (q3, .inl (G.2.2.2.1 0, 40, .inl (fun _ => nI 0))), (q4, .inl (G.2.2.2.1 1, 240, .inr (.inl (fun _ => 0)))), (q5, .inl (G.2.2.2.1 0, 240, .inl (fun _ => nI 0))), (q6, .inl (G.2.2.2.1 0, 240, .inl (fun _ => nI 0))), (q7, .inl (G.2.2.2.1 0, 240, .inl (fun _ => nI 0))), (q8, .inl (G.2.2.2.1 0, 240, .inl (fun _ => nI 0)))]) := hD
  refine lv_aload_n hx hb dX7_init_94 rfl (lv_at hl 0 rfl) ?_
  refine lv_sipush (v := nI 240) hx hb dX7_init_95 (by decide) ?_
  refine sh_newi hx hb (hts _ ar_i) hK hP hD hS hA (by omega) (Nat.le_of_ble_eq_true rfl) (Nat.le_of_ble_eq_true rfl) dX7_init_98 (fun q9 H hP hD hS => ?_)
  have hP : va_P G.1 vwCl ([(h0, .inr (5, [.int 6, .int 1, .int 0, .int 0, .ref q1, .ref q2, .ref q3, .ref q4, .ref q5, .ref q6, .ref q7, .ref q8, .null])), (q1, .inl (G.2.2.2.1 0, 40, .inl (fun _ => nI 0))), (q2, .inl (G.2.2.2.1 0, 40, .inl (fun _ => nI 0))), (q3, .inl (G.2.2.2.1 0, 40, .inl (fun _ => nI 0))), (q4, .inl (G.2.2.2.1 1, 240, .inr (.inl (fun _ => 0)))), (q5, .inl (G.2.2.2.1 0, 240, .inl (fun _ => nI 0))), (q6, .inl (G.2.2.2.1 0, 240, .inl (fun _ => nI 0))), (q7, .inl (G.2.2.2.1 0, 240, .inl (fun _ => nI 0))), (q8, .inl (G.2.2.2.1 0, 240, .inl (fun _ => nI 0))), (q9, .inl (G.2.2.2.1 0, 240, .inl (fun _ => nI 0)))]) H := hP
  have hD : va_D A ([(h0, .inr (5, [.int 6, .int 1, .int 0, .int 0, .ref q1, .ref q2, .ref q3, .ref q4, .ref q5, .ref q6, .ref q7, .ref q8, .null])), (q1, .inl (G.2.2.2.1 0, 40, .inl (fun _ => nI 0))), (q2, .inl (G.2.2.2.1 0, 40, .inl (fun _ => nI 0))), (q3, .inl (G.2.2.2.1 0, 40, .inl (fun _ => nI 0))), (q4, .inl (G.2.2.2.1 1, 240, .inr (.inl (fun _ => 0)))), (q5, .inl (G.2.2.2.1 0, 240, .inl (fun _ => nI 0))), (q6, .inl (G.2.2.2.1 0, 240, .inl (fun _ => nI 0))), (q7, .inl (G.2.2.2.1 0, 240, .inl (fun _ => nI 0))), (q8, .inl (G.2.2.2.1 0, 240, .inl (fun _ => nI 0))), (q9, .inl (G.2.2.2.1 0, 240, .inl (fun _ => nI 0)))]) := hD
  refine va_putF (D := G.1) (ci := 5) (v := .ref q9) (ty := .array .int) (C := RX7) (T := TX7) (N := 13) hx hb hts inX7 tyX7 tyX7_ok nmX7 hown hK hP hD hS 0 rfl rfl 12 (by decide) (hts _ (sh_t1 (i := 152) (by decide +kernel) (by decide +kernel))) (fun _ h9 => h9) rfl hin rfl (by decide +kernel) rfl rfl (Nat.le_of_ble_eq_true rfl) dX7_init_100 (fun H locs hP hD hS => ?_)
  have hP : va_P G.1 vwCl ([(h0, .inr (5, [.int 6, .int 1, .int 0, .int 0, .ref q1, .ref q2, .ref q3, .ref q4, .ref q5, .ref q6, .ref q7, .ref q8, .ref q9])), (q1, .inl (G.2.2.2.1 0, 40, .inl (fun _ => nI 0))), (q2, .inl (G.2.2.2.1 0, 40, .inl (fun _ => nI 0))), (q3, .inl (G.2.2.2.1 0, 40, .inl (fun _ => nI 0))), (q4, .inl (G.2.2.2.1 1, 240, .inr (.inl (fun _ => 0)))), (q5, .inl (G.2.2.2.1 0, 240, .inl (fun _ => nI 0))), (q6, .inl (G.2.2.2.1 0, 240, .inl (fun _ => nI 0))), (q7, .inl (G.2.2.2.1 0, 240, .inl (fun _ => nI 0))), (q8, .inl (G.2.2.2.1 0, 240, .inl (fun _ => nI 0))), (q9, .inl (G.2.2.2.1 0, 240, .inl (fun _ => nI 0)))]) H := hP
  have hD : va_D A ([(h0, .inr (5, [.int 6, .int 1, .int 0, .int 0, .ref q1, .ref q2, .ref q3, .ref q4, .ref q5, .ref q6, .ref q7, .ref q8, .ref q9])), (q1, .inl (G.2.2.2.1 0, 40, .inl (fun _ => nI 0))), (q2, .inl (G.2.2.2.1 0, 40, .inl (fun _ => nI 0))), (q3, .inl (G.2.2.2.1 0, 40, .inl (fun _ => nI 0))), (q4, .inl (G.2.2.2.1 1, 240, .inr (.inl (fun _ => 0)))), (q5, .inl (G.2.2.2.1 0, 240, .inl (fun _ => nI 0))), (q6, .inl (G.2.2.2.1 0, 240, .inl (fun _ => nI 0))), (q7, .inl (G.2.2.2.1 0, 240, .inl (fun _ => nI 0))), (q8, .inl (G.2.2.2.1 0, 240, .inl (fun _ => nI 0))), (q9, .inl (G.2.2.2.1 0, 240, .inl (fun _ => nI 0)))]) := hD
  refine lv_aload_n hx hb dX7_init_103 rfl (lv_at hl 0 rfl) ?_
  refine va_get (D := G.1) (ci := 5) (C := RX7) (T := TX7) (N := 13) hx hb hts inX7 hown hK hP 0 rfl rfl 4 (by decide) (hts _ (sh_t1 (i := 119) (by decide +kernel) (by decide +kernel))) (fun _ h9 => h9) (v := .ref q1) rfl dX7_init_104 ?_
  refine lv_iconst (v := nI 0) hx hb dX7_init_107 (by decide) ?_
  refine lv_iconst (v := nI 1) hx hb dX7_init_108 (by decide) ?_
  refine va_iast hx hb hK hP hD hS 1 0 rfl rfl (vp_in_nI (by omega) (by omega)) dX7_init_109 (fun H locs hP hD hS => ?_)
  rw [show (nI 0).toNatClampNeg = 0 from nI_clamp (by omega)] at hP hD
  have hP : va_P G.1 vwCl ([(h0, .inr (5, [.int 6, .int 1, .int 0, .int 0, .ref q1, .ref q2, .ref q3, .ref q4, .ref q5, .ref q6, .ref q7, .ref q8, .ref q9])), (q1, .inl (G.2.2.2.1 0, 40, .inl (upd (fun _ => nI 0) 0 (nI 1)))), (q2, .inl (G.2.2.2.1 0, 40, .inl (fun _ => nI 0))), (q3, .inl (G.2.2.2.1 0, 40, .inl (fun _ => nI 0))), (q4, .inl (G.2.2.2.1 1, 240, .inr (.inl (fun _ => 0)))), (q5, .inl (G.2.2.2.1 0, 240, .inl (fun _ => nI 0))), (q6, .inl (G.2.2.2.1 0, 240, .inl (fun _ => nI 0))), (q7, .inl (G.2.2.2.1 0, 240, .inl (fun _ => nI 0))), (q8, .inl (G.2.2.2.1 0, 240, .inl (fun _ => nI 0))), (q9, .inl (G.2.2.2.1 0, 240, .inl (fun _ => nI 0)))]) H := hP
  have hD : va_D A ([(h0, .inr (5, [.int 6, .int 1, .int 0, .int 0, .ref q1, .ref q2, .ref q3, .ref q4, .ref q5, .ref q6, .ref q7, .ref q8, .ref q9])), (q1, .inl (G.2.2.2.1 0, 40, .inl (upd (fun _ => nI 0) 0 (nI 1)))), (q2, .inl (G.2.2.2.1 0, 40, .inl (fun _ => nI 0))), (q3, .inl (G.2.2.2.1 0, 40, .inl (fun _ => nI 0))), (q4, .inl (G.2.2.2.1 1, 240, .inr (.inl (fun _ => 0)))), (q5, .inl (G.2.2.2.1 0, 240, .inl (fun _ => nI 0))), (q6, .inl (G.2.2.2.1 0, 240, .inl (fun _ => nI 0))), (q7, .inl (G.2.2.2.1 0, 240, .inl (fun _ => nI 0))), (q8, .inl (G.2.2.2.1 0, 240, .inl (fun _ => nI 0))), (q9, .inl (G.2.2.2.1 0, 240, .inl (fun _ => nI 0)))]) := hD
  exact W.vret hx hb hr (fun t ht hW => ⟨⟨(fun k => if k = 1 then q1 else if k = 2 then q2 else if k = 3 then q3 else if k = 4 then q4 else if k = 5 then q5 else if k = 6 then q6 else if k = 7 then q7 else if k = 8 then q8 else if k = 9 then q9 else 0), rfl, trivial, by rw [ht]; exact hP, hD⟩, hS.F ht⟩) hS.2.2 dX7_init_110
theorem ob_X8 : Cond.methodLink RX8 3 objectInit ∈ sh_ws := sh_t2 (i := 78) (by decide +kernel) (by decide +kernel)
theorem im_X8 : Cond.instanceMethod yX8_init ∈ sh_ws := sh_t2 (i := 76) (by decide +kernel) (by decide +kernel)
theorem it_X8 : Cond.instantiable RX8 5 ∈ sh_ws := sh_t2 (i := 74) (by decide +kernel) (by decide +kernel)
def wN_Survey (G : sh_Ev) (st : Nat) (ke : Nat) (h0 : Nat) (a : Nat → Nat) : va_W := [(h0, .inr (6, [.ref st, .ref ke, .ref (a 1), .ref (a 2), .int 0])), ((a 1), .inl (G.2.2.2.1 0, 4096, .inl (fun _ => nI 0))), ((a 2), .inl (G.2.2.2.1 0, 240, .inl (fun _ => nI 0)))]
set_option maxRecDepth 100000 in
set_option maxHeartbeats 8000000 in
theorem kN_Survey (l : Launch) (G : sh_Ev) (st : Nat) (ke : Nat) (h0 : Nat) : sh_Nt l yX8_init cX8_init 3 2 2 4336 G [.ref h0, .ref st, .ref ke] [(h0, .inr (6, [.null, .null, .null, .null, .int 0]))] (wN_Survey G st ke h0) := by
  refine sh_mkN (by decide) rfl (Nat.le_of_ble_eq_true rfl) (fun p e s m args below meth c A ls C hAo hin hr hP hD hS hl => ?_)
  obtain ⟨hx, hb, hml, hown, hts, hK, hA, hlocks, hSf⟩ := id C
  have hl : lv_has ls 3 [(0, .ref h0), (1, .ref st), (2, .ref ke)] := hl
  refine lv_aload_n hx hb dX8_init_0 rfl (lv_at hl 0 rfl) ?_
  refine W.objInit hx hb hown (hts _ ob_X8) (hts _ ob_i) (hts _ ob_c) rfl (by rw [hml]; exact hl.1) rfl dX8_init_1 (Nat.le_of_ble_eq_true rfl) (Nat.le_of_ble_eq_true rfl) ?_
  refine W.eq (g2 := F0 m 4 ls []) rfl ?_
  refine lv_aload_n hx hb dX8_init_4 rfl (lv_at hl 0 rfl) ?_
  refine lv_sipush (v := nI 4096) hx hb dX8_init_5 (by decide) ?_
  refine sh_newi hx hb (hts _ ar_i) hK hP hD hS hA (by omega) (Nat.le_of_ble_eq_true rfl) (Nat.le_of_ble_eq_true rfl) dX8_init_8 (fun q1 H hP hD hS => ?_)
  have hP : va_P G.1 vwCl ([(h0, .inr (6, [.null, .null, .null, .null, .int 0])), (q1, .inl (G.2.2.2.1 0, 4096, .inl (fun _ => nI 0)))]) H := hP
  have hD : va_D A ([(h0, .inr (6, [.null, .null, .null, .null, .int 0])), (q1, .inl (G.2.2.2.1 0, 4096, .inl (fun _ => nI 0)))]) := hD
  refine va_putF (D := G.1) (ci := 6) (v := .ref q1) (ty := .array .int) (C := RX8) (T := TX8) (N := 5) hx hb hts inX8 tyX8 tyX8_ok nmX8 hown hK hP hD hS 0 rfl rfl 2 (by decide) (hts _ (sh_t2 (i := 81) (by decide +kernel) (by decide +kernel))) (fun _ h9 => h9) rfl hin rfl (by decide +kernel) rfl rfl (Nat.le_of_ble_eq_true rfl) dX8_init_10 (fun H locs hP hD hS => ?_)
  have hP : va_P G.1 vwCl ([(h0, .inr (6, [.null, .null, .ref q1, .null, .int 0])), (q1, .inl (G.2.2.2.1 0, 4096, .inl (fun _ => nI 0)))]) H := hP
  have hD : va_D A ([(h0, .inr (6, [.null, .null, .ref q1, .null, .int 0])), (q1, .inl (G.2.2.2.1 0, 4096, .inl (fun _ => nI 0)))]) := hD
  refine lv_aload_n hx hb dX8_init_13 rfl (lv_at hl 0 rfl) ?_
  refine lv_sipush (v := nI 240) hx hb dX8_init_14 (by decide) ?_
  refine sh_newi hx hb (hts _ ar_i) hK hP hD hS hA (by omega) (Nat.le_of_ble_eq_true rfl) (Nat.le_of_ble_eq_true rfl) dX8_init_17 (fun q2 H hP hD hS => ?_)
  have hP : va_P G.1 vwCl ([(h0, .inr (6, [.null, .null, .ref q1, .null, .int 0])), (q1, .inl (G.2.2.2.1 0, 4096, .inl (fun _ => nI 0))), (q2, .inl (G.2.2.2.1 0, 240, .inl (fun _ => nI 0)))]) H := hP
  have hD : va_D A ([(h0, .inr (6, [.null, .null, .ref q1, .null, .int 0])), (q1, .inl (G.2.2.2.1 0, 4096, .inl (fun _ => nI 0))), (q2, .inl (G.2.2.2.1 0, 240, .inl (fun _ => nI 0)))]) := hD
  refine va_putF (D := G.1) (ci := 6) (v := .ref q2) (ty := .array .int) (C := RX8) (T := TX8) (N := 5) hx hb hts inX8 tyX8 tyX8_ok nmX8 hown hK hP hD hS 0 rfl rfl 3 (by decide) (hts _ (sh_t2 (i := 82) (by decide +kernel) (by decide +kernel))) (fun _ h9 => h9) rfl hin rfl (by decide +kernel) rfl rfl (Nat.le_of_ble_eq_true rfl) dX8_init_19 (fun H locs hP hD hS => ?_)
  have hP : va_P G.1 vwCl ([(h0, .inr (6, [.null, .null, .ref q1, .ref q2, .int 0])), (q1, .inl (G.2.2.2.1 0, 4096, .inl (fun _ => nI 0))), (q2, .inl (G.2.2.2.1 0, 240, .inl (fun _ => nI 0)))]) H := hP
  have hD : va_D A ([(h0, .inr (6, [.null, .null, .ref q1, .ref q2, .int 0])), (q1, .inl (G.2.2.2.1 0, 4096, .inl (fun _ => nI 0))), (q2, .inl (G.2.2.2.1 0, 240, .inl (fun _ => nI 0)))]) := hD
  refine lv_aload_n hx hb dX8_init_22 rfl (lv_at hl 0 rfl) ?_
  refine lv_iconst (v := 0) hx hb dX8_init_23 (by decide) ?_
  refine va_put (D := G.1) (ci := 6) (v := .int 0) (ty := .int) (C := RX8) (T := TX8) (N := 5) hx hb hts inX8 tyX8 tyX8_ok nmX8 hown hK hP hD hS 0 rfl rfl 4 (by decide) (hts _ (sh_t2 (i := 83) (by decide +kernel) (by decide +kernel))) (fun _ h9 => h9) rfl (by decide +kernel) rfl rfl (Nat.le_of_ble_eq_true rfl) dX8_init_24 (fun H locs hP hD hS => ?_)
  have hP : va_P G.1 vwCl ([(h0, .inr (6, [.null, .null, .ref q1, .ref q2, .int 0])), (q1, .inl (G.2.2.2.1 0, 4096, .inl (fun _ => nI 0))), (q2, .inl (G.2.2.2.1 0, 240, .inl (fun _ => nI 0)))]) H := hP
  have hD : va_D A ([(h0, .inr (6, [.null, .null, .ref q1, .ref q2, .int 0])), (q1, .inl (G.2.2.2.1 0, 4096, .inl (fun _ => nI 0))), (q2, .inl (G.2.2.2.1 0, 240, .inl (fun _ => nI 0)))]) := hD
  refine lv_aload_n hx hb dX8_init_27 rfl (lv_at hl 0 rfl) ?_
  refine lv_aload_n hx hb dX8_init_28 rfl (lv_at hl 1 rfl) ?_
  refine va_putF (D := G.1) (ci := 6) (v := .ref st) (ty := .object "SteadyShelf$Store") (C := RX8) (T := TX8) (N := 5) hx hb hts inX8 tyX8 tyX8_ok nmX8 hown hK hP hD hS 0 rfl rfl 0 (by decide) (hts _ (sh_t2 (i := 79) (by decide +kernel) (by decide +kernel))) (fun _ h9 => h9) rfl hin rfl (by decide +kernel) rfl rfl (Nat.le_of_ble_eq_true rfl) dX8_init_29 (fun H locs hP hD hS => ?_)
  have hP : va_P G.1 vwCl ([(h0, .inr (6, [.ref st, .null, .ref q1, .ref q2, .int 0])), (q1, .inl (G.2.2.2.1 0, 4096, .inl (fun _ => nI 0))), (q2, .inl (G.2.2.2.1 0, 240, .inl (fun _ => nI 0)))]) H := hP
  have hD : va_D A ([(h0, .inr (6, [.ref st, .null, .ref q1, .ref q2, .int 0])), (q1, .inl (G.2.2.2.1 0, 4096, .inl (fun _ => nI 0))), (q2, .inl (G.2.2.2.1 0, 240, .inl (fun _ => nI 0)))]) := hD
  refine lv_aload_n hx hb dX8_init_32 rfl (lv_at hl 0 rfl) ?_
  refine lv_aload_n hx hb dX8_init_33 rfl (lv_at hl 2 rfl) ?_
  refine va_putF (D := G.1) (ci := 6) (v := .ref ke) (ty := .object "SteadyShelf$Keeper") (C := RX8) (T := TX8) (N := 5) hx hb hts inX8 tyX8 tyX8_ok nmX8 hown hK hP hD hS 0 rfl rfl 1 (by decide) (hts _ (sh_t2 (i := 80) (by decide +kernel) (by decide +kernel))) (fun _ h9 => h9) rfl hin rfl (by decide +kernel) rfl rfl (Nat.le_of_ble_eq_true rfl) dX8_init_34 (fun H locs hP hD hS => ?_)
  have hP : va_P G.1 vwCl ([(h0, .inr (6, [.ref st, .ref ke, .ref q1, .ref q2, .int 0])), (q1, .inl (G.2.2.2.1 0, 4096, .inl (fun _ => nI 0))), (q2, .inl (G.2.2.2.1 0, 240, .inl (fun _ => nI 0)))]) H := hP
  have hD : va_D A ([(h0, .inr (6, [.ref st, .ref ke, .ref q1, .ref q2, .int 0])), (q1, .inl (G.2.2.2.1 0, 4096, .inl (fun _ => nI 0))), (q2, .inl (G.2.2.2.1 0, 240, .inl (fun _ => nI 0)))]) := hD
  exact W.vret hx hb hr (fun t ht hW => ⟨⟨(fun k => if k = 1 then q1 else if k = 2 then q2 else 0), rfl, trivial, by rw [ht]; exact hP, hD⟩, hS.F ht⟩) hS.2.2 dX8_init_37
