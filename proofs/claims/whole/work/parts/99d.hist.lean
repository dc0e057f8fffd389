/-! constructors with calls, written by gen/mk_ctor.py -/
theorem ob_X3 : Cond.methodLink RX3 3 objectInit ∈ sh_ws := sh_t1 (i := 189) (by decide +kernel) (by decide +kernel)
theorem im_X3 : Cond.instanceMethod yX3_init ∈ sh_ws := sh_t1 (i := 187) (by decide +kernel) (by decide +kernel)
theorem it_X3 : Cond.instantiable RX3 3 ∈ sh_ws := sh_t1 (i := 185) (by decide +kernel) (by decide +kernel)
def wN_History (G : sh_Ev) (h0 : Nat) (a : Nat → Nat) : va_W := (h0, .inr (1, [.ref (a 1), .int 0, .int 0])) :: (a 1, .inl (G.2.2.2.1 3, 8, .inr (.inr (.inr (.inr (fun j => some (a (2 + 10 * j)))))))) :: (((((((wN_Store G (a 2) (fun i => a (2 + i)) ++ wN_Store G (a 12) (fun i => a (12 + i))) ++ wN_Store G (a 22) (fun i => a (22 + i))) ++ wN_Store G (a 32) (fun i => a (32 + i))) ++ wN_Store G (a 42) (fun i => a (42 + i))) ++ wN_Store G (a 52) (fun i => a (52 + i))) ++ wN_Store G (a 62) (fun i => a (62 + i))) ++ wN_Store G (a 72) (fun i => a (72 + i)))
set_option maxRecDepth 100000 in
set_option maxHeartbeats 8000000 in
theorem kN_History (l : Launch) (G : sh_Ev) (h0 : Nat) : sh_Nt l yX3_init cX3_init 2 3 81 12592 G [.ref h0] [(h0, .inr (1, [.null, .int 0, .int 0]))] (wN_History G h0) := by
  refine sh_mkN (by decide) rfl (Nat.le_of_ble_eq_true rfl) (fun p e s m args below meth c A ls C hAo hin hr hP hD hS hl => ?_)
  obtain ⟨hx, hb, hml, hown, hts, hK, hA, hlocks, hSf⟩ := id C
  have hl : lv_has ls 2 [(0, .ref h0)] := hl
  refine lv_aload_n hx hb dX3_init_0 rfl (lv_at hl 0 rfl) ?_
  refine W.objInit hx hb hown (hts _ ob_X3) (hts _ ob_i) (hts _ ob_c) rfl (by rw [hml]; exact hl.1) rfl dX3_init_1 (Nat.le_of_ble_eq_true rfl) (Nat.le_of_ble_eq_true rfl) ?_
  refine W.eq (g2 := F0 m 4 ls []) rfl ?_
  refine lv_aload_n hx hb dX3_init_4 rfl (lv_at hl 0 rfl) ?_
  refine lv_bipush (v := nI 8) hx hb dX3_init_5 (by decide) ?_
  refine sh_newS C hAo hP hD hS (sh_t1 (i := 190) (by decide +kernel) (by decide +kernel)) (by omega) (Nat.le_of_ble_eq_true rfl) (Nat.le_of_ble_eq_true rfl) dX3_init_7 (fun qa H hP hD hS => ?_)
  have hP : va_P G.1 vwCl ((h0, .inr (1, [.null, .int 0, .int 0])) :: (qa, .inl (G.2.2.2.1 3, 8, .inr (.inr (.inr (.inr (fun _ => none)))))) :: []) H := hP
  have hD : va_D A ((h0, .inr (1, [.null, .int 0, .int 0])) :: (qa, .inl (G.2.2.2.1 3, 8, .inr (.inr (.inr (.inr (fun _ => none)))))) :: []) := hD
  refine va_putF (D := G.1) (ci := 1) (v := .ref qa) (ty := .array (.object "SteadyShelf$Store")) (C := RX3) (T := TX3) (N := 3) hx hb hts inX3 tyX3 tyX3_ok nmX3 hown hK hP hD hS 0 rfl rfl 0 (by decide) (hts _ (sh_t1 (i := 193) (by decide +kernel) (by decide +kernel))) (fun _ h9 => h9) rfl hin rfl (by decide +kernel) rfl rfl (Nat.le_of_ble_eq_true rfl) dX3_init_10 (fun H locs hP hD hS => ?_)
  have hP : va_P G.1 vwCl ((h0, .inr (1, [.ref qa, .int 0, .int 0])) :: (qa, .inl (G.2.2.2.1 3, 8, .inr (.inr (.inr (.inr (fun _ => none)))))) :: []) H := hP
  have hD : va_D A ((h0, .inr (1, [.ref qa, .int 0, .int 0])) :: (qa, .inl (G.2.2.2.1 3, 8, .inr (.inr (.inr (.inr (fun _ => none)))))) :: []) := hD
  refine lv_aload_n hx hb dX3_init_13 rfl (lv_at hl 0 rfl) ?_
  refine lv_iconst (v := 0) hx hb dX3_init_14 (by decide) ?_
  refine va_put (D := G.1) (ci := 1) (v := .int 0) (ty := .int) (C := RX3) (T := TX3) (N := 3) hx hb hts inX3 tyX3 tyX3_ok nmX3 hown hK hP hD hS 0 rfl rfl 1 (by decide) (hts _ (sh_t1 (i := 194) (by decide +kernel) (by decide +kernel))) (fun _ h9 => h9) rfl (by decide +kernel) rfl rfl (Nat.le_of_ble_eq_true rfl) dX3_init_15 (fun H locs hP hD hS => ?_)
  have hP : va_P G.1 vwCl ((h0, .inr (1, [.ref qa, .int 0, .int 0])) :: (qa, .inl (G.2.2.2.1 3, 8, .inr (.inr (.inr (.inr (fun _ => none)))))) :: []) H := hP
  have hD : va_D A ((h0, .inr (1, [.ref qa, .int 0, .int 0])) :: (qa, .inl (G.2.2.2.1 3, 8, .inr (.inr (.inr (.inr (fun _ => none)))))) :: []) := hD
  refine lv_aload_n hx hb dX3_init_18 rfl (lv_at hl 0 rfl) ?_
  refine lv_iconst (v := 0) hx hb dX3_init_19 (by decide) ?_
  refine va_put (D := G.1) (ci := 1) (v := .int 0) (ty := .int) (C := RX3) (T := TX3) (N := 3) hx hb hts inX3 tyX3 tyX3_ok nmX3 hown hK hP hD hS 0 rfl rfl 2 (by decide) (hts _ (sh_t1 (i := 196) (by decide +kernel) (by decide +kernel))) (fun _ h9 => h9) rfl (by decide +kernel) rfl rfl (Nat.le_of_ble_eq_true rfl) dX3_init_20 (fun H locs hP hD hS => ?_)
  have hP : va_P G.1 vwCl ((h0, .inr (1, [.ref qa, .int 0, .int 0])) :: (qa, .inl (G.2.2.2.1 3, 8, .inr (.inr (.inr (.inr (fun _ => none)))))) :: []) H := hP
  have hD : va_D A ((h0, .inr (1, [.ref qa, .int 0, .int 0])) :: (qa, .inl (G.2.2.2.1 3, 8, .inr (.inr (.inr (.inr (fun _ => none)))))) :: []) := hD
  refine lv_iconst (v := nI 0) hx hb dX3_init_23 (by decide) ?_
  refine lv_istore_n (lv' := [(1, .int (nI 0)), (0, .ref h0)]) hx hb dX3_init_24 rfl hl (by decide) rfl (fun ls hl => ?_)
  refine lv_iload_n hx hb dX3_init_25 rfl (lv_at hl 0 rfl) ?_
  refine lv_bipush (v := nI 8) hx hb dX3_init_26 (by decide) ?_
  refine lv_icmp_ge (tgt := 50) hx hb dX3_init_28 (by decide) (fun c9 => absurd c9 (by decide +kernel)) (fun c9 => ?_)
  refine lv_aload_n hx hb dX3_init_31 rfl (lv_at hl 1 rfl) ?_
  refine va_get (D := G.1) (ci := 1) (C := RX3) (T := TX3) (N := 3) hx hb hts inX3 hown hK hP 0 rfl rfl 0 (by decide) (hts _ (sh_t1 (i := 193) (by decide +kernel) (by decide +kernel))) (fun _ h9 => h9) (v := .ref qa) rfl dX3_init_32 ?_
  refine lv_iload_n hx hb dX3_init_35 rfl (lv_at hl 0 rfl) ?_
  refine va_new (ci := 5) (fs := [.int 0, .int 0, .int 0, .int 0, .null, .null, .null, .null, .null, .null, .null, .null, .null]) (C := RX7) (T := TX7) (N := 13) hx hb hts inX7 tyX7 tyX7_ok hown (hts _ (sh_t1 (i := 190) (by decide +kernel) (by decide +kernel))) (hts _ it_X7) (hts _ yy_X7_init.1) hK hP hD hS hA rfl (fun j hj => by rcases (show j = 0 ∨ j = 1 ∨ j = 2 ∨ j = 3 ∨ j = 4 ∨ j = 5 ∨ j = 6 ∨ j = 7 ∨ j = 8 ∨ j = 9 ∨ j = 10 ∨ j = 11 ∨ j = 12 by omega) with rfl | rfl | rfl | rfl | rfl | rfl | rfl | rfl | rfl | rfl | rfl | rfl | rfl <;> rfl) (Nat.le_of_ble_eq_true rfl) (Nat.le_of_ble_eq_true rfl) dX3_init_36 (fun q1 H hP hD hS => ?_)
  refine lv_dup hx hb dX3_init_39 rfl ?_
  refine sh_cI C hAo hP hD hS (kN_Store l G q1) yy_X7_init rfl im_X7 ml_X3_24 rfl rfl (Nat.le_of_ble_eq_true rfl) ⟨(Nat.le_of_ble_eq_true rfl), (Nat.le_of_ble_eq_true rfl)⟩ (Nat.le_of_ble_eq_true rfl) (Nat.le_of_ble_eq_true rfl) hl.1 dX3_init_40 (fun a1 H locs hP hD hS => ?_)
  refine va_astq hx hb hK hP hD hS 1 3 _ 5 rfl rfl (sh_inR (k := 0) rfl) rfl (vp_in_nI (by omega) (by omega)) dX3_init_43 (fun H locs hP hD hS => ?_)
  rw [show (nI 0).toNatClampNeg = 0 from nI_clamp (by omega)] at hP hD
  have hP : va_P G.1 vwCl ((h0, .inr (1, [.ref qa, .int 0, .int 0])) :: (qa, .inl (G.2.2.2.1 3, 8, .inr (.inr (.inr (.inr (va_up (fun _ => none) 0 (some q1))))))) :: wN_Store G q1 a1) H := hP
  have hD : va_D A ((h0, .inr (1, [.ref qa, .int 0, .int 0])) :: (qa, .inl (G.2.2.2.1 3, 8, .inr (.inr (.inr (.inr (va_up (fun _ => none) 0 (some q1))))))) :: wN_Store G q1 a1) := hD
  refine lv_iinc (v := nI 1) (lv' := [(1, .int (nI 1)), (0, .ref h0)]) hx hb dX3_init_44 hl (k := 0) rfl (by decide) (by decide) rfl (fun ls hl => ?_)
  refine lv_goto (tgt := 25) hx hb dX3_init_47 (by decide) ?_
  refine lv_iload_n hx hb dX3_init_25 rfl (lv_at hl 0 rfl) ?_
  refine lv_bipush (v := nI 8) hx hb dX3_init_26 (by decide) ?_
  refine lv_icmp_ge (tgt := 50) hx hb dX3_init_28 (by decide) (fun c9 => absurd c9 (by decide +kernel)) (fun c9 => ?_)
  refine lv_aload_n hx hb dX3_init_31 rfl (lv_at hl 1 rfl) ?_
  refine va_get (D := G.1) (ci := 1) (C := RX3) (T := TX3) (N := 3) hx hb hts inX3 hown hK hP 0 rfl rfl 0 (by decide) (hts _ (sh_t1 (i := 193) (by decide +kernel) (by decide +kernel))) (fun _ h9 => h9) (v := .ref qa) rfl dX3_init_32 ?_
  refine lv_iload_n hx hb dX3_init_35 rfl (lv_at hl 0 rfl) ?_
  refine va_new (ci := 5) (fs := [.int 0, .int 0, .int 0, .int 0, .null, .null, .null, .null, .null, .null, .null, .null, .null]) (C := RX7) (T := TX7) (N := 13) hx hb hts inX7 tyX7 tyX7_ok hown (hts _ (sh_t1 (i := 190) (by decide +kernel) (by decide +kernel))) (hts _ it_X7) (hts _ yy_X7_init.1) hK hP hD hS hA rfl (fun j hj => by rcases (show j = 0 ∨ j = 1 ∨ j = 2 ∨ j = 3 ∨ j = 4 ∨ j = 5 ∨ j = 6 ∨ j = 7 ∨ j = 8 ∨ j = 9 ∨ j = 10 ∨ j = 11 ∨ j = 12 by omega) with rfl | rfl | rfl | rfl | rfl | rfl | rfl | rfl | rfl | rfl | rfl | rfl | rfl <;> rfl) (Nat.le_of_ble_eq_true rfl) (Nat.le_of_ble_eq_true rfl) dX3_init_36 (fun q2 H hP hD hS => ?_)
  refine lv_dup hx hb dX3_init_39 rfl ?_
  refine sh_cI C hAo hP hD hS (kN_Store l G q2) yy_X7_init rfl im_X7 ml_X3_24 rfl rfl (Nat.le_of_ble_eq_true rfl) ⟨(Nat.le_of_ble_eq_true rfl), (Nat.le_of_ble_eq_true rfl)⟩ (Nat.le_of_ble_eq_true rfl) (Nat.le_of_ble_eq_true rfl) hl.1 dX3_init_40 (fun a2 H locs hP hD hS => ?_)
  refine va_astq hx hb hK hP hD hS 1 3 _ 5 rfl rfl (sh_inR (k := 0) rfl) rfl (vp_in_nI (by omega) (by omega)) dX3_init_43 (fun H locs hP hD hS => ?_)
  rw [show (nI 1).toNatClampNeg = 1 from nI_clamp (by omega)] at hP hD
  have hP : va_P G.1 vwCl ((h0, .inr (1, [.ref qa, .int 0, .int 0])) :: (qa, .inl (G.2.2.2.1 3, 8, .inr (.inr (.inr (.inr (va_up (va_up (fun _ => none) 0 (some q1)) 1 (some q2))))))) :: (wN_Store G q1 a1 ++ wN_Store G q2 a2)) H := hP
  have hD : va_D A ((h0, .inr (1, [.ref qa, .int 0, .int 0])) :: (qa, .inl (G.2.2.2.1 3, 8, .inr (.inr (.inr (.inr (va_up (va_up (fun _ => none) 0 (some q1)) 1 (some q2))))))) :: (wN_Store G q1 a1 ++ wN_Store G q2 a2)) := hD
  refine lv_iinc (v := nI 2) (lv' := [(1, .int (nI 2)), (0, .ref h0)]) hx hb dX3_init_44 hl (k := 0) rfl (by decide) (by decide) rfl (fun ls hl => ?_)
  refine lv_goto (tgt := 25) hx hb dX3_init_47 (by decide) ?_
  refine lv_iload_n hx hb dX3_init_25 rfl (lv_at hl 0 rfl) ?_
  refine lv_bipush (v := nI 8) hx hb dX3_init_26 (by decide) ?_
  refine lv_icmp_ge (tgt := 50) hx hb dX3_init_28 (by decide) (fun c9 => absurd c9 (by decide +kernel)) (fun c9 => ?_)
  refine lv_aload_n hx hb dX3_init_31 rfl (lv_at hl 1 rfl) ?_
  refine va_get (D := G.1) (ci := 1) (C := RX3) (T := TX3) (N := 3) hx hb hts inX3 hown hK hP 0 rfl rfl 0 (by decide) (hts _ (sh_t1 (i := 193) (by decide +kernel) (by decide +kernel))) (fun _ h9 => h9) (v := .ref qa) rfl dX3_init_32 ?_
  refine lv_iload_n hx hb dX3_init_35 rfl (lv_at hl 0 rfl) ?_
  refine va_new (ci := 5) (fs := [.int 0, .int 0, .int 0, .int 0, .null, .null, .null, .null, .null, .null, .null, .null, .null]) (C := RX7) (T := TX7) (N := 13) hx hb hts inX7 tyX7 tyX7_ok hown (hts _ (sh_t1 (i := 190) (by decide +kernel) (by decide +kernel))) (hts _ it_X7) (hts _ yy_X7_init.1) hK hP hD hS hA rfl (fun j hj => by rcases (show j = 0 ∨ j = 1 ∨ j = 2 ∨ j = 3 ∨ j = 4 ∨ j = 5 ∨ j = 6 ∨ j = 7 ∨ j = 8 ∨ j = 9 ∨ j = 10 ∨ j = 11 ∨ j = 12 by omega) with rfl | rfl | rfl | rfl | rfl | rfl | rfl | rfl | rfl | rfl | rfl | rfl | rfl <;> rfl) (Nat.le_of_ble_eq_true rfl) (Nat.le_of_ble_eq_true rfl) dX3_init_36 (fun q3 H hP hD hS => ?_)
  refine lv_dup hx hb dX3_init_39 rfl ?_
  refine sh_cI C hAo hP hD hS (kN_Store l G q3) yy_X7_init rfl im_X7 ml_X3_24 rfl rfl (Nat.le_of_ble_eq_true rfl) ⟨(Nat.le_of_ble_eq_true rfl), (Nat.le_of_ble_eq_true rfl)⟩ (Nat.le_of_ble_eq_true rfl) (Nat.le_of_ble_eq_true rfl) hl.1 dX3_init_40 (fun a3 H locs hP hD hS => ?_)
  refine va_astq hx hb hK hP hD hS 1 3 _ 5 rfl rfl (sh_inR (k := 0) rfl) rfl (vp_in_nI (by omega) (by omega)) dX3_init_43 (fun H locs hP hD hS => ?_)
  rw [show (nI 2).toNatClampNeg = 2 from nI_clamp (by omega)] at hP hD
  have hP : va_P G.1 vwCl ((h0, .inr (1, [.ref qa, .int 0, .int 0])) :: (qa, .inl (G.2.2.2.1 3, 8, .inr (.inr (.inr (.inr (va_up (va_up (va_up (fun _ => none) 0 (some q1)) 1 (some q2)) 2 (some q3))))))) :: ((wN_Store G q1 a1 ++ wN_Store G q2 a2) ++ wN_Store G q3 a3)) H := hP
  have hD : va_D A ((h0, .inr (1, [.ref qa, .int 0, .int 0])) :: (qa, .inl (G.2.2.2.1 3, 8, .inr (.inr (.inr (.inr (va_up (va_up (va_up (fun _ => none) 0 (some q1)) 1 (some q2)) 2 (some q3))))))) :: ((wN_Store G q1 a1 ++ wN_Store G q2 a2) ++ wN_Store G q3 a3)) := hD
  refine lv_iinc (v := nI 3) (lv' := [(1, .int (nI 3)), (0, .ref h0)]) hx hb dX3_init_44 hl (k := 0) rfl (by decide) (by decide) rfl (fun ls hl => ?_)
  refine lv_goto (tgt := 25) hx hb dX3_init_47 (by decide) ?_
  refine lv_iload_n hx hb dX3_init_25 rfl (lv_at hl 0 rfl) ?_
  refine lv_bipush (v := nI 8) hx hb dX3_init_26 (by decide) ?_
  refine lv_icmp_ge (tgt := 50) hx hb dX3_init_28 (by decide) (fun c9 => absurd c9 (by decide +kernel)) (fun c9 => ?_)
  refine lv_aload_n hx hb dX3_init_31 rfl (lv_at hl 1 rfl) ?_
  refine va_get (D := G.1) (ci := 1) (C := RX3) (T := TX3) (N := 3) hx hb hts inX3 hown hK hP 0 rfl rfl 0 (by decide) (hts _ (sh_t1 (i := 193) (by decide +kernel) (by decide +kernel))) (fun _ h9 => h9) (v := .ref qa) rfl dX3_init_32 ?_
  refine lv_iload_n hx hb dX3_init_35 rfl (lv_at hl 0 rfl) ?_
  refine va_new (ci := 5) (fs := [.int 0, .int 0, .int 0, .int 0, .null, .null, .null, .null, .null, .null, .null, .null, .null]) (C := RX7) (T := TX7) (N := 13) hx hb hts inX7 tyX7 tyX7_ok hown (hts _ (sh_t1 (i := 190) (by decide +kernel) (by decide +kernel))) (hts _ it_X7) (hts _ yy_X7_init.1) hK hP hD hS hA rfl (fun j hj => by rcases (show j = 0 ∨ j = 1 ∨ j = 2 ∨ j = 3 ∨ j = 4 ∨ j = 5 ∨ j = 6 ∨ j = 7 ∨ j = 8 ∨ j = 9 ∨ j = 10 ∨ j = 11 ∨ j = 12 by omega) with rfl | rfl | rfl | rfl | rfl | rfl | rfl | rfl | rfl | rfl | rfl | rfl | rfl <;> rfl) (Nat.le_of_ble_eq_true rfl) (Nat.le_of_ble_eq_true rfl) dX3_init_36 (fun q4 H hP hD hS => ?_)
  refine lv_dup hx hb dX3_init_39 rfl ?_
  refine sh_cI C hAo hP hD hS (kN_Store l G q4) yy_X7_init rfl im_X7 ml_X3_24 rfl rfl (Nat.le_of_ble_eq_true rfl) ⟨(Nat.le_of_ble_eq_true rfl), (Nat.le_of_ble_eq_true rfl)⟩ (Nat.le_of_ble_eq_true rfl) (Nat.le_of_ble_eq_true rfl) hl.1 dX3_init_40 (fun a4 H locs hP hD hS => ?_)
  refine va_astq hx hb hK hP hD hS 1 3 _ 5 rfl rfl (sh_inR (k := 0) rfl) rfl (vp_in_nI (by omega) (by omega)) dX3_init_43 (fun H locs hP hD hS => ?_)
  rw [show (nI 3).toNatClampNeg = 3 from nI_clamp (by omega)] at hP hD
  have hP : va_P G.1 vwCl ((h0, .inr (1, [.ref qa, .int 0, .int 0])) :: (qa, .inl (G.2.2.2.1 3, 8, .inr (.inr (.inr (.inr (va_up (va_up (va_up (va_up (fun _ => none) 0 (some q1)) 1 (some q2)) 2 (some q3)) 3 (some q4))))))) :: (((wN_Store G q1 a1 ++ wN_Store G q2 a2) ++ wN_Store G q3 a3) ++ wN_Store G q4 a4)) H := hP
  have hD : va_D A ((h0, .inr (1, [.ref qa, .int 0, .int 0])) :: (qa, .inl (G.2.2.2.1 3, 8, .inr (.inr (.inr (.inr (va_up (va_up (va_up (va_up (fun _ => none) 0 (some q1)) 1 (some q2)) 2 (some q3)) 3 (some q4))))))) :: (((wN_Store G q1 a1 ++ wN_Store G q2 a2) ++ wN_Store G q3 a3) ++ wN_Store G q4 a4)) := hD
  refine lv_iinc (v := nI 4) (lv' := [(1, .int (nI 4)), (0, .ref h0)]) hx hb dX3_init_44 hl (k := 0) rfl (by decide) (by decide) rfl (fun ls hl => ?_)
  refine lv_goto (tgt := 25) hx hb dX3_init_47 (by decide) ?_
  refine lv_iload_n hx hb dX3_init_25 rfl (lv_at hl 0 rfl) ?_
  refine lv_bipush (v := nI 8) hx hb dX3_init_26 (by decide) ?_
  refine lv_icmp_ge (tgt := 50) hx hb dX3_init_28 (by decide) (fun c9 => absurd c9 (by decide +kernel)) (fun c9 => ?_)
  refine lv_aload_n hx hb dX3_init_31 rfl (lv_at hl 1 rfl) ?_
  refine va_get (D := G.1) (ci := 1) (C := RX3) (T := TX3) (N := 3) hx hb hts inX3 hown hK hP 0 rfl rfl 0 (by decide) (hts _ (sh_t1 (i := 193) (by decide +kernel) (by decide +kernel))) (fun _ h9 => h9) (v := .ref qa) rfl dX3_init_32 ?_
  refine lv_iload_n hx hb dX3_init_35 rfl (lv_at hl 0 rfl) ?_
  refine va_new (ci := 5) (fs := [.int 0, .int 0, .int 0, .int 0, .null, .null, .null, .null, .null, .null, .null, .null, .null]) (C := RX7) (T := TX7) (N := 13) hx hb hts inX7 tyX7 tyX7_ok hown (hts _ (sh_t1 (i := 190) (by decide +kernel) (by decide +kernel))) (hts _ it_X7) (hts _ yy_X7_init.1) hK hP hD hS hA rfl (fun j hj => by rcases (show j = 0 ∨ j = 1 ∨ j = 2 ∨ j = 3 ∨ j = 4 ∨ j = 5 ∨ j = 6 ∨ j = 7 ∨ j = 8 ∨ j = 9 ∨ j = 10 ∨ j = 11 ∨ j = 12 by omega) with rfl | rfl | rfl | rfl | rfl | rfl | rfl | rfl | rfl | rfl | rfl | rfl | rfl <;> rfl) (Nat.le_of_ble_eq_true rfl) (Nat.le_of_ble_eq_true rfl) dX3_init_36 (fun q5 H hP hD hS => ?_)
  refine lv_dup hx hb dX3_init_39 rfl ?_
  refine sh_cI C hAo hP hD hS (kN_Store l G q5) yy_X7_init rfl im_X7 ml_X3_24 rfl rfl (Nat.le_of_ble_eq_true rfl) ⟨(Nat.le_of_ble_eq_true rfl), (Nat.le_of_ble_eq_true rfl)⟩ (Nat.le_of_ble_eq_true rfl) (Nat.le_of_ble_eq_true rfl) hl.1 dX3_init_40 (fun a5 H locs hP hD hS => ?_)
  refine va_astq hx hb hK hP hD hS 1 3 _ 5 rfl rfl (sh_inR (k := 0) rfl) rfl (vp_in_nI (by omega) (by omega)) dX3_init_43 (fun H locs hP hD hS => ?_)
  rw [show (nI 4).toNatClampNeg = 4 from nI_clamp (by omega)] at hP hD
  have hP : va_P G.1 vwCl ((h0, .inr (1, [.ref qa, .int 0, .int 0])) :: (qa, .inl (G.2.2.2.1 3, 8, .inr (.inr (.inr (.inr (va_up (va_up (va_up (va_up (va_up (fun _ => none) 0 (some q1)) 1 (some q2)) 2 (some q3)) 3 (some q4)) 4 (some q5))))))) :: ((((wN_Store G q1 a1 ++ wN_Store G q2 a2) ++ wN_Store G q3 a3) ++ wN_Store G q4 a4) ++ wN_Store G q5 a5)) H := hP
  have hD : va_D A ((h0, .inr (1, [.ref qa, .int 0, .int 0])) :: (qa, .inl (G.2.2.2.1 3, 8, .inr (.inr (.inr (.inr (va_up (va_up (va_up (va_up (va_up (fun _ => none) 0 (some q1)) 1 (some q2)) 2 (some q3)) 3 (some q4)) 4 (some q5))))))) :: ((((wN_Store G q1 a1 ++ wN_Store G q2 a2) ++ wN_Store G q3 a3) ++ wN_Store G q4 a4) ++ wN_Store G q5 a5)) := hD
  refine lv_iinc (v := nI 5) (lv' := [(1, .int (nI 5)), (0, .ref h0)]) hx hb dX3_init_44 hl (k := 0) rfl (by decide) (by decide) rfl (fun ls hl => ?_)
  refine lv_goto (tgt := 25) hx hb dX3_init_47 (by decide) ?_
  refine lv_iload_n hx hb dX3_init_25 rfl (lv_at hl 0 rfl) ?_
  refine lv_bipush (v := nI 8) hx hb dX3_init_26 (by decide) ?_
  refine lv_icmp_ge (tgt := 50) hx hb dX3_init_28 (by decide) (fun c9 => absurd c9 (by decide +kernel)) (fun c9 => ?_)
  refine lv_aload_n hx hb dX3_init_31 rfl (lv_at hl 1 rfl) ?_
  refine va_get (D := G.1) (ci := 1) (C := RX3) (T := TX3) (N := 3) hx hb hts inX3 hown hK hP 0 rfl rfl 0 (by decide) (hts _ (sh_t1 (i := 193) (by decide +kernel) (by decide +kernel))) (fun _ h9 => h9) (v := .ref qa) rfl dX3_init_32 ?_
  refine lv_iload_n hx hb dX3_init_35 rfl (lv_at hl 0 rfl) ?_
  refine va_new (ci := 5) (fs := [.int 0, .int 0, .int 0, .int 0, .null, .null, .null, .null, .null, .null, .null, .null, .null]) (C := RX7) (T := TX7) (N := 13) hx hb hts inX7 tyX7 tyX7_ok hown (hts _ (sh_t1 (i := 190) (by decide +kernel) (by decide +kernel))) (hts _ it_X7) (hts _ yy_X7_init.1) hK hP hD hS hA rfl (fun j hj => by rcases (show j = 0 ∨ j = 1 ∨ j = 2 ∨ j = 3 ∨ j = 4 ∨ j = 5 ∨ j = 6 ∨ j = 7 ∨ j = 8 ∨ j = 9 ∨ j = 10 ∨ j = 11 ∨ j = 12 by omega) with rfl | rfl | rfl | rfl | rfl | rfl | rfl | rfl | rfl | rfl | rfl | rfl | rfl <;> rfl) (Nat.le_of_ble_eq_true rfl) (Nat.le_of_ble_eq_true rfl) dX3_init_36 (fun q6 H hP hD hS => ?_)
  refine lv_dup hx hb dX3_init_39 rfl ?_
  refine sh_cI C hAo hP hD hS (kN_Store l G q6) yy_X7_init rfl im_X7 ml_X3_24 rfl rfl (Nat.le_of_ble_eq_true rfl) ⟨(Nat.le_of_ble_eq_true rfl), (Nat.le_of_ble_eq_true rfl)⟩ (Nat.le_of_ble_eq_true rfl) (Nat.le_of_ble_eq_true rfl) hl.1 dX3_init_40 (fun a6 H locs hP hD hS => ?_)
  refine va_astq hx hb hK hP hD hS 1 3 _ 5 rfl rfl (sh_inR (k := 0) rfl) rfl (vp_in_nI (by omega) (by omega)) dX3_init_43 (fun H locs hP hD hS => ?_)
  rw [show (nI 5).toNatClampNeg = 5 from nI_clamp (by omega)] at hP hD
  have hP : va_P G.1 vwCl ((h0, .inr (1, [.ref qa, .int 0, .int 0])) :: (qa, .inl (G.2.2.2.1 3, 8, .inr (.inr (.inr (.inr (va_up (va_up (va_up (va_up (va_up (va_up (fun _ => none) 0 (some q1)) 1 (some q2)) 2 (some q3)) 3 (some q4)) 4 (some q5)) 5 (some q6))))))) :: (((((wN_Store G q1 a1 ++ wN_Store G q2 a2) ++ wN_Store G q3 a3) ++ wN_Store G q4 a4) ++ wN_Store G q5 a5) ++ wN_Store G q6 a6)) H := hP
  have hD : va_D A ((h0, .inr (1, [.ref qa, .int 0, .int 0])) :: (qa, .inl (G.2.2.2.1 3, 8, .inr (.inr (.inr (.inr (va_up (va_up (va_up (va_up (va_up (va_up (fun _ => none) 0 (some q1)) 1 (some q2)) 2 (some q3)) 3 (some q4)) 4 (some q5)) 5 (some q6))))))) :: (((((wN_Store G q1 a1 ++ wN_Store G q2 a2) ++ wN_Store G q3 a3) ++ wN_Store G q4 a4) ++ wN_Store G q5 a5) ++ wN_Store G q6 a6)) := hD
  refine lv_iinc (v := nI 6) (lv' := [(1, .int (nI 6)), (0, .ref h0)]) hx hb dX3_init_44 hl (k := 0) rfl (by decide) (by decide) rfl (fun ls hl => ?_)
  refine lv_goto (tgt := 25) hx hb dX3_init_47 (by decide) ?_
  refine lv_iload_n hx hb dX3_init_25 rfl (lv_at hl 0 rfl) ?_
  refine lv_bipush (v := nI 8) hx hb dX3_init_26 (by decide) ?_
  refine lv_icmp_ge (tgt := 50) hx hb dX3_init_28 (by decide) (fun c9 => absurd c9 (by decide +kernel)) (fun c9 => ?_)
  refine lv_aload_n hx hb dX3_init_31 rfl (lv_at hl 1 rfl) ?_
  refine va_get (D := G.1) (ci := 1) (C := RX3) (T := TX3) (N := 3) hx hb hts inX3 hown hK hP 0 rfl rfl 0 (by decide) (hts _ (sh_t1 (i := 193) (by decide +kernel) (by decide +kernel))) (fun _ h9 => h9) (v := .ref qa) rfl dX3_init_32 ?_
  refine lv_iload_n hx hb dX3_init_35 rfl (lv_at hl 0 rfl) ?_
  refine va_new (ci := 5) (fs := [.int 0, .int 0, .int 0, .int 0, .null, .null, .null, .null, .null, .null, .null, .null, .null]) (C := RX7) (T := TX7) (N := 13) hx hb hts inX7 tyX7 tyX7_ok hown (hts _ (sh_t1 (i := 190) (by decide +kernel) (by decide +kernel))) (hts _ it_X7) (hts _ yy_X7_init.1) hK hP hD hS hA rfl (fun j hj => by rcases (show j = 0 ∨ j = 1 ∨ j = 2 ∨ j = 3 ∨ j = 4 ∨ j = 5 ∨ j = 6 ∨ j = 7 ∨ j = 8 ∨ j = 9 ∨ j = 10 ∨ j = 11 ∨ j = 12 by omega) with rfl | rfl | rfl | rfl | rfl | rfl | rfl | rfl | rfl | rfl | rfl | rfl | rfl <;> rfl) (Nat.le_of_ble_eq_true rfl) (Nat.le_of_ble_eq_true rfl) dX3_init_36 (fun q7 H hP hD hS => ?_)
  refine lv_dup hx hb dX3_init_39 rfl ?_
  refine sh_cI C hAo hP hD hS (kN_Store l G q7) yy_X7_init rfl im_X7 ml_X3_24 rfl rfl (Nat.le_of_ble_eq_true rfl) ⟨(Nat.le_of_ble_eq_true rfl), (Nat.le_of_ble_eq_true rfl)⟩ (Nat.le_of_ble_eq_true rfl) (Nat.le_of_ble_eq_true rfl) hl.1 dX3_init_40 (fun a7 H locs hP hD hS => ?_)
  refine va_astq hx hb hK hP hD hS 1 3 _ 5 rfl rfl (sh_inR (k := 0) rfl) rfl (vp_in_nI (by omega) (by omega)) dX3_init_43 (fun H locs hP hD hS => ?_)
  rw [show (nI 6).toNatClampNeg = 6 from nI_clamp (by omega)] at hP hD
  have hP : va_P G.1 vwCl ((h0, .inr (1, [.ref qa, .int 0, .int 0])) :: (qa, .inl (G.2.2.2.1 3, 8, .inr (.inr (.inr (.inr (va_up (va_up (va_up (va_up (va_up (va_up (va_up (fun _ => none) 0 (some q1)) 1 (some q2)) 2 (some q3)) 3 (some q4)) 4 (some q5)) 5 (some q6)) 6 (some q7))))))) :: ((((((wN_Store G q1 a1 ++ wN_Store G q2 a2) ++ wN_Store G q3 a3) ++ wN_Store G q4 a4) ++ wN_Store G q5 a5) ++ wN_Store G q6 a6) ++ wN_Store G q7 a7)) H := hP
  have hD : va_D A ((h0, .inr (1, [.ref qa, .int 0, .int 0])) :: (qa, .inl (G.2.2.2.1 3, 8, .inr (.inr (.inr (.inr (va_up (va_up (va_up (va_up (va_up (va_up (va_up (fun _ => none) 0 (some q1)) 1 (some q2)) 2 (some q3)) 3 (some q4)) 4 (some q5)) 5 (some q6)) 6 (some q7))))))) :: ((((((wN_Store G q1 a1 ++ wN_Store G q2 a2) ++ wN_Store G q3 a3) ++ wN_Store G q4 a4) ++ wN_Store G q5 a5) ++ wN_Store G q6 a6) ++ wN_Store G q7 a7)) := hD
  refine lv_iinc (v := nI 7) (lv' := [(1, .int (nI 7)), (0, .ref h0)]) hx hb dX3_init_44 hl (k := 0) rfl (by decide) (by decide) rfl (fun ls hl => ?_)
  refine lv_goto (tgt := 25) hx hb dX3_init_47 (by decide) ?_
  refine lv_iload_n hx hb dX3_init_25 rfl (lv_at hl 0 rfl) ?_
  refine lv_bipush (v := nI 8) hx hb dX3_init_26 (by decide) ?_
  refine lv_icmp_ge (tgt := 50) hx hb dX3_init_28 (by decide) (fun c9 => absurd c9 (by decide +kernel)) (fun c9 => ?_)
  refine lv_aload_n hx hb dX3_init_31 rfl (lv_at hl 1 rfl) ?_
  refine va_get (D := G.1) (ci := 1) (C := RX3) (T := TX3) (N := 3) hx hb hts inX3 hown hK hP 0 rfl rfl 0 (by decide) (hts _ (sh_t1 (i := 193) (by decide +kernel) (by decide +kernel))) (fun _ h9 => h9) (v := .ref qa) rfl dX3_init_32 ?_
  refine lv_iload_n hx hb dX3_init_35 rfl (lv_at hl 0 rfl) ?_
  refine va_new (ci := 5) (fs := [.int 0, .int 0, .int 0, .int 0, .null, .null, .null, .null, .null, .null, .null, .null, .null]) (C := RX7) (T := TX7) (N := 13) hx hb hts inX7 tyX7 tyX7_ok hown (hts _ (sh_t1 (i := 190) (by decide +kernel) (by decide +kernel))) (hts _ it_X7) (hts _ yy_X7_init.1) hK hP hD hS hA rfl (fun j hj => by rcases (show j = 0 ∨ j = 1 ∨ j = 2 ∨ j = 3 ∨ j = 4 ∨ j = 5 ∨ j = 6 ∨ j = 7 ∨ j = 8 ∨ j = 9 ∨ j = 10 ∨ j = 11 ∨ j = 12 by omega) with rfl | rfl | rfl | rfl | rfl | rfl | rfl | rfl | rfl | rfl | rfl | rfl | rfl <;> rfl) (Nat.le_of_ble_eq_true rfl) (Nat.le_of_ble_eq_true rfl) dX3_init_36 (fun q8 H hP hD hS => ?_)
  refine lv_dup hx hb dX3_init_39 rfl ?_
  refine sh_cI C hAo hP hD hS (kN_Store l G q8) yy_X7_init rfl im_X7 ml_X3_24 rfl rfl (Nat.le_of_ble_eq_true rfl) ⟨(Nat.le_of_ble_eq_true rfl), (Nat.le_of_ble_eq_true rfl)⟩ (Nat.le_of_ble_eq_true rfl) (Nat.le_of_ble_eq_true rfl) hl.1 dX3_init_40 (fun a8 H locs hP hD hS => ?_)
  refine va_astq hx hb hK hP hD hS 1 3 _ 5 rfl rfl (sh_inR (k := 0) rfl) rfl (vp_in_nI (by omega) (by omega)) dX3_init_43 (fun H locs hP hD hS => ?_)
  rw [show (nI 7).toNatClampNeg = 7 from nI_clamp (by omega)] at hP hD
  have hP : va_P G.1 vwCl ((h0, .inr (1, [.ref qa, .int 0, .int 0])) :: (qa, .inl (G.2.2.2.1 3, 8, .inr (.inr (.inr (.inr (va_up (va_up (va_up (va_up (va_up (va_up (va_up (va_up (fun _ => none) 0 (some q1)) 1 (some q2)) 2 (some q3)) 3 (some q4)) 4 (some q5)) 5 (some q6)) 6 (some q7)) 7 (some q8))))))) :: (((((((wN_Store G q1 a1 ++ wN_Store G q2 a2) ++ wN_Store G q3 a3) ++ wN_Store G q4 a4) ++ wN_Store G q5 a5) ++ wN_Store G q6 a6) ++ wN_Store G q7 a7) ++ wN_Store G q8 a8)) H := hP
  have hD : va_D A ((h0, .inr (1, [.ref qa, .int 0, .int 0])) :: (qa, .inl (G.2.2.2.1 3, 8, .inr (.inr (.inr (.inr (va_up (va_up (va_up (va_up (va_up (va_up (va_up (va_up (fun _ => none) 0 (some q1)) 1 (some q2)) 2 (some q3)) 3 (some q4)) 4 (some q5)) 5 (some q6)) 6 (some q7)) 7 (some q8))))))) :: (((((((wN_Store G q1 a1 ++ wN_Store G q2 a2) ++ wN_Store G q3 a3) ++ wN_Store G q4 a4) ++ wN_Store G q5 a5) ++ wN_Store G q6 a6) ++ wN_Store G q7 a7) ++ wN_Store G q8 a8)) := hD
  refine lv_iinc (v := nI 8) (lv' := [(1, .int (nI 8)), (0, .ref h0)]) hx hb dX3_init_44 hl (k := 0) rfl (by decide) (by decide) rfl (fun ls hl => ?_)
  refine lv_goto (tgt := 25) hx hb dX3_init_47 (by decide) ?_
  refine lv_iload_n hx hb dX3_init_25 rfl (lv_at hl 0 rfl) ?_
  refine lv_bipush (v := nI 8) hx hb dX3_init_26 (by decide) ?_
  refine lv_icmp_ge (tgt := 50) hx hb dX3_init_28 (by decide) (fun c9 => ?_) (fun c9 => absurd (by decide +kernel) c9)
  have hP := sh_Pq (g := fun j => some ((fun k => if k < 2 then qa else if k < 12 then (if k = 2 then q1 else a1 (k - 2)) else if k < 22 then (if k = 12 then q2 else a2 (k - 12)) else if k < 32 then (if k = 22 then q3 else a3 (k - 22)) else if k < 42 then (if k = 32 then q4 else a4 (k - 32)) else if k < 52 then (if k = 42 then q5 else a5 (k - 42)) else if k < 62 then (if k = 52 then q6 else a6 (k - 52)) else if k < 72 then (if k = 62 then q7 else a7 (k - 62)) else if k < 82 then (if k = 72 then q8 else a8 (k - 72)) else 0) (2 + 10 * j))) hP (fun j hj => by rcases (show j = 0 ∨ j = 1 ∨ j = 2 ∨ j = 3 ∨ j = 4 ∨ j = 5 ∨ j = 6 ∨ j = 7 by omega) with rfl | rfl | rfl | rfl | rfl | rfl | rfl | rfl <;> rfl)
  have hD := sh_Dq (e2 := .inl (G.2.2.2.1 3, 8, .inr (.inr (.inr (.inr (fun j => some ((fun k => if k < 2 then qa else if k < 12 then (if k = 2 then q1 else a1 (k - 2)) else if k < 22 then (if k = 12 then q2 else a2 (k - 12)) else if k < 32 then (if k = 22 then q3 else a3 (k - 22)) else if k < 42 then (if k = 32 then q4 else a4 (k - 32)) else if k < 52 then (if k = 42 then q5 else a5 (k - 42)) else if k < 62 then (if k = 52 then q6 else a6 (k - 52)) else if k < 72 then (if k = 62 then q7 else a7 (k - 62)) else if k < 82 then (if k = 72 then q8 else a8 (k - 72)) else 0) (2 + 10 * j)))))))) hD
  exact W.vret hx hb hr (fun t ht hW => ⟨⟨(fun k => if k < 2 then qa else if k < 12 then (if k = 2 then q1 else a1 (k - 2)) else if k < 22 then (if k = 12 then q2 else a2 (k - 12)) else if k < 32 then (if k = 22 then q3 else a3 (k - 22)) else if k < 42 then (if k = 32 then q4 else a4 (k - 32)) else if k < 52 then (if k = 42 then q5 else a5 (k - 42)) else if k < 62 then (if k = 52 then q6 else a6 (k - 52)) else if k < 72 then (if k = 62 then q7 else a7 (k - 62)) else if k < 82 then (if k = 72 then q8 else a8 (k - 72)) else 0), rfl, trivial, by rw [ht]; exact hP, hD⟩, hS.F ht⟩) hS.2.2 dX3_init_50
