/-! constructors with calls, written by gen/mk_ctor.py -/
theorem ob_X4 : Cond.methodLink RX4 3 objectInit ∈ sh_ws := sh_t1 (i := 209) (by decide +kernel) (by decide +kernel)
theorem im_X4 : Cond.instanceMethod yX4_init ∈ sh_ws := sh_t1 (i := 207) (by decide +kernel) (by decide +kernel)
theorem it_X4 : Cond.instantiable RX4 5 ∈ sh_ws := sh_t1 (i := 205) (by decide +kernel) (by decide +kernel)
def wN_Keeper (G : sh_Ev) (st : Nat) (h0 : Nat) (a : Nat → Nat) : va_W := (h0, .inr (2, [.ref st, .ref (a 1), .ref (a 5), .ref (a 8), .int 0])) :: ((wN_Order G (a 1) (fun i => a (1 + i)) ++ wN_Way G (a 5) (fun i => a (5 + i))) ++ wN_Pool G (a 8) (fun i => a (8 + i)))
set_option maxRecDepth 100000 in
set_option maxHeartbeats 8000000 in
theorem kN_Keeper (l : Launch) (G : sh_Ev) (st : Nat) (h0 : Nat) : sh_Nt l yX4_init cX4_init 2 3 11 896 G [.ref h0, .ref st] [(h0, .inr (2, [.null, .null, .null, .null, .int 0]))] (wN_Keeper G st h0) := by
  refine sh_mkN (by decide) rfl (Nat.le_of_ble_eq_true rfl) (fun p e s m args below meth c A ls C hAo hin hr hP hD hS hl => ?_)
  obtain ⟨hx, hb, hml, hown, hts, hK, hA, hlocks, hSf⟩ := id C
  have hl : lv_has ls 2 [(0, .ref h0), (1, .ref st)] := hl
  refine lv_aload_n hx hb dX4_init_0 rfl (lv_at hl 0 rfl) ?_
  refine W.objInit hx hb hown (hts _ ob_X4) (hts _ ob_i) (hts _ ob_c) rfl (by rw [hml]; exact hl.1) rfl dX4_init_1 (Nat.le_of_ble_eq_true rfl) (Nat.le_of_ble_eq_true rfl) ?_
  refine W.eq (g2 := F0 m 4 ls []) rfl ?_
  refine lv_aload_n hx hb dX4_init_4 rfl (lv_at hl 0 rfl) ?_
  refine va_new (ci := 3) (fs := [.null, .null, .null, .int 0]) (C := RX5) (T := TX5) (N := 4) hx hb hts inX5 tyX5 tyX5_ok hown (hts _ (sh_t1 (i := 210) (by decide +kernel) (by decide +kernel))) (hts _ it_X5) (hts _ yy_X5_init.1) hK hP hD hS hA rfl (fun j hj => by rcases (show j = 0 ∨ j = 1 ∨ j = 2 ∨ j = 3 by omega) with rfl | rfl | rfl | rfl <;> rfl) (Nat.le_of_ble_eq_true rfl) (Nat.le_of_ble_eq_true rfl) dX4_init_5 (fun q1 H hP hD hS => ?_)
  refine lv_dup hx hb dX4_init_8 rfl ?_
  refine sh_cN C hAo hP hD hS (kN_Order l G q1) yy_X5_init rfl im_X5 nl_X4_11 rfl rfl (Nat.le_of_ble_eq_true rfl) ⟨(Nat.le_of_ble_eq_true rfl), (Nat.le_of_ble_eq_true rfl)⟩ (Nat.le_of_ble_eq_true rfl) (Nat.le_of_ble_eq_true rfl) hl.1 dX4_init_9 (fun a1 H locs hP hD hS => ?_)
  have hP : va_P G.1 vwCl ((h0, .inr (2, [.null, .null, .null, .null, .int 0])) :: wN_Order G q1 a1) H := hP
  have hD : va_D A ((h0, .inr (2, [.null, .null, .null, .null, .int 0])) :: wN_Order G q1 a1) := hD
  refine va_putF (D := G.1) (ci := 2) (v := .ref q1) (ty := .object "SteadyShelf$Order") (C := RX4) (T := TX4) (N := 5) hx hb hts inX4 tyX4 tyX4_ok nmX4 hown hK hP hD hS 0 rfl rfl 1 (by decide) (hts _ (sh_t2 (i := 53) (by decide +kernel) (by decide +kernel))) (fun _ h9 => h9) rfl hin rfl (by decide +kernel) rfl rfl (Nat.le_of_ble_eq_true rfl) dX4_init_12 (fun H locs hP hD hS => ?_)
  have hP : va_P G.1 vwCl ((h0, .inr (2, [.null, .ref q1, .null, .null, .int 0])) :: wN_Order G q1 a1) H := hP
  have hD : va_D A ((h0, .inr (2, [.null, .ref q1, .null, .null, .int 0])) :: wN_Order G q1 a1) := hD
  refine lv_aload_n hx hb dX4_init_15 rfl (lv_at hl 0 rfl) ?_
  refine va_new (ci := 9) (fs := [.null, .null, .int 0, .int 0]) (C := RX11) (T := TX11) (N := 4) hx hb hts inX11 tyX11 tyX11_ok hown (hts _ (sh_t1 (i := 237) (by decide +kernel) (by decide +kernel))) (hts _ it_X11) (hts _ yy_X11_init.1) hK hP hD hS hA rfl (fun j hj => by rcases (show j = 0 ∨ j = 1 ∨ j = 2 ∨ j = 3 by omega) with rfl | rfl | rfl | rfl <;> rfl) (Nat.le_of_ble_eq_true rfl) (Nat.le_of_ble_eq_true rfl) dX4_init_16 (fun q2 H hP hD hS => ?_)
  refine lv_dup hx hb dX4_init_19 rfl ?_
  refine sh_cN C hAo hP hD hS (kN_Way l G q2) yy_X11_init rfl im_X11 nl_X4_20 rfl rfl (Nat.le_of_ble_eq_true rfl) ⟨(Nat.le_of_ble_eq_true rfl), (Nat.le_of_ble_eq_true rfl)⟩ (Nat.le_of_ble_eq_true rfl) (Nat.le_of_ble_eq_true rfl) hl.1 dX4_init_20 (fun a2 H locs hP hD hS => ?_)
  have hP : va_P G.1 vwCl ((h0, .inr (2, [.null, .ref q1, .null, .null, .int 0])) :: (wN_Order G q1 a1 ++ wN_Way G q2 a2)) H := hP
  have hD : va_D A ((h0, .inr (2, [.null, .ref q1, .null, .null, .int 0])) :: (wN_Order G q1 a1 ++ wN_Way G q2 a2)) := hD
  refine va_putF (D := G.1) (ci := 2) (v := .ref q2) (ty := .object "SteadyShelf$Way") (C := RX4) (T := TX4) (N := 5) hx hb hts inX4 tyX4 tyX4_ok nmX4 hown hK hP hD hS 0 rfl rfl 2 (by decide) (hts _ (sh_t2 (i := 56) (by decide +kernel) (by decide +kernel))) (fun _ h9 => h9) rfl hin rfl (by decide +kernel) rfl rfl (Nat.le_of_ble_eq_true rfl) dX4_init_23 (fun H locs hP hD hS => ?_)
  have hP : va_P G.1 vwCl ((h0, .inr (2, [.null, .ref q1, .ref q2, .null, .int 0])) :: (wN_Order G q1 a1 ++ wN_Way G q2 a2)) H := hP
  have hD : va_D A ((h0, .inr (2, [.null, .ref q1, .ref q2, .null, .int 0])) :: (wN_Order G q1 a1 ++ wN_Way G q2 a2)) := hD
  refine lv_aload_n hx hb dX4_init_26 rfl (lv_at hl 0 rfl) ?_
  refine va_new (ci := 4) (fs := [.null, .null, .null, .int 0]) (C := RX6) (T := TX6) (N := 4) hx hb hts inX6 tyX6 tyX6_ok hown (hts _ (sh_t2 (i := 23) (by decide +kernel) (by decide +kernel))) (hts _ it_X6) (hts _ yy_X6_init.1) hK hP hD hS hA rfl (fun j hj => by rcases (show j = 0 ∨ j = 1 ∨ j = 2 ∨ j = 3 by omega) with rfl | rfl | rfl | rfl <;> rfl) (Nat.le_of_ble_eq_true rfl) (Nat.le_of_ble_eq_true rfl) dX4_init_27 (fun q3 H hP hD hS => ?_)
  refine lv_dup hx hb dX4_init_30 rfl ?_
  refine sh_cN C hAo hP hD hS (kN_Pool l G q3) yy_X6_init rfl im_X6 nl_X4_27 rfl rfl (Nat.le_of_ble_eq_true rfl) ⟨(Nat.le_of_ble_eq_true rfl), (Nat.le_of_ble_eq_true rfl)⟩ (Nat.le_of_ble_eq_true rfl) (Nat.le_of_ble_eq_true rfl) hl.1 dX4_init_31 (fun a3 H locs hP hD hS => ?_)
  have hP : va_P G.1 vwCl ((h0, .inr (2, [.null, .ref q1, .ref q2, .null, .int 0])) :: ((wN_Order G q1 a1 ++ wN_Way G q2 a2) ++ wN_Pool G q3 a3)) H := hP
  have hD : va_D A ((h0, .inr (2, [.null, .ref q1, .ref q2, .null, .int 0])) :: ((wN_Order G q1 a1 ++ wN_Way G q2 a2) ++ wN_Pool G q3 a3)) := hD
  refine va_putF (D := G.1) (ci := 2) (v := .ref q3) (ty := .object "SteadyShelf$Pool") (C := RX4) (T := TX4) (N := 5) hx hb hts inX4 tyX4 tyX4_ok nmX4 hown hK hP hD hS 0 rfl rfl 3 (by decide) (hts _ (sh_t2 (i := 59) (by decide +kernel) (by decide +kernel))) (fun _ h9 => h9) rfl hin rfl (by decide +kernel) rfl rfl (Nat.le_of_ble_eq_true rfl) dX4_init_34 (fun H locs hP hD hS => ?_)
  have hP : va_P G.1 vwCl ((h0, .inr (2, [.null, .ref q1, .ref q2, .ref q3, .int 0])) :: ((wN_Order G q1 a1 ++ wN_Way G q2 a2) ++ wN_Pool G q3 a3)) H := hP
  have hD : va_D A ((h0, .inr (2, [.null, .ref q1, .ref q2, .ref q3, .int 0])) :: ((wN_Order G q1 a1 ++ wN_Way G q2 a2) ++ wN_Pool G q3 a3)) := hD
  refine lv_aload_n hx hb dX4_init_37 rfl (lv_at hl 0 rfl) ?_
  refine lv_iconst (v := 0) hx hb dX4_init_38 (by decide) ?_
  refine va_put (D := G.1) (ci := 2) (v := .int 0) (ty := .int) (C := RX4) (T := TX4) (N := 5) hx hb hts inX4 tyX4 tyX4_ok nmX4 hown hK hP hD hS 0 rfl rfl 4 (by decide) (hts _ (sh_t2 (i := 61) (by decide +kernel) (by decide +kernel))) (fun _ h9 => h9) rfl (by decide +kernel) rfl rfl (Nat.le_of_ble_eq_true rfl) dX4_init_39 (fun H locs hP hD hS => ?_)
  have hP : va_P G.1 vwCl ((h0, .inr (2, [.null, .ref q1, .ref q2, .ref q3, .int 0])) :: ((wN_Order G q1 a1 ++ wN_Way G q2 a2) ++ wN_Pool G q3 a3)) H := hP
  have hD : va_D A ((h0, .inr (2, [.null, .ref q1, .ref q2, .ref q3, .int 0])) :: ((wN_Order G q1 a1 ++ wN_Way G q2 a2) ++ wN_Pool G q3 a3)) := hD
  refine lv_aload_n hx hb dX4_init_42 rfl (lv_at hl 0 rfl) ?_
  refine lv_aload_n hx hb dX4_init_43 rfl (lv_at hl 1 rfl) ?_
  refine va_putF (D := G.1) (ci := 2) (v := .ref st) (ty := .object "SteadyShelf$Store") (C := RX4) (T := TX4) (N := 5) hx hb hts inX4 tyX4 tyX4_ok nmX4 hown hK hP hD hS 0 rfl rfl 0 (by decide) (hts _ (sh_t2 (i := 52) (by decide +kernel) (by decide +kernel))) (fun _ h9 => h9) rfl hin rfl (by decide +kernel) rfl rfl (Nat.le_of_ble_eq_true rfl) dX4_init_44 (fun H locs hP hD hS => ?_)
  have hP : va_P G.1 vwCl ((h0, .inr (2, [.ref st, .ref q1, .ref q2, .ref q3, .int 0])) :: ((wN_Order G q1 a1 ++ wN_Way G q2 a2) ++ wN_Pool G q3 a3)) H := hP
  have hD : va_D A ((h0, .inr (2, [.ref st, .ref q1, .ref q2, .ref q3, .int 0])) :: ((wN_Order G q1 a1 ++ wN_Way G q2 a2) ++ wN_Pool G q3 a3)) := hD
  exact W.vret hx hb hr (fun t ht hW => ⟨⟨(fun k => if k < 5 then (if k = 1 then q1 else a1 (k - 1)) else if k < 8 then (if k = 5 then q2 else a2 (k - 5)) else (if k = 8 then q3 else a3 (k - 8))), rfl, trivial, by rw [ht]; exact hP, hD⟩, hS.F ht⟩) hS.2.2 dX4_init_47
