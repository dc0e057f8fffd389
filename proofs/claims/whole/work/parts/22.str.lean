/-! The words of the enum: length() and charAt(), by the JDK's own code -/
theorem yy_J0_length_8abf5 : sh_Y yJ0_length_8abf5 cJ0_length_8abf5 1 (some .int) 0 := ⟨sh_t1 (i := 16) (by decide +kernel) (by decide +kernel), sh_t3 (i := 44) (by decide +kernel) (by decide +kernel), by decide, by decide +kernel⟩
theorem yv_J0_length_8abf5 : sh_YV yJ0_length_8abf5 := ⟨sh_t3 (i := 42) (by decide +kernel) (by decide +kernel), sh_t3 (i := 43) (by decide +kernel) (by decide +kernel)⟩
theorem yy_J0_charAt_5068e : sh_Y yJ0_charAt_5068e cJ0_charAt_5068e 2 (some .char) 1 := ⟨sh_t1 (i := 16) (by decide +kernel) (by decide +kernel), sh_t3 (i := 54) (by decide +kernel) (by decide +kernel), by decide, by decide +kernel⟩
theorem yv_J0_charAt_5068e : sh_YV yJ0_charAt_5068e := ⟨sh_t3 (i := 52) (by decide +kernel) (by decide +kernel), sh_t3 (i := 53) (by decide +kernel) (by decide +kernel)⟩
theorem yy_J0_coder_7d493 : sh_Y yJ0_coder_7d493 cJ0_coder_7d493 1 (some .byte) 0 := ⟨sh_t1 (i := 16) (by decide +kernel) (by decide +kernel), sh_t3 (i := 48) (by decide +kernel) (by decide +kernel), by decide, by decide +kernel⟩
theorem yv_J0_coder_7d493 : sh_YV yJ0_coder_7d493 := ⟨sh_t3 (i := 46) (by decide +kernel) (by decide +kernel), sh_t3 (i := 47) (by decide +kernel) (by decide +kernel)⟩
theorem yy_J0_isLatin1_aae02 : sh_Y yJ0_isLatin1_aae02 cJ0_isLatin1_aae02 1 (some .boolean) 0 := ⟨sh_t1 (i := 16) (by decide +kernel) (by decide +kernel), sh_t3 (i := 58) (by decide +kernel) (by decide +kernel), by decide, by decide +kernel⟩
theorem yv_J0_isLatin1_aae02 : sh_YV yJ0_isLatin1_aae02 := ⟨sh_t3 (i := 56) (by decide +kernel) (by decide +kernel), sh_t3 (i := 57) (by decide +kernel) (by decide +kernel)⟩
theorem yy_J0_checkIndex_df160 : sh_Y yJ0_checkIndex_df160 cJ0_checkIndex_df160 2 none 2 := ⟨sh_t1 (i := 16) (by decide +kernel) (by decide +kernel), sh_t3 (i := 64) (by decide +kernel) (by decide +kernel), by decide, by decide +kernel⟩
theorem ys_J0_checkIndex_df160 : Cond.static yJ0_checkIndex_df160 ∈ sh_ws := sh_t3 (i := 63) (by decide +kernel) (by decide +kernel)
theorem yy_J1_charAt_3b067 : sh_Y yJ1_charAt_3b067 cJ1_charAt_3b067 2 (some .char) 2 := ⟨sh_t1 (i := 17) (by decide +kernel) (by decide +kernel), sh_t3 (i := 61) (by decide +kernel) (by decide +kernel), by decide, by decide +kernel⟩
theorem ys_J1_charAt_3b067 : Cond.static yJ1_charAt_3b067 ∈ sh_ws := sh_t3 (i := 60) (by decide +kernel) (by decide +kernel)
theorem yy_J3_checkIndex_8e157 : sh_Y yJ3_checkIndex_8e157 cJ3_checkIndex_8e157 3 (some .int) 3 := ⟨sh_t1 (i := 18) (by decide +kernel) (by decide +kernel), sh_t3 (i := 69) (by decide +kernel) (by decide +kernel), by decide, by decide +kernel⟩
theorem ys_J3_checkIndex_8e157 : Cond.static yJ3_checkIndex_8e157 ∈ sh_ws := sh_t3 (i := 68) (by decide +kernel) (by decide +kernel)
theorem ml_RJ0_335 : Cond.methodLink RJ0 335 yJ0_coder_7d493 ∈ sh_ws := sh_t3 (i := 45) (by decide +kernel) (by decide +kernel)
theorem ml_RJ0_492 : Cond.methodLink RJ0 492 yJ0_isLatin1_aae02 ∈ sh_ws := sh_t3 (i := 55) (by decide +kernel) (by decide +kernel)
theorem ml_RJ0_495 : Cond.methodLink RJ0 495 yJ1_charAt_3b067 ∈ sh_ws := sh_t3 (i := 59) (by decide +kernel) (by decide +kernel)
theorem ml_RJ1_9 : Cond.methodLink RJ1 9 yJ0_checkIndex_df160 ∈ sh_ws := sh_t3 (i := 62) (by decide +kernel) (by decide +kernel)
theorem ml_RJ0_1059 : Cond.methodLink RJ0 1059 yJ3_checkIndex_8e157 ∈ sh_ws := sh_t3 (i := 67) (by decide +kernel) (by decide +kernel)
theorem ml_RX10_104 : Cond.methodLink RX10 104 yJ0_length_8abf5 ∈ sh_ws := sh_t3 (i := 41) (by decide +kernel) (by decide +kernel)
theorem ml_RX10_108 : Cond.methodLink RX10 108 yJ0_charAt_5068e ∈ sh_ws := sh_t3 (i := 51) (by decide +kernel) (by decide +kernel)
theorem ml_RX13_283 : Cond.methodLink RX13 283 yJ0_length_8abf5 ∈ sh_ws := sh_t6 (i := 220) (by decide +kernel) (by decide +kernel)
theorem ml_RX13_288 : Cond.methodLink RX13 288 yJ0_charAt_5068e ∈ sh_ws := sh_t6 (i := 221) (by decide +kernel) (by decide +kernel)
theorem fl_RJ0_9 : Cond.fieldLink RJ0 9 "java/lang/String" "value" "[B" ∈ sh_ws := sh_t8 (i := 144) (by decide +kernel) (by decide +kernel)
theorem fl_RJ0_15 : Cond.fieldLink RJ0 15 "java/lang/String" "coder" "B" ∈ sh_ws := sh_t8 (i := 145) (by decide +kernel) (by decide +kernel)
theorem fl_RJ0_38 : Cond.fieldLink RJ0 38 "java/lang/String" "COMPACT_STRINGS" "Z" ∈ sh_ws := sh_t3 (i := 49) (by decide +kernel) (by decide +kernel)
theorem fl_RJ0_1053 : Cond.fieldLink RJ0 1053 "jdk/internal/util/Preconditions" "SIOOBE_FORMATTER" "Ljava/util/function/BiFunction;" ∈ sh_ws := sh_t3 (i := 65) (by decide +kernel) (by decide +kernel)
section ShStr
variable {p : Program} {l : Launch} {e : Env} {d d' : Nat} {s : State} {m : MethodId} {args : Array Value} {below : List Frame} {meth : Method} {c : Code} {H : Heap} {locs : List Loc} {Q : State → Prop}
variable {cc : ByteArray} {nL : Nat} {own : String} {G : sh_Ev} {A : Nat → Prop} {tb : List sh_Ds} {S : sh_St} {pc : Nat} {ls : Array Slot} {rest st0 : List Value} {β : Type} {res : β}
theorem sh_rk {res : Int32 × sh_St} {rt : FieldType} (C : sh_Cx p s m args meth c cc nL own G A) (h : sh_Wx G tb A s H locs S) (hr : meth.sig.returnType = some rt) {v : Int32} (hn : narrow rt (.int v) = .int v) (hf : some (v, S) = some res) (hdg : decode cc pc = .ok (.ireturn, 1)) : W p l e (sh_rm d) s m args below meth c H locs 0 0 (sh_Qi below args s G tb A res) (F0 m pc ls [.int v]) := by
  obtain ⟨hx, hb, hml, hown, hts, hK, hA, hlocks, hSf⟩ := C
  exact W.zret (v := v) hx hb hr hn (fun t ht hW => ⟨⟨v, S, rfl, Option.some.inj hf, by rw [ht]; exact h.1, va_K.moved hW.alike hK, h.2.1⟩, h.2.2.F ht⟩) h.2.2.2.2 hdg
theorem sh_vkS (C : sh_Cx p s m args meth c cc nL own G A) : vk_S 9 sh_len sh_byt G.2.2.2.2 (fun i => G.2.2.2.2 (100 + i)) A s s.heap := C.2.2.2.2.2.2.2.2.2.2.1
/-- a call on one of the words -/
theorem sh_Wi (C : sh_Cx p s m args meth c cc nL own G A) (h : sh_Wx G tb A s H locs S) {y : MethodName} {cy : ByteArray} {mL n idx i : Nat} {rt : FieldType} {vs : sh_Ev → List Value} {F : sh_St → Option (Int32 × sh_St)} (hi : i < 9) (hyc : y.cls = "java/lang/String") (M : sh_Mi l y cy mL rt d' tb vs F) (Y : sh_Y y cy mL (some rt) n) (V : sh_YV y) (L : Cond.methodLink own idx y ∈ sh_ws)
    {f : Int32 → sh_St → Option β} (hf : sh_c (F S) f = some res) {As : List Value} (hvs : vs G = .ref (G.2.2.2.2 i) :: As) (hn : As.length = n) (hst : st0 = As.reverse ++ .ref (G.2.2.2.2 i) :: rest) (hrest : (rest.map fun v => v.category).sum ≤ 8) (hd : d' < d) (hls : ls.size = nL) (hdg : decode cc pc = .ok (.invokevirtual idx, 3))
    (kk : ∀ (r : Int32) (S' : sh_St) (H1 : Heap) (locs1 : List Loc), sh_Wx G tb A s H1 locs1 S' → f r S' = some res → W p l e (sh_rm d) s m args below meth c H1 locs1 0 0 Q (F0 m (pc + 3) ls (.int r :: rest))) : W p l e (sh_rm d) s m args below meth c H locs 0 0 Q (F0 m pc ls st0) := by
  obtain ⟨r, S', hF, hf⟩ := sh_c_of hf
  have hM := M G H.size S (r, S') hF
  rw [hvs] at hM
  refine va_calli (va_runV (As := As) (rest := rest) ⟨C.1, C.2.1, C.2.2.1, C.2.2.2.1, C.2.2.2.2.1⟩ hM (sh_cwV C Y V L hd) ⟨sh_blind _ G tb _ S, by rw [hyc]; exact vk_recv (sh_vkS C) hi h.2.2, fun U hU hW => ⟨rfl, sh_before C h U hU hW⟩⟩ rfl hn hls hst (lv_room hrest) hdg ⟨Nat.le_refl 0, Nat.le_refl 0⟩) h.2.2 (fun q _ hq => sh_freeA C h q hq) (sh_freeA C h) (fun r1 u t H1 locs1 ht1 hvm hw hB hz1 hk1 hS => ?_)
  cases hw
  exact kk _ _ H1 locs1 (sh_behind C h ht1 hB hS) hf
/-- a static method of another class -/
theorem sh_cwG (C : sh_Cx p s m args meth c cc nL own G A) {y : MethodName} {cy : ByteArray} {mL n idx : Nat} {ret : Option FieldType} (Y : sh_Y y cy mL ret n) (V : Cond.static y ∈ sh_ws) (L : Cond.methodLink own idx y ∈ sh_ws) (hd : d' < d) : CallB (sh_rm d) s args own idx y cy mL ret (sh_wq y cy mL ret) (sh_rm d') 0 0 n ∧ (Cond.static y).before args s = true := by
  obtain ⟨hi, hc, hm, hy⟩ := Y
  exact ⟨callB_of n C.2.2.2.2.1 (sh_good hc) rfl rfl rfl (C.2.2.2.2.1 _ hi) (C.2.2.2.2.1 _ L) hy (sh_rmR hd hm), C.2.2.2.2.1 _ V⟩
theorem sh_Gi (C : sh_Cx p s m args meth c cc nL own G A) (h : sh_Wx G tb A s H locs S) {y : MethodName} {cy : ByteArray} {mL n idx : Nat} {rt : FieldType} {vs : sh_Ev → List Value} {F : sh_St → Option (Int32 × sh_St)} (M : sh_Mi l y cy mL rt d' tb vs F) (Y : sh_Y y cy mL (some rt) n) (V : Cond.static y ∈ sh_ws) (L : Cond.methodLink own idx y ∈ sh_ws)
    {f : Int32 → sh_St → Option β} (hf : sh_c (F S) f = some res) {As : List Value} (hvs : vs G = As) (hn : As.length = n) (hst : st0 = As.reverse ++ rest) (hrest : (rest.map fun v => v.category).sum ≤ 8) (hd : d' < d) (hls : ls.size = nL) (hdg : decode cc pc = .ok (.invokestatic idx, 3))
    (kk : ∀ (r : Int32) (S' : sh_St) (H1 : Heap) (locs1 : List Loc), sh_Wx G tb A s H1 locs1 S' → f r S' = some res → W p l e (sh_rm d) s m args below meth c H1 locs1 0 0 Q (F0 m (pc + 3) ls (.int r :: rest))) : W p l e (sh_rm d) s m args below meth c H locs 0 0 Q (F0 m pc ls st0) := by
  obtain ⟨r, S', hF, hf⟩ := sh_c_of hf
  have hM := M G H.size S (r, S') hF
  rw [hvs] at hM
  refine va_calli (va_runS (As := As) (rest := rest) ⟨C.1, C.2.1, C.2.2.1, C.2.2.2.1, C.2.2.2.2.1⟩ hM (sh_cwG C Y V L hd) ⟨sh_blind _ G tb _ S, fun U hU hW => ⟨rfl, sh_before C h U hU hW⟩⟩ rfl hn hls hst (lv_room hrest) hdg ⟨Nat.le_refl 0, Nat.le_refl 0⟩) h.2.2 (fun q _ hq => sh_freeA C h q hq) (sh_freeA C h) (fun r1 u t H1 locs1 ht1 hvm hw hB hz1 hk1 hS => ?_)
  cases hw
  exact kk _ _ H1 locs1 (sh_behind C h ht1 hB hS) hf
theorem sh_Gv (C : sh_Cx p s m args meth c cc nL own G A) (h : sh_Wx G tb A s H locs S) {y : MethodName} {cy : ByteArray} {mL n idx : Nat} {vs : sh_Ev → List Value} {F : sh_St → Option (Unit × sh_St)} (M : sh_Mv l y cy mL d' tb vs F) (Y : sh_Y y cy mL none n) (V : Cond.static y ∈ sh_ws) (L : Cond.methodLink own idx y ∈ sh_ws)
    {f : Unit → sh_St → Option β} (hf : sh_c (F S) f = some res) {As : List Value} (hvs : vs G = As) (hn : As.length = n) (hst : st0 = As.reverse ++ rest) (hrest : (rest.map fun v => v.category).sum ≤ 8) (hd : d' < d) (hls : ls.size = nL) (hdg : decode cc pc = .ok (.invokestatic idx, 3))
    (kk : ∀ (S' : sh_St) (H1 : Heap) (locs1 : List Loc), sh_Wx G tb A s H1 locs1 S' → f () S' = some res → W p l e (sh_rm d) s m args below meth c H1 locs1 0 0 Q (F0 m (pc + 3) ls rest)) : W p l e (sh_rm d) s m args below meth c H locs 0 0 Q (F0 m pc ls st0) := by
  obtain ⟨r, S', hF, hf⟩ := sh_c_of hf
  have hM := M G H.size S (r, S') hF
  rw [hvs] at hM
  refine va_callv (va_runS (As := As) (rest := rest) ⟨C.1, C.2.1, C.2.2.1, C.2.2.2.1, C.2.2.2.2.1⟩ hM (sh_cwG C Y V L hd) ⟨sh_blind _ G tb _ S, fun U hU hW => ⟨rfl, sh_before C h U hU hW⟩⟩ rfl hn hls hst (lv_room hrest) hdg ⟨Nat.le_refl 0, Nat.le_refl 0⟩) h.2.2 (fun q _ hq => sh_freeA C h q hq) (sh_freeA C h) (fun u t H1 locs1 ht1 hvm hw hB hz1 hk1 hS => ?_)
  cases hw
  exact kk _ H1 locs1 (sh_behind C h ht1 hB hS) hf
end ShStr
def sh_wl (i : Nat) : Int32 := nI (sh_len.getD i 0)
def sh_wc (i k : Nat) : Int32 := (sh_byt.getD i []).getD k 0
theorem sh_wc_ok : ∀ i, i < 9 → ∀ k, k < 6 → (((sh_wc i k) &&& 255).toUInt32 % 65536).toInt32 = sh_wc i k ∧ narrow .char (.int (sh_wc i k)) = .int (sh_wc i k) := by decide +kernel
theorem sh_len_ok : ∀ i, i < 9 → sh_len.getD i 0 < 6 ∧ sh_wl i >>> ((0 : Int32) &&& 31) = sh_wl i := by decide +kernel
set_option maxRecDepth 100000 in
theorem kJ_coder (l : Launch) (tb : List sh_Ds) {i : Nat} (hi : i < 9) : sh_Mi l yJ0_coder_7d493 cJ0_coder_7d493 1 .byte 1 tb (fun G => [.ref (G.2.2.2.2 i)]) (fun S => some (0, S)) := by
  refine sh_mki (by decide) (fun G => Nat.le_of_ble_eq_true rfl) ?_
  intro p e s m args below meth c G A S res ls hf C hr hw hl
  have C : sh_Cx p s m args meth c cJ0_coder_7d493 1 RJ0 G A := C
  have hl : lv_has ls 1 [(0, .ref (G.2.2.2.2 i))] := hl
  refine va_gets C.1 C.2.1 C.2.2.2.2.2.2.2.2.2.2.2.2.2.2.2.2.1.1 hw.2.2 C.2.2.2.1 (C.2.2.2.2.1 _ fl_RJ0_38) (fun _ h9 => h9) dJ0_coder_7d493_0 ?_
  refine lv_if_eq (tgt := 13) C.1 C.2.1 dJ0_coder_7d493_3 (by decide) (fun h => absurd h (by decide)) (fun _ => ?_)
  refine lv_aload_n C.1 C.2.1 dJ0_coder_7d493_6 rfl (lv_at hl 0 rfl) ?_
  refine vk_getf C.1 C.2.1 ((sh_vkS C).1 i hi).2.1 hw.2.2 C.2.2.2.1 (C.2.2.2.2.1 _ fl_RJ0_15) (fun _ h9 => h9) dJ0_coder_7d493_7 ?_
  refine lv_goto (tgt := 14) C.1 C.2.1 dJ0_coder_7d493_10 (by decide) ?_
  exact sh_rk C hw hr (by decide) hf dJ0_coder_7d493_14
set_option maxRecDepth 100000 in
theorem kJ_isLatin1 (l : Launch) (tb : List sh_Ds) {i : Nat} (hi : i < 9) : sh_Mi l yJ0_isLatin1_aae02 cJ0_isLatin1_aae02 1 .boolean 1 tb (fun G => [.ref (G.2.2.2.2 i)]) (fun S => some (1, S)) := by
  refine sh_mki (by decide) (fun G => Nat.le_of_ble_eq_true rfl) ?_
  intro p e s m args below meth c G A S res ls hf C hr hw hl
  have C : sh_Cx p s m args meth c cJ0_isLatin1_aae02 1 RJ0 G A := C
  have hl : lv_has ls 1 [(0, .ref (G.2.2.2.2 i))] := hl
  refine va_gets C.1 C.2.1 C.2.2.2.2.2.2.2.2.2.2.2.2.2.2.2.2.1.1 hw.2.2 C.2.2.2.1 (C.2.2.2.2.1 _ fl_RJ0_38) (fun _ h9 => h9) dJ0_isLatin1_aae02_0 ?_
  refine lv_if_eq (tgt := 17) C.1 C.2.1 dJ0_isLatin1_aae02_3 (by decide) (fun h => absurd h (by decide)) (fun _ => ?_)
  refine lv_aload_n C.1 C.2.1 dJ0_isLatin1_aae02_6 rfl (lv_at hl 0 rfl) ?_
  refine vk_getf C.1 C.2.1 ((sh_vkS C).1 i hi).2.1 hw.2.2 C.2.2.2.1 (C.2.2.2.2.1 _ fl_RJ0_15) (fun _ h9 => h9) dJ0_isLatin1_aae02_7 ?_
  refine lv_if_ne (tgt := 17) C.1 C.2.1 dJ0_isLatin1_aae02_10 (by decide) (fun h => absurd rfl h) (fun _ => ?_)
  refine lv_iconst (v := 1) C.1 C.2.1 dJ0_isLatin1_aae02_13 (by decide) ?_
  refine lv_goto (tgt := 18) C.1 C.2.1 dJ0_isLatin1_aae02_14 (by decide) ?_
  exact sh_rk C hw hr (by decide) hf dJ0_isLatin1_aae02_18
set_option maxRecDepth 100000 in
theorem kJ_length (l : Launch) (tb : List sh_Ds) {i : Nat} (hi : i < 9) : sh_Mi l yJ0_length_8abf5 cJ0_length_8abf5 1 .int 2 tb (fun G => [.ref (G.2.2.2.2 i)]) (fun S => some (sh_wl i, S)) := by
  refine sh_mki (by decide) (fun G => Nat.le_of_ble_eq_true rfl) ?_
  intro p e s m args below meth c G A S res ls hf C hr hw hl
  have C : sh_Cx p s m args meth c cJ0_length_8abf5 1 RJ0 G A := C
  have hl : lv_has ls 1 [(0, .ref (G.2.2.2.2 i))] := hl
  refine lv_aload_n C.1 C.2.1 dJ0_length_8abf5_0 rfl (lv_at hl 0 rfl) ?_
  refine vk_getf C.1 C.2.1 ((sh_vkS C).1 i hi).2.2.1 hw.2.2 C.2.2.2.1 (C.2.2.2.2.1 _ fl_RJ0_9) (fun _ h9 => h9) dJ0_length_8abf5_1 ?_
  refine va_tlen C.1 C.2.1 ((sh_vkS C).1 i hi).2.2.2 hw.2.2 (v := sh_wl i) rfl dJ0_length_8abf5_4 ?_
  refine lv_aload_n C.1 C.2.1 dJ0_length_8abf5_5 rfl (lv_at hl 0 rfl) ?_
  have hf2 : sh_c ((fun S => some ((0 : Int32), S)) S) (fun r S' => some (sh_wl i >>> (r &&& 31), S')) = some res := by
    show some (sh_wl i >>> ((0 : Int32) &&& 31), S) = some res
    rw [(sh_len_ok i hi).2]
    exact hf
  refine sh_Wi (As := []) (rest := [.int (sh_wl i)]) C hw hi rfl (kJ_coder l tb hi) yy_J0_coder_7d493 yv_J0_coder_7d493 ml_RJ0_335 hf2 rfl rfl rfl (Nat.le_of_ble_eq_true rfl) (by decide) hl.1 dJ0_length_8abf5_6 (fun r S2 H locs hw hf => ?_)
  refine lv_ishr C.1 C.2.1 dJ0_length_8abf5_9 ?_
  exact sh_ri C hw hr hf dJ0_length_8abf5_10
set_option maxRecDepth 100000 in
theorem kJ_check3 (l : Launch) (tb : List sh_Ds) {k n : Int32} {v : Value} (hv : v = .null ∨ ∃ t, v = .ref t) (h0 : ¬ k < 0) (h1 : k < n) : sh_Mi l yJ3_checkIndex_8e157 cJ3_checkIndex_8e157 3 .int 1 tb (fun _ => [.int k, .int n, v]) (fun S => some (k, S)) := by
  have hcat : v.category = 1 := by rcases hv with rfl | ⟨t, rfl⟩ <;> rfl
  refine sh_mki (by decide) (fun G => by rcases hv with rfl | ⟨t, rfl⟩ <;> exact Nat.le_of_ble_eq_true rfl) ?_
  intro p e s m args below meth c G A S res ls hf C hr hw hl
  have C : sh_Cx p s m args meth c cJ3_checkIndex_8e157 3 RJ3 G A := C
  have hl : lv_has ls 3 [(0, .int k), (1, .int n), (2, v)] := hl
  refine lv_iload_n C.1 C.2.1 dJ3_checkIndex_8e157_0 rfl (lv_at hl 0 rfl) ?_
  refine lv_if_lt (tgt := 9) C.1 C.2.1 dJ3_checkIndex_8e157_1 (by decide) (fun h => absurd h h0) (fun _ => ?_)
  refine lv_iload_n C.1 C.2.1 dJ3_checkIndex_8e157_4 rfl (lv_at hl 0 rfl) ?_
  refine lv_iload_n C.1 C.2.1 dJ3_checkIndex_8e157_5 rfl (lv_at hl 1 rfl) ?_
  refine lv_icmp_lt (tgt := 16) C.1 C.2.1 dJ3_checkIndex_8e157_6 (by decide) (fun _ => ?_) (fun h => absurd h1 h)
  refine lv_iload_n C.1 C.2.1 dJ3_checkIndex_8e157_16 rfl (lv_at hl 0 rfl) ?_
  exact sh_ri C hw hr hf dJ3_checkIndex_8e157_17
set_option maxRecDepth 100000 in
theorem kJ_check0 (l : Launch) (tb : List sh_Ds) {k n : Int32} (h0 : ¬ k < 0) (h1 : k < n) : sh_Mv l yJ0_checkIndex_df160 cJ0_checkIndex_df160 2 2 tb (fun _ => [.int k, .int n]) (fun S => some ((), S)) := by
  refine sh_mkv (by decide) (fun G => Nat.le_of_ble_eq_true rfl) ?_
  intro p e s m args below meth c G A S res ls hf C hr hw hl
  have C : sh_Cx p s m args meth c cJ0_checkIndex_df160 2 RJ0 G A := C
  have hl : lv_has ls 2 [(0, .int k), (1, .int n)] := hl
  refine lv_iload_n C.1 C.2.1 dJ0_checkIndex_df160_0 rfl (lv_at hl 0 rfl) ?_
  refine lv_iload_n C.1 C.2.1 dJ0_checkIndex_df160_1 rfl (lv_at hl 1 rfl) ?_
  have key : ∀ v : Value, (v = .null ∨ ∃ t, v = .ref t) → W p l e (sh_rm 2) s m args below meth c s.heap [] 0 0 (sh_Qv below args s G tb A res) (F0 m 5 ls [v, .int n, .int k]) := by
    intro v hv
    have hf2 : sh_c ((fun S => some (k, S)) S) (fun _ S' => some ((), S')) = some res := hf
    refine sh_Gi (As := [.int k, .int n, v]) (rest := []) C hw (kJ_check3 l tb hv h0 h1) yy_J3_checkIndex_8e157 ys_J3_checkIndex_8e157 ml_RJ0_1059 hf2 rfl rfl rfl (Nat.le_of_ble_eq_true rfl) (by decide) hl.1 dJ0_checkIndex_df160_5 (fun r S2 H locs hw hf => ?_)
    refine lv_pop C.1 C.2.1 dJ0_checkIndex_df160_8 rfl ?_
    exact sh_rv C hw hr hf dJ0_checkIndex_df160_9
  rcases C.2.2.2.2.2.2.2.2.2.2.2.2.2.2.2.2.1.2 with hz | ⟨t, hz⟩
  · exact va_gets C.1 C.2.1 hz hw.2.2 C.2.2.2.1 (C.2.2.2.2.1 _ fl_RJ0_1053) (fun _ h9 => h9) dJ0_checkIndex_df160_2 (key _ (Or.inl rfl))
  · exact va_gets C.1 C.2.1 hz hw.2.2 C.2.2.2.1 (C.2.2.2.2.1 _ fl_RJ0_1053) (fun _ h9 => h9) dJ0_checkIndex_df160_2 (key _ (Or.inr ⟨t, rfl⟩))
set_option maxRecDepth 100000 in
theorem kJ_charAt1 (l : Launch) (tb : List sh_Ds) {i : Nat} (hi : i < 9) {k : Int32} (hk : vp_in k (sh_len.getD i 0)) : sh_Mi l yJ1_charAt_3b067 cJ1_charAt_3b067 2 .char 3 tb (fun G => [.ref (G.2.2.2.2 (100 + i)), .int k]) (fun S => some (sh_wc i k.toNatClampNeg, S)) := by
  refine sh_mki (by decide) (fun G => Nat.le_of_ble_eq_true rfl) ?_
  intro p e s m args below meth c G A S res ls hf C hr hw hl
  have C : sh_Cx p s m args meth c cJ1_charAt_3b067 2 RJ1 G A := C
  have hl : lv_has ls 2 [(0, .ref (G.2.2.2.2 (100 + i))), (1, .int k)] := hl
  have h0 : ¬ k < 0 := fun q => hk (Or.inl q)
  have hlt : k.toNatClampNeg < sh_len.getD i 0 := Nat.not_le.mp fun q => hk (Or.inr q)
  have h6 := (sh_len_ok i hi).1
  have h1 : k < sh_wl i := by
    obtain ⟨j, hj, rfl⟩ := vp_in_of hk (by omega)
    exact nI_lt hj (by omega)
  refine lv_iload_n C.1 C.2.1 dJ1_charAt_3b067_0 rfl (lv_at hl 1 rfl) ?_
  refine lv_aload_n C.1 C.2.1 dJ1_charAt_3b067_1 rfl (lv_at hl 0 rfl) ?_
  refine va_tlen C.1 C.2.1 ((sh_vkS C).1 i hi).2.2.2 hw.2.2 (v := sh_wl i) rfl dJ1_charAt_3b067_2 ?_
  have hf2 : sh_c ((fun S => some ((), S)) S) (fun _ S' => some (sh_wc i k.toNatClampNeg, S')) = some res := hf
  refine sh_Gv (As := [.int k, .int (sh_wl i)]) (rest := []) C hw (kJ_check0 l tb h0 h1) yy_J0_checkIndex_df160 ys_J0_checkIndex_df160 ml_RJ1_9 hf2 rfl rfl rfl (Nat.le_of_ble_eq_true rfl) (by decide) hl.1 dJ1_charAt_3b067_3 (fun S2 H locs hw hf => ?_)
  refine lv_aload_n C.1 C.2.1 dJ1_charAt_3b067_6 rfl (lv_at hl 0 rfl) ?_
  refine lv_iload_n C.1 C.2.1 dJ1_charAt_3b067_7 rfl (lv_at hl 1 rfl) ?_
  refine va_tb C.1 C.2.1 ((sh_vkS C).1 i hi).2.2.2 hw.2.2 hk (v := .int (sh_wc i k.toNatClampNeg)) rfl dJ1_charAt_3b067_8 ?_
  refine lv_sipush (v := 255) C.1 C.2.1 dJ1_charAt_3b067_9 (by decide) ?_
  refine lv_iand C.1 C.2.1 dJ1_charAt_3b067_12 ?_
  refine lv_i2c (v := sh_wc i k.toNatClampNeg) C.1 C.2.1 dJ1_charAt_3b067_13 (sh_wc_ok i hi _ (by omega)).1 ?_
  exact sh_rk C hw hr (sh_wc_ok i hi _ (by omega)).2 hf dJ1_charAt_3b067_14
set_option maxRecDepth 100000 in
theorem kJ_charAt (l : Launch) (tb : List sh_Ds) {i : Nat} (hi : i < 9) {k : Int32} (hk : vp_in k (sh_len.getD i 0)) : sh_Mi l yJ0_charAt_5068e cJ0_charAt_5068e 2 .char 4 tb (fun G => [.ref (G.2.2.2.2 i), .int k]) (fun S => some (sh_wc i k.toNatClampNeg, S)) := by
  refine sh_mki (by decide) (fun G => Nat.le_of_ble_eq_true rfl) ?_
  intro p e s m args below meth c G A S res ls hf C hr hw hl
  have C : sh_Cx p s m args meth c cJ0_charAt_5068e 2 RJ0 G A := C
  have hl : lv_has ls 2 [(0, .ref (G.2.2.2.2 i)), (1, .int k)] := hl
  have hlt : k.toNatClampNeg < sh_len.getD i 0 := Nat.not_le.mp fun q => hk (Or.inr q)
  have h6 := (sh_len_ok i hi).1
  refine lv_aload_n C.1 C.2.1 dJ0_charAt_5068e_0 rfl (lv_at hl 0 rfl) ?_
  have hf2 : sh_c ((fun S => some ((1 : Int32), S)) S) (fun r S' => if r = 0 then none else some (sh_wc i k.toNatClampNeg, S')) = some res := hf
  refine sh_Wi (As := []) (rest := []) C hw hi rfl (kJ_isLatin1 l tb hi) yy_J0_isLatin1_aae02 yv_J0_isLatin1_aae02 ml_RJ0_492 hf2 rfl rfl rfl (Nat.le_of_ble_eq_true rfl) (by decide) hl.1 dJ0_charAt_5068e_1 (fun r S2 H locs hw hf => ?_)
  refine sh_if_eq (tgt := 16) C hf dJ0_charAt_5068e_4 (by decide) (fun hf => nomatch hf) (fun hf => ?_)
  refine lv_aload_n C.1 C.2.1 dJ0_charAt_5068e_7 rfl (lv_at hl 0 rfl) ?_
  refine vk_getf C.1 C.2.1 ((sh_vkS C).1 i hi).2.2.1 hw.2.2 C.2.2.2.1 (C.2.2.2.2.1 _ fl_RJ0_9) (fun _ h9 => h9) dJ0_charAt_5068e_8 ?_
  refine lv_iload_n C.1 C.2.1 dJ0_charAt_5068e_11 rfl (lv_at hl 1 rfl) ?_
  have hf3 : sh_c ((fun S => some (sh_wc i k.toNatClampNeg, S)) S2) (fun r S' => if r = sh_wc i k.toNatClampNeg then some (r, S') else none) = some res := by
    show (if sh_wc i k.toNatClampNeg = sh_wc i k.toNatClampNeg then some (sh_wc i k.toNatClampNeg, S2) else none) = some res
    rw [if_pos rfl]
    exact hf
  refine sh_Gi (As := [.ref (G.2.2.2.2 (100 + i)), .int k]) (rest := []) C hw (kJ_charAt1 l tb hi hk) yy_J1_charAt_3b067 ys_J1_charAt_3b067 ml_RJ0_495 hf3 rfl rfl rfl (Nat.le_of_ble_eq_true rfl) (by decide) hl.1 dJ0_charAt_5068e_12 (fun r2 S3 H locs hw hf => ?_)
  have hr3 : r2 = sh_wc i k.toNatClampNeg := by
    by_cases h9 : r2 = sh_wc i k.toNatClampNeg
    · exact h9
    · rw [if_neg h9] at hf; cases hf
  rw [if_pos hr3] at hf
  have hr2 : narrow .char (.int r2) = .int r2 := by rw [hr3]; exact (sh_wc_ok i hi _ (by omega)).2
  exact sh_rk C hw hr hr2 hf dJ0_charAt_5068e_15

section ShAA
variable {p : Program} {l : Launch} {e : Env} {R : Room} {s : State} {m : MethodId} {args : Array Value} {below : List Frame} {meth : Method} {c : Code} {H : Heap} {locs : List Loc} {cells slots : Nat} {Q : State → Prop}
variable {cc : ByteArray} {nL : Nat} {own : String} {G : sh_Ev} {A : Nat → Prop} {tb : List sh_Ds} {S : sh_St} {pc : Nat} {ls : Array Slot} {rest : List Value} {β : Type} {res : β}
/-- ALL_ACTS, its length, a place of it; a constant's word -/
theorem sh_aaG (C : sh_Cx p s m args meth c cc nL RX10 G A) (h : sh_Wx G tb A s H locs S) (hdg : decode cc pc = .ok (.getstatic 73, 3))
    (kk : W p l e R s m args below meth c H locs cells slots Q (F0 m (pc + 3) ls (.ref (G.2.2.2.2 200) :: rest))) : W p l e R s m args below meth c H locs cells slots Q (F0 m pc ls rest) :=
  va_getsN C.1 C.2.1 C.2.2.2.2.2.2.2.2.2.2.2.1.1 h.2.2 C.2.2.2.1 (host := "SteadyShelf") (ref := "SteadyShelf") (sh_words C (Or.inr (by decide +kernel))) (fun _ h9 => h9) hdg kk
theorem sh_aaL (C : sh_Cx p s m args meth c cc nL own G A) (h : sh_Wx G tb A s H locs S) (hdg : decode cc pc = .ok (.arraylength, 1))
    (kk : W p l e R s m args below meth c H locs cells slots Q (F0 m (pc + 1) ls (.int 9 :: rest))) : W p l e R s m args below meth c H locs cells slots Q (F0 m pc ls (.ref (G.2.2.2.2 200) :: rest)) :=
  va_tlen C.1 C.2.1 C.2.2.2.2.2.2.2.2.2.2.2.1.2 h.2.2 (v := 9) (by decide) hdg kk
theorem sh_aaA (C : sh_Cx p s m args meth c cc nL own G A) (h : sh_Wx G tb A s H locs S) {j : Int32} {k : Option β} (hf : sh_g j 9 k = some res) (hdg : decode cc pc = .ok (.aaload, 1))
    (kk : k = some res → W p l e R s m args below meth c H locs cells slots Q (F0 m (pc + 1) ls (.ref (G.2.2.1 j.toNatClampNeg) :: rest))) : W p l e R s m args below meth c H locs cells slots Q (F0 m pc ls (.int j :: .ref (G.2.2.2.2 200) :: rest)) := by
  obtain ⟨hin, hf⟩ := sh_g_of hf
  exact vb_tq C.1 C.2.1 C.2.2.2.2.2.2.2.2.2.2.2.1.2 h.2.2 hin rfl hdg (kk hf)
theorem sh_getW (C : sh_Cx p s m args meth c cc nL own G A) (h : sh_Wx G tb A s H locs S) {idx : Nat} {j : Int32} {k : Option β} (hf : sh_g j 9 k = some res) (L : Cond.fieldLink own idx "SteadyShelf$Act" "word" "Ljava/lang/String;" ∈ sh_ws) (hdg : decode cc pc = .ok (.getfield idx, 3))
    (kk : k = some res → W p l e R s m args below meth c H locs cells slots Q (F0 m (pc + 3) ls (.ref (G.2.2.2.2 j.toNatClampNeg) :: rest))) : W p l e R s m args below meth c H locs cells slots Q (F0 m pc ls (.ref (G.2.2.1 j.toNatClampNeg) :: rest)) := by
  obtain ⟨hin, hf⟩ := sh_g_of hf
  exact vk_getf C.1 C.2.1 (C.2.2.2.2.2.2.2.2.2.1 j.toNatClampNeg (sh_acLt hin)) h.2.2 C.2.2.2.1 (C.2.2.2.2.1 _ L) (fun _ h9 => h9) hdg (kk hf)
theorem sh_ldcW (C : sh_Cx p s m args meth c cc nL RX13 G A) {is k : Nat} {z : Int32} {text : String} (hz : z.toNatClampNeg = k) (X : (is, text, k) ∈ sh_ldm) (hdg : decode cc pc = .ok (.ldc_w is, 3))
    (kk : W p l e R s m args below meth c H locs cells slots Q (F0 m (pc + 3) ls (.ref (G.2.2.2.2 z.toNatClampNeg) :: rest))) : W p l e R s m args below meth c H locs cells slots Q (F0 m pc ls rest) := by
  have hR := C.2.2.2.2.2.2.2.2.2.2.2.2.2.2.2.1 _ X
  rw [hz] at kk
  intro T hT Y
  obtain ⟨t, a1, b1⟩ := kk T hT Y
  exact ⟨t, Y.ldcStringW C.1 C.2.2.2.1 (text := text) (a := G.2.2.2.2 k) hR.1 hR.2 (g := F0 m pc ls rest) rfl (by rw [C.2.1]; exact hdg) t a1, b1⟩
end ShAA
section ShLen
variable {p : Program} {l : Launch} {e : Env} {d : Nat} {s : State} {m : MethodId} {args : Array Value} {below : List Frame} {meth : Method} {c : Code} {H : Heap} {locs : List Loc} {Q : State → Prop}
variable {cc : ByteArray} {nL : Nat} {own : String} {G : sh_Ev} {A : Nat → Prop} {tb : List sh_Ds} {S : sh_St} {pc : Nat} {ls : Array Slot} {rest : List Value} {β : Type} {res : β}
theorem sh_strL (C : sh_Cx p s m args meth c cc nL own G A) (h : sh_Wx G tb A s H locs S) {idx : Nat} {j : Int32} {k : Option β} (hf : sh_g j 9 k = some res) (L : Cond.methodLink own idx yJ0_length_8abf5 ∈ sh_ws) (hrest : (rest.map fun v => v.category).sum ≤ 8) (hd : 2 < d) (hls : ls.size = nL) (hdg : decode cc pc = .ok (.invokevirtual idx, 3))
    (kk : ∀ (H1 : Heap) (locs1 : List Loc), sh_Wx G tb A s H1 locs1 S → k = some res → W p l e (sh_rm d) s m args below meth c H1 locs1 0 0 Q (F0 m (pc + 3) ls (.int (sh_wl j.toNatClampNeg) :: rest))) : W p l e (sh_rm d) s m args below meth c H locs 0 0 Q (F0 m pc ls (.ref (G.2.2.2.2 j.toNatClampNeg) :: rest)) := by
  obtain ⟨hin, hf⟩ := sh_g_of hf
  have hi : j.toNatClampNeg < 9 := sh_acLt hin
  have hM := kJ_length l tb hi G H.size S (sh_wl j.toNatClampNeg, S) rfl
  refine va_calli (va_runV (As := []) (rest := rest) ⟨C.1, C.2.1, C.2.2.1, C.2.2.2.1, C.2.2.2.2.1⟩ hM (sh_cwV C yy_J0_length_8abf5 yv_J0_length_8abf5 L hd) ⟨sh_blind _ G tb _ S, vk_recv (sh_vkS C) hi h.2.2, fun U hU hW => ⟨rfl, sh_before C h U hU hW⟩⟩ rfl rfl hls rfl (lv_room hrest) hdg ⟨Nat.le_refl 0, Nat.le_refl 0⟩) h.2.2 (fun q _ hq => sh_freeA C h q hq) (sh_freeA C h) (fun r1 u1 t H1 locs1 ht1 hvm hw hB hz1 hk1 hS => ?_)
  cases hw
  exact kk H1 locs1 (sh_behind C h ht1 hB hS) hf
theorem sh_strC (C : sh_Cx p s m args meth c cc nL own G A) (h : sh_Wx G tb A s H locs S) {idx : Nat} {j z : Int32} {k : Option β} (hf : sh_g j 9 (sh_g z (sh_len.getD j.toNatClampNeg 0) k) = some res) (L : Cond.methodLink own idx yJ0_charAt_5068e ∈ sh_ws) (hrest : (rest.map fun v => v.category).sum ≤ 8) (hd : 4 < d) (hls : ls.size = nL) (hdg : decode cc pc = .ok (.invokevirtual idx, 3))
    (kk : ∀ (H1 : Heap) (locs1 : List Loc), sh_Wx G tb A s H1 locs1 S → k = some res → W p l e (sh_rm d) s m args below meth c H1 locs1 0 0 Q (F0 m (pc + 3) ls (.int (sh_wc j.toNatClampNeg z.toNatClampNeg) :: rest))) : W p l e (sh_rm d) s m args below meth c H locs 0 0 Q (F0 m pc ls (.int z :: .ref (G.2.2.2.2 j.toNatClampNeg) :: rest)) := by
  obtain ⟨hin, hf⟩ := sh_g_of hf
  obtain ⟨hz, hf⟩ := sh_g_of hf
  have hi : j.toNatClampNeg < 9 := sh_acLt hin
  have hM := kJ_charAt l tb hi hz G H.size S (sh_wc j.toNatClampNeg z.toNatClampNeg, S) rfl
  refine va_calli (va_runV (As := [.int z]) (rest := rest) ⟨C.1, C.2.1, C.2.2.1, C.2.2.2.1, C.2.2.2.2.1⟩ hM (sh_cwV C yy_J0_charAt_5068e yv_J0_charAt_5068e L hd) ⟨sh_blind _ G tb _ S, vk_recv (sh_vkS C) hi h.2.2, fun U hU hW => ⟨rfl, sh_before C h U hU hW⟩⟩ rfl rfl hls rfl (lv_room hrest) hdg ⟨Nat.le_refl 0, Nat.le_refl 0⟩) h.2.2 (fun q _ hq => sh_freeA C h q hq) (sh_freeA C h) (fun r1 u1 t H1 locs1 ht1 hvm hw hB hz1 hk1 hS => ?_)
  cases hw
  exact kk H1 locs1 (sh_behind C h ht1 hB hS) hf
/-- takesNumber() of a constant -/
theorem sh_Ai (C : sh_Cx p s m args meth c cc nL own G A) (h : sh_Wx G tbX A s H locs S) {idx : Nat} {j : Int32} {f : Int32 → sh_St → Option β} (hf : sh_g j 9 (sh_c (fX1_takesNumber S j) f) = some res) (L : Cond.methodLink own idx yX1_takesNumber ∈ sh_ws) (hrest : (rest.map fun v => v.category).sum ≤ 8) (hd : 1 < d) (hls : ls.size = nL) (hdg : decode cc pc = .ok (.invokevirtual idx, 3))
    (kk : ∀ (r : Int32) (S' : sh_St) (H1 : Heap) (locs1 : List Loc), sh_Wx G tbX A s H1 locs1 S' → f r S' = some res → W p l e (sh_rm d) s m args below meth c H1 locs1 0 0 Q (F0 m (pc + 3) ls (.int r :: rest))) : W p l e (sh_rm d) s m args below meth c H locs 0 0 Q (F0 m pc ls (.ref (G.2.2.1 j.toNatClampNeg) :: rest)) := by
  obtain ⟨hin, hf⟩ := sh_g_of hf
  obtain ⟨r, S', hF, hf⟩ := sh_c_of hf
  have hM := kX1_takesNumber l j G H.size S (r, S') hF
  refine va_calli (va_runV (As := []) (rest := rest) ⟨C.1, C.2.1, C.2.2.1, C.2.2.2.1, C.2.2.2.2.1⟩ hM (sh_cwV C yy_X1_takesNumber yv_X1_takesNumber L hd) ⟨sh_blind _ G tbX _ S, va_recvE (sh_En C) (sh_acLt hin) h.2.2, fun U hU hW => ⟨rfl, sh_before C h U hU hW⟩⟩ rfl rfl hls rfl (lv_room hrest) hdg ⟨Nat.le_refl 0, Nat.le_refl 0⟩) h.2.2 (fun q _ hq => sh_freeA C h q hq) (sh_freeA C h) (fun r1 u1 t H1 locs1 ht1 hvm hw hB hz1 hk1 hS => ?_)
  cases hw
  exact kk _ _ H1 locs1 (sh_behind C h ht1 hB hS) hf
theorem sh_xAi {kc ks cells slots : Nat} (C : sh_Cx p s m args meth c cc nL own G A) (h : sh_Wx G tbX A s H locs S) {idx : Nat} {j : Int32} {f : Int32 → sh_St → Option β} (hf : sh_g j 9 (sh_c (fX1_takesNumber S j) f) = some res) (L : Cond.methodLink own idx yX1_takesNumber ∈ sh_ws) (hrest : (rest.map fun v => v.category).sum ≤ 8) (hd : 1 < d) (hkc : cells ≤ kc) (hks : slots ≤ ks) (hls : ls.size = nL) (hdg : decode cc pc = .ok (.invokevirtual idx, 3))
    (kk : ∀ (r : Int32) (S' : sh_St) (H1 : Heap) (locs1 : List Loc), sh_Wx G tbX A s H1 locs1 S' → f r S' = some res → W p l e (sh_rx d kc ks) s m args below meth c H1 locs1 cells slots Q (F0 m (pc + 3) ls (.int r :: rest))) : W p l e (sh_rx d kc ks) s m args below meth c H locs cells slots Q (F0 m pc ls (.ref (G.2.2.1 j.toNatClampNeg) :: rest)) := by
  obtain ⟨hin, hf⟩ := sh_g_of hf
  obtain ⟨r, S', hF, hf⟩ := sh_c_of hf
  have hM := kX1_takesNumber l j G H.size S (r, S') hF
  refine va_calli (va_runV (As := []) (rest := rest) ⟨C.1, C.2.1, C.2.2.1, C.2.2.2.1, C.2.2.2.2.1⟩ hM (sh_xcwV C yy_X1_takesNumber yv_X1_takesNumber L hd) ⟨sh_blind _ G tbX _ S, va_recvE (sh_En C) (sh_acLt hin) h.2.2, fun U hU hW => ⟨rfl, sh_before C h U hU hW⟩⟩ rfl rfl hls rfl (lv_room hrest) hdg ⟨hkc, hks⟩) h.2.2 (fun q _ hq => sh_freeA C h q hq) (sh_freeA C h) (fun r1 u1 t H1 locs1 ht1 hvm hw hB hz1 hk1 hS => ?_)
  cases hw
  exact kk _ _ H1 locs1 (sh_behind C h ht1 hB hS) hf
end ShLen
