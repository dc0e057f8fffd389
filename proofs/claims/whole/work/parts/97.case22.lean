theorem yh_L_open : sh_YH yL_open cL_open 5 [(0, 17, 20, 39)] 4 := ⟨sh_t1 (i := 0) (by decide +kernel) (by decide +kernel), sh_t5 (i := 232) (by decide +kernel) (by decide +kernel), sh_t5 (i := 231) (by decide +kernel) (by decide +kernel), by decide, by decide +kernel⟩
theorem ml_L_171 : Cond.methodLink RL 171 yL_open ∈ sh_ws := sh_t5 (i := 230) (by decide +kernel) (by decide +kernel)
theorem ml_L_174 : Cond.methodLink RL 174 yX13_open ∈ sh_ws := sh_t8 (i := 92) (by decide +kernel) (by decide +kernel)
set_option maxRecDepth 100000 in
set_option maxHeartbeats 4000000 in
theorem wL_22m {p : Program} {l : Launch} {e : Env} {s : State} {m : MethodId} {below : List Frame} {meth : Method} {c : Code} {G : sh_Ev} {Q : State → Prop} {b L : Nat} {xs : Nat → Int32} (hst : l.stackTraces = false) (C : sh_Cx p s m #[Value.ref b] meth c cL_law 7 RL G (fun q : Nat => s.heap.size ≤ q)) (hNq : sh_Nq s) (hX : va_X b L xs s s.heap) (hbl : b < s.heap.size) {i : Nat} (hi : i + 6 ≤ L) (hL : L ≤ 3072) {SL : sh_St} (hR : zLR SL) {H : Heap} {locs : List Loc} {ls : Array Slot} {cells slots : Nat} (hw : sh_Wx G tbL (fun q : Nat => s.heap.size ≤ q) s H locs SL) (hl : lv_has ls 7 [(0, .ref b), (1, .ref (G.2.1 0)), (2, .ref (G.2.1 140)), (3, .ref (G.2.1 162)), (4, .int (nI i))]) (hkc : cells + 2 ≤ room_1.cells) (hks : slots + 12 ≤ room_1.slots)
    (kk : ∀ (SL' : sh_St) (H1 : Heap) (locs1 : List Loc) (ls' : Array Slot), zLR SL' → sh_Wx G tbL (fun q : Nat => s.heap.size ≤ q) s H1 locs1 SL' → lv_has ls' 7 [(0, .ref b), (1, .ref (G.2.1 0)), (2, .ref (G.2.1 140)), (3, .ref (G.2.1 162)), (4, .int (nI i))] → W p l e room_1 s m #[Value.ref b] below meth c H1 locs1 (cells + 2) (slots + 12) Q (F0 m 1653 ls' [])) {w : Nat} (hw1 : w ≤ 1) (hwv : ((xs (nI i + nI 2).toNatClampNeg) = 0 ∧ w = 0) ∨ (¬ (xs (nI i + nI 2).toNatClampNeg) = 0 ∧ w = 1)) : W p l e room_1 s m #[Value.ref b] below meth c H locs cells slots Q (F0 m 1342 ls [.int (nI w), .int (xs (nI i + nI 1).toNatClampNeg), .ref (G.2.1 0)]) := by
  have hbA : ¬ (fun q : Nat => s.heap.size ≤ q) b := Nat.not_le.mpr hbl
  obtain ⟨kq, SL1, r, SL2, f1, f2, f3, f4, f5⟩ := zL_open hR (xs (nI i + nI 1).toNatClampNeg) hw1
  refine lv_aload_n C.1 C.2.1 dL_law_1342 rfl (lv_at hl 3 rfl) ?_
  refine sh_LH (As := [.ref (G.2.1 0), .int (xs (nI i + nI 1).toNatClampNeg), .int (nI w), .ref (G.2.1 162)]) (rest := []) C hNq hw (kL_open l hst (xs (nI i + nI 1).toNatClampNeg) (nI w)) yh_L_open ml_L_171 f1 rfl rfl rfl (Nat.le_of_ble_eq_true rfl) ⟨by decide, by decide⟩ (by omega) (by omega) hl.1 dL_law_1343 (fun H locs hw => ?_)
  refine W.widen (k := cells + 2) (n := slots + 12) (by omega) (by omega) ?_
  refine lv_istore C.1 C.2.1 dL_law_1346 hl (by decide) rfl (fun ls hl => ?_)
  refine lv_aload_n C.1 C.2.1 dL_law_1348 rfl (lv_at hl 3 rfl) ?_
  refine lv_aload_n C.1 C.2.1 dL_law_1349 rfl (lv_at hl 1 rfl) ?_
  refine lv_iload C.1 C.2.1 dL_law_1350 (lv_at hl 5 rfl) ?_
  refine lv_iconst (v := nI 1) C.1 C.2.1 dL_law_1352 (by decide) ?_
  refine lv_iadd C.1 C.2.1 dL_law_1353 ?_
  refine va_sld C.1 C.2.1 hX hbl hbA hw.2.2 (zvin 1 hi hL (by decide)) dL_law_1354 ?_
  refine lv_aload_n C.1 C.2.1 dL_law_1355 rfl (lv_at hl 1 rfl) ?_
  refine lv_iload C.1 C.2.1 dL_law_1356 (lv_at hl 5 rfl) ?_
  refine lv_iconst (v := nI 2) C.1 C.2.1 dL_law_1358 (by decide) ?_
  refine lv_iadd C.1 C.2.1 dL_law_1359 ?_
  refine va_sld C.1 C.2.1 hX hbl hbA hw.2.2 (zvin 2 hi hL (by decide)) dL_law_1360 ?_
  have mid : W p l e room_1 s m #[Value.ref b] below meth c H locs (cells + 2) (slots + 12) Q (F0 m 1369 ls [.int (nI w), .int (xs (nI i + nI 1).toNatClampNeg), .ref (G.2.1 140)]) := by
    refine sh_LVi (As := [.int (xs (nI i + nI 1).toNatClampNeg), .int (nI w)]) (rest := []) C hw (sh_Mi_up sub_M (kX13_open l (xs (nI i + nI 1).toNatClampNeg) (nI w))) yy_X13_open yv_X13_open ml_L_174 f2 tbL_140 rfl rfl rfl rfl (Nat.le_of_ble_eq_true rfl) ⟨by decide, by decide⟩ hkc hks hl.1 dL_law_1369 (fun H locs hw => ?_)
    refine lv_istore C.1 C.2.1 dL_law_1372 hl (by decide) rfl (fun ls hl => ?_)
    refine lv_aload_n C.1 C.2.1 dL_law_1374 rfl (lv_at hl 4 rfl) ?_
    refine sh_LVi (As := []) (rest := []) C hw (sh_Mi_up sub_M (kX13_thrown l)) yy_X13_thrown yv_X13_thrown ml_L_105 (zthr SL2) tbL_140 rfl rfl rfl rfl (Nat.le_of_ble_eq_true rfl) ⟨by decide, by decide⟩ hkc hks hl.1 dL_law_1375 (fun H locs hw => ?_)
    refine lv_iload C.1 C.2.1 dL_law_1378 (lv_at hl 1 rfl) ?_
    refine lv_icmp_eq (tgt := 1385) C.1 C.2.1 dL_law_1380 (by decide) (fun _ => ?_) (fun w => absurd f3 w)
    refine lv_iload C.1 C.2.1 dL_law_1385 (lv_at hl 1 rfl) ?_
    have hend : W p l e room_1 s m #[Value.ref b] below meth c H locs (cells + 2) (slots + 12) Q (F0 m 1409 ls []) := lv_goto (tgt := 1653) C.1 C.2.1 dL_law_1409 (by decide) (kk SL2 H locs ls f5 hw (lv_sub hl [2, 3, 4, 5, 6] rfl))
    refine lv_if_ne (tgt := 1409) C.1 C.2.1 dL_law_1387 (by decide) (fun _ => hend) (fun hz => ?_)
    have f4 := f4 hz
    refine lv_aload_n C.1 C.2.1 dL_law_1390 rfl (lv_at hl 5 rfl) ?_
    refine lv_iconst (v := 0) C.1 C.2.1 dL_law_1391 (by decide) ?_
    refine sh_lald (β := Unit) (k := some ()) (res := ()) C hw rfl tbL_o dL_law_1392 (fun _ => ?_)
    refine lv_iload C.1 C.2.1 dL_law_1393 (lv_at hl 0 rfl) ?_
    refine lv_if_eq (tgt := 1402) C.1 C.2.1 dL_law_1395 (by decide) (fun hr0 => ?_) (fun hr0 => ?_)
    · rw [if_pos hr0] at f4
      refine lv_lconst (v := 0) C.1 C.2.1 dL_law_1402 (by decide) ?_
      exact sh_lcmp_eq (β := Unit) (k1 := some ()) (k2 := none) (res := ()) (tgt := 1409) C (if_pos f4) dL_law_1403 dL_law_1404 (by decide) (fun _ => hend) (fun w => nomatch w)
    · rw [if_neg hr0] at f4
      refine lv_lconst (v := 1) C.1 C.2.1 dL_law_1398 (by decide) ?_
      refine lv_goto (tgt := 1403) C.1 C.2.1 dL_law_1399 (by decide) ?_
      exact sh_lcmp_eq (β := Unit) (k1 := some ()) (k2 := none) (res := ()) (tgt := 1409) C (if_pos f4) dL_law_1403 dL_law_1404 (by decide) (fun _ => hend) (fun w => nomatch w)
  refine lv_if_eq (tgt := 1368) C.1 C.2.1 dL_law_1361 (by decide) (fun hz => ?_) (fun hz => ?_)
  · rcases hwv with ⟨_, rfl⟩ | ⟨h9, _⟩
    · exact lv_iconst (v := nI 0) C.1 C.2.1 dL_law_1368 (by decide) mid
    · exact absurd hz h9
  · rcases hwv with ⟨h9, _⟩ | ⟨_, rfl⟩
    · exact absurd h9 hz
    · exact lv_iconst (v := nI 1) C.1 C.2.1 dL_law_1364 (by decide) (lv_goto (tgt := 1369) C.1 C.2.1 dL_law_1365 (by decide) mid)
set_option maxRecDepth 100000 in
set_option maxHeartbeats 4000000 in
theorem wL_22 {p : Program} {l : Launch} {e : Env} {s : State} {m : MethodId} {below : List Frame} {meth : Method} {c : Code} {G : sh_Ev} {Q : State → Prop} {b L : Nat} {xs : Nat → Int32} (hst : l.stackTraces = false) (C : sh_Cx p s m #[Value.ref b] meth c cL_law 7 RL G (fun q : Nat => s.heap.size ≤ q)) (hNq : sh_Nq s) (hX : va_X b L xs s s.heap) (hbl : b < s.heap.size) {i : Nat} (hi : i + 6 ≤ L) (hL : L ≤ 3072) {SL : sh_St} (hR : zLR SL) {H : Heap} {locs : List Loc} {ls : Array Slot} {cells slots : Nat} (hw : sh_Wx G tbL (fun q : Nat => s.heap.size ≤ q) s H locs SL) (hl : lv_has ls 7 [(0, .ref b), (1, .ref (G.2.1 0)), (2, .ref (G.2.1 140)), (3, .ref (G.2.1 162)), (4, .int (nI i))]) (hkc : cells + 2 ≤ room_1.cells) (hks : slots + 12 ≤ room_1.slots)
    (kk : ∀ (SL' : sh_St) (H1 : Heap) (locs1 : List Loc) (ls' : Array Slot), zLR SL' → sh_Wx G tbL (fun q : Nat => s.heap.size ≤ q) s H1 locs1 SL' → lv_has ls' 7 [(0, .ref b), (1, .ref (G.2.1 0)), (2, .ref (G.2.1 140)), (3, .ref (G.2.1 162)), (4, .int (nI i))] → W p l e room_1 s m #[Value.ref b] below meth c H1 locs1 (cells + 2) (slots + 12) Q (F0 m 1653 ls' [])) : W p l e room_1 s m #[Value.ref b] below meth c H locs cells slots Q (F0 m 1321 ls []) := by
  have hbA : ¬ (fun q : Nat => s.heap.size ≤ q) b := Nat.not_le.mpr hbl
  refine lv_aload_n C.1 C.2.1 dL_law_1321 rfl (lv_at hl 1 rfl) ?_
  refine lv_aload_n C.1 C.2.1 dL_law_1322 rfl (lv_at hl 0 rfl) ?_
  refine lv_iload C.1 C.2.1 dL_law_1323 (lv_at hl 4 rfl) ?_
  refine lv_iconst (v := nI 1) C.1 C.2.1 dL_law_1325 (by decide) ?_
  refine lv_iadd C.1 C.2.1 dL_law_1326 ?_
  refine va_sld C.1 C.2.1 hX hbl hbA hw.2.2 (zvin 1 hi hL (by decide)) dL_law_1327 ?_
  refine lv_aload_n C.1 C.2.1 dL_law_1328 rfl (lv_at hl 0 rfl) ?_
  refine lv_iload C.1 C.2.1 dL_law_1329 (lv_at hl 4 rfl) ?_
  refine lv_iconst (v := nI 2) C.1 C.2.1 dL_law_1331 (by decide) ?_
  refine lv_iadd C.1 C.2.1 dL_law_1332 ?_
  refine va_sld C.1 C.2.1 hX hbl hbA hw.2.2 (zvin 2 hi hL (by decide)) dL_law_1333 ?_
  refine lv_if_eq (tgt := 1341) C.1 C.2.1 dL_law_1334 (by decide) (fun hz => ?_) (fun hz => ?_)
  · exact lv_iconst (v := nI 0) C.1 C.2.1 dL_law_1341 (by decide) (wL_22m hst C hNq hX hbl hi hL hR hw hl hkc hks kk (w := 0) (by omega) (Or.inl ⟨hz, rfl⟩))
  · exact lv_iconst (v := nI 1) C.1 C.2.1 dL_law_1337 (by decide) (lv_goto (tgt := 1342) C.1 C.2.1 dL_law_1338 (by decide) (wL_22m hst C hNq hX hbl hi hL hR hw hl hkc hks kk (w := 1) (by omega) (Or.inr ⟨hz, rfl⟩)))
