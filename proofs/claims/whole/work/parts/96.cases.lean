/-! the cases of the law's switch, written by gen/mk_law.py -/
theorem tbL_140 : tbL[140]? = some (.inl (11, ([(0, 0), (2, 1), (2, 2), (2, 3), (2, 4), (0, 0), (2, 5), (2, 6), (2, 7), (2, 8), (0, 0), (2, 9), (2, 10), (2, 11), (2, 12), (2, 13), (2, 14), (0, 0), (0, 0), (0, 0), (0, 0), (0, 0), (1, 0), (1, 0), (2, 15), (2, 16), (2, 17), (0, 0), (0, 0), (0, 0), (0, 0), (0, 0), (0, 0), (2, 18), (2, 19), (2, 20), (0, 0), (0, 0), (2, 21)] : List (Nat × Nat)).map (fun f => (f.1, 140 + f.2)))) := sub_M 0 _ tbM_0
theorem zcb_self (SL : sh_St) : sh_cb 140 22 SL (sh_sS 140 SL) = SL := by
  have e1 : (sh_cb 140 22 SL (sh_sS 140 SL)).1 = SL.1 := funext fun i => by
    show (if 140 ≤ i ∧ i < 140 + 22 then SL.1 (140 + (i - 140)) else SL.1 i) = SL.1 i
    by_cases c : 140 ≤ i ∧ i < 140 + 22
    · rw [if_pos c, show 140 + (i - 140) = i by omega]
    · rw [if_neg c]
  have e2 : (sh_cb 140 22 SL (sh_sS 140 SL)).2 = SL.2 := funext fun i => by
    show (if 140 ≤ i ∧ i < 140 + 22 then SL.2 (140 + (i - 140)) else SL.2 i) = SL.2 i
    by_cases c : 140 ≤ i ∧ i < 140 + 22
    · rw [if_pos c, show 140 + (i - 140) = i by omega]
    · rw [if_neg c]
  exact Prod.ext e1 e2
theorem zthr (SL : sh_St) : sh_lf 140 tbM.length (fun S => fX13_thrown S) SL = some (SL.1 140 0, SL) := by
  rw [tbM_len]
  refine (zlf_e (F := fun S => fX13_thrown S) (r := SL.1 140 0) (S1 := sh_sS 140 SL) rfl).trans ?_
  rw [zcb_self]
theorem zvin {i L : Nat} (j : Nat) (hi : i + 6 ≤ L) (hL : L ≤ 3072) (hj : j < 6) : vp_in (nI i + nI j) L := by
  rw [nI_add]
  exact vp_in_nI (by omega) (by omega)
theorem ml_L_89 : Cond.methodLink RL 89 yX12_feed ∈ sh_ws := sh_t2 (i := 157) (by decide +kernel) (by decide +kernel)
theorem ml_L_93 : Cond.methodLink RL 93 yX13_feed ∈ sh_ws := sh_t6 (i := 169) (by decide +kernel) (by decide +kernel)
set_option maxRecDepth 100000 in
set_option maxHeartbeats 4000000 in
theorem wL_0 {p : Program} {l : Launch} {e : Env} {s : State} {m : MethodId} {below : List Frame} {meth : Method} {c : Code} {G : sh_Ev} {Q : State → Prop} {b L : Nat} {xs : Nat → Int32} (hst : l.stackTraces = false) (C : sh_Cx p s m #[Value.ref b] meth c cL_law 7 RL G (fun q : Nat => s.heap.size ≤ q)) (hNq : sh_Nq s) (hX : va_X b L xs s s.heap) (hbl : b < s.heap.size) {i : Nat} (hi : i + 6 ≤ L) (hL : L ≤ 3072) {SL : sh_St} (hR : zLR SL) {H : Heap} {locs : List Loc} {ls : Array Slot} {cells slots : Nat} (hw : sh_Wx G tbL (fun q : Nat => s.heap.size ≤ q) s H locs SL) (hl : lv_has ls 7 [(0, .ref b), (1, .ref (G.2.1 0)), (2, .ref (G.2.1 140)), (3, .ref (G.2.1 162)), (4, .int (nI i))]) (hkc : cells + 2 ≤ room_1.cells) (hks : slots + 12 ≤ room_1.slots)
    (kk : ∀ (SL' : sh_St) (H1 : Heap) (locs1 : List Loc) (ls' : Array Slot), zLR SL' → sh_Wx G tbL (fun q : Nat => s.heap.size ≤ q) s H1 locs1 SL' → lv_has ls' 7 [(0, .ref b), (1, .ref (G.2.1 0)), (2, .ref (G.2.1 140)), (3, .ref (G.2.1 162)), (4, .int (nI i))] → W p l e room_1 s m #[Value.ref b] below meth c H1 locs1 (cells + 2) (slots + 12) Q (F0 m 1653 ls' [])) : W p l e room_1 s m #[Value.ref b] below meth c H locs cells slots Q (F0 m 172 ls []) := by
  have hbA : ¬ (fun q : Nat => s.heap.size ≤ q) b := Nat.not_le.mpr hbl
  obtain ⟨r, SL1, SL2, f1, f2, f5⟩ := zL_feed hR (xs (nI i + nI 1).toNatClampNeg) (xs (nI i + nI 2).toNatClampNeg) (xs (nI i + nI 3).toNatClampNeg) (xs (nI i + nI 4).toNatClampNeg) (xs (nI i + nI 5).toNatClampNeg)
  refine lv_aload_n C.1 C.2.1 dL_law_172 rfl (lv_at hl 1 rfl) ?_
  refine lv_aload_n C.1 C.2.1 dL_law_173 rfl (lv_at hl 0 rfl) ?_
  refine lv_iload C.1 C.2.1 dL_law_174 (lv_at hl 4 rfl) ?_
  refine lv_iconst (v := nI 1) C.1 C.2.1 dL_law_176 (by decide) ?_
  refine lv_iadd C.1 C.2.1 dL_law_177 ?_
  refine va_sld C.1 C.2.1 hX hbl hbA hw.2.2 (zvin 1 hi hL (by decide)) dL_law_178 ?_
  refine lv_aload_n C.1 C.2.1 dL_law_179 rfl (lv_at hl 0 rfl) ?_
  refine lv_iload C.1 C.2.1 dL_law_180 (lv_at hl 4 rfl) ?_
  refine lv_iconst (v := nI 2) C.1 C.2.1 dL_law_182 (by decide) ?_
  refine lv_iadd C.1 C.2.1 dL_law_183 ?_
  refine va_sld C.1 C.2.1 hX hbl hbA hw.2.2 (zvin 2 hi hL (by decide)) dL_law_184 ?_
  refine lv_aload_n C.1 C.2.1 dL_law_185 rfl (lv_at hl 0 rfl) ?_
  refine lv_iload C.1 C.2.1 dL_law_186 (lv_at hl 4 rfl) ?_
  refine lv_iconst (v := nI 3) C.1 C.2.1 dL_law_188 (by decide) ?_
  refine lv_iadd C.1 C.2.1 dL_law_189 ?_
  refine va_sld C.1 C.2.1 hX hbl hbA hw.2.2 (zvin 3 hi hL (by decide)) dL_law_190 ?_
  refine lv_aload_n C.1 C.2.1 dL_law_191 rfl (lv_at hl 0 rfl) ?_
  refine lv_iload C.1 C.2.1 dL_law_192 (lv_at hl 4 rfl) ?_
  refine lv_iconst (v := nI 4) C.1 C.2.1 dL_law_194 (by decide) ?_
  refine lv_iadd C.1 C.2.1 dL_law_195 ?_
  refine va_sld C.1 C.2.1 hX hbl hbA hw.2.2 (zvin 4 hi hL (by decide)) dL_law_196 ?_
  refine lv_aload_n C.1 C.2.1 dL_law_197 rfl (lv_at hl 0 rfl) ?_
  refine lv_iload C.1 C.2.1 dL_law_198 (lv_at hl 4 rfl) ?_
  refine lv_iconst (v := nI 5) C.1 C.2.1 dL_law_200 (by decide) ?_
  refine lv_iadd C.1 C.2.1 dL_law_201 ?_
  refine va_sld C.1 C.2.1 hX hbl hbA hw.2.2 (zvin 5 hi hL (by decide)) dL_law_202 ?_
  refine sh_LVi (As := [.int (xs (nI i + nI 1).toNatClampNeg), .int (xs (nI i + nI 2).toNatClampNeg), .int (xs (nI i + nI 3).toNatClampNeg), .int (xs (nI i + nI 4).toNatClampNeg), .int (xs (nI i + nI 5).toNatClampNeg)]) (rest := []) C hw (sh_Mi_up sub_X (kX12_feed l (xs (nI i + nI 1).toNatClampNeg) (xs (nI i + nI 2).toNatClampNeg) (xs (nI i + nI 3).toNatClampNeg) (xs (nI i + nI 4).toNatClampNeg) (xs (nI i + nI 5).toNatClampNeg))) yy_X12_feed yv_X12_feed ml_L_89 f1 tbL_0 rfl rfl rfl rfl (Nat.le_of_ble_eq_true rfl) ⟨by decide, by decide⟩ (by omega) (by omega) hl.1 dL_law_203 (fun H locs hw => ?_)
  refine lv_aload_n C.1 C.2.1 dL_law_206 rfl (lv_at hl 2 rfl) ?_
  refine lv_aload_n C.1 C.2.1 dL_law_207 rfl (lv_at hl 0 rfl) ?_
  refine lv_iload C.1 C.2.1 dL_law_208 (lv_at hl 4 rfl) ?_
  refine lv_iconst (v := nI 1) C.1 C.2.1 dL_law_210 (by decide) ?_
  refine lv_iadd C.1 C.2.1 dL_law_211 ?_
  refine va_sld C.1 C.2.1 hX hbl hbA hw.2.2 (zvin 1 hi hL (by decide)) dL_law_212 ?_
  refine lv_aload_n C.1 C.2.1 dL_law_213 rfl (lv_at hl 0 rfl) ?_
  refine lv_iload C.1 C.2.1 dL_law_214 (lv_at hl 4 rfl) ?_
  refine lv_iconst (v := nI 2) C.1 C.2.1 dL_law_216 (by decide) ?_
  refine lv_iadd C.1 C.2.1 dL_law_217 ?_
  refine va_sld C.1 C.2.1 hX hbl hbA hw.2.2 (zvin 2 hi hL (by decide)) dL_law_218 ?_
  refine lv_aload_n C.1 C.2.1 dL_law_219 rfl (lv_at hl 0 rfl) ?_
  refine lv_iload C.1 C.2.1 dL_law_220 (lv_at hl 4 rfl) ?_
  refine lv_iconst (v := nI 3) C.1 C.2.1 dL_law_222 (by decide) ?_
  refine lv_iadd C.1 C.2.1 dL_law_223 ?_
  refine va_sld C.1 C.2.1 hX hbl hbA hw.2.2 (zvin 3 hi hL (by decide)) dL_law_224 ?_
  refine lv_aload_n C.1 C.2.1 dL_law_225 rfl (lv_at hl 0 rfl) ?_
  refine lv_iload C.1 C.2.1 dL_law_226 (lv_at hl 4 rfl) ?_
  refine lv_iconst (v := nI 4) C.1 C.2.1 dL_law_228 (by decide) ?_
  refine lv_iadd C.1 C.2.1 dL_law_229 ?_
  refine va_sld C.1 C.2.1 hX hbl hbA hw.2.2 (zvin 4 hi hL (by decide)) dL_law_230 ?_
  refine lv_aload_n C.1 C.2.1 dL_law_231 rfl (lv_at hl 0 rfl) ?_
  refine lv_iload C.1 C.2.1 dL_law_232 (lv_at hl 4 rfl) ?_
  refine lv_iconst (v := nI 5) C.1 C.2.1 dL_law_234 (by decide) ?_
  refine lv_iadd C.1 C.2.1 dL_law_235 ?_
  refine va_sld C.1 C.2.1 hX hbl hbA hw.2.2 (zvin 5 hi hL (by decide)) dL_law_236 ?_
  refine sh_LVi (As := [.int (xs (nI i + nI 1).toNatClampNeg), .int (xs (nI i + nI 2).toNatClampNeg), .int (xs (nI i + nI 3).toNatClampNeg), .int (xs (nI i + nI 4).toNatClampNeg), .int (xs (nI i + nI 5).toNatClampNeg)]) (rest := [.int r]) C hw (sh_Mi_up sub_M (kX13_feed l (xs (nI i + nI 1).toNatClampNeg) (xs (nI i + nI 2).toNatClampNeg) (xs (nI i + nI 3).toNatClampNeg) (xs (nI i + nI 4).toNatClampNeg) (xs (nI i + nI 5).toNatClampNeg))) yy_X13_feed yv_X13_feed ml_L_93 f2 tbL_140 rfl rfl rfl rfl (Nat.le_of_ble_eq_true rfl) ⟨by decide, by decide⟩ (by omega) (by omega) hl.1 dL_law_237 (fun H locs hw => ?_)
  refine W.widen (k := cells + 2) (n := slots + 12) (by omega) (by omega) ?_
  exact lv_icmp_eq (tgt := 1653) C.1 C.2.1 dL_law_240 (by decide) (fun _ => kk SL2 H locs ls f5 hw hl) (fun w => absurd rfl w)
theorem ml_L_94 : Cond.methodLink RL 94 yX12_end ∈ sh_ws := sh_t2 (i := 165) (by decide +kernel) (by decide +kernel)
theorem ml_L_98 : Cond.methodLink RL 98 yX13_end ∈ sh_ws := sh_t6 (i := 173) (by decide +kernel) (by decide +kernel)
set_option maxRecDepth 100000 in
set_option maxHeartbeats 4000000 in
theorem wL_1 {p : Program} {l : Launch} {e : Env} {s : State} {m : MethodId} {below : List Frame} {meth : Method} {c : Code} {G : sh_Ev} {Q : State → Prop} {b L : Nat} {xs : Nat → Int32} (hst : l.stackTraces = false) (C : sh_Cx p s m #[Value.ref b] meth c cL_law 7 RL G (fun q : Nat => s.heap.size ≤ q)) (hNq : sh_Nq s) (hX : va_X b L xs s s.heap) (hbl : b < s.heap.size) {i : Nat} (hi : i + 6 ≤ L) (hL : L ≤ 3072) {SL : sh_St} (hR : zLR SL) {H : Heap} {locs : List Loc} {ls : Array Slot} {cells slots : Nat} (hw : sh_Wx G tbL (fun q : Nat => s.heap.size ≤ q) s H locs SL) (hl : lv_has ls 7 [(0, .ref b), (1, .ref (G.2.1 0)), (2, .ref (G.2.1 140)), (3, .ref (G.2.1 162)), (4, .int (nI i))]) (hkc : cells + 2 ≤ room_1.cells) (hks : slots + 12 ≤ room_1.slots)
    (kk : ∀ (SL' : sh_St) (H1 : Heap) (locs1 : List Loc) (ls' : Array Slot), zLR SL' → sh_Wx G tbL (fun q : Nat => s.heap.size ≤ q) s H1 locs1 SL' → lv_has ls' 7 [(0, .ref b), (1, .ref (G.2.1 0)), (2, .ref (G.2.1 140)), (3, .ref (G.2.1 162)), (4, .int (nI i))] → W p l e room_1 s m #[Value.ref b] below meth c H1 locs1 (cells + 2) (slots + 12) Q (F0 m 1653 ls' [])) : W p l e room_1 s m #[Value.ref b] below meth c H locs cells slots Q (F0 m 245 ls []) := by
  have hbA : ¬ (fun q : Nat => s.heap.size ≤ q) b := Nat.not_le.mpr hbl
  obtain ⟨r, SL1, SL2, f1, f2, f5⟩ := zL_end hR (xs (nI i + nI 1).toNatClampNeg)
  refine lv_aload_n C.1 C.2.1 dL_law_245 rfl (lv_at hl 1 rfl) ?_
  refine lv_aload_n C.1 C.2.1 dL_law_246 rfl (lv_at hl 0 rfl) ?_
  refine lv_iload C.1 C.2.1 dL_law_247 (lv_at hl 4 rfl) ?_
  refine lv_iconst (v := nI 1) C.1 C.2.1 dL_law_249 (by decide) ?_
  refine lv_iadd C.1 C.2.1 dL_law_250 ?_
  refine va_sld C.1 C.2.1 hX hbl hbA hw.2.2 (zvin 1 hi hL (by decide)) dL_law_251 ?_
  refine sh_LVi (As := [.int (xs (nI i + nI 1).toNatClampNeg)]) (rest := []) C hw (sh_Mi_up sub_X (kX12_end l (xs (nI i + nI 1).toNatClampNeg))) yy_X12_end yv_X12_end ml_L_94 f1 tbL_0 rfl rfl rfl rfl (Nat.le_of_ble_eq_true rfl) ⟨by decide, by decide⟩ (by omega) (by omega) hl.1 dL_law_252 (fun H locs hw => ?_)
  refine lv_aload_n C.1 C.2.1 dL_law_255 rfl (lv_at hl 2 rfl) ?_
  refine lv_aload_n C.1 C.2.1 dL_law_256 rfl (lv_at hl 0 rfl) ?_
  refine lv_iload C.1 C.2.1 dL_law_257 (lv_at hl 4 rfl) ?_
  refine lv_iconst (v := nI 1) C.1 C.2.1 dL_law_259 (by decide) ?_
  refine lv_iadd C.1 C.2.1 dL_law_260 ?_
  refine va_sld C.1 C.2.1 hX hbl hbA hw.2.2 (zvin 1 hi hL (by decide)) dL_law_261 ?_
  refine sh_LVi (As := [.int (xs (nI i + nI 1).toNatClampNeg)]) (rest := [.int r]) C hw (sh_Mi_up sub_M (kX13_end l (xs (nI i + nI 1).toNatClampNeg))) yy_X13_end yv_X13_end ml_L_98 f2 tbL_140 rfl rfl rfl rfl (Nat.le_of_ble_eq_true rfl) ⟨by decide, by decide⟩ (by omega) (by omega) hl.1 dL_law_262 (fun H locs hw => ?_)
  refine W.widen (k := cells + 2) (n := slots + 12) (by omega) (by omega) ?_
  exact lv_icmp_eq (tgt := 1653) C.1 C.2.1 dL_law_265 (by decide) (fun _ => kk SL2 H locs ls f5 hw hl) (fun w => absurd rfl w)
theorem yh_L_acts : sh_YH yL_acts cL_acts 3 [(0, 8, 11, 13)] 2 := ⟨sh_t1 (i := 0) (by decide +kernel) (by decide +kernel), sh_t2 (i := 230) (by decide +kernel) (by decide +kernel), sh_t2 (i := 229) (by decide +kernel) (by decide +kernel), by decide, by decide +kernel⟩
theorem ml_L_99 : Cond.methodLink RL 99 yL_acts ∈ sh_ws := sh_t2 (i := 228) (by decide +kernel) (by decide +kernel)
theorem ml_L_104 : Cond.methodLink RL 104 yX13_acts ∈ sh_ws := sh_t6 (i := 180) (by decide +kernel) (by decide +kernel)
theorem ml_L_105 : Cond.methodLink RL 105 yX13_thrown ∈ sh_ws := sh_t6 (i := 165) (by decide +kernel) (by decide +kernel)
set_option maxRecDepth 100000 in
set_option maxHeartbeats 4000000 in
theorem wL_2 {p : Program} {l : Launch} {e : Env} {s : State} {m : MethodId} {below : List Frame} {meth : Method} {c : Code} {G : sh_Ev} {Q : State → Prop} {b L : Nat} {xs : Nat → Int32} (hst : l.stackTraces = false) (C : sh_Cx p s m #[Value.ref b] meth c cL_law 7 RL G (fun q : Nat => s.heap.size ≤ q)) (hNq : sh_Nq s) (hX : va_X b L xs s s.heap) (hbl : b < s.heap.size) {i : Nat} (hi : i + 6 ≤ L) (hL : L ≤ 3072) {SL : sh_St} (hR : zLR SL) {H : Heap} {locs : List Loc} {ls : Array Slot} {cells slots : Nat} (hw : sh_Wx G tbL (fun q : Nat => s.heap.size ≤ q) s H locs SL) (hl : lv_has ls 7 [(0, .ref b), (1, .ref (G.2.1 0)), (2, .ref (G.2.1 140)), (3, .ref (G.2.1 162)), (4, .int (nI i))]) (hkc : cells + 2 ≤ room_1.cells) (hks : slots + 12 ≤ room_1.slots)
    (kk : ∀ (SL' : sh_St) (H1 : Heap) (locs1 : List Loc) (ls' : Array Slot), zLR SL' → sh_Wx G tbL (fun q : Nat => s.heap.size ≤ q) s H1 locs1 SL' → lv_has ls' 7 [(0, .ref b), (1, .ref (G.2.1 0)), (2, .ref (G.2.1 140)), (3, .ref (G.2.1 162)), (4, .int (nI i))] → W p l e room_1 s m #[Value.ref b] below meth c H1 locs1 (cells + 2) (slots + 12) Q (F0 m 1653 ls' [])) : W p l e room_1 s m #[Value.ref b] below meth c H locs cells slots Q (F0 m 270 ls []) := by
  have hbA : ¬ (fun q : Nat => s.heap.size ≤ q) b := Nat.not_le.mpr hbl
  obtain ⟨kq, SL1, r, SL2, f1, f2, f3, f4, f5⟩ := zL_acts hR
  refine lv_aload_n C.1 C.2.1 dL_law_270 rfl (lv_at hl 1 rfl) ?_
  refine lv_aload_n C.1 C.2.1 dL_law_271 rfl (lv_at hl 3 rfl) ?_
  refine sh_LH (As := [.ref (G.2.1 0), .ref (G.2.1 162)]) (rest := []) C hNq hw (kL_acts l hst) yh_L_acts ml_L_99 f1 rfl rfl rfl (Nat.le_of_ble_eq_true rfl) ⟨by decide, by decide⟩ (by omega) (by omega) hl.1 dL_law_272 (fun H locs hw => ?_)
  refine W.widen (k := cells + 2) (n := slots + 12) (by omega) (by omega) ?_
  refine lv_istore C.1 C.2.1 dL_law_275 hl (by decide) rfl (fun ls hl => ?_)
  refine lv_aload_n C.1 C.2.1 dL_law_277 rfl (lv_at hl 3 rfl) ?_
  refine sh_LVi (As := []) (rest := []) C hw (sh_Mi_up sub_M (kX13_acts l)) yy_X13_acts yv_X13_acts ml_L_104 f2 tbL_140 rfl rfl rfl rfl (Nat.le_of_ble_eq_true rfl) ⟨by decide, by decide⟩ hkc hks hl.1 dL_law_278 (fun H locs hw => ?_)
  refine lv_istore C.1 C.2.1 dL_law_281 hl (by decide) rfl (fun ls hl => ?_)
  refine lv_aload_n C.1 C.2.1 dL_law_283 rfl (lv_at hl 4 rfl) ?_
  refine sh_LVi (As := []) (rest := []) C hw (sh_Mi_up sub_M (kX13_thrown l)) yy_X13_thrown yv_X13_thrown ml_L_105 (zthr SL2) tbL_140 rfl rfl rfl rfl (Nat.le_of_ble_eq_true rfl) ⟨by decide, by decide⟩ hkc hks hl.1 dL_law_284 (fun H locs hw => ?_)
  refine lv_iload C.1 C.2.1 dL_law_287 (lv_at hl 1 rfl) ?_
  refine lv_icmp_eq (tgt := 294) C.1 C.2.1 dL_law_289 (by decide) (fun _ => ?_) (fun w => absurd f3 w)
  refine lv_iload C.1 C.2.1 dL_law_294 (lv_at hl 1 rfl) ?_
  have hend : W p l e room_1 s m #[Value.ref b] below meth c H locs (cells + 2) (slots + 12) Q (F0 m 311 ls []) := lv_goto (tgt := 1653) C.1 C.2.1 dL_law_311 (by decide) (kk SL2 H locs ls f5 hw (lv_sub hl [2, 3, 4, 5, 6] rfl))
  refine lv_if_ne (tgt := 311) C.1 C.2.1 dL_law_296 (by decide) (fun _ => hend) (fun hz => ?_)
  refine lv_aload_n C.1 C.2.1 dL_law_299 rfl (lv_at hl 5 rfl) ?_
  refine lv_iconst (v := 0) C.1 C.2.1 dL_law_300 (by decide) ?_
  refine sh_lald (β := Unit) (k := some ()) (res := ()) C hw rfl tbL_o dL_law_301 (fun _ => ?_)
  refine lv_iload C.1 C.2.1 dL_law_302 (lv_at hl 0 rfl) ?_
  refine lv_i2l (v := r.toInt64) C.1 C.2.1 dL_law_304 rfl ?_
  refine sh_lcmp_eq (β := Unit) (k1 := some ()) (k2 := none) (res := ()) (tgt := 311) C (if_pos (f4 hz)) dL_law_305 dL_law_306 (by decide) (fun _ => hend) (fun w => nomatch w)
theorem ml_L_108 : Cond.methodLink RL 108 yX12_fault ∈ sh_ws := sh_t2 (i := 169) (by decide +kernel) (by decide +kernel)
theorem ml_L_111 : Cond.methodLink RL 111 yX13_fault ∈ sh_ws := sh_t7 (i := 179) (by decide +kernel) (by decide +kernel)
set_option maxRecDepth 100000 in
set_option maxHeartbeats 4000000 in
theorem wL_3 {p : Program} {l : Launch} {e : Env} {s : State} {m : MethodId} {below : List Frame} {meth : Method} {c : Code} {G : sh_Ev} {Q : State → Prop} {b L : Nat} {xs : Nat → Int32} (hst : l.stackTraces = false) (C : sh_Cx p s m #[Value.ref b] meth c cL_law 7 RL G (fun q : Nat => s.heap.size ≤ q)) (hNq : sh_Nq s) (hX : va_X b L xs s s.heap) (hbl : b < s.heap.size) {i : Nat} (hi : i + 6 ≤ L) (hL : L ≤ 3072) {SL : sh_St} (hR : zLR SL) {H : Heap} {locs : List Loc} {ls : Array Slot} {cells slots : Nat} (hw : sh_Wx G tbL (fun q : Nat => s.heap.size ≤ q) s H locs SL) (hl : lv_has ls 7 [(0, .ref b), (1, .ref (G.2.1 0)), (2, .ref (G.2.1 140)), (3, .ref (G.2.1 162)), (4, .int (nI i))]) (hkc : cells + 2 ≤ room_1.cells) (hks : slots + 12 ≤ room_1.slots)
    (kk : ∀ (SL' : sh_St) (H1 : Heap) (locs1 : List Loc) (ls' : Array Slot), zLR SL' → sh_Wx G tbL (fun q : Nat => s.heap.size ≤ q) s H1 locs1 SL' → lv_has ls' 7 [(0, .ref b), (1, .ref (G.2.1 0)), (2, .ref (G.2.1 140)), (3, .ref (G.2.1 162)), (4, .int (nI i))] → W p l e room_1 s m #[Value.ref b] below meth c H1 locs1 (cells + 2) (slots + 12) Q (F0 m 1653 ls' [])) : W p l e room_1 s m #[Value.ref b] below meth c H locs cells slots Q (F0 m 314 ls []) := by
  have hbA : ¬ (fun q : Nat => s.heap.size ≤ q) b := Nat.not_le.mpr hbl
  obtain ⟨r, SL1, SL2, f1, f2, f5⟩ := zL_fault hR
  refine lv_aload_n C.1 C.2.1 dL_law_314 rfl (lv_at hl 1 rfl) ?_
  refine sh_LVi (As := []) (rest := []) C hw (sh_Mi_up sub_X (kX12_fault l)) yy_X12_fault yv_X12_fault ml_L_108 f1 tbL_0 rfl rfl rfl rfl (Nat.le_of_ble_eq_true rfl) ⟨by decide, by decide⟩ (by omega) (by omega) hl.1 dL_law_315 (fun H locs hw => ?_)
  refine lv_aload_n C.1 C.2.1 dL_law_318 rfl (lv_at hl 2 rfl) ?_
  refine sh_LVi (As := []) (rest := [.int r]) C hw (sh_Mi_up sub_M (kX13_fault l)) yy_X13_fault yv_X13_fault ml_L_111 f2 tbL_140 rfl rfl rfl rfl (Nat.le_of_ble_eq_true rfl) ⟨by decide, by decide⟩ (by omega) (by omega) hl.1 dL_law_319 (fun H locs hw => ?_)
  refine W.widen (k := cells + 2) (n := slots + 12) (by omega) (by omega) ?_
  exact lv_icmp_eq (tgt := 1653) C.1 C.2.1 dL_law_322 (by decide) (fun _ => kk SL2 H locs ls f5 hw hl) (fun w => absurd rfl w)
theorem ml_L_112 : Cond.methodLink RL 112 yX12_why ∈ sh_ws := sh_t2 (i := 173) (by decide +kernel) (by decide +kernel)
theorem ml_L_115 : Cond.methodLink RL 115 yX13_why ∈ sh_ws := sh_t7 (i := 183) (by decide +kernel) (by decide +kernel)
set_option maxRecDepth 100000 in
set_option maxHeartbeats 4000000 in
theorem wL_4 {p : Program} {l : Launch} {e : Env} {s : State} {m : MethodId} {below : List Frame} {meth : Method} {c : Code} {G : sh_Ev} {Q : State → Prop} {b L : Nat} {xs : Nat → Int32} (hst : l.stackTraces = false) (C : sh_Cx p s m #[Value.ref b] meth c cL_law 7 RL G (fun q : Nat => s.heap.size ≤ q)) (hNq : sh_Nq s) (hX : va_X b L xs s s.heap) (hbl : b < s.heap.size) {i : Nat} (hi : i + 6 ≤ L) (hL : L ≤ 3072) {SL : sh_St} (hR : zLR SL) {H : Heap} {locs : List Loc} {ls : Array Slot} {cells slots : Nat} (hw : sh_Wx G tbL (fun q : Nat => s.heap.size ≤ q) s H locs SL) (hl : lv_has ls 7 [(0, .ref b), (1, .ref (G.2.1 0)), (2, .ref (G.2.1 140)), (3, .ref (G.2.1 162)), (4, .int (nI i))]) (hkc : cells + 2 ≤ room_1.cells) (hks : slots + 12 ≤ room_1.slots)
    (kk : ∀ (SL' : sh_St) (H1 : Heap) (locs1 : List Loc) (ls' : Array Slot), zLR SL' → sh_Wx G tbL (fun q : Nat => s.heap.size ≤ q) s H1 locs1 SL' → lv_has ls' 7 [(0, .ref b), (1, .ref (G.2.1 0)), (2, .ref (G.2.1 140)), (3, .ref (G.2.1 162)), (4, .int (nI i))] → W p l e room_1 s m #[Value.ref b] below meth c H1 locs1 (cells + 2) (slots + 12) Q (F0 m 1653 ls' [])) : W p l e room_1 s m #[Value.ref b] below meth c H locs cells slots Q (F0 m 327 ls []) := by
  have hbA : ¬ (fun q : Nat => s.heap.size ≤ q) b := Nat.not_le.mpr hbl
  obtain ⟨r, SL1, SL2, f1, f2, f5⟩ := zL_why hR
  refine lv_aload_n C.1 C.2.1 dL_law_327 rfl (lv_at hl 1 rfl) ?_
  refine sh_LVi (As := []) (rest := []) C hw (sh_Mi_up sub_X (kX12_why l)) yy_X12_why yv_X12_why ml_L_112 f1 tbL_0 rfl rfl rfl rfl (Nat.le_of_ble_eq_true rfl) ⟨by decide, by decide⟩ (by omega) (by omega) hl.1 dL_law_328 (fun H locs hw => ?_)
  refine lv_aload_n C.1 C.2.1 dL_law_331 rfl (lv_at hl 2 rfl) ?_
  refine sh_LVi (As := []) (rest := [.int r]) C hw (sh_Mi_up sub_M (kX13_why l)) yy_X13_why yv_X13_why ml_L_115 f2 tbL_140 rfl rfl rfl rfl (Nat.le_of_ble_eq_true rfl) ⟨by decide, by decide⟩ (by omega) (by omega) hl.1 dL_law_332 (fun H locs hw => ?_)
  refine W.widen (k := cells + 2) (n := slots + 12) (by omega) (by omega) ?_
  exact lv_icmp_eq (tgt := 1653) C.1 C.2.1 dL_law_335 (by decide) (fun _ => kk SL2 H locs ls f5 hw hl) (fun w => absurd rfl w)
theorem yh_L_put : sh_YH yL_put cL_put 4 [(0, 9, 12, 13), (0, 9, 15, 19)] 3 := ⟨sh_t1 (i := 0) (by decide +kernel) (by decide +kernel), sh_t4 (i := 163) (by decide +kernel) (by decide +kernel), sh_t4 (i := 162) (by decide +kernel) (by decide +kernel), by decide, by decide +kernel⟩
theorem ml_L_116 : Cond.methodLink RL 116 yL_put ∈ sh_ws := sh_t4 (i := 161) (by decide +kernel) (by decide +kernel)
theorem ml_L_119 : Cond.methodLink RL 119 yX13_put ∈ sh_ws := sh_t7 (i := 187) (by decide +kernel) (by decide +kernel)
set_option maxRecDepth 100000 in
set_option maxHeartbeats 4000000 in
theorem wL_5 {p : Program} {l : Launch} {e : Env} {s : State} {m : MethodId} {below : List Frame} {meth : Method} {c : Code} {G : sh_Ev} {Q : State → Prop} {b L : Nat} {xs : Nat → Int32} (hst : l.stackTraces = false) (C : sh_Cx p s m #[Value.ref b] meth c cL_law 7 RL G (fun q : Nat => s.heap.size ≤ q)) (hNq : sh_Nq s) (hX : va_X b L xs s s.heap) (hbl : b < s.heap.size) {i : Nat} (hi : i + 6 ≤ L) (hL : L ≤ 3072) {SL : sh_St} (hR : zLR SL) {H : Heap} {locs : List Loc} {ls : Array Slot} {cells slots : Nat} (hw : sh_Wx G tbL (fun q : Nat => s.heap.size ≤ q) s H locs SL) (hl : lv_has ls 7 [(0, .ref b), (1, .ref (G.2.1 0)), (2, .ref (G.2.1 140)), (3, .ref (G.2.1 162)), (4, .int (nI i))]) (hkc : cells + 2 ≤ room_1.cells) (hks : slots + 12 ≤ room_1.slots)
    (kk : ∀ (SL' : sh_St) (H1 : Heap) (locs1 : List Loc) (ls' : Array Slot), zLR SL' → sh_Wx G tbL (fun q : Nat => s.heap.size ≤ q) s H1 locs1 SL' → lv_has ls' 7 [(0, .ref b), (1, .ref (G.2.1 0)), (2, .ref (G.2.1 140)), (3, .ref (G.2.1 162)), (4, .int (nI i))] → W p l e room_1 s m #[Value.ref b] below meth c H1 locs1 (cells + 2) (slots + 12) Q (F0 m 1653 ls' [])) : W p l e room_1 s m #[Value.ref b] below meth c H locs cells slots Q (F0 m 340 ls []) := by
  have hbA : ¬ (fun q : Nat => s.heap.size ≤ q) b := Nat.not_le.mpr hbl
  obtain ⟨kq, SL1, r, SL2, f1, f2, f3, f4, f5⟩ := zL_put hR (xs (nI i + nI 1).toNatClampNeg)
  refine lv_aload_n C.1 C.2.1 dL_law_340 rfl (lv_at hl 1 rfl) ?_
  refine lv_aload_n C.1 C.2.1 dL_law_341 rfl (lv_at hl 0 rfl) ?_
  refine lv_iload C.1 C.2.1 dL_law_342 (lv_at hl 4 rfl) ?_
  refine lv_iconst (v := nI 1) C.1 C.2.1 dL_law_344 (by decide) ?_
  refine lv_iadd C.1 C.2.1 dL_law_345 ?_
  refine va_sld C.1 C.2.1 hX hbl hbA hw.2.2 (zvin 1 hi hL (by decide)) dL_law_346 ?_
  refine lv_aload_n C.1 C.2.1 dL_law_347 rfl (lv_at hl 3 rfl) ?_
  refine sh_LH (As := [.ref (G.2.1 0), .int (xs (nI i + nI 1).toNatClampNeg), .ref (G.2.1 162)]) (rest := []) C hNq hw (kL_put l hst (xs (nI i + nI 1).toNatClampNeg)) yh_L_put ml_L_116 f1 rfl rfl rfl (Nat.le_of_ble_eq_true rfl) ⟨by decide, by decide⟩ (by omega) (by omega) hl.1 dL_law_348 (fun H locs hw => ?_)
  refine W.widen (k := cells + 2) (n := slots + 12) (by omega) (by omega) ?_
  refine lv_istore C.1 C.2.1 dL_law_351 hl (by decide) rfl (fun ls hl => ?_)
  refine lv_aload_n C.1 C.2.1 dL_law_353 rfl (lv_at hl 3 rfl) ?_
  refine lv_aload_n C.1 C.2.1 dL_law_354 rfl (lv_at hl 1 rfl) ?_
  refine lv_iload C.1 C.2.1 dL_law_355 (lv_at hl 5 rfl) ?_
  refine lv_iconst (v := nI 1) C.1 C.2.1 dL_law_357 (by decide) ?_
  refine lv_iadd C.1 C.2.1 dL_law_358 ?_
  refine va_sld C.1 C.2.1 hX hbl hbA hw.2.2 (zvin 1 hi hL (by decide)) dL_law_359 ?_
  refine sh_LVi (As := [.int (xs (nI i + nI 1).toNatClampNeg)]) (rest := []) C hw (sh_Mi_up sub_M (kX13_put l (xs (nI i + nI 1).toNatClampNeg))) yy_X13_put yv_X13_put ml_L_119 f2 tbL_140 rfl rfl rfl rfl (Nat.le_of_ble_eq_true rfl) ⟨by decide, by decide⟩ hkc hks hl.1 dL_law_360 (fun H locs hw => ?_)
  refine lv_istore C.1 C.2.1 dL_law_363 hl (by decide) rfl (fun ls hl => ?_)
  refine lv_aload_n C.1 C.2.1 dL_law_365 rfl (lv_at hl 4 rfl) ?_
  refine sh_LVi (As := []) (rest := []) C hw (sh_Mi_up sub_M (kX13_thrown l)) yy_X13_thrown yv_X13_thrown ml_L_105 (zthr SL2) tbL_140 rfl rfl rfl rfl (Nat.le_of_ble_eq_true rfl) ⟨by decide, by decide⟩ hkc hks hl.1 dL_law_366 (fun H locs hw => ?_)
  refine lv_iload C.1 C.2.1 dL_law_369 (lv_at hl 1 rfl) ?_
  refine lv_icmp_eq (tgt := 376) C.1 C.2.1 dL_law_371 (by decide) (fun _ => ?_) (fun w => absurd f3 w)
  refine lv_iload C.1 C.2.1 dL_law_376 (lv_at hl 1 rfl) ?_
  have hend : W p l e room_1 s m #[Value.ref b] below meth c H locs (cells + 2) (slots + 12) Q (F0 m 393 ls []) := lv_goto (tgt := 1653) C.1 C.2.1 dL_law_393 (by decide) (kk SL2 H locs ls f5 hw (lv_sub hl [2, 3, 4, 5, 6] rfl))
  refine lv_if_ne (tgt := 393) C.1 C.2.1 dL_law_378 (by decide) (fun _ => hend) (fun hz => ?_)
  refine lv_aload_n C.1 C.2.1 dL_law_381 rfl (lv_at hl 5 rfl) ?_
  refine lv_iconst (v := 0) C.1 C.2.1 dL_law_382 (by decide) ?_
  refine sh_lald (β := Unit) (k := some ()) (res := ()) C hw rfl tbL_o dL_law_383 (fun _ => ?_)
  refine lv_iload C.1 C.2.1 dL_law_384 (lv_at hl 0 rfl) ?_
  refine lv_i2l (v := r.toInt64) C.1 C.2.1 dL_law_386 rfl ?_
  refine sh_lcmp_eq (β := Unit) (k1 := some ()) (k2 := none) (res := ()) (tgt := 393) C (if_pos (f4 hz)) dL_law_387 dL_law_388 (by decide) (fun _ => hend) (fun w => nomatch w)
theorem yh_L_cut : sh_YH yL_cut cL_cut 3 [(0, 8, 11, 13), (0, 8, 14, 19)] 2 := ⟨sh_t1 (i := 0) (by decide +kernel) (by decide +kernel), sh_t4 (i := 205) (by decide +kernel) (by decide +kernel), sh_t4 (i := 204) (by decide +kernel) (by decide +kernel), by decide, by decide +kernel⟩
theorem ml_L_120 : Cond.methodLink RL 120 yL_cut ∈ sh_ws := sh_t4 (i := 203) (by decide +kernel) (by decide +kernel)
theorem ml_L_122 : Cond.methodLink RL 122 yX13_cut ∈ sh_ws := sh_t7 (i := 203) (by decide +kernel) (by decide +kernel)
set_option maxRecDepth 100000 in
set_option maxHeartbeats 4000000 in
theorem wL_6 {p : Program} {l : Launch} {e : Env} {s : State} {m : MethodId} {below : List Frame} {meth : Method} {c : Code} {G : sh_Ev} {Q : State → Prop} {b L : Nat} {xs : Nat → Int32} (hst : l.stackTraces = false) (C : sh_Cx p s m #[Value.ref b] meth c cL_law 7 RL G (fun q : Nat => s.heap.size ≤ q)) (hNq : sh_Nq s) (hX : va_X b L xs s s.heap) (hbl : b < s.heap.size) {i : Nat} (hi : i + 6 ≤ L) (hL : L ≤ 3072) {SL : sh_St} (hR : zLR SL) {H : Heap} {locs : List Loc} {ls : Array Slot} {cells slots : Nat} (hw : sh_Wx G tbL (fun q : Nat => s.heap.size ≤ q) s H locs SL) (hl : lv_has ls 7 [(0, .ref b), (1, .ref (G.2.1 0)), (2, .ref (G.2.1 140)), (3, .ref (G.2.1 162)), (4, .int (nI i))]) (hkc : cells + 2 ≤ room_1.cells) (hks : slots + 12 ≤ room_1.slots)
    (kk : ∀ (SL' : sh_St) (H1 : Heap) (locs1 : List Loc) (ls' : Array Slot), zLR SL' → sh_Wx G tbL (fun q : Nat => s.heap.size ≤ q) s H1 locs1 SL' → lv_has ls' 7 [(0, .ref b), (1, .ref (G.2.1 0)), (2, .ref (G.2.1 140)), (3, .ref (G.2.1 162)), (4, .int (nI i))] → W p l e room_1 s m #[Value.ref b] below meth c H1 locs1 (cells + 2) (slots + 12) Q (F0 m 1653 ls' [])) : W p l e room_1 s m #[Value.ref b] below meth c H locs cells slots Q (F0 m 396 ls []) := by
  have hbA : ¬ (fun q : Nat => s.heap.size ≤ q) b := Nat.not_le.mpr hbl
  obtain ⟨kq, SL1, r, SL2, f1, f2, f3, f4, f5⟩ := zL_cut hR
  refine lv_aload_n C.1 C.2.1 dL_law_396 rfl (lv_at hl 1 rfl) ?_
  refine lv_aload_n C.1 C.2.1 dL_law_397 rfl (lv_at hl 3 rfl) ?_
  refine sh_LH (As := [.ref (G.2.1 0), .ref (G.2.1 162)]) (rest := []) C hNq hw (kL_cut l hst) yh_L_cut ml_L_120 f1 rfl rfl rfl (Nat.le_of_ble_eq_true rfl) ⟨by decide, by decide⟩ (by omega) (by omega) hl.1 dL_law_398 (fun H locs hw => ?_)
  refine W.widen (k := cells + 2) (n := slots + 12) (by omega) (by omega) ?_
  refine lv_istore C.1 C.2.1 dL_law_401 hl (by decide) rfl (fun ls hl => ?_)
  refine lv_aload_n C.1 C.2.1 dL_law_403 rfl (lv_at hl 3 rfl) ?_
  refine sh_LVi (As := []) (rest := []) C hw (sh_Mi_up sub_M (kX13_cut l)) yy_X13_cut yv_X13_cut ml_L_122 f2 tbL_140 rfl rfl rfl rfl (Nat.le_of_ble_eq_true rfl) ⟨by decide, by decide⟩ hkc hks hl.1 dL_law_404 (fun H locs hw => ?_)
  refine lv_istore C.1 C.2.1 dL_law_407 hl (by decide) rfl (fun ls hl => ?_)
  refine lv_aload_n C.1 C.2.1 dL_law_409 rfl (lv_at hl 4 rfl) ?_
  refine sh_LVi (As := []) (rest := []) C hw (sh_Mi_up sub_M (kX13_thrown l)) yy_X13_thrown yv_X13_thrown ml_L_105 (zthr SL2) tbL_140 rfl rfl rfl rfl (Nat.le_of_ble_eq_true rfl) ⟨by decide, by decide⟩ hkc hks hl.1 dL_law_410 (fun H locs hw => ?_)
  refine lv_iload C.1 C.2.1 dL_law_413 (lv_at hl 1 rfl) ?_
  refine lv_icmp_eq (tgt := 420) C.1 C.2.1 dL_law_415 (by decide) (fun _ => ?_) (fun w => absurd f3 w)
  refine lv_iload C.1 C.2.1 dL_law_420 (lv_at hl 1 rfl) ?_
  have hend : W p l e room_1 s m #[Value.ref b] below meth c H locs (cells + 2) (slots + 12) Q (F0 m 437 ls []) := lv_goto (tgt := 1653) C.1 C.2.1 dL_law_437 (by decide) (kk SL2 H locs ls f5 hw (lv_sub hl [2, 3, 4, 5, 6] rfl))
  refine lv_if_ne (tgt := 437) C.1 C.2.1 dL_law_422 (by decide) (fun _ => hend) (fun hz => ?_)
  refine lv_aload_n C.1 C.2.1 dL_law_425 rfl (lv_at hl 5 rfl) ?_
  refine lv_iconst (v := 0) C.1 C.2.1 dL_law_426 (by decide) ?_
  refine sh_lald (β := Unit) (k := some ()) (res := ()) C hw rfl tbL_o dL_law_427 (fun _ => ?_)
  refine lv_iload C.1 C.2.1 dL_law_428 (lv_at hl 0 rfl) ?_
  refine lv_i2l (v := r.toInt64) C.1 C.2.1 dL_law_430 rfl ?_
  refine sh_lcmp_eq (β := Unit) (k1 := some ()) (k2 := none) (res := ()) (tgt := 437) C (if_pos (f4 hz)) dL_law_431 dL_law_432 (by decide) (fun _ => hend) (fun w => nomatch w)
theorem yh_L_turn : sh_YH yL_turn cL_turn 3 [(0, 8, 11, 13), (0, 8, 14, 19)] 2 := ⟨sh_t1 (i := 0) (by decide +kernel) (by decide +kernel), sh_t4 (i := 214) (by decide +kernel) (by decide +kernel), sh_t4 (i := 213) (by decide +kernel) (by decide +kernel), by decide, by decide +kernel⟩
theorem ml_L_123 : Cond.methodLink RL 123 yL_turn ∈ sh_ws := sh_t4 (i := 212) (by decide +kernel) (by decide +kernel)
theorem ml_L_125 : Cond.methodLink RL 125 yX13_turn ∈ sh_ws := sh_t7 (i := 207) (by decide +kernel) (by decide +kernel)
set_option maxRecDepth 100000 in
set_option maxHeartbeats 4000000 in
theorem wL_7 {p : Program} {l : Launch} {e : Env} {s : State} {m : MethodId} {below : List Frame} {meth : Method} {c : Code} {G : sh_Ev} {Q : State → Prop} {b L : Nat} {xs : Nat → Int32} (hst : l.stackTraces = false) (C : sh_Cx p s m #[Value.ref b] meth c cL_law 7 RL G (fun q : Nat => s.heap.size ≤ q)) (hNq : sh_Nq s) (hX : va_X b L xs s s.heap) (hbl : b < s.heap.size) {i : Nat} (hi : i + 6 ≤ L) (hL : L ≤ 3072) {SL : sh_St} (hR : zLR SL) {H : Heap} {locs : List Loc} {ls : Array Slot} {cells slots : Nat} (hw : sh_Wx G tbL (fun q : Nat => s.heap.size ≤ q) s H locs SL) (hl : lv_has ls 7 [(0, .ref b), (1, .ref (G.2.1 0)), (2, .ref (G.2.1 140)), (3, .ref (G.2.1 162)), (4, .int (nI i))]) (hkc : cells + 2 ≤ room_1.cells) (hks : slots + 12 ≤ room_1.slots)
    (kk : ∀ (SL' : sh_St) (H1 : Heap) (locs1 : List Loc) (ls' : Array Slot), zLR SL' → sh_Wx G tbL (fun q : Nat => s.heap.size ≤ q) s H1 locs1 SL' → lv_has ls' 7 [(0, .ref b), (1, .ref (G.2.1 0)), (2, .ref (G.2.1 140)), (3, .ref (G.2.1 162)), (4, .int (nI i))] → W p l e room_1 s m #[Value.ref b] below meth c H1 locs1 (cells + 2) (slots + 12) Q (F0 m 1653 ls' [])) : W p l e room_1 s m #[Value.ref b] below meth c H locs cells slots Q (F0 m 440 ls []) := by
  have hbA : ¬ (fun q : Nat => s.heap.size ≤ q) b := Nat.not_le.mpr hbl
  obtain ⟨kq, SL1, r, SL2, f1, f2, f3, f4, f5⟩ := zL_turn hR
  refine lv_aload_n C.1 C.2.1 dL_law_440 rfl (lv_at hl 1 rfl) ?_
  refine lv_aload_n C.1 C.2.1 dL_law_441 rfl (lv_at hl 3 rfl) ?_
  refine sh_LH (As := [.ref (G.2.1 0), .ref (G.2.1 162)]) (rest := []) C hNq hw (kL_turn l hst) yh_L_turn ml_L_123 f1 rfl rfl rfl (Nat.le_of_ble_eq_true rfl) ⟨by decide, by decide⟩ (by omega) (by omega) hl.1 dL_law_442 (fun H locs hw => ?_)
  refine W.widen (k := cells + 2) (n := slots + 12) (by omega) (by omega) ?_
  refine lv_istore C.1 C.2.1 dL_law_445 hl (by decide) rfl (fun ls hl => ?_)
  refine lv_aload_n C.1 C.2.1 dL_law_447 rfl (lv_at hl 3 rfl) ?_
  refine sh_LVi (As := []) (rest := []) C hw (sh_Mi_up sub_M (kX13_turn l)) yy_X13_turn yv_X13_turn ml_L_125 f2 tbL_140 rfl rfl rfl rfl (Nat.le_of_ble_eq_true rfl) ⟨by decide, by decide⟩ hkc hks hl.1 dL_law_448 (fun H locs hw => ?_)
  refine lv_istore C.1 C.2.1 dL_law_451 hl (by decide) rfl (fun ls hl => ?_)
  refine lv_aload_n C.1 C.2.1 dL_law_453 rfl (lv_at hl 4 rfl) ?_
  refine sh_LVi (As := []) (rest := []) C hw (sh_Mi_up sub_M (kX13_thrown l)) yy_X13_thrown yv_X13_thrown ml_L_105 (zthr SL2) tbL_140 rfl rfl rfl rfl (Nat.le_of_ble_eq_true rfl) ⟨by decide, by decide⟩ hkc hks hl.1 dL_law_454 (fun H locs hw => ?_)
  refine lv_iload C.1 C.2.1 dL_law_457 (lv_at hl 1 rfl) ?_
  refine lv_icmp_eq (tgt := 464) C.1 C.2.1 dL_law_459 (by decide) (fun _ => ?_) (fun w => absurd f3 w)
  refine lv_iload C.1 C.2.1 dL_law_464 (lv_at hl 1 rfl) ?_
  have hend : W p l e room_1 s m #[Value.ref b] below meth c H locs (cells + 2) (slots + 12) Q (F0 m 481 ls []) := lv_goto (tgt := 1653) C.1 C.2.1 dL_law_481 (by decide) (kk SL2 H locs ls f5 hw (lv_sub hl [2, 3, 4, 5, 6] rfl))
  refine lv_if_ne (tgt := 481) C.1 C.2.1 dL_law_466 (by decide) (fun _ => hend) (fun hz => ?_)
  refine lv_aload_n C.1 C.2.1 dL_law_469 rfl (lv_at hl 5 rfl) ?_
  refine lv_iconst (v := 0) C.1 C.2.1 dL_law_470 (by decide) ?_
  refine sh_lald (β := Unit) (k := some ()) (res := ()) C hw rfl tbL_o dL_law_471 (fun _ => ?_)
  refine lv_iload C.1 C.2.1 dL_law_472 (lv_at hl 0 rfl) ?_
  refine lv_i2l (v := r.toInt64) C.1 C.2.1 dL_law_474 rfl ?_
  refine sh_lcmp_eq (β := Unit) (k1 := some ()) (k2 := none) (res := ()) (tgt := 481) C (if_pos (f4 hz)) dL_law_475 dL_law_476 (by decide) (fun _ => hend) (fun w => nomatch w)
theorem yh_L_build : sh_YH yL_build cL_build 3 [(0, 8, 11, 19)] 2 := ⟨sh_t1 (i := 0) (by decide +kernel) (by decide +kernel), sh_t4 (i := 223) (by decide +kernel) (by decide +kernel), sh_t4 (i := 222) (by decide +kernel) (by decide +kernel), by decide, by decide +kernel⟩
theorem ml_L_126 : Cond.methodLink RL 126 yL_build ∈ sh_ws := sh_t4 (i := 221) (by decide +kernel) (by decide +kernel)
theorem ml_L_128 : Cond.methodLink RL 128 yX13_build ∈ sh_ws := sh_t7 (i := 211) (by decide +kernel) (by decide +kernel)
set_option maxRecDepth 100000 in
set_option maxHeartbeats 4000000 in
theorem wL_8 {p : Program} {l : Launch} {e : Env} {s : State} {m : MethodId} {below : List Frame} {meth : Method} {c : Code} {G : sh_Ev} {Q : State → Prop} {b L : Nat} {xs : Nat → Int32} (hst : l.stackTraces = false) (C : sh_Cx p s m #[Value.ref b] meth c cL_law 7 RL G (fun q : Nat => s.heap.size ≤ q)) (hNq : sh_Nq s) (hX : va_X b L xs s s.heap) (hbl : b < s.heap.size) {i : Nat} (hi : i + 6 ≤ L) (hL : L ≤ 3072) {SL : sh_St} (hR : zLR SL) {H : Heap} {locs : List Loc} {ls : Array Slot} {cells slots : Nat} (hw : sh_Wx G tbL (fun q : Nat => s.heap.size ≤ q) s H locs SL) (hl : lv_has ls 7 [(0, .ref b), (1, .ref (G.2.1 0)), (2, .ref (G.2.1 140)), (3, .ref (G.2.1 162)), (4, .int (nI i))]) (hkc : cells + 2 ≤ room_1.cells) (hks : slots + 12 ≤ room_1.slots)
    (kk : ∀ (SL' : sh_St) (H1 : Heap) (locs1 : List Loc) (ls' : Array Slot), zLR SL' → sh_Wx G tbL (fun q : Nat => s.heap.size ≤ q) s H1 locs1 SL' → lv_has ls' 7 [(0, .ref b), (1, .ref (G.2.1 0)), (2, .ref (G.2.1 140)), (3, .ref (G.2.1 162)), (4, .int (nI i))] → W p l e room_1 s m #[Value.ref b] below meth c H1 locs1 (cells + 2) (slots + 12) Q (F0 m 1653 ls' [])) : W p l e room_1 s m #[Value.ref b] below meth c H locs cells slots Q (F0 m 484 ls []) := by
  have hbA : ¬ (fun q : Nat => s.heap.size ≤ q) b := Nat.not_le.mpr hbl
  obtain ⟨kq, SL1, r, SL2, f1, f2, f3, f4, f5⟩ := zL_build hR
  refine lv_aload_n C.1 C.2.1 dL_law_484 rfl (lv_at hl 1 rfl) ?_
  refine lv_aload_n C.1 C.2.1 dL_law_485 rfl (lv_at hl 3 rfl) ?_
  refine sh_LH (As := [.ref (G.2.1 0), .ref (G.2.1 162)]) (rest := []) C hNq hw (kL_build l hst) yh_L_build ml_L_126 f1 rfl rfl rfl (Nat.le_of_ble_eq_true rfl) ⟨by decide, by decide⟩ (by omega) (by omega) hl.1 dL_law_486 (fun H locs hw => ?_)
  refine W.widen (k := cells + 2) (n := slots + 12) (by omega) (by omega) ?_
  refine lv_istore C.1 C.2.1 dL_law_489 hl (by decide) rfl (fun ls hl => ?_)
  refine lv_aload_n C.1 C.2.1 dL_law_491 rfl (lv_at hl 3 rfl) ?_
  refine sh_LVi (As := []) (rest := []) C hw (sh_Mi_up sub_M (kX13_build l)) yy_X13_build yv_X13_build ml_L_128 f2 tbL_140 rfl rfl rfl rfl (Nat.le_of_ble_eq_true rfl) ⟨by decide, by decide⟩ hkc hks hl.1 dL_law_492 (fun H locs hw => ?_)
  refine lv_istore C.1 C.2.1 dL_law_495 hl (by decide) rfl (fun ls hl => ?_)
  refine lv_aload_n C.1 C.2.1 dL_law_497 rfl (lv_at hl 4 rfl) ?_
  refine sh_LVi (As := []) (rest := []) C hw (sh_Mi_up sub_M (kX13_thrown l)) yy_X13_thrown yv_X13_thrown ml_L_105 (zthr SL2) tbL_140 rfl rfl rfl rfl (Nat.le_of_ble_eq_true rfl) ⟨by decide, by decide⟩ hkc hks hl.1 dL_law_498 (fun H locs hw => ?_)
  refine lv_iload C.1 C.2.1 dL_law_501 (lv_at hl 1 rfl) ?_
  refine lv_icmp_eq (tgt := 508) C.1 C.2.1 dL_law_503 (by decide) (fun _ => ?_) (fun w => absurd f3 w)
  refine lv_iload C.1 C.2.1 dL_law_508 (lv_at hl 1 rfl) ?_
  have hend : W p l e room_1 s m #[Value.ref b] below meth c H locs (cells + 2) (slots + 12) Q (F0 m 525 ls []) := lv_goto (tgt := 1653) C.1 C.2.1 dL_law_525 (by decide) (kk SL2 H locs ls f5 hw (lv_sub hl [2, 3, 4, 5, 6] rfl))
  refine lv_if_ne (tgt := 525) C.1 C.2.1 dL_law_510 (by decide) (fun _ => hend) (fun hz => ?_)
  refine lv_aload_n C.1 C.2.1 dL_law_513 rfl (lv_at hl 5 rfl) ?_
  refine lv_iconst (v := 0) C.1 C.2.1 dL_law_514 (by decide) ?_
  refine sh_lald (β := Unit) (k := some ()) (res := ()) C hw rfl tbL_o dL_law_515 (fun _ => ?_)
  refine lv_iload C.1 C.2.1 dL_law_516 (lv_at hl 0 rfl) ?_
  refine lv_i2l (v := r.toInt64) C.1 C.2.1 dL_law_518 rfl ?_
  refine sh_lcmp_eq (β := Unit) (k1 := some ()) (k2 := none) (res := ()) (tgt := 525) C (if_pos (f4 hz)) dL_law_519 dL_law_520 (by decide) (fun _ => hend) (fun w => nomatch w)
theorem yh_L_tune : sh_YH yL_tune cL_tune 5 [(0, 10, 13, 34), (0, 10, 17, 13), (0, 10, 21, 19)] 4 := ⟨sh_t1 (i := 0) (by decide +kernel) (by decide +kernel), sh_t4 (i := 231) (by decide +kernel) (by decide +kernel), sh_t4 (i := 230) (by decide +kernel) (by decide +kernel), by decide, by decide +kernel⟩
theorem ml_L_129 : Cond.methodLink RL 129 yL_tune ∈ sh_ws := sh_t4 (i := 229) (by decide +kernel) (by decide +kernel)
theorem ml_L_132 : Cond.methodLink RL 132 yX13_tune ∈ sh_ws := sh_t7 (i := 215) (by decide +kernel) (by decide +kernel)
set_option maxRecDepth 100000 in
set_option maxHeartbeats 4000000 in
theorem wL_9 {p : Program} {l : Launch} {e : Env} {s : State} {m : MethodId} {below : List Frame} {meth : Method} {c : Code} {G : sh_Ev} {Q : State → Prop} {b L : Nat} {xs : Nat → Int32} (hst : l.stackTraces = false) (C : sh_Cx p s m #[Value.ref b] meth c cL_law 7 RL G (fun q : Nat => s.heap.size ≤ q)) (hNq : sh_Nq s) (hX : va_X b L xs s s.heap) (hbl : b < s.heap.size) {i : Nat} (hi : i + 6 ≤ L) (hL : L ≤ 3072) {SL : sh_St} (hR : zLR SL) {H : Heap} {locs : List Loc} {ls : Array Slot} {cells slots : Nat} (hw : sh_Wx G tbL (fun q : Nat => s.heap.size ≤ q) s H locs SL) (hl : lv_has ls 7 [(0, .ref b), (1, .ref (G.2.1 0)), (2, .ref (G.2.1 140)), (3, .ref (G.2.1 162)), (4, .int (nI i))]) (hkc : cells + 2 ≤ room_1.cells) (hks : slots + 12 ≤ room_1.slots)
    (kk : ∀ (SL' : sh_St) (H1 : Heap) (locs1 : List Loc) (ls' : Array Slot), zLR SL' → sh_Wx G tbL (fun q : Nat => s.heap.size ≤ q) s H1 locs1 SL' → lv_has ls' 7 [(0, .ref b), (1, .ref (G.2.1 0)), (2, .ref (G.2.1 140)), (3, .ref (G.2.1 162)), (4, .int (nI i))] → W p l e room_1 s m #[Value.ref b] below meth c H1 locs1 (cells + 2) (slots + 12) Q (F0 m 1653 ls' [])) : W p l e room_1 s m #[Value.ref b] below meth c H locs cells slots Q (F0 m 528 ls []) := by
  have hbA : ¬ (fun q : Nat => s.heap.size ≤ q) b := Nat.not_le.mpr hbl
  obtain ⟨kq, SL1, r, SL2, f1, f2, f3, f4, f5⟩ := zL_tune hR (xs (nI i + nI 1).toNatClampNeg) (xs (nI i + nI 2).toNatClampNeg)
  refine lv_aload_n C.1 C.2.1 dL_law_528 rfl (lv_at hl 1 rfl) ?_
  refine lv_aload_n C.1 C.2.1 dL_law_529 rfl (lv_at hl 0 rfl) ?_
  refine lv_iload C.1 C.2.1 dL_law_530 (lv_at hl 4 rfl) ?_
  refine lv_iconst (v := nI 1) C.1 C.2.1 dL_law_532 (by decide) ?_
  refine lv_iadd C.1 C.2.1 dL_law_533 ?_
  refine va_sld C.1 C.2.1 hX hbl hbA hw.2.2 (zvin 1 hi hL (by decide)) dL_law_534 ?_
  refine lv_aload_n C.1 C.2.1 dL_law_535 rfl (lv_at hl 0 rfl) ?_
  refine lv_iload C.1 C.2.1 dL_law_536 (lv_at hl 4 rfl) ?_
  refine lv_iconst (v := nI 2) C.1 C.2.1 dL_law_538 (by decide) ?_
  refine lv_iadd C.1 C.2.1 dL_law_539 ?_
  refine va_sld C.1 C.2.1 hX hbl hbA hw.2.2 (zvin 2 hi hL (by decide)) dL_law_540 ?_
  refine lv_aload_n C.1 C.2.1 dL_law_541 rfl (lv_at hl 3 rfl) ?_
  refine sh_LH (As := [.ref (G.2.1 0), .int (xs (nI i + nI 1).toNatClampNeg), .int (xs (nI i + nI 2).toNatClampNeg), .ref (G.2.1 162)]) (rest := []) C hNq hw (kL_tune l hst (xs (nI i + nI 1).toNatClampNeg) (xs (nI i + nI 2).toNatClampNeg)) yh_L_tune ml_L_129 f1 rfl rfl rfl (Nat.le_of_ble_eq_true rfl) ⟨by decide, by decide⟩ (by omega) (by omega) hl.1 dL_law_542 (fun H locs hw => ?_)
  refine W.widen (k := cells + 2) (n := slots + 12) (by omega) (by omega) ?_
  refine lv_istore C.1 C.2.1 dL_law_545 hl (by decide) rfl (fun ls hl => ?_)
  refine lv_aload_n C.1 C.2.1 dL_law_547 rfl (lv_at hl 3 rfl) ?_
  refine lv_aload_n C.1 C.2.1 dL_law_548 rfl (lv_at hl 1 rfl) ?_
  refine lv_iload C.1 C.2.1 dL_law_549 (lv_at hl 5 rfl) ?_
  refine lv_iconst (v := nI 1) C.1 C.2.1 dL_law_551 (by decide) ?_
  refine lv_iadd C.1 C.2.1 dL_law_552 ?_
  refine va_sld C.1 C.2.1 hX hbl hbA hw.2.2 (zvin 1 hi hL (by decide)) dL_law_553 ?_
  refine lv_aload_n C.1 C.2.1 dL_law_554 rfl (lv_at hl 1 rfl) ?_
  refine lv_iload C.1 C.2.1 dL_law_555 (lv_at hl 5 rfl) ?_
  refine lv_iconst (v := nI 2) C.1 C.2.1 dL_law_557 (by decide) ?_
  refine lv_iadd C.1 C.2.1 dL_law_558 ?_
  refine va_sld C.1 C.2.1 hX hbl hbA hw.2.2 (zvin 2 hi hL (by decide)) dL_law_559 ?_
  refine sh_LVi (As := [.int (xs (nI i + nI 1).toNatClampNeg), .int (xs (nI i + nI 2).toNatClampNeg)]) (rest := []) C hw (sh_Mi_up sub_M (kX13_tune l (xs (nI i + nI 1).toNatClampNeg) (xs (nI i + nI 2).toNatClampNeg))) yy_X13_tune yv_X13_tune ml_L_132 f2 tbL_140 rfl rfl rfl rfl (Nat.le_of_ble_eq_true rfl) ⟨by decide, by decide⟩ hkc hks hl.1 dL_law_560 (fun H locs hw => ?_)
  refine lv_istore C.1 C.2.1 dL_law_563 hl (by decide) rfl (fun ls hl => ?_)
  refine lv_aload_n C.1 C.2.1 dL_law_565 rfl (lv_at hl 4 rfl) ?_
  refine sh_LVi (As := []) (rest := []) C hw (sh_Mi_up sub_M (kX13_thrown l)) yy_X13_thrown yv_X13_thrown ml_L_105 (zthr SL2) tbL_140 rfl rfl rfl rfl (Nat.le_of_ble_eq_true rfl) ⟨by decide, by decide⟩ hkc hks hl.1 dL_law_566 (fun H locs hw => ?_)
  refine lv_iload C.1 C.2.1 dL_law_569 (lv_at hl 1 rfl) ?_
  refine lv_icmp_eq (tgt := 576) C.1 C.2.1 dL_law_571 (by decide) (fun _ => ?_) (fun w => absurd f3 w)
  refine lv_iload C.1 C.2.1 dL_law_576 (lv_at hl 1 rfl) ?_
  have hend : W p l e room_1 s m #[Value.ref b] below meth c H locs (cells + 2) (slots + 12) Q (F0 m 593 ls []) := lv_goto (tgt := 1653) C.1 C.2.1 dL_law_593 (by decide) (kk SL2 H locs ls f5 hw (lv_sub hl [2, 3, 4, 5, 6] rfl))
  refine lv_if_ne (tgt := 593) C.1 C.2.1 dL_law_578 (by decide) (fun _ => hend) (fun hz => ?_)
  refine lv_aload_n C.1 C.2.1 dL_law_581 rfl (lv_at hl 5 rfl) ?_
  refine lv_iconst (v := 0) C.1 C.2.1 dL_law_582 (by decide) ?_
  refine sh_lald (β := Unit) (k := some ()) (res := ()) C hw rfl tbL_o dL_law_583 (fun _ => ?_)
  refine lv_iload C.1 C.2.1 dL_law_584 (lv_at hl 0 rfl) ?_
  refine lv_i2l (v := r.toInt64) C.1 C.2.1 dL_law_586 rfl ?_
  refine sh_lcmp_eq (β := Unit) (k1 := some ()) (k2 := none) (res := ()) (tgt := 593) C (if_pos (f4 hz)) dL_law_587 dL_law_588 (by decide) (fun _ => hend) (fun w => nomatch w)
theorem yh_L_tear : sh_YH yL_tear cL_tear 4 [(0, 9, 12, 39), (0, 9, 15, 19)] 3 := ⟨sh_t1 (i := 0) (by decide +kernel) (by decide +kernel), sh_t5 (i := 23) (by decide +kernel) (by decide +kernel), sh_t5 (i := 22) (by decide +kernel) (by decide +kernel), by decide, by decide +kernel⟩
theorem ml_L_133 : Cond.methodLink RL 133 yL_tear ∈ sh_ws := sh_t5 (i := 21) (by decide +kernel) (by decide +kernel)
theorem ml_L_135 : Cond.methodLink RL 135 yX13_tear ∈ sh_ws := sh_t7 (i := 219) (by decide +kernel) (by decide +kernel)
set_option maxRecDepth 100000 in
set_option maxHeartbeats 4000000 in
theorem wL_10 {p : Program} {l : Launch} {e : Env} {s : State} {m : MethodId} {below : List Frame} {meth : Method} {c : Code} {G : sh_Ev} {Q : State → Prop} {b L : Nat} {xs : Nat → Int32} (hst : l.stackTraces = false) (C : sh_Cx p s m #[Value.ref b] meth c cL_law 7 RL G (fun q : Nat => s.heap.size ≤ q)) (hNq : sh_Nq s) (hX : va_X b L xs s s.heap) (hbl : b < s.heap.size) {i : Nat} (hi : i + 6 ≤ L) (hL : L ≤ 3072) {SL : sh_St} (hR : zLR SL) {H : Heap} {locs : List Loc} {ls : Array Slot} {cells slots : Nat} (hw : sh_Wx G tbL (fun q : Nat => s.heap.size ≤ q) s H locs SL) (hl : lv_has ls 7 [(0, .ref b), (1, .ref (G.2.1 0)), (2, .ref (G.2.1 140)), (3, .ref (G.2.1 162)), (4, .int (nI i))]) (hkc : cells + 2 ≤ room_1.cells) (hks : slots + 12 ≤ room_1.slots)
    (kk : ∀ (SL' : sh_St) (H1 : Heap) (locs1 : List Loc) (ls' : Array Slot), zLR SL' → sh_Wx G tbL (fun q : Nat => s.heap.size ≤ q) s H1 locs1 SL' → lv_has ls' 7 [(0, .ref b), (1, .ref (G.2.1 0)), (2, .ref (G.2.1 140)), (3, .ref (G.2.1 162)), (4, .int (nI i))] → W p l e room_1 s m #[Value.ref b] below meth c H1 locs1 (cells + 2) (slots + 12) Q (F0 m 1653 ls' [])) : W p l e room_1 s m #[Value.ref b] below meth c H locs cells slots Q (F0 m 596 ls []) := by
  have hbA : ¬ (fun q : Nat => s.heap.size ≤ q) b := Nat.not_le.mpr hbl
  obtain ⟨kq, SL1, r, SL2, f1, f2, f3, f4, f5⟩ := zL_tear hR (xs (nI i + nI 1).toNatClampNeg)
  refine lv_aload_n C.1 C.2.1 dL_law_596 rfl (lv_at hl 1 rfl) ?_
  refine lv_aload_n C.1 C.2.1 dL_law_597 rfl (lv_at hl 0 rfl) ?_
  refine lv_iload C.1 C.2.1 dL_law_598 (lv_at hl 4 rfl) ?_
  refine lv_iconst (v := nI 1) C.1 C.2.1 dL_law_600 (by decide) ?_
  refine lv_iadd C.1 C.2.1 dL_law_601 ?_
  refine va_sld C.1 C.2.1 hX hbl hbA hw.2.2 (zvin 1 hi hL (by decide)) dL_law_602 ?_
  refine lv_aload_n C.1 C.2.1 dL_law_603 rfl (lv_at hl 3 rfl) ?_
  refine sh_LH (As := [.ref (G.2.1 0), .int (xs (nI i + nI 1).toNatClampNeg), .ref (G.2.1 162)]) (rest := []) C hNq hw (kL_tear l hst (xs (nI i + nI 1).toNatClampNeg)) yh_L_tear ml_L_133 f1 rfl rfl rfl (Nat.le_of_ble_eq_true rfl) ⟨by decide, by decide⟩ (by omega) (by omega) hl.1 dL_law_604 (fun H locs hw => ?_)
  refine W.widen (k := cells + 2) (n := slots + 12) (by omega) (by omega) ?_
  refine lv_istore C.1 C.2.1 dL_law_607 hl (by decide) rfl (fun ls hl => ?_)
  refine lv_aload_n C.1 C.2.1 dL_law_609 rfl (lv_at hl 3 rfl) ?_
  refine lv_aload_n C.1 C.2.1 dL_law_610 rfl (lv_at hl 1 rfl) ?_
  refine lv_iload C.1 C.2.1 dL_law_611 (lv_at hl 5 rfl) ?_
  refine lv_iconst (v := nI 1) C.1 C.2.1 dL_law_613 (by decide) ?_
  refine lv_iadd C.1 C.2.1 dL_law_614 ?_
  refine va_sld C.1 C.2.1 hX hbl hbA hw.2.2 (zvin 1 hi hL (by decide)) dL_law_615 ?_
  refine sh_LVi (As := [.int (xs (nI i + nI 1).toNatClampNeg)]) (rest := []) C hw (sh_Mi_up sub_M (kX13_tear l (xs (nI i + nI 1).toNatClampNeg))) yy_X13_tear yv_X13_tear ml_L_135 f2 tbL_140 rfl rfl rfl rfl (Nat.le_of_ble_eq_true rfl) ⟨by decide, by decide⟩ hkc hks hl.1 dL_law_616 (fun H locs hw => ?_)
  refine lv_istore C.1 C.2.1 dL_law_619 hl (by decide) rfl (fun ls hl => ?_)
  refine lv_aload_n C.1 C.2.1 dL_law_621 rfl (lv_at hl 4 rfl) ?_
  refine sh_LVi (As := []) (rest := []) C hw (sh_Mi_up sub_M (kX13_thrown l)) yy_X13_thrown yv_X13_thrown ml_L_105 (zthr SL2) tbL_140 rfl rfl rfl rfl (Nat.le_of_ble_eq_true rfl) ⟨by decide, by decide⟩ hkc hks hl.1 dL_law_622 (fun H locs hw => ?_)
  refine lv_iload C.1 C.2.1 dL_law_625 (lv_at hl 1 rfl) ?_
  refine lv_icmp_eq (tgt := 632) C.1 C.2.1 dL_law_627 (by decide) (fun _ => ?_) (fun w => absurd f3 w)
  refine lv_iload C.1 C.2.1 dL_law_632 (lv_at hl 1 rfl) ?_
  have hend : W p l e room_1 s m #[Value.ref b] below meth c H locs (cells + 2) (slots + 12) Q (F0 m 649 ls []) := lv_goto (tgt := 1653) C.1 C.2.1 dL_law_649 (by decide) (kk SL2 H locs ls f5 hw (lv_sub hl [2, 3, 4, 5, 6] rfl))
  refine lv_if_ne (tgt := 649) C.1 C.2.1 dL_law_634 (by decide) (fun _ => hend) (fun hz => ?_)
  refine lv_aload_n C.1 C.2.1 dL_law_637 rfl (lv_at hl 5 rfl) ?_
  refine lv_iconst (v := 0) C.1 C.2.1 dL_law_638 (by decide) ?_
  refine sh_lald (β := Unit) (k := some ()) (res := ()) C hw rfl tbL_o dL_law_639 (fun _ => ?_)
  refine lv_iload C.1 C.2.1 dL_law_640 (lv_at hl 0 rfl) ?_
  refine lv_i2l (v := r.toInt64) C.1 C.2.1 dL_law_642 rfl ?_
  refine sh_lcmp_eq (β := Unit) (k1 := some ()) (k2 := none) (res := ()) (tgt := 649) C (if_pos (f4 hz)) dL_law_643 dL_law_644 (by decide) (fun _ => hend) (fun w => nomatch w)
theorem yh_L_undo : sh_YH yL_undo cL_undo 3 [(0, 8, 11, 19)] 2 := ⟨sh_t1 (i := 0) (by decide +kernel) (by decide +kernel), sh_t5 (i := 52) (by decide +kernel) (by decide +kernel), sh_t5 (i := 51) (by decide +kernel) (by decide +kernel), by decide, by decide +kernel⟩
theorem ml_L_136 : Cond.methodLink RL 136 yL_undo ∈ sh_ws := sh_t5 (i := 50) (by decide +kernel) (by decide +kernel)
theorem ml_L_138 : Cond.methodLink RL 138 yX13_undo ∈ sh_ws := sh_t7 (i := 226) (by decide +kernel) (by decide +kernel)
set_option maxRecDepth 100000 in
set_option maxHeartbeats 4000000 in
theorem wL_11 {p : Program} {l : Launch} {e : Env} {s : State} {m : MethodId} {below : List Frame} {meth : Method} {c : Code} {G : sh_Ev} {Q : State → Prop} {b L : Nat} {xs : Nat → Int32} (hst : l.stackTraces = false) (C : sh_Cx p s m #[Value.ref b] meth c cL_law 7 RL G (fun q : Nat => s.heap.size ≤ q)) (hNq : sh_Nq s) (hX : va_X b L xs s s.heap) (hbl : b < s.heap.size) {i : Nat} (hi : i + 6 ≤ L) (hL : L ≤ 3072) {SL : sh_St} (hR : zLR SL) {H : Heap} {locs : List Loc} {ls : Array Slot} {cells slots : Nat} (hw : sh_Wx G tbL (fun q : Nat => s.heap.size ≤ q) s H locs SL) (hl : lv_has ls 7 [(0, .ref b), (1, .ref (G.2.1 0)), (2, .ref (G.2.1 140)), (3, .ref (G.2.1 162)), (4, .int (nI i))]) (hkc : cells + 2 ≤ room_1.cells) (hks : slots + 12 ≤ room_1.slots)
    (kk : ∀ (SL' : sh_St) (H1 : Heap) (locs1 : List Loc) (ls' : Array Slot), zLR SL' → sh_Wx G tbL (fun q : Nat => s.heap.size ≤ q) s H1 locs1 SL' → lv_has ls' 7 [(0, .ref b), (1, .ref (G.2.1 0)), (2, .ref (G.2.1 140)), (3, .ref (G.2.1 162)), (4, .int (nI i))] → W p l e room_1 s m #[Value.ref b] below meth c H1 locs1 (cells + 2) (slots + 12) Q (F0 m 1653 ls' [])) : W p l e room_1 s m #[Value.ref b] below meth c H locs cells slots Q (F0 m 652 ls []) := by
  have hbA : ¬ (fun q : Nat => s.heap.size ≤ q) b := Nat.not_le.mpr hbl
  obtain ⟨kq, SL1, r, SL2, f1, f2, f3, f4, f5⟩ := zL_undo hR
  refine lv_aload_n C.1 C.2.1 dL_law_652 rfl (lv_at hl 1 rfl) ?_
  refine lv_aload_n C.1 C.2.1 dL_law_653 rfl (lv_at hl 3 rfl) ?_
  refine sh_LH (As := [.ref (G.2.1 0), .ref (G.2.1 162)]) (rest := []) C hNq hw (kL_undo l hst) yh_L_undo ml_L_136 f1 rfl rfl rfl (Nat.le_of_ble_eq_true rfl) ⟨by decide, by decide⟩ (by omega) (by omega) hl.1 dL_law_654 (fun H locs hw => ?_)
  refine W.widen (k := cells + 2) (n := slots + 12) (by omega) (by omega) ?_
  refine lv_istore C.1 C.2.1 dL_law_657 hl (by decide) rfl (fun ls hl => ?_)
  refine lv_aload_n C.1 C.2.1 dL_law_659 rfl (lv_at hl 3 rfl) ?_
  refine sh_LVi (As := []) (rest := []) C hw (sh_Mi_up sub_M (kX13_undo l)) yy_X13_undo yv_X13_undo ml_L_138 f2 tbL_140 rfl rfl rfl rfl (Nat.le_of_ble_eq_true rfl) ⟨by decide, by decide⟩ hkc hks hl.1 dL_law_660 (fun H locs hw => ?_)
  refine lv_istore C.1 C.2.1 dL_law_663 hl (by decide) rfl (fun ls hl => ?_)
  refine lv_aload_n C.1 C.2.1 dL_law_665 rfl (lv_at hl 4 rfl) ?_
  refine sh_LVi (As := []) (rest := []) C hw (sh_Mi_up sub_M (kX13_thrown l)) yy_X13_thrown yv_X13_thrown ml_L_105 (zthr SL2) tbL_140 rfl rfl rfl rfl (Nat.le_of_ble_eq_true rfl) ⟨by decide, by decide⟩ hkc hks hl.1 dL_law_666 (fun H locs hw => ?_)
  refine lv_iload C.1 C.2.1 dL_law_669 (lv_at hl 1 rfl) ?_
  refine lv_icmp_eq (tgt := 676) C.1 C.2.1 dL_law_671 (by decide) (fun _ => ?_) (fun w => absurd f3 w)
  refine lv_iload C.1 C.2.1 dL_law_676 (lv_at hl 1 rfl) ?_
  have hend : W p l e room_1 s m #[Value.ref b] below meth c H locs (cells + 2) (slots + 12) Q (F0 m 693 ls []) := lv_goto (tgt := 1653) C.1 C.2.1 dL_law_693 (by decide) (kk SL2 H locs ls f5 hw (lv_sub hl [2, 3, 4, 5, 6] rfl))
  refine lv_if_ne (tgt := 693) C.1 C.2.1 dL_law_678 (by decide) (fun _ => hend) (fun hz => ?_)
  refine lv_aload_n C.1 C.2.1 dL_law_681 rfl (lv_at hl 5 rfl) ?_
  refine lv_iconst (v := 0) C.1 C.2.1 dL_law_682 (by decide) ?_
  refine sh_lald (β := Unit) (k := some ()) (res := ()) C hw rfl tbL_o dL_law_683 (fun _ => ?_)
  refine lv_iload C.1 C.2.1 dL_law_684 (lv_at hl 0 rfl) ?_
  refine lv_i2l (v := r.toInt64) C.1 C.2.1 dL_law_686 rfl ?_
  refine sh_lcmp_eq (β := Unit) (k1 := some ()) (k2 := none) (res := ()) (tgt := 693) C (if_pos (f4 hz)) dL_law_687 dL_law_688 (by decide) (fun _ => hend) (fun w => nomatch w)
theorem yh_L_find : sh_YH yL_find cL_find 4 [(0, 9, 12, 34), (0, 9, 15, 13)] 3 := ⟨sh_t1 (i := 0) (by decide +kernel) (by decide +kernel), sh_t5 (i := 64) (by decide +kernel) (by decide +kernel), sh_t5 (i := 63) (by decide +kernel) (by decide +kernel), by decide, by decide +kernel⟩
theorem ml_L_139 : Cond.methodLink RL 139 yL_find ∈ sh_ws := sh_t5 (i := 62) (by decide +kernel) (by decide +kernel)
theorem ml_L_141 : Cond.methodLink RL 141 yX13_find ∈ sh_ws := sh_t7 (i := 230) (by decide +kernel) (by decide +kernel)
set_option maxRecDepth 100000 in
set_option maxHeartbeats 4000000 in
theorem wL_12 {p : Program} {l : Launch} {e : Env} {s : State} {m : MethodId} {below : List Frame} {meth : Method} {c : Code} {G : sh_Ev} {Q : State → Prop} {b L : Nat} {xs : Nat → Int32} (hst : l.stackTraces = false) (C : sh_Cx p s m #[Value.ref b] meth c cL_law 7 RL G (fun q : Nat => s.heap.size ≤ q)) (hNq : sh_Nq s) (hX : va_X b L xs s s.heap) (hbl : b < s.heap.size) {i : Nat} (hi : i + 6 ≤ L) (hL : L ≤ 3072) {SL : sh_St} (hR : zLR SL) {H : Heap} {locs : List Loc} {ls : Array Slot} {cells slots : Nat} (hw : sh_Wx G tbL (fun q : Nat => s.heap.size ≤ q) s H locs SL) (hl : lv_has ls 7 [(0, .ref b), (1, .ref (G.2.1 0)), (2, .ref (G.2.1 140)), (3, .ref (G.2.1 162)), (4, .int (nI i))]) (hkc : cells + 2 ≤ room_1.cells) (hks : slots + 12 ≤ room_1.slots)
    (kk : ∀ (SL' : sh_St) (H1 : Heap) (locs1 : List Loc) (ls' : Array Slot), zLR SL' → sh_Wx G tbL (fun q : Nat => s.heap.size ≤ q) s H1 locs1 SL' → lv_has ls' 7 [(0, .ref b), (1, .ref (G.2.1 0)), (2, .ref (G.2.1 140)), (3, .ref (G.2.1 162)), (4, .int (nI i))] → W p l e room_1 s m #[Value.ref b] below meth c H1 locs1 (cells + 2) (slots + 12) Q (F0 m 1653 ls' [])) : W p l e room_1 s m #[Value.ref b] below meth c H locs cells slots Q (F0 m 696 ls []) := by
  have hbA : ¬ (fun q : Nat => s.heap.size ≤ q) b := Nat.not_le.mpr hbl
  obtain ⟨kq, SL1, r, SL2, f1, f2, f3, f4, f5⟩ := zL_find hR (xs (nI i + nI 1).toNatClampNeg)
  refine lv_aload_n C.1 C.2.1 dL_law_696 rfl (lv_at hl 1 rfl) ?_
  refine lv_aload_n C.1 C.2.1 dL_law_697 rfl (lv_at hl 0 rfl) ?_
  refine lv_iload C.1 C.2.1 dL_law_698 (lv_at hl 4 rfl) ?_
  refine lv_iconst (v := nI 1) C.1 C.2.1 dL_law_700 (by decide) ?_
  refine lv_iadd C.1 C.2.1 dL_law_701 ?_
  refine va_sld C.1 C.2.1 hX hbl hbA hw.2.2 (zvin 1 hi hL (by decide)) dL_law_702 ?_
  refine lv_aload_n C.1 C.2.1 dL_law_703 rfl (lv_at hl 3 rfl) ?_
  refine sh_LH (As := [.ref (G.2.1 0), .int (xs (nI i + nI 1).toNatClampNeg), .ref (G.2.1 162)]) (rest := []) C hNq hw (kL_find l hst (xs (nI i + nI 1).toNatClampNeg)) yh_L_find ml_L_139 f1 rfl rfl rfl (Nat.le_of_ble_eq_true rfl) ⟨by decide, by decide⟩ (by omega) (by omega) hl.1 dL_law_704 (fun H locs hw => ?_)
  refine W.widen (k := cells + 2) (n := slots + 12) (by omega) (by omega) ?_
  refine lv_istore C.1 C.2.1 dL_law_707 hl (by decide) rfl (fun ls hl => ?_)
  refine lv_aload_n C.1 C.2.1 dL_law_709 rfl (lv_at hl 3 rfl) ?_
  refine lv_aload_n C.1 C.2.1 dL_law_710 rfl (lv_at hl 1 rfl) ?_
  refine lv_iload C.1 C.2.1 dL_law_711 (lv_at hl 5 rfl) ?_
  refine lv_iconst (v := nI 1) C.1 C.2.1 dL_law_713 (by decide) ?_
  refine lv_iadd C.1 C.2.1 dL_law_714 ?_
  refine va_sld C.1 C.2.1 hX hbl hbA hw.2.2 (zvin 1 hi hL (by decide)) dL_law_715 ?_
  refine sh_LVi (As := [.int (xs (nI i + nI 1).toNatClampNeg)]) (rest := []) C hw (sh_Mi_up sub_M (kX13_find l (xs (nI i + nI 1).toNatClampNeg))) yy_X13_find yv_X13_find ml_L_141 f2 tbL_140 rfl rfl rfl rfl (Nat.le_of_ble_eq_true rfl) ⟨by decide, by decide⟩ hkc hks hl.1 dL_law_716 (fun H locs hw => ?_)
  refine lv_istore C.1 C.2.1 dL_law_719 hl (by decide) rfl (fun ls hl => ?_)
  refine lv_aload_n C.1 C.2.1 dL_law_721 rfl (lv_at hl 4 rfl) ?_
  refine sh_LVi (As := []) (rest := []) C hw (sh_Mi_up sub_M (kX13_thrown l)) yy_X13_thrown yv_X13_thrown ml_L_105 (zthr SL2) tbL_140 rfl rfl rfl rfl (Nat.le_of_ble_eq_true rfl) ⟨by decide, by decide⟩ hkc hks hl.1 dL_law_722 (fun H locs hw => ?_)
  refine lv_iload C.1 C.2.1 dL_law_725 (lv_at hl 1 rfl) ?_
  refine lv_icmp_eq (tgt := 732) C.1 C.2.1 dL_law_727 (by decide) (fun _ => ?_) (fun w => absurd f3 w)
  refine lv_iload C.1 C.2.1 dL_law_732 (lv_at hl 1 rfl) ?_
  have hend : W p l e room_1 s m #[Value.ref b] below meth c H locs (cells + 2) (slots + 12) Q (F0 m 749 ls []) := lv_goto (tgt := 1653) C.1 C.2.1 dL_law_749 (by decide) (kk SL2 H locs ls f5 hw (lv_sub hl [2, 3, 4, 5, 6] rfl))
  refine lv_if_ne (tgt := 749) C.1 C.2.1 dL_law_734 (by decide) (fun _ => hend) (fun hz => ?_)
  refine lv_aload_n C.1 C.2.1 dL_law_737 rfl (lv_at hl 5 rfl) ?_
  refine lv_iconst (v := 0) C.1 C.2.1 dL_law_738 (by decide) ?_
  refine sh_lald (β := Unit) (k := some ()) (res := ()) C hw rfl tbL_o dL_law_739 (fun _ => ?_)
  refine lv_iload C.1 C.2.1 dL_law_740 (lv_at hl 0 rfl) ?_
  refine lv_i2l (v := r.toInt64) C.1 C.2.1 dL_law_742 rfl ?_
  refine sh_lcmp_eq (β := Unit) (k1 := some ()) (k2 := none) (res := ()) (tgt := 749) C (if_pos (f4 hz)) dL_law_743 dL_law_744 (by decide) (fun _ => hend) (fun w => nomatch w)
theorem yh_L_way : sh_YH yL_way cL_way 4 [(0, 9, 12, 13)] 3 := ⟨sh_t1 (i := 0) (by decide +kernel) (by decide +kernel), sh_t5 (i := 104) (by decide +kernel) (by decide +kernel), sh_t5 (i := 103) (by decide +kernel) (by decide +kernel), by decide, by decide +kernel⟩
theorem ml_L_142 : Cond.methodLink RL 142 yL_way ∈ sh_ws := sh_t5 (i := 102) (by decide +kernel) (by decide +kernel)
theorem ml_L_144 : Cond.methodLink RL 144 yX13_way ∈ sh_ws := sh_t8 (i := 14) (by decide +kernel) (by decide +kernel)
set_option maxRecDepth 100000 in
set_option maxHeartbeats 4000000 in
theorem wL_13 {p : Program} {l : Launch} {e : Env} {s : State} {m : MethodId} {below : List Frame} {meth : Method} {c : Code} {G : sh_Ev} {Q : State → Prop} {b L : Nat} {xs : Nat → Int32} (hst : l.stackTraces = false) (C : sh_Cx p s m #[Value.ref b] meth c cL_law 7 RL G (fun q : Nat => s.heap.size ≤ q)) (hNq : sh_Nq s) (hX : va_X b L xs s s.heap) (hbl : b < s.heap.size) {i : Nat} (hi : i + 6 ≤ L) (hL : L ≤ 3072) {SL : sh_St} (hR : zLR SL) {H : Heap} {locs : List Loc} {ls : Array Slot} {cells slots : Nat} (hw : sh_Wx G tbL (fun q : Nat => s.heap.size ≤ q) s H locs SL) (hl : lv_has ls 7 [(0, .ref b), (1, .ref (G.2.1 0)), (2, .ref (G.2.1 140)), (3, .ref (G.2.1 162)), (4, .int (nI i))]) (hkc : cells + 2 ≤ room_1.cells) (hks : slots + 12 ≤ room_1.slots)
    (kk : ∀ (SL' : sh_St) (H1 : Heap) (locs1 : List Loc) (ls' : Array Slot), zLR SL' → sh_Wx G tbL (fun q : Nat => s.heap.size ≤ q) s H1 locs1 SL' → lv_has ls' 7 [(0, .ref b), (1, .ref (G.2.1 0)), (2, .ref (G.2.1 140)), (3, .ref (G.2.1 162)), (4, .int (nI i))] → W p l e room_1 s m #[Value.ref b] below meth c H1 locs1 (cells + 2) (slots + 12) Q (F0 m 1653 ls' [])) : W p l e room_1 s m #[Value.ref b] below meth c H locs cells slots Q (F0 m 752 ls []) := by
  have hbA : ¬ (fun q : Nat => s.heap.size ≤ q) b := Nat.not_le.mpr hbl
  obtain ⟨kq, SL1, r, SL2, f1, f2, f3, f4, f5⟩ := zL_way hR (xs (nI i + nI 1).toNatClampNeg)
  refine lv_aload_n C.1 C.2.1 dL_law_752 rfl (lv_at hl 1 rfl) ?_
  refine lv_aload_n C.1 C.2.1 dL_law_753 rfl (lv_at hl 0 rfl) ?_
  refine lv_iload C.1 C.2.1 dL_law_754 (lv_at hl 4 rfl) ?_
  refine lv_iconst (v := nI 1) C.1 C.2.1 dL_law_756 (by decide) ?_
  refine lv_iadd C.1 C.2.1 dL_law_757 ?_
  refine va_sld C.1 C.2.1 hX hbl hbA hw.2.2 (zvin 1 hi hL (by decide)) dL_law_758 ?_
  refine lv_aload_n C.1 C.2.1 dL_law_759 rfl (lv_at hl 3 rfl) ?_
  refine sh_LH (As := [.ref (G.2.1 0), .int (xs (nI i + nI 1).toNatClampNeg), .ref (G.2.1 162)]) (rest := []) C hNq hw (kL_way l hst (xs (nI i + nI 1).toNatClampNeg)) yh_L_way ml_L_142 f1 rfl rfl rfl (Nat.le_of_ble_eq_true rfl) ⟨by decide, by decide⟩ (by omega) (by omega) hl.1 dL_law_760 (fun H locs hw => ?_)
  refine W.widen (k := cells + 2) (n := slots + 12) (by omega) (by omega) ?_
  refine lv_istore C.1 C.2.1 dL_law_763 hl (by decide) rfl (fun ls hl => ?_)
  refine lv_aload_n C.1 C.2.1 dL_law_765 rfl (lv_at hl 3 rfl) ?_
  refine lv_aload_n C.1 C.2.1 dL_law_766 rfl (lv_at hl 1 rfl) ?_
  refine lv_iload C.1 C.2.1 dL_law_767 (lv_at hl 5 rfl) ?_
  refine lv_iconst (v := nI 1) C.1 C.2.1 dL_law_769 (by decide) ?_
  refine lv_iadd C.1 C.2.1 dL_law_770 ?_
  refine va_sld C.1 C.2.1 hX hbl hbA hw.2.2 (zvin 1 hi hL (by decide)) dL_law_771 ?_
  refine sh_LVi (As := [.int (xs (nI i + nI 1).toNatClampNeg)]) (rest := []) C hw (sh_Mi_up sub_M (kX13_way l (xs (nI i + nI 1).toNatClampNeg))) yy_X13_way yv_X13_way ml_L_144 f2 tbL_140 rfl rfl rfl rfl (Nat.le_of_ble_eq_true rfl) ⟨by decide, by decide⟩ hkc hks hl.1 dL_law_772 (fun H locs hw => ?_)
  refine lv_istore C.1 C.2.1 dL_law_775 hl (by decide) rfl (fun ls hl => ?_)
  refine lv_aload_n C.1 C.2.1 dL_law_777 rfl (lv_at hl 4 rfl) ?_
  refine sh_LVi (As := []) (rest := []) C hw (sh_Mi_up sub_M (kX13_thrown l)) yy_X13_thrown yv_X13_thrown ml_L_105 (zthr SL2) tbL_140 rfl rfl rfl rfl (Nat.le_of_ble_eq_true rfl) ⟨by decide, by decide⟩ hkc hks hl.1 dL_law_778 (fun H locs hw => ?_)
  refine lv_iload C.1 C.2.1 dL_law_781 (lv_at hl 1 rfl) ?_
  refine lv_icmp_eq (tgt := 788) C.1 C.2.1 dL_law_783 (by decide) (fun _ => ?_) (fun w => absurd f3 w)
  refine lv_iload C.1 C.2.1 dL_law_788 (lv_at hl 1 rfl) ?_
  have hend : W p l e room_1 s m #[Value.ref b] below meth c H locs (cells + 2) (slots + 12) Q (F0 m 805 ls []) := lv_goto (tgt := 1653) C.1 C.2.1 dL_law_805 (by decide) (kk SL2 H locs ls f5 hw (lv_sub hl [2, 3, 4, 5, 6] rfl))
  refine lv_if_ne (tgt := 805) C.1 C.2.1 dL_law_790 (by decide) (fun _ => hend) (fun hz => ?_)
  refine lv_aload_n C.1 C.2.1 dL_law_793 rfl (lv_at hl 5 rfl) ?_
  refine lv_iconst (v := 0) C.1 C.2.1 dL_law_794 (by decide) ?_
  refine sh_lald (β := Unit) (k := some ()) (res := ()) C hw rfl tbL_o dL_law_795 (fun _ => ?_)
  refine lv_iload C.1 C.2.1 dL_law_796 (lv_at hl 0 rfl) ?_
  refine lv_i2l (v := r.toInt64) C.1 C.2.1 dL_law_798 rfl ?_
  refine sh_lcmp_eq (β := Unit) (k1 := some ()) (k2 := none) (res := ()) (tgt := 805) C (if_pos (f4 hz)) dL_law_799 dL_law_800 (by decide) (fun _ => hend) (fun w => nomatch w)
theorem yh_L_block : sh_YH yL_block cL_block 5 [(0, 10, 13, 39), (0, 10, 17, 34)] 4 := ⟨sh_t1 (i := 0) (by decide +kernel) (by decide +kernel), sh_t5 (i := 117) (by decide +kernel) (by decide +kernel), sh_t5 (i := 116) (by decide +kernel) (by decide +kernel), by decide, by decide +kernel⟩
theorem ml_L_145 : Cond.methodLink RL 145 yL_block ∈ sh_ws := sh_t5 (i := 115) (by decide +kernel) (by decide +kernel)
theorem ml_L_147 : Cond.methodLink RL 147 yX13_block ∈ sh_ws := sh_t8 (i := 22) (by decide +kernel) (by decide +kernel)
set_option maxRecDepth 100000 in
set_option maxHeartbeats 4000000 in
theorem wL_14 {p : Program} {l : Launch} {e : Env} {s : State} {m : MethodId} {below : List Frame} {meth : Method} {c : Code} {G : sh_Ev} {Q : State → Prop} {b L : Nat} {xs : Nat → Int32} (hst : l.stackTraces = false) (C : sh_Cx p s m #[Value.ref b] meth c cL_law 7 RL G (fun q : Nat => s.heap.size ≤ q)) (hNq : sh_Nq s) (hX : va_X b L xs s s.heap) (hbl : b < s.heap.size) {i : Nat} (hi : i + 6 ≤ L) (hL : L ≤ 3072) {SL : sh_St} (hR : zLR SL) {H : Heap} {locs : List Loc} {ls : Array Slot} {cells slots : Nat} (hw : sh_Wx G tbL (fun q : Nat => s.heap.size ≤ q) s H locs SL) (hl : lv_has ls 7 [(0, .ref b), (1, .ref (G.2.1 0)), (2, .ref (G.2.1 140)), (3, .ref (G.2.1 162)), (4, .int (nI i))]) (hkc : cells + 2 ≤ room_1.cells) (hks : slots + 12 ≤ room_1.slots)
    (kk : ∀ (SL' : sh_St) (H1 : Heap) (locs1 : List Loc) (ls' : Array Slot), zLR SL' → sh_Wx G tbL (fun q : Nat => s.heap.size ≤ q) s H1 locs1 SL' → lv_has ls' 7 [(0, .ref b), (1, .ref (G.2.1 0)), (2, .ref (G.2.1 140)), (3, .ref (G.2.1 162)), (4, .int (nI i))] → W p l e room_1 s m #[Value.ref b] below meth c H1 locs1 (cells + 2) (slots + 12) Q (F0 m 1653 ls' [])) : W p l e room_1 s m #[Value.ref b] below meth c H locs cells slots Q (F0 m 808 ls []) := by
  have hbA : ¬ (fun q : Nat => s.heap.size ≤ q) b := Nat.not_le.mpr hbl
  obtain ⟨kq, SL1, r, SL2, f1, f2, f3, f4, f5⟩ := zL_block hR (xs (nI i + nI 1).toNatClampNeg) (xs (nI i + nI 2).toNatClampNeg)
  refine lv_aload_n C.1 C.2.1 dL_law_808 rfl (lv_at hl 1 rfl) ?_
  refine lv_aload_n C.1 C.2.1 dL_law_809 rfl (lv_at hl 0 rfl) ?_
  refine lv_iload C.1 C.2.1 dL_law_810 (lv_at hl 4 rfl) ?_
  refine lv_iconst (v := nI 1) C.1 C.2.1 dL_law_812 (by decide) ?_
  refine lv_iadd C.1 C.2.1 dL_law_813 ?_
  refine va_sld C.1 C.2.1 hX hbl hbA hw.2.2 (zvin 1 hi hL (by decide)) dL_law_814 ?_
  refine lv_aload_n C.1 C.2.1 dL_law_815 rfl (lv_at hl 0 rfl) ?_
  refine lv_iload C.1 C.2.1 dL_law_816 (lv_at hl 4 rfl) ?_
  refine lv_iconst (v := nI 2) C.1 C.2.1 dL_law_818 (by decide) ?_
  refine lv_iadd C.1 C.2.1 dL_law_819 ?_
  refine va_sld C.1 C.2.1 hX hbl hbA hw.2.2 (zvin 2 hi hL (by decide)) dL_law_820 ?_
  refine lv_aload_n C.1 C.2.1 dL_law_821 rfl (lv_at hl 3 rfl) ?_
  refine sh_LH (As := [.ref (G.2.1 0), .int (xs (nI i + nI 1).toNatClampNeg), .int (xs (nI i + nI 2).toNatClampNeg), .ref (G.2.1 162)]) (rest := []) C hNq hw (kL_block l hst (xs (nI i + nI 1).toNatClampNeg) (xs (nI i + nI 2).toNatClampNeg)) yh_L_block ml_L_145 f1 rfl rfl rfl (Nat.le_of_ble_eq_true rfl) ⟨by decide, by decide⟩ (by omega) (by omega) hl.1 dL_law_822 (fun H locs hw => ?_)
  refine W.widen (k := cells + 2) (n := slots + 12) (by omega) (by omega) ?_
  refine lv_istore C.1 C.2.1 dL_law_825 hl (by decide) rfl (fun ls hl => ?_)
  refine lv_aload_n C.1 C.2.1 dL_law_827 rfl (lv_at hl 3 rfl) ?_
  refine lv_aload_n C.1 C.2.1 dL_law_828 rfl (lv_at hl 1 rfl) ?_
  refine lv_iload C.1 C.2.1 dL_law_829 (lv_at hl 5 rfl) ?_
  refine lv_iconst (v := nI 1) C.1 C.2.1 dL_law_831 (by decide) ?_
  refine lv_iadd C.1 C.2.1 dL_law_832 ?_
  refine va_sld C.1 C.2.1 hX hbl hbA hw.2.2 (zvin 1 hi hL (by decide)) dL_law_833 ?_
  refine lv_aload_n C.1 C.2.1 dL_law_834 rfl (lv_at hl 1 rfl) ?_
  refine lv_iload C.1 C.2.1 dL_law_835 (lv_at hl 5 rfl) ?_
  refine lv_iconst (v := nI 2) C.1 C.2.1 dL_law_837 (by decide) ?_
  refine lv_iadd C.1 C.2.1 dL_law_838 ?_
  refine va_sld C.1 C.2.1 hX hbl hbA hw.2.2 (zvin 2 hi hL (by decide)) dL_law_839 ?_
  refine sh_LVi (As := [.int (xs (nI i + nI 1).toNatClampNeg), .int (xs (nI i + nI 2).toNatClampNeg)]) (rest := []) C hw (sh_Mi_up sub_M (kX13_block l (xs (nI i + nI 1).toNatClampNeg) (xs (nI i + nI 2).toNatClampNeg))) yy_X13_block yv_X13_block ml_L_147 f2 tbL_140 rfl rfl rfl rfl (Nat.le_of_ble_eq_true rfl) ⟨by decide, by decide⟩ hkc hks hl.1 dL_law_840 (fun H locs hw => ?_)
  refine lv_istore C.1 C.2.1 dL_law_843 hl (by decide) rfl (fun ls hl => ?_)
  refine lv_aload_n C.1 C.2.1 dL_law_845 rfl (lv_at hl 4 rfl) ?_
  refine sh_LVi (As := []) (rest := []) C hw (sh_Mi_up sub_M (kX13_thrown l)) yy_X13_thrown yv_X13_thrown ml_L_105 (zthr SL2) tbL_140 rfl rfl rfl rfl (Nat.le_of_ble_eq_true rfl) ⟨by decide, by decide⟩ hkc hks hl.1 dL_law_846 (fun H locs hw => ?_)
  refine lv_iload C.1 C.2.1 dL_law_849 (lv_at hl 1 rfl) ?_
  refine lv_icmp_eq (tgt := 856) C.1 C.2.1 dL_law_851 (by decide) (fun _ => ?_) (fun w => absurd f3 w)
  refine lv_iload C.1 C.2.1 dL_law_856 (lv_at hl 1 rfl) ?_
  have hend : W p l e room_1 s m #[Value.ref b] below meth c H locs (cells + 2) (slots + 12) Q (F0 m 873 ls []) := lv_goto (tgt := 1653) C.1 C.2.1 dL_law_873 (by decide) (kk SL2 H locs ls f5 hw (lv_sub hl [2, 3, 4, 5, 6] rfl))
  refine lv_if_ne (tgt := 873) C.1 C.2.1 dL_law_858 (by decide) (fun _ => hend) (fun hz => ?_)
  refine lv_aload_n C.1 C.2.1 dL_law_861 rfl (lv_at hl 5 rfl) ?_
  refine lv_iconst (v := 0) C.1 C.2.1 dL_law_862 (by decide) ?_
  refine sh_lald (β := Unit) (k := some ()) (res := ()) C hw rfl tbL_o dL_law_863 (fun _ => ?_)
  refine lv_iload C.1 C.2.1 dL_law_864 (lv_at hl 0 rfl) ?_
  refine lv_i2l (v := r.toInt64) C.1 C.2.1 dL_law_866 rfl ?_
  refine sh_lcmp_eq (β := Unit) (k1 := some ()) (k2 := none) (res := ()) (tgt := 873) C (if_pos (f4 hz)) dL_law_867 dL_law_868 (by decide) (fun _ => hend) (fun w => nomatch w)
theorem yh_L_entry : sh_YH yL_entry cL_entry 6 [(0, 12, 15, 39), (0, 12, 19, 34)] 5 := ⟨sh_t1 (i := 0) (by decide +kernel) (by decide +kernel), sh_t5 (i := 125) (by decide +kernel) (by decide +kernel), sh_t5 (i := 124) (by decide +kernel) (by decide +kernel), by decide, by decide +kernel⟩
theorem ml_L_148 : Cond.methodLink RL 148 yL_entry ∈ sh_ws := sh_t5 (i := 123) (by decide +kernel) (by decide +kernel)
theorem ml_L_151 : Cond.methodLink RL 151 yX13_entry ∈ sh_ws := sh_t8 (i := 26) (by decide +kernel) (by decide +kernel)
set_option maxRecDepth 100000 in
set_option maxHeartbeats 4000000 in
theorem wL_15 {p : Program} {l : Launch} {e : Env} {s : State} {m : MethodId} {below : List Frame} {meth : Method} {c : Code} {G : sh_Ev} {Q : State → Prop} {b L : Nat} {xs : Nat → Int32} (hst : l.stackTraces = false) (C : sh_Cx p s m #[Value.ref b] meth c cL_law 7 RL G (fun q : Nat => s.heap.size ≤ q)) (hNq : sh_Nq s) (hX : va_X b L xs s s.heap) (hbl : b < s.heap.size) {i : Nat} (hi : i + 6 ≤ L) (hL : L ≤ 3072) {SL : sh_St} (hR : zLR SL) {H : Heap} {locs : List Loc} {ls : Array Slot} {cells slots : Nat} (hw : sh_Wx G tbL (fun q : Nat => s.heap.size ≤ q) s H locs SL) (hl : lv_has ls 7 [(0, .ref b), (1, .ref (G.2.1 0)), (2, .ref (G.2.1 140)), (3, .ref (G.2.1 162)), (4, .int (nI i))]) (hkc : cells + 2 ≤ room_1.cells) (hks : slots + 12 ≤ room_1.slots)
    (kk : ∀ (SL' : sh_St) (H1 : Heap) (locs1 : List Loc) (ls' : Array Slot), zLR SL' → sh_Wx G tbL (fun q : Nat => s.heap.size ≤ q) s H1 locs1 SL' → lv_has ls' 7 [(0, .ref b), (1, .ref (G.2.1 0)), (2, .ref (G.2.1 140)), (3, .ref (G.2.1 162)), (4, .int (nI i))] → W p l e room_1 s m #[Value.ref b] below meth c H1 locs1 (cells + 2) (slots + 12) Q (F0 m 1653 ls' [])) : W p l e room_1 s m #[Value.ref b] below meth c H locs cells slots Q (F0 m 876 ls []) := by
  have hbA : ¬ (fun q : Nat => s.heap.size ≤ q) b := Nat.not_le.mpr hbl
  obtain ⟨kq, SL1, r, SL2, f1, f2, f3, f4, f5⟩ := zL_entry hR (xs (nI i + nI 1).toNatClampNeg) (xs (nI i + nI 2).toNatClampNeg) (xs (nI i + nI 3).toNatClampNeg)
  refine lv_aload_n C.1 C.2.1 dL_law_876 rfl (lv_at hl 1 rfl) ?_
  refine lv_aload_n C.1 C.2.1 dL_law_877 rfl (lv_at hl 0 rfl) ?_
  refine lv_iload C.1 C.2.1 dL_law_878 (lv_at hl 4 rfl) ?_
  refine lv_iconst (v := nI 1) C.1 C.2.1 dL_law_880 (by decide) ?_
  refine lv_iadd C.1 C.2.1 dL_law_881 ?_
  refine va_sld C.1 C.2.1 hX hbl hbA hw.2.2 (zvin 1 hi hL (by decide)) dL_law_882 ?_
  refine lv_aload_n C.1 C.2.1 dL_law_883 rfl (lv_at hl 0 rfl) ?_
  refine lv_iload C.1 C.2.1 dL_law_884 (lv_at hl 4 rfl) ?_
  refine lv_iconst (v := nI 2) C.1 C.2.1 dL_law_886 (by decide) ?_
  refine lv_iadd C.1 C.2.1 dL_law_887 ?_
  refine va_sld C.1 C.2.1 hX hbl hbA hw.2.2 (zvin 2 hi hL (by decide)) dL_law_888 ?_
  refine lv_aload_n C.1 C.2.1 dL_law_889 rfl (lv_at hl 0 rfl) ?_
  refine lv_iload C.1 C.2.1 dL_law_890 (lv_at hl 4 rfl) ?_
  refine lv_iconst (v := nI 3) C.1 C.2.1 dL_law_892 (by decide) ?_
  refine lv_iadd C.1 C.2.1 dL_law_893 ?_
  refine va_sld C.1 C.2.1 hX hbl hbA hw.2.2 (zvin 3 hi hL (by decide)) dL_law_894 ?_
  refine lv_aload_n C.1 C.2.1 dL_law_895 rfl (lv_at hl 3 rfl) ?_
  refine sh_LH (As := [.ref (G.2.1 0), .int (xs (nI i + nI 1).toNatClampNeg), .int (xs (nI i + nI 2).toNatClampNeg), .int (xs (nI i + nI 3).toNatClampNeg), .ref (G.2.1 162)]) (rest := []) C hNq hw (kL_entry l hst (xs (nI i + nI 1).toNatClampNeg) (xs (nI i + nI 2).toNatClampNeg) (xs (nI i + nI 3).toNatClampNeg)) yh_L_entry ml_L_148 f1 rfl rfl rfl (Nat.le_of_ble_eq_true rfl) ⟨by decide, by decide⟩ (by omega) (by omega) hl.1 dL_law_896 (fun H locs hw => ?_)
  refine W.widen (k := cells + 2) (n := slots + 12) (by omega) (by omega) ?_
  refine lv_istore C.1 C.2.1 dL_law_899 hl (by decide) rfl (fun ls hl => ?_)
  refine lv_aload_n C.1 C.2.1 dL_law_901 rfl (lv_at hl 3 rfl) ?_
  refine lv_aload_n C.1 C.2.1 dL_law_902 rfl (lv_at hl 1 rfl) ?_
  refine lv_iload C.1 C.2.1 dL_law_903 (lv_at hl 5 rfl) ?_
  refine lv_iconst (v := nI 1) C.1 C.2.1 dL_law_905 (by decide) ?_
  refine lv_iadd C.1 C.2.1 dL_law_906 ?_
  refine va_sld C.1 C.2.1 hX hbl hbA hw.2.2 (zvin 1 hi hL (by decide)) dL_law_907 ?_
  refine lv_aload_n C.1 C.2.1 dL_law_908 rfl (lv_at hl 1 rfl) ?_
  refine lv_iload C.1 C.2.1 dL_law_909 (lv_at hl 5 rfl) ?_
  refine lv_iconst (v := nI 2) C.1 C.2.1 dL_law_911 (by decide) ?_
  refine lv_iadd C.1 C.2.1 dL_law_912 ?_
  refine va_sld C.1 C.2.1 hX hbl hbA hw.2.2 (zvin 2 hi hL (by decide)) dL_law_913 ?_
  refine lv_aload_n C.1 C.2.1 dL_law_914 rfl (lv_at hl 1 rfl) ?_
  refine lv_iload C.1 C.2.1 dL_law_915 (lv_at hl 5 rfl) ?_
  refine lv_iconst (v := nI 3) C.1 C.2.1 dL_law_917 (by decide) ?_
  refine lv_iadd C.1 C.2.1 dL_law_918 ?_
  refine va_sld C.1 C.2.1 hX hbl hbA hw.2.2 (zvin 3 hi hL (by decide)) dL_law_919 ?_
  refine sh_LVi (As := [.int (xs (nI i + nI 1).toNatClampNeg), .int (xs (nI i + nI 2).toNatClampNeg), .int (xs (nI i + nI 3).toNatClampNeg)]) (rest := []) C hw (sh_Mi_up sub_M (kX13_entry l (xs (nI i + nI 1).toNatClampNeg) (xs (nI i + nI 2).toNatClampNeg) (xs (nI i + nI 3).toNatClampNeg))) yy_X13_entry yv_X13_entry ml_L_151 f2 tbL_140 rfl rfl rfl rfl (Nat.le_of_ble_eq_true rfl) ⟨by decide, by decide⟩ hkc hks hl.1 dL_law_920 (fun H locs hw => ?_)
  refine lv_istore C.1 C.2.1 dL_law_923 hl (by decide) rfl (fun ls hl => ?_)
  refine lv_aload_n C.1 C.2.1 dL_law_925 rfl (lv_at hl 4 rfl) ?_
  refine sh_LVi (As := []) (rest := []) C hw (sh_Mi_up sub_M (kX13_thrown l)) yy_X13_thrown yv_X13_thrown ml_L_105 (zthr SL2) tbL_140 rfl rfl rfl rfl (Nat.le_of_ble_eq_true rfl) ⟨by decide, by decide⟩ hkc hks hl.1 dL_law_926 (fun H locs hw => ?_)
  refine lv_iload C.1 C.2.1 dL_law_929 (lv_at hl 1 rfl) ?_
  refine lv_icmp_eq (tgt := 936) C.1 C.2.1 dL_law_931 (by decide) (fun _ => ?_) (fun w => absurd f3 w)
  refine lv_iload C.1 C.2.1 dL_law_936 (lv_at hl 1 rfl) ?_
  have hend : W p l e room_1 s m #[Value.ref b] below meth c H locs (cells + 2) (slots + 12) Q (F0 m 953 ls []) := lv_goto (tgt := 1653) C.1 C.2.1 dL_law_953 (by decide) (kk SL2 H locs ls f5 hw (lv_sub hl [2, 3, 4, 5, 6] rfl))
  refine lv_if_ne (tgt := 953) C.1 C.2.1 dL_law_938 (by decide) (fun _ => hend) (fun hz => ?_)
  refine lv_aload_n C.1 C.2.1 dL_law_941 rfl (lv_at hl 5 rfl) ?_
  refine lv_iconst (v := 0) C.1 C.2.1 dL_law_942 (by decide) ?_
  refine sh_lald (β := Unit) (k := some ()) (res := ()) C hw rfl tbL_o dL_law_943 (fun _ => ?_)
  refine lv_iload C.1 C.2.1 dL_law_944 (lv_at hl 0 rfl) ?_
  refine lv_i2l (v := r.toInt64) C.1 C.2.1 dL_law_946 rfl ?_
  refine sh_lcmp_eq (β := Unit) (k1 := some ()) (k2 := none) (res := ()) (tgt := 953) C (if_pos (f4 hz)) dL_law_947 dL_law_948 (by decide) (fun _ => hend) (fun w => nomatch w)
theorem yh_L_letter : sh_YH yL_letter cL_letter 6 [(0, 12, 15, 39)] 5 := ⟨sh_t1 (i := 0) (by decide +kernel) (by decide +kernel), sh_t5 (i := 139) (by decide +kernel) (by decide +kernel), sh_t5 (i := 138) (by decide +kernel) (by decide +kernel), by decide, by decide +kernel⟩
theorem ml_L_152 : Cond.methodLink RL 152 yL_letter ∈ sh_ws := sh_t5 (i := 137) (by decide +kernel) (by decide +kernel)
theorem ml_L_154 : Cond.methodLink RL 154 yX13_letter ∈ sh_ws := sh_t8 (i := 37) (by decide +kernel) (by decide +kernel)
set_option maxRecDepth 100000 in
set_option maxHeartbeats 4000000 in
theorem wL_16 {p : Program} {l : Launch} {e : Env} {s : State} {m : MethodId} {below : List Frame} {meth : Method} {c : Code} {G : sh_Ev} {Q : State → Prop} {b L : Nat} {xs : Nat → Int32} (hst : l.stackTraces = false) (C : sh_Cx p s m #[Value.ref b] meth c cL_law 7 RL G (fun q : Nat => s.heap.size ≤ q)) (hNq : sh_Nq s) (hX : va_X b L xs s s.heap) (hbl : b < s.heap.size) {i : Nat} (hi : i + 6 ≤ L) (hL : L ≤ 3072) {SL : sh_St} (hR : zLR SL) {H : Heap} {locs : List Loc} {ls : Array Slot} {cells slots : Nat} (hw : sh_Wx G tbL (fun q : Nat => s.heap.size ≤ q) s H locs SL) (hl : lv_has ls 7 [(0, .ref b), (1, .ref (G.2.1 0)), (2, .ref (G.2.1 140)), (3, .ref (G.2.1 162)), (4, .int (nI i))]) (hkc : cells + 2 ≤ room_1.cells) (hks : slots + 12 ≤ room_1.slots)
    (kk : ∀ (SL' : sh_St) (H1 : Heap) (locs1 : List Loc) (ls' : Array Slot), zLR SL' → sh_Wx G tbL (fun q : Nat => s.heap.size ≤ q) s H1 locs1 SL' → lv_has ls' 7 [(0, .ref b), (1, .ref (G.2.1 0)), (2, .ref (G.2.1 140)), (3, .ref (G.2.1 162)), (4, .int (nI i))] → W p l e room_1 s m #[Value.ref b] below meth c H1 locs1 (cells + 2) (slots + 12) Q (F0 m 1653 ls' [])) : W p l e room_1 s m #[Value.ref b] below meth c H locs cells slots Q (F0 m 956 ls []) := by
  have hbA : ¬ (fun q : Nat => s.heap.size ≤ q) b := Nat.not_le.mpr hbl
  obtain ⟨kq, SL1, r, SL2, f1, f2, f3, f4, f5⟩ := zL_letter hR (xs (nI i + nI 1).toNatClampNeg) (xs (nI i + nI 2).toNatClampNeg) (xs (nI i + nI 3).toNatClampNeg)
  refine lv_aload_n C.1 C.2.1 dL_law_956 rfl (lv_at hl 1 rfl) ?_
  refine lv_aload_n C.1 C.2.1 dL_law_957 rfl (lv_at hl 0 rfl) ?_
  refine lv_iload C.1 C.2.1 dL_law_958 (lv_at hl 4 rfl) ?_
  refine lv_iconst (v := nI 1) C.1 C.2.1 dL_law_960 (by decide) ?_
  refine lv_iadd C.1 C.2.1 dL_law_961 ?_
  refine va_sld C.1 C.2.1 hX hbl hbA hw.2.2 (zvin 1 hi hL (by decide)) dL_law_962 ?_
  refine lv_aload_n C.1 C.2.1 dL_law_963 rfl (lv_at hl 0 rfl) ?_
  refine lv_iload C.1 C.2.1 dL_law_964 (lv_at hl 4 rfl) ?_
  refine lv_iconst (v := nI 2) C.1 C.2.1 dL_law_966 (by decide) ?_
  refine lv_iadd C.1 C.2.1 dL_law_967 ?_
  refine va_sld C.1 C.2.1 hX hbl hbA hw.2.2 (zvin 2 hi hL (by decide)) dL_law_968 ?_
  refine lv_aload_n C.1 C.2.1 dL_law_969 rfl (lv_at hl 0 rfl) ?_
  refine lv_iload C.1 C.2.1 dL_law_970 (lv_at hl 4 rfl) ?_
  refine lv_iconst (v := nI 3) C.1 C.2.1 dL_law_972 (by decide) ?_
  refine lv_iadd C.1 C.2.1 dL_law_973 ?_
  refine va_sld C.1 C.2.1 hX hbl hbA hw.2.2 (zvin 3 hi hL (by decide)) dL_law_974 ?_
  refine lv_aload_n C.1 C.2.1 dL_law_975 rfl (lv_at hl 3 rfl) ?_
  refine sh_LH (As := [.ref (G.2.1 0), .int (xs (nI i + nI 1).toNatClampNeg), .int (xs (nI i + nI 2).toNatClampNeg), .int (xs (nI i + nI 3).toNatClampNeg), .ref (G.2.1 162)]) (rest := []) C hNq hw (kL_letter l hst (xs (nI i + nI 1).toNatClampNeg) (xs (nI i + nI 2).toNatClampNeg) (xs (nI i + nI 3).toNatClampNeg)) yh_L_letter ml_L_152 f1 rfl rfl rfl (Nat.le_of_ble_eq_true rfl) ⟨by decide, by decide⟩ (by omega) (by omega) hl.1 dL_law_976 (fun H locs hw => ?_)
  refine W.widen (k := cells + 2) (n := slots + 12) (by omega) (by omega) ?_
  refine lv_istore C.1 C.2.1 dL_law_979 hl (by decide) rfl (fun ls hl => ?_)
  refine lv_aload_n C.1 C.2.1 dL_law_981 rfl (lv_at hl 3 rfl) ?_
  refine lv_aload_n C.1 C.2.1 dL_law_982 rfl (lv_at hl 1 rfl) ?_
  refine lv_iload C.1 C.2.1 dL_law_983 (lv_at hl 5 rfl) ?_
  refine lv_iconst (v := nI 1) C.1 C.2.1 dL_law_985 (by decide) ?_
  refine lv_iadd C.1 C.2.1 dL_law_986 ?_
  refine va_sld C.1 C.2.1 hX hbl hbA hw.2.2 (zvin 1 hi hL (by decide)) dL_law_987 ?_
  refine lv_aload_n C.1 C.2.1 dL_law_988 rfl (lv_at hl 1 rfl) ?_
  refine lv_iload C.1 C.2.1 dL_law_989 (lv_at hl 5 rfl) ?_
  refine lv_iconst (v := nI 2) C.1 C.2.1 dL_law_991 (by decide) ?_
  refine lv_iadd C.1 C.2.1 dL_law_992 ?_
  refine va_sld C.1 C.2.1 hX hbl hbA hw.2.2 (zvin 2 hi hL (by decide)) dL_law_993 ?_
  refine lv_aload_n C.1 C.2.1 dL_law_994 rfl (lv_at hl 1 rfl) ?_
  refine lv_iload C.1 C.2.1 dL_law_995 (lv_at hl 5 rfl) ?_
  refine lv_iconst (v := nI 3) C.1 C.2.1 dL_law_997 (by decide) ?_
  refine lv_iadd C.1 C.2.1 dL_law_998 ?_
  refine va_sld C.1 C.2.1 hX hbl hbA hw.2.2 (zvin 3 hi hL (by decide)) dL_law_999 ?_
  refine sh_LVi (As := [.int (xs (nI i + nI 1).toNatClampNeg), .int (xs (nI i + nI 2).toNatClampNeg), .int (xs (nI i + nI 3).toNatClampNeg)]) (rest := []) C hw (sh_Mi_up sub_M (kX13_letter l (xs (nI i + nI 1).toNatClampNeg) (xs (nI i + nI 2).toNatClampNeg) (xs (nI i + nI 3).toNatClampNeg))) yy_X13_letter yv_X13_letter ml_L_154 f2 tbL_140 rfl rfl rfl rfl (Nat.le_of_ble_eq_true rfl) ⟨by decide, by decide⟩ hkc hks hl.1 dL_law_1000 (fun H locs hw => ?_)
  refine lv_istore C.1 C.2.1 dL_law_1003 hl (by decide) rfl (fun ls hl => ?_)
  refine lv_aload_n C.1 C.2.1 dL_law_1005 rfl (lv_at hl 4 rfl) ?_
  refine sh_LVi (As := []) (rest := []) C hw (sh_Mi_up sub_M (kX13_thrown l)) yy_X13_thrown yv_X13_thrown ml_L_105 (zthr SL2) tbL_140 rfl rfl rfl rfl (Nat.le_of_ble_eq_true rfl) ⟨by decide, by decide⟩ hkc hks hl.1 dL_law_1006 (fun H locs hw => ?_)
  refine lv_iload C.1 C.2.1 dL_law_1009 (lv_at hl 1 rfl) ?_
  refine lv_icmp_eq (tgt := 1016) C.1 C.2.1 dL_law_1011 (by decide) (fun _ => ?_) (fun w => absurd f3 w)
  refine lv_iload C.1 C.2.1 dL_law_1016 (lv_at hl 1 rfl) ?_
  have hend : W p l e room_1 s m #[Value.ref b] below meth c H locs (cells + 2) (slots + 12) Q (F0 m 1033 ls []) := lv_goto (tgt := 1653) C.1 C.2.1 dL_law_1033 (by decide) (kk SL2 H locs ls f5 hw (lv_sub hl [2, 3, 4, 5, 6] rfl))
  refine lv_if_ne (tgt := 1033) C.1 C.2.1 dL_law_1018 (by decide) (fun _ => hend) (fun hz => ?_)
  refine lv_aload_n C.1 C.2.1 dL_law_1021 rfl (lv_at hl 5 rfl) ?_
  refine lv_iconst (v := 0) C.1 C.2.1 dL_law_1022 (by decide) ?_
  refine sh_lald (β := Unit) (k := some ()) (res := ()) C hw rfl tbL_o dL_law_1023 (fun _ => ?_)
  refine lv_iload C.1 C.2.1 dL_law_1024 (lv_at hl 0 rfl) ?_
  refine lv_i2l (v := r.toInt64) C.1 C.2.1 dL_law_1026 rfl ?_
  refine sh_lcmp_eq (β := Unit) (k1 := some ()) (k2 := none) (res := ()) (tgt := 1033) C (if_pos (f4 hz)) dL_law_1027 dL_law_1028 (by decide) (fun _ => hend) (fun w => nomatch w)
theorem yh_L_row : sh_YH yL_row cL_row 6 [(0, 12, 15, 39), (0, 12, 19, 34)] 5 := ⟨sh_t1 (i := 0) (by decide +kernel) (by decide +kernel), sh_t5 (i := 146) (by decide +kernel) (by decide +kernel), sh_t5 (i := 145) (by decide +kernel) (by decide +kernel), by decide, by decide +kernel⟩
theorem ml_L_155 : Cond.methodLink RL 155 yL_row ∈ sh_ws := sh_t5 (i := 144) (by decide +kernel) (by decide +kernel)
theorem ml_L_157 : Cond.methodLink RL 157 yX13_row ∈ sh_ws := sh_t8 (i := 41) (by decide +kernel) (by decide +kernel)
set_option maxRecDepth 100000 in
set_option maxHeartbeats 4000000 in
theorem wL_17 {p : Program} {l : Launch} {e : Env} {s : State} {m : MethodId} {below : List Frame} {meth : Method} {c : Code} {G : sh_Ev} {Q : State → Prop} {b L : Nat} {xs : Nat → Int32} (hst : l.stackTraces = false) (C : sh_Cx p s m #[Value.ref b] meth c cL_law 7 RL G (fun q : Nat => s.heap.size ≤ q)) (hNq : sh_Nq s) (hX : va_X b L xs s s.heap) (hbl : b < s.heap.size) {i : Nat} (hi : i + 6 ≤ L) (hL : L ≤ 3072) {SL : sh_St} (hR : zLR SL) {H : Heap} {locs : List Loc} {ls : Array Slot} {cells slots : Nat} (hw : sh_Wx G tbL (fun q : Nat => s.heap.size ≤ q) s H locs SL) (hl : lv_has ls 7 [(0, .ref b), (1, .ref (G.2.1 0)), (2, .ref (G.2.1 140)), (3, .ref (G.2.1 162)), (4, .int (nI i))]) (hkc : cells + 2 ≤ room_1.cells) (hks : slots + 12 ≤ room_1.slots)
    (kk : ∀ (SL' : sh_St) (H1 : Heap) (locs1 : List Loc) (ls' : Array Slot), zLR SL' → sh_Wx G tbL (fun q : Nat => s.heap.size ≤ q) s H1 locs1 SL' → lv_has ls' 7 [(0, .ref b), (1, .ref (G.2.1 0)), (2, .ref (G.2.1 140)), (3, .ref (G.2.1 162)), (4, .int (nI i))] → W p l e room_1 s m #[Value.ref b] below meth c H1 locs1 (cells + 2) (slots + 12) Q (F0 m 1653 ls' [])) : W p l e room_1 s m #[Value.ref b] below meth c H locs cells slots Q (F0 m 1036 ls []) := by
  have hbA : ¬ (fun q : Nat => s.heap.size ≤ q) b := Nat.not_le.mpr hbl
  obtain ⟨kq, SL1, r, SL2, f1, f2, f3, f4, f5⟩ := zL_row hR (xs (nI i + nI 1).toNatClampNeg) (xs (nI i + nI 2).toNatClampNeg) (xs (nI i + nI 3).toNatClampNeg)
  refine lv_aload_n C.1 C.2.1 dL_law_1036 rfl (lv_at hl 1 rfl) ?_
  refine lv_aload_n C.1 C.2.1 dL_law_1037 rfl (lv_at hl 0 rfl) ?_
  refine lv_iload C.1 C.2.1 dL_law_1038 (lv_at hl 4 rfl) ?_
  refine lv_iconst (v := nI 1) C.1 C.2.1 dL_law_1040 (by decide) ?_
  refine lv_iadd C.1 C.2.1 dL_law_1041 ?_
  refine va_sld C.1 C.2.1 hX hbl hbA hw.2.2 (zvin 1 hi hL (by decide)) dL_law_1042 ?_
  refine lv_aload_n C.1 C.2.1 dL_law_1043 rfl (lv_at hl 0 rfl) ?_
  refine lv_iload C.1 C.2.1 dL_law_1044 (lv_at hl 4 rfl) ?_
  refine lv_iconst (v := nI 2) C.1 C.2.1 dL_law_1046 (by decide) ?_
  refine lv_iadd C.1 C.2.1 dL_law_1047 ?_
  refine va_sld C.1 C.2.1 hX hbl hbA hw.2.2 (zvin 2 hi hL (by decide)) dL_law_1048 ?_
  refine lv_aload_n C.1 C.2.1 dL_law_1049 rfl (lv_at hl 0 rfl) ?_
  refine lv_iload C.1 C.2.1 dL_law_1050 (lv_at hl 4 rfl) ?_
  refine lv_iconst (v := nI 3) C.1 C.2.1 dL_law_1052 (by decide) ?_
  refine lv_iadd C.1 C.2.1 dL_law_1053 ?_
  refine va_sld C.1 C.2.1 hX hbl hbA hw.2.2 (zvin 3 hi hL (by decide)) dL_law_1054 ?_
  refine lv_aload_n C.1 C.2.1 dL_law_1055 rfl (lv_at hl 3 rfl) ?_
  refine sh_LH (As := [.ref (G.2.1 0), .int (xs (nI i + nI 1).toNatClampNeg), .int (xs (nI i + nI 2).toNatClampNeg), .int (xs (nI i + nI 3).toNatClampNeg), .ref (G.2.1 162)]) (rest := []) C hNq hw (kL_row l hst (xs (nI i + nI 1).toNatClampNeg) (xs (nI i + nI 2).toNatClampNeg) (xs (nI i + nI 3).toNatClampNeg)) yh_L_row ml_L_155 f1 rfl rfl rfl (Nat.le_of_ble_eq_true rfl) ⟨by decide, by decide⟩ (by omega) (by omega) hl.1 dL_law_1056 (fun H locs hw => ?_)
  refine W.widen (k := cells + 2) (n := slots + 12) (by omega) (by omega) ?_
  refine lv_istore C.1 C.2.1 dL_law_1059 hl (by decide) rfl (fun ls hl => ?_)
  refine lv_aload_n C.1 C.2.1 dL_law_1061 rfl (lv_at hl 3 rfl) ?_
  refine lv_aload_n C.1 C.2.1 dL_law_1062 rfl (lv_at hl 1 rfl) ?_
  refine lv_iload C.1 C.2.1 dL_law_1063 (lv_at hl 5 rfl) ?_
  refine lv_iconst (v := nI 1) C.1 C.2.1 dL_law_1065 (by decide) ?_
  refine lv_iadd C.1 C.2.1 dL_law_1066 ?_
  refine va_sld C.1 C.2.1 hX hbl hbA hw.2.2 (zvin 1 hi hL (by decide)) dL_law_1067 ?_
  refine lv_aload_n C.1 C.2.1 dL_law_1068 rfl (lv_at hl 1 rfl) ?_
  refine lv_iload C.1 C.2.1 dL_law_1069 (lv_at hl 5 rfl) ?_
  refine lv_iconst (v := nI 2) C.1 C.2.1 dL_law_1071 (by decide) ?_
  refine lv_iadd C.1 C.2.1 dL_law_1072 ?_
  refine va_sld C.1 C.2.1 hX hbl hbA hw.2.2 (zvin 2 hi hL (by decide)) dL_law_1073 ?_
  refine lv_aload_n C.1 C.2.1 dL_law_1074 rfl (lv_at hl 1 rfl) ?_
  refine lv_iload C.1 C.2.1 dL_law_1075 (lv_at hl 5 rfl) ?_
  refine lv_iconst (v := nI 3) C.1 C.2.1 dL_law_1077 (by decide) ?_
  refine lv_iadd C.1 C.2.1 dL_law_1078 ?_
  refine va_sld C.1 C.2.1 hX hbl hbA hw.2.2 (zvin 3 hi hL (by decide)) dL_law_1079 ?_
  refine sh_LVi (As := [.int (xs (nI i + nI 1).toNatClampNeg), .int (xs (nI i + nI 2).toNatClampNeg), .int (xs (nI i + nI 3).toNatClampNeg)]) (rest := []) C hw (sh_Mi_up sub_M (kX13_row l (xs (nI i + nI 1).toNatClampNeg) (xs (nI i + nI 2).toNatClampNeg) (xs (nI i + nI 3).toNatClampNeg))) yy_X13_row yv_X13_row ml_L_157 f2 tbL_140 rfl rfl rfl rfl (Nat.le_of_ble_eq_true rfl) ⟨by decide, by decide⟩ hkc hks hl.1 dL_law_1080 (fun H locs hw => ?_)
  refine lv_istore C.1 C.2.1 dL_law_1083 hl (by decide) rfl (fun ls hl => ?_)
  refine lv_aload_n C.1 C.2.1 dL_law_1085 rfl (lv_at hl 4 rfl) ?_
  refine sh_LVi (As := []) (rest := []) C hw (sh_Mi_up sub_M (kX13_thrown l)) yy_X13_thrown yv_X13_thrown ml_L_105 (zthr SL2) tbL_140 rfl rfl rfl rfl (Nat.le_of_ble_eq_true rfl) ⟨by decide, by decide⟩ hkc hks hl.1 dL_law_1086 (fun H locs hw => ?_)
  refine lv_iload C.1 C.2.1 dL_law_1089 (lv_at hl 1 rfl) ?_
  refine lv_icmp_eq (tgt := 1096) C.1 C.2.1 dL_law_1091 (by decide) (fun _ => ?_) (fun w => absurd f3 w)
  refine lv_iload C.1 C.2.1 dL_law_1096 (lv_at hl 1 rfl) ?_
  have hend : W p l e room_1 s m #[Value.ref b] below meth c H locs (cells + 2) (slots + 12) Q (F0 m 1113 ls []) := lv_goto (tgt := 1653) C.1 C.2.1 dL_law_1113 (by decide) (kk SL2 H locs ls f5 hw (lv_sub hl [2, 3, 4, 5, 6] rfl))
  refine lv_if_ne (tgt := 1113) C.1 C.2.1 dL_law_1098 (by decide) (fun _ => hend) (fun hz => ?_)
  refine lv_aload_n C.1 C.2.1 dL_law_1101 rfl (lv_at hl 5 rfl) ?_
  refine lv_iconst (v := 0) C.1 C.2.1 dL_law_1102 (by decide) ?_
  refine sh_lald (β := Unit) (k := some ()) (res := ()) C hw rfl tbL_o dL_law_1103 (fun _ => ?_)
  refine lv_iload C.1 C.2.1 dL_law_1104 (lv_at hl 0 rfl) ?_
  refine lv_i2l (v := r.toInt64) C.1 C.2.1 dL_law_1106 rfl ?_
  refine sh_lcmp_eq (β := Unit) (k1 := some ()) (k2 := none) (res := ()) (tgt := 1113) C (if_pos (f4 hz)) dL_law_1107 dL_law_1108 (by decide) (fun _ => hend) (fun w => nomatch w)
theorem ml_L_158 : Cond.methodLink RL 158 yX12_leaf ∈ sh_ws := sh_t2 (i := 177) (by decide +kernel) (by decide +kernel)
theorem ml_L_161 : Cond.methodLink RL 161 yX13_leaf ∈ sh_ws := sh_t8 (i := 45) (by decide +kernel) (by decide +kernel)
set_option maxRecDepth 100000 in
set_option maxHeartbeats 4000000 in
theorem wL_18 {p : Program} {l : Launch} {e : Env} {s : State} {m : MethodId} {below : List Frame} {meth : Method} {c : Code} {G : sh_Ev} {Q : State → Prop} {b L : Nat} {xs : Nat → Int32} (hst : l.stackTraces = false) (C : sh_Cx p s m #[Value.ref b] meth c cL_law 7 RL G (fun q : Nat => s.heap.size ≤ q)) (hNq : sh_Nq s) (hX : va_X b L xs s s.heap) (hbl : b < s.heap.size) {i : Nat} (hi : i + 6 ≤ L) (hL : L ≤ 3072) {SL : sh_St} (hR : zLR SL) {H : Heap} {locs : List Loc} {ls : Array Slot} {cells slots : Nat} (hw : sh_Wx G tbL (fun q : Nat => s.heap.size ≤ q) s H locs SL) (hl : lv_has ls 7 [(0, .ref b), (1, .ref (G.2.1 0)), (2, .ref (G.2.1 140)), (3, .ref (G.2.1 162)), (4, .int (nI i))]) (hkc : cells + 2 ≤ room_1.cells) (hks : slots + 12 ≤ room_1.slots)
    (kk : ∀ (SL' : sh_St) (H1 : Heap) (locs1 : List Loc) (ls' : Array Slot), zLR SL' → sh_Wx G tbL (fun q : Nat => s.heap.size ≤ q) s H1 locs1 SL' → lv_has ls' 7 [(0, .ref b), (1, .ref (G.2.1 0)), (2, .ref (G.2.1 140)), (3, .ref (G.2.1 162)), (4, .int (nI i))] → W p l e room_1 s m #[Value.ref b] below meth c H1 locs1 (cells + 2) (slots + 12) Q (F0 m 1653 ls' [])) : W p l e room_1 s m #[Value.ref b] below meth c H locs cells slots Q (F0 m 1116 ls []) := by
  have hbA : ¬ (fun q : Nat => s.heap.size ≤ q) b := Nat.not_le.mpr hbl
  obtain ⟨r, SL1, SL2, f1, f2, f5⟩ := zL_leaf hR (xs (nI i + nI 1).toNatClampNeg)
  refine lv_aload_n C.1 C.2.1 dL_law_1116 rfl (lv_at hl 1 rfl) ?_
  refine lv_aload_n C.1 C.2.1 dL_law_1117 rfl (lv_at hl 0 rfl) ?_
  refine lv_iload C.1 C.2.1 dL_law_1118 (lv_at hl 4 rfl) ?_
  refine lv_iconst (v := nI 1) C.1 C.2.1 dL_law_1120 (by decide) ?_
  refine lv_iadd C.1 C.2.1 dL_law_1121 ?_
  refine va_sld C.1 C.2.1 hX hbl hbA hw.2.2 (zvin 1 hi hL (by decide)) dL_law_1122 ?_
  refine sh_LVi (As := [.int (xs (nI i + nI 1).toNatClampNeg)]) (rest := []) C hw (sh_Mi_up sub_X (kX12_leaf l (xs (nI i + nI 1).toNatClampNeg))) yy_X12_leaf yv_X12_leaf ml_L_158 f1 tbL_0 rfl rfl rfl rfl (Nat.le_of_ble_eq_true rfl) ⟨by decide, by decide⟩ (by omega) (by omega) hl.1 dL_law_1123 (fun H locs hw => ?_)
  refine lv_aload_n C.1 C.2.1 dL_law_1126 rfl (lv_at hl 2 rfl) ?_
  refine lv_aload_n C.1 C.2.1 dL_law_1127 rfl (lv_at hl 0 rfl) ?_
  refine lv_iload C.1 C.2.1 dL_law_1128 (lv_at hl 4 rfl) ?_
  refine lv_iconst (v := nI 1) C.1 C.2.1 dL_law_1130 (by decide) ?_
  refine lv_iadd C.1 C.2.1 dL_law_1131 ?_
  refine va_sld C.1 C.2.1 hX hbl hbA hw.2.2 (zvin 1 hi hL (by decide)) dL_law_1132 ?_
  refine sh_LVi (As := [.int (xs (nI i + nI 1).toNatClampNeg)]) (rest := [.int r]) C hw (sh_Mi_up sub_M (kX13_leaf l (xs (nI i + nI 1).toNatClampNeg))) yy_X13_leaf yv_X13_leaf ml_L_161 f2 tbL_140 rfl rfl rfl rfl (Nat.le_of_ble_eq_true rfl) ⟨by decide, by decide⟩ (by omega) (by omega) hl.1 dL_law_1133 (fun H locs hw => ?_)
  refine W.widen (k := cells + 2) (n := slots + 12) (by omega) (by omega) ?_
  exact lv_icmp_eq (tgt := 1653) C.1 C.2.1 dL_law_1136 (by decide) (fun _ => kk SL2 H locs ls f5 hw hl) (fun w => absurd rfl w)
theorem yh_L_shape : sh_YH yL_shape cL_shape 4 [(0, 9, 12, 34)] 3 := ⟨sh_t1 (i := 0) (by decide +kernel) (by decide +kernel), sh_t5 (i := 154) (by decide +kernel) (by decide +kernel), sh_t5 (i := 153) (by decide +kernel) (by decide +kernel), by decide, by decide +kernel⟩
theorem ml_L_162 : Cond.methodLink RL 162 yL_shape ∈ sh_ws := sh_t5 (i := 152) (by decide +kernel) (by decide +kernel)
theorem ml_L_164 : Cond.methodLink RL 164 yX13_shape ∈ sh_ws := sh_t8 (i := 49) (by decide +kernel) (by decide +kernel)
set_option maxRecDepth 100000 in
set_option maxHeartbeats 4000000 in
theorem wL_19 {p : Program} {l : Launch} {e : Env} {s : State} {m : MethodId} {below : List Frame} {meth : Method} {c : Code} {G : sh_Ev} {Q : State → Prop} {b L : Nat} {xs : Nat → Int32} (hst : l.stackTraces = false) (C : sh_Cx p s m #[Value.ref b] meth c cL_law 7 RL G (fun q : Nat => s.heap.size ≤ q)) (hNq : sh_Nq s) (hX : va_X b L xs s s.heap) (hbl : b < s.heap.size) {i : Nat} (hi : i + 6 ≤ L) (hL : L ≤ 3072) {SL : sh_St} (hR : zLR SL) {H : Heap} {locs : List Loc} {ls : Array Slot} {cells slots : Nat} (hw : sh_Wx G tbL (fun q : Nat => s.heap.size ≤ q) s H locs SL) (hl : lv_has ls 7 [(0, .ref b), (1, .ref (G.2.1 0)), (2, .ref (G.2.1 140)), (3, .ref (G.2.1 162)), (4, .int (nI i))]) (hkc : cells + 2 ≤ room_1.cells) (hks : slots + 12 ≤ room_1.slots)
    (kk : ∀ (SL' : sh_St) (H1 : Heap) (locs1 : List Loc) (ls' : Array Slot), zLR SL' → sh_Wx G tbL (fun q : Nat => s.heap.size ≤ q) s H1 locs1 SL' → lv_has ls' 7 [(0, .ref b), (1, .ref (G.2.1 0)), (2, .ref (G.2.1 140)), (3, .ref (G.2.1 162)), (4, .int (nI i))] → W p l e room_1 s m #[Value.ref b] below meth c H1 locs1 (cells + 2) (slots + 12) Q (F0 m 1653 ls' [])) : W p l e room_1 s m #[Value.ref b] below meth c H locs cells slots Q (F0 m 1141 ls []) := by
  have hbA : ¬ (fun q : Nat => s.heap.size ≤ q) b := Nat.not_le.mpr hbl
  obtain ⟨kq, SL1, r, SL2, f1, f2, f3, f4, f5⟩ := zL_shape hR (xs (nI i + nI 1).toNatClampNeg)
  refine lv_aload_n C.1 C.2.1 dL_law_1141 rfl (lv_at hl 1 rfl) ?_
  refine lv_aload_n C.1 C.2.1 dL_law_1142 rfl (lv_at hl 0 rfl) ?_
  refine lv_iload C.1 C.2.1 dL_law_1143 (lv_at hl 4 rfl) ?_
  refine lv_iconst (v := nI 1) C.1 C.2.1 dL_law_1145 (by decide) ?_
  refine lv_iadd C.1 C.2.1 dL_law_1146 ?_
  refine va_sld C.1 C.2.1 hX hbl hbA hw.2.2 (zvin 1 hi hL (by decide)) dL_law_1147 ?_
  refine lv_aload_n C.1 C.2.1 dL_law_1148 rfl (lv_at hl 3 rfl) ?_
  refine sh_LH (As := [.ref (G.2.1 0), .int (xs (nI i + nI 1).toNatClampNeg), .ref (G.2.1 162)]) (rest := []) C hNq hw (kL_shape l hst (xs (nI i + nI 1).toNatClampNeg)) yh_L_shape ml_L_162 f1 rfl rfl rfl (Nat.le_of_ble_eq_true rfl) ⟨by decide, by decide⟩ (by omega) (by omega) hl.1 dL_law_1149 (fun H locs hw => ?_)
  refine W.widen (k := cells + 2) (n := slots + 12) (by omega) (by omega) ?_
  refine lv_istore C.1 C.2.1 dL_law_1152 hl (by decide) rfl (fun ls hl => ?_)
  refine lv_aload_n C.1 C.2.1 dL_law_1154 rfl (lv_at hl 3 rfl) ?_
  refine lv_aload_n C.1 C.2.1 dL_law_1155 rfl (lv_at hl 1 rfl) ?_
  refine lv_iload C.1 C.2.1 dL_law_1156 (lv_at hl 5 rfl) ?_
  refine lv_iconst (v := nI 1) C.1 C.2.1 dL_law_1158 (by decide) ?_
  refine lv_iadd C.1 C.2.1 dL_law_1159 ?_
  refine va_sld C.1 C.2.1 hX hbl hbA hw.2.2 (zvin 1 hi hL (by decide)) dL_law_1160 ?_
  refine sh_LVi (As := [.int (xs (nI i + nI 1).toNatClampNeg)]) (rest := []) C hw (sh_Mi_up sub_M (kX13_shape l (xs (nI i + nI 1).toNatClampNeg))) yy_X13_shape yv_X13_shape ml_L_164 f2 tbL_140 rfl rfl rfl rfl (Nat.le_of_ble_eq_true rfl) ⟨by decide, by decide⟩ hkc hks hl.1 dL_law_1161 (fun H locs hw => ?_)
  refine lv_istore C.1 C.2.1 dL_law_1164 hl (by decide) rfl (fun ls hl => ?_)
  refine lv_aload_n C.1 C.2.1 dL_law_1166 rfl (lv_at hl 4 rfl) ?_
  refine sh_LVi (As := []) (rest := []) C hw (sh_Mi_up sub_M (kX13_thrown l)) yy_X13_thrown yv_X13_thrown ml_L_105 (zthr SL2) tbL_140 rfl rfl rfl rfl (Nat.le_of_ble_eq_true rfl) ⟨by decide, by decide⟩ hkc hks hl.1 dL_law_1167 (fun H locs hw => ?_)
  refine lv_iload C.1 C.2.1 dL_law_1170 (lv_at hl 1 rfl) ?_
  refine lv_icmp_eq (tgt := 1177) C.1 C.2.1 dL_law_1172 (by decide) (fun _ => ?_) (fun w => absurd f3 w)
  refine lv_iload C.1 C.2.1 dL_law_1177 (lv_at hl 1 rfl) ?_
  have hend : W p l e room_1 s m #[Value.ref b] below meth c H locs (cells + 2) (slots + 12) Q (F0 m 1194 ls []) := lv_goto (tgt := 1653) C.1 C.2.1 dL_law_1194 (by decide) (kk SL2 H locs ls f5 hw (lv_sub hl [2, 3, 4, 5, 6] rfl))
  refine lv_if_ne (tgt := 1194) C.1 C.2.1 dL_law_1179 (by decide) (fun _ => hend) (fun hz => ?_)
  refine lv_aload_n C.1 C.2.1 dL_law_1182 rfl (lv_at hl 5 rfl) ?_
  refine lv_iconst (v := 0) C.1 C.2.1 dL_law_1183 (by decide) ?_
  refine sh_lald (β := Unit) (k := some ()) (res := ()) C hw rfl tbL_o dL_law_1184 (fun _ => ?_)
  refine lv_iload C.1 C.2.1 dL_law_1185 (lv_at hl 0 rfl) ?_
  refine lv_i2l (v := r.toInt64) C.1 C.2.1 dL_law_1187 rfl ?_
  refine sh_lcmp_eq (β := Unit) (k1 := some ()) (k2 := none) (res := ()) (tgt := 1194) C (if_pos (f4 hz)) dL_law_1188 dL_law_1189 (by decide) (fun _ => hend) (fun w => nomatch w)
theorem yh_L_crowds : sh_YH yL_crowds cL_crowds 4 [(0, 9, 12, 13)] 3 := ⟨sh_t1 (i := 0) (by decide +kernel) (by decide +kernel), sh_t5 (i := 207) (by decide +kernel) (by decide +kernel), sh_t5 (i := 206) (by decide +kernel) (by decide +kernel), by decide, by decide +kernel⟩
theorem ml_L_165 : Cond.methodLink RL 165 yL_crowds ∈ sh_ws := sh_t5 (i := 205) (by decide +kernel) (by decide +kernel)
theorem ml_L_167 : Cond.methodLink RL 167 yX13_crowds ∈ sh_ws := sh_t8 (i := 84) (by decide +kernel) (by decide +kernel)
set_option maxRecDepth 100000 in
set_option maxHeartbeats 4000000 in
theorem wL_20 {p : Program} {l : Launch} {e : Env} {s : State} {m : MethodId} {below : List Frame} {meth : Method} {c : Code} {G : sh_Ev} {Q : State → Prop} {b L : Nat} {xs : Nat → Int32} (hst : l.stackTraces = false) (C : sh_Cx p s m #[Value.ref b] meth c cL_law 7 RL G (fun q : Nat => s.heap.size ≤ q)) (hNq : sh_Nq s) (hX : va_X b L xs s s.heap) (hbl : b < s.heap.size) {i : Nat} (hi : i + 6 ≤ L) (hL : L ≤ 3072) {SL : sh_St} (hR : zLR SL) {H : Heap} {locs : List Loc} {ls : Array Slot} {cells slots : Nat} (hw : sh_Wx G tbL (fun q : Nat => s.heap.size ≤ q) s H locs SL) (hl : lv_has ls 7 [(0, .ref b), (1, .ref (G.2.1 0)), (2, .ref (G.2.1 140)), (3, .ref (G.2.1 162)), (4, .int (nI i))]) (hkc : cells + 2 ≤ room_1.cells) (hks : slots + 12 ≤ room_1.slots)
    (kk : ∀ (SL' : sh_St) (H1 : Heap) (locs1 : List Loc) (ls' : Array Slot), zLR SL' → sh_Wx G tbL (fun q : Nat => s.heap.size ≤ q) s H1 locs1 SL' → lv_has ls' 7 [(0, .ref b), (1, .ref (G.2.1 0)), (2, .ref (G.2.1 140)), (3, .ref (G.2.1 162)), (4, .int (nI i))] → W p l e room_1 s m #[Value.ref b] below meth c H1 locs1 (cells + 2) (slots + 12) Q (F0 m 1653 ls' [])) : W p l e room_1 s m #[Value.ref b] below meth c H locs cells slots Q (F0 m 1197 ls []) := by
  have hbA : ¬ (fun q : Nat => s.heap.size ≤ q) b := Nat.not_le.mpr hbl
  obtain ⟨kq, SL1, r, SL2, f1, f2, f3, f4, f5⟩ := zL_crowds hR (xs (nI i + nI 1).toNatClampNeg)
  refine lv_aload_n C.1 C.2.1 dL_law_1197 rfl (lv_at hl 1 rfl) ?_
  refine lv_aload_n C.1 C.2.1 dL_law_1198 rfl (lv_at hl 0 rfl) ?_
  refine lv_iload C.1 C.2.1 dL_law_1199 (lv_at hl 4 rfl) ?_
  refine lv_iconst (v := nI 1) C.1 C.2.1 dL_law_1201 (by decide) ?_
  refine lv_iadd C.1 C.2.1 dL_law_1202 ?_
  refine va_sld C.1 C.2.1 hX hbl hbA hw.2.2 (zvin 1 hi hL (by decide)) dL_law_1203 ?_
  refine lv_aload_n C.1 C.2.1 dL_law_1204 rfl (lv_at hl 3 rfl) ?_
  refine sh_LH (As := [.ref (G.2.1 0), .int (xs (nI i + nI 1).toNatClampNeg), .ref (G.2.1 162)]) (rest := []) C hNq hw (kL_crowds l hst (xs (nI i + nI 1).toNatClampNeg)) yh_L_crowds ml_L_165 f1 rfl rfl rfl (Nat.le_of_ble_eq_true rfl) ⟨by decide, by decide⟩ (by omega) (by omega) hl.1 dL_law_1205 (fun H locs hw => ?_)
  refine W.widen (k := cells + 2) (n := slots + 12) (by omega) (by omega) ?_
  refine lv_istore C.1 C.2.1 dL_law_1208 hl (by decide) rfl (fun ls hl => ?_)
  refine lv_aload_n C.1 C.2.1 dL_law_1210 rfl (lv_at hl 3 rfl) ?_
  refine lv_aload_n C.1 C.2.1 dL_law_1211 rfl (lv_at hl 1 rfl) ?_
  refine lv_iload C.1 C.2.1 dL_law_1212 (lv_at hl 5 rfl) ?_
  refine lv_iconst (v := nI 1) C.1 C.2.1 dL_law_1214 (by decide) ?_
  refine lv_iadd C.1 C.2.1 dL_law_1215 ?_
  refine va_sld C.1 C.2.1 hX hbl hbA hw.2.2 (zvin 1 hi hL (by decide)) dL_law_1216 ?_
  refine sh_LVi (As := [.int (xs (nI i + nI 1).toNatClampNeg)]) (rest := []) C hw (sh_Mi_up sub_M (kX13_crowds l (xs (nI i + nI 1).toNatClampNeg))) yy_X13_crowds yv_X13_crowds ml_L_167 f2 tbL_140 rfl rfl rfl rfl (Nat.le_of_ble_eq_true rfl) ⟨by decide, by decide⟩ hkc hks hl.1 dL_law_1217 (fun H locs hw => ?_)
  refine lv_istore C.1 C.2.1 dL_law_1220 hl (by decide) rfl (fun ls hl => ?_)
  refine lv_aload_n C.1 C.2.1 dL_law_1222 rfl (lv_at hl 4 rfl) ?_
  refine sh_LVi (As := []) (rest := []) C hw (sh_Mi_up sub_M (kX13_thrown l)) yy_X13_thrown yv_X13_thrown ml_L_105 (zthr SL2) tbL_140 rfl rfl rfl rfl (Nat.le_of_ble_eq_true rfl) ⟨by decide, by decide⟩ hkc hks hl.1 dL_law_1223 (fun H locs hw => ?_)
  refine lv_iload C.1 C.2.1 dL_law_1226 (lv_at hl 1 rfl) ?_
  refine lv_icmp_eq (tgt := 1233) C.1 C.2.1 dL_law_1228 (by decide) (fun _ => ?_) (fun w => absurd f3 w)
  refine lv_iload C.1 C.2.1 dL_law_1233 (lv_at hl 1 rfl) ?_
  have hend : W p l e room_1 s m #[Value.ref b] below meth c H locs (cells + 2) (slots + 12) Q (F0 m 1250 ls []) := lv_goto (tgt := 1653) C.1 C.2.1 dL_law_1250 (by decide) (kk SL2 H locs ls f5 hw (lv_sub hl [2, 3, 4, 5, 6] rfl))
  refine lv_if_ne (tgt := 1250) C.1 C.2.1 dL_law_1235 (by decide) (fun _ => hend) (fun hz => ?_)
  refine lv_aload_n C.1 C.2.1 dL_law_1238 rfl (lv_at hl 5 rfl) ?_
  refine lv_iconst (v := 0) C.1 C.2.1 dL_law_1239 (by decide) ?_
  refine sh_lald (β := Unit) (k := some ()) (res := ()) C hw rfl tbL_o dL_law_1240 (fun _ => ?_)
  refine lv_iload C.1 C.2.1 dL_law_1241 (lv_at hl 0 rfl) ?_
  refine lv_i2l (v := r.toInt64) C.1 C.2.1 dL_law_1243 rfl ?_
  refine sh_lcmp_eq (β := Unit) (k1 := some ()) (k2 := none) (res := ()) (tgt := 1250) C (if_pos (f4 hz)) dL_law_1244 dL_law_1245 (by decide) (fun _ => hend) (fun w => nomatch w)
theorem yh_L_best : sh_YH yL_best cL_best 5 [(0, 10, 13, 13)] 4 := ⟨sh_t1 (i := 0) (by decide +kernel) (by decide +kernel), sh_t5 (i := 219) (by decide +kernel) (by decide +kernel), sh_t5 (i := 218) (by decide +kernel) (by decide +kernel), by decide, by decide +kernel⟩
theorem ml_L_168 : Cond.methodLink RL 168 yL_best ∈ sh_ws := sh_t5 (i := 217) (by decide +kernel) (by decide +kernel)
theorem ml_L_170 : Cond.methodLink RL 170 yX13_best ∈ sh_ws := sh_t8 (i := 88) (by decide +kernel) (by decide +kernel)
set_option maxRecDepth 100000 in
set_option maxHeartbeats 4000000 in
theorem wL_21 {p : Program} {l : Launch} {e : Env} {s : State} {m : MethodId} {below : List Frame} {meth : Method} {c : Code} {G : sh_Ev} {Q : State → Prop} {b L : Nat} {xs : Nat → Int32} (hst : l.stackTraces = false) (C : sh_Cx p s m #[Value.ref b] meth c cL_law 7 RL G (fun q : Nat => s.heap.size ≤ q)) (hNq : sh_Nq s) (hX : va_X b L xs s s.heap) (hbl : b < s.heap.size) {i : Nat} (hi : i + 6 ≤ L) (hL : L ≤ 3072) {SL : sh_St} (hR : zLR SL) {H : Heap} {locs : List Loc} {ls : Array Slot} {cells slots : Nat} (hw : sh_Wx G tbL (fun q : Nat => s.heap.size ≤ q) s H locs SL) (hl : lv_has ls 7 [(0, .ref b), (1, .ref (G.2.1 0)), (2, .ref (G.2.1 140)), (3, .ref (G.2.1 162)), (4, .int (nI i))]) (hkc : cells + 2 ≤ room_1.cells) (hks : slots + 12 ≤ room_1.slots)
    (kk : ∀ (SL' : sh_St) (H1 : Heap) (locs1 : List Loc) (ls' : Array Slot), zLR SL' → sh_Wx G tbL (fun q : Nat => s.heap.size ≤ q) s H1 locs1 SL' → lv_has ls' 7 [(0, .ref b), (1, .ref (G.2.1 0)), (2, .ref (G.2.1 140)), (3, .ref (G.2.1 162)), (4, .int (nI i))] → W p l e room_1 s m #[Value.ref b] below meth c H1 locs1 (cells + 2) (slots + 12) Q (F0 m 1653 ls' [])) : W p l e room_1 s m #[Value.ref b] below meth c H locs cells slots Q (F0 m 1253 ls []) := by
  have hbA : ¬ (fun q : Nat => s.heap.size ≤ q) b := Nat.not_le.mpr hbl
  obtain ⟨kq, SL1, r, SL2, f1, f2, f3, f4, f5⟩ := zL_best hR (xs (nI i + nI 1).toNatClampNeg) (xs (nI i + nI 2).toNatClampNeg)
  refine lv_aload_n C.1 C.2.1 dL_law_1253 rfl (lv_at hl 1 rfl) ?_
  refine lv_aload_n C.1 C.2.1 dL_law_1254 rfl (lv_at hl 0 rfl) ?_
  refine lv_iload C.1 C.2.1 dL_law_1255 (lv_at hl 4 rfl) ?_
  refine lv_iconst (v := nI 1) C.1 C.2.1 dL_law_1257 (by decide) ?_
  refine lv_iadd C.1 C.2.1 dL_law_1258 ?_
  refine va_sld C.1 C.2.1 hX hbl hbA hw.2.2 (zvin 1 hi hL (by decide)) dL_law_1259 ?_
  refine lv_aload_n C.1 C.2.1 dL_law_1260 rfl (lv_at hl 0 rfl) ?_
  refine lv_iload C.1 C.2.1 dL_law_1261 (lv_at hl 4 rfl) ?_
  refine lv_iconst (v := nI 2) C.1 C.2.1 dL_law_1263 (by decide) ?_
  refine lv_iadd C.1 C.2.1 dL_law_1264 ?_
  refine va_sld C.1 C.2.1 hX hbl hbA hw.2.2 (zvin 2 hi hL (by decide)) dL_law_1265 ?_
  refine lv_aload_n C.1 C.2.1 dL_law_1266 rfl (lv_at hl 3 rfl) ?_
  refine sh_LH (As := [.ref (G.2.1 0), .int (xs (nI i + nI 1).toNatClampNeg), .int (xs (nI i + nI 2).toNatClampNeg), .ref (G.2.1 162)]) (rest := []) C hNq hw (kL_best l hst (xs (nI i + nI 1).toNatClampNeg) (xs (nI i + nI 2).toNatClampNeg)) yh_L_best ml_L_168 f1 rfl rfl rfl (Nat.le_of_ble_eq_true rfl) ⟨by decide, by decide⟩ (by omega) (by omega) hl.1 dL_law_1267 (fun H locs hw => ?_)
  refine W.widen (k := cells + 2) (n := slots + 12) (by omega) (by omega) ?_
  refine lv_istore C.1 C.2.1 dL_law_1270 hl (by decide) rfl (fun ls hl => ?_)
  refine lv_aload_n C.1 C.2.1 dL_law_1272 rfl (lv_at hl 3 rfl) ?_
  refine lv_aload_n C.1 C.2.1 dL_law_1273 rfl (lv_at hl 1 rfl) ?_
  refine lv_iload C.1 C.2.1 dL_law_1274 (lv_at hl 5 rfl) ?_
  refine lv_iconst (v := nI 1) C.1 C.2.1 dL_law_1276 (by decide) ?_
  refine lv_iadd C.1 C.2.1 dL_law_1277 ?_
  refine va_sld C.1 C.2.1 hX hbl hbA hw.2.2 (zvin 1 hi hL (by decide)) dL_law_1278 ?_
  refine lv_aload_n C.1 C.2.1 dL_law_1279 rfl (lv_at hl 1 rfl) ?_
  refine lv_iload C.1 C.2.1 dL_law_1280 (lv_at hl 5 rfl) ?_
  refine lv_iconst (v := nI 2) C.1 C.2.1 dL_law_1282 (by decide) ?_
  refine lv_iadd C.1 C.2.1 dL_law_1283 ?_
  refine va_sld C.1 C.2.1 hX hbl hbA hw.2.2 (zvin 2 hi hL (by decide)) dL_law_1284 ?_
  refine sh_LVi (As := [.int (xs (nI i + nI 1).toNatClampNeg), .int (xs (nI i + nI 2).toNatClampNeg)]) (rest := []) C hw (sh_Mi_up sub_M (kX13_best l (xs (nI i + nI 1).toNatClampNeg) (xs (nI i + nI 2).toNatClampNeg))) yy_X13_best yv_X13_best ml_L_170 f2 tbL_140 rfl rfl rfl rfl (Nat.le_of_ble_eq_true rfl) ⟨by decide, by decide⟩ hkc hks hl.1 dL_law_1285 (fun H locs hw => ?_)
  refine lv_istore C.1 C.2.1 dL_law_1288 hl (by decide) rfl (fun ls hl => ?_)
  refine lv_aload_n C.1 C.2.1 dL_law_1290 rfl (lv_at hl 4 rfl) ?_
  refine sh_LVi (As := []) (rest := []) C hw (sh_Mi_up sub_M (kX13_thrown l)) yy_X13_thrown yv_X13_thrown ml_L_105 (zthr SL2) tbL_140 rfl rfl rfl rfl (Nat.le_of_ble_eq_true rfl) ⟨by decide, by decide⟩ hkc hks hl.1 dL_law_1291 (fun H locs hw => ?_)
  refine lv_iload C.1 C.2.1 dL_law_1294 (lv_at hl 1 rfl) ?_
  refine lv_icmp_eq (tgt := 1301) C.1 C.2.1 dL_law_1296 (by decide) (fun _ => ?_) (fun w => absurd f3 w)
  refine lv_iload C.1 C.2.1 dL_law_1301 (lv_at hl 1 rfl) ?_
  have hend : W p l e room_1 s m #[Value.ref b] below meth c H locs (cells + 2) (slots + 12) Q (F0 m 1318 ls []) := lv_goto (tgt := 1653) C.1 C.2.1 dL_law_1318 (by decide) (kk SL2 H locs ls f5 hw (lv_sub hl [2, 3, 4, 5, 6] rfl))
  refine lv_if_ne (tgt := 1318) C.1 C.2.1 dL_law_1303 (by decide) (fun _ => hend) (fun hz => ?_)
  refine lv_aload_n C.1 C.2.1 dL_law_1306 rfl (lv_at hl 5 rfl) ?_
  refine lv_iconst (v := 0) C.1 C.2.1 dL_law_1307 (by decide) ?_
  refine sh_lald (β := Unit) (k := some ()) (res := ()) C hw rfl tbL_o dL_law_1308 (fun _ => ?_)
  refine lv_iload C.1 C.2.1 dL_law_1309 (lv_at hl 0 rfl) ?_
  refine lv_i2l (v := r.toInt64) C.1 C.2.1 dL_law_1311 rfl ?_
  refine sh_lcmp_eq (β := Unit) (k1 := some ()) (k2 := none) (res := ()) (tgt := 1318) C (if_pos (f4 hz)) dL_law_1312 dL_law_1313 (by decide) (fun _ => hend) (fun w => nomatch w)
theorem yh_L_next : sh_YH yL_next cL_next 4 [(0, 9, 12, 39), (0, 9, 15, 19)] 3 := ⟨sh_t1 (i := 0) (by decide +kernel) (by decide +kernel), sh_t6 (i := 7) (by decide +kernel) (by decide +kernel), sh_t6 (i := 6) (by decide +kernel) (by decide +kernel), by decide, by decide +kernel⟩
theorem ml_L_175 : Cond.methodLink RL 175 yL_next ∈ sh_ws := sh_t6 (i := 5) (by decide +kernel) (by decide +kernel)
theorem ml_L_177 : Cond.methodLink RL 177 yX13_next ∈ sh_ws := sh_t8 (i := 99) (by decide +kernel) (by decide +kernel)
set_option maxRecDepth 100000 in
set_option maxHeartbeats 4000000 in
theorem wL_23 {p : Program} {l : Launch} {e : Env} {s : State} {m : MethodId} {below : List Frame} {meth : Method} {c : Code} {G : sh_Ev} {Q : State → Prop} {b L : Nat} {xs : Nat → Int32} (hst : l.stackTraces = false) (C : sh_Cx p s m #[Value.ref b] meth c cL_law 7 RL G (fun q : Nat => s.heap.size ≤ q)) (hNq : sh_Nq s) (hX : va_X b L xs s s.heap) (hbl : b < s.heap.size) {i : Nat} (hi : i + 6 ≤ L) (hL : L ≤ 3072) {SL : sh_St} (hR : zLR SL) {H : Heap} {locs : List Loc} {ls : Array Slot} {cells slots : Nat} (hw : sh_Wx G tbL (fun q : Nat => s.heap.size ≤ q) s H locs SL) (hl : lv_has ls 7 [(0, .ref b), (1, .ref (G.2.1 0)), (2, .ref (G.2.1 140)), (3, .ref (G.2.1 162)), (4, .int (nI i))]) (hkc : cells + 2 ≤ room_1.cells) (hks : slots + 12 ≤ room_1.slots)
    (kk : ∀ (SL' : sh_St) (H1 : Heap) (locs1 : List Loc) (ls' : Array Slot), zLR SL' → sh_Wx G tbL (fun q : Nat => s.heap.size ≤ q) s H1 locs1 SL' → lv_has ls' 7 [(0, .ref b), (1, .ref (G.2.1 0)), (2, .ref (G.2.1 140)), (3, .ref (G.2.1 162)), (4, .int (nI i))] → W p l e room_1 s m #[Value.ref b] below meth c H1 locs1 (cells + 2) (slots + 12) Q (F0 m 1653 ls' [])) : W p l e room_1 s m #[Value.ref b] below meth c H locs cells slots Q (F0 m 1412 ls []) := by
  have hbA : ¬ (fun q : Nat => s.heap.size ≤ q) b := Nat.not_le.mpr hbl
  obtain ⟨kq, SL1, r, SL2, f1, f2, f3, f4, f5⟩ := zL_next hR (xs (nI i + nI 1).toNatClampNeg)
  refine lv_aload_n C.1 C.2.1 dL_law_1412 rfl (lv_at hl 1 rfl) ?_
  refine lv_aload_n C.1 C.2.1 dL_law_1413 rfl (lv_at hl 0 rfl) ?_
  refine lv_iload C.1 C.2.1 dL_law_1414 (lv_at hl 4 rfl) ?_
  refine lv_iconst (v := nI 1) C.1 C.2.1 dL_law_1416 (by decide) ?_
  refine lv_iadd C.1 C.2.1 dL_law_1417 ?_
  refine va_sld C.1 C.2.1 hX hbl hbA hw.2.2 (zvin 1 hi hL (by decide)) dL_law_1418 ?_
  refine lv_aload_n C.1 C.2.1 dL_law_1419 rfl (lv_at hl 3 rfl) ?_
  refine sh_LH (As := [.ref (G.2.1 0), .int (xs (nI i + nI 1).toNatClampNeg), .ref (G.2.1 162)]) (rest := []) C hNq hw (kL_next l hst (xs (nI i + nI 1).toNatClampNeg)) yh_L_next ml_L_175 f1 rfl rfl rfl (Nat.le_of_ble_eq_true rfl) ⟨by decide, by decide⟩ (by omega) (by omega) hl.1 dL_law_1420 (fun H locs hw => ?_)
  refine W.widen (k := cells + 2) (n := slots + 12) (by omega) (by omega) ?_
  refine lv_istore C.1 C.2.1 dL_law_1423 hl (by decide) rfl (fun ls hl => ?_)
  refine lv_aload_n C.1 C.2.1 dL_law_1425 rfl (lv_at hl 3 rfl) ?_
  refine lv_aload_n C.1 C.2.1 dL_law_1426 rfl (lv_at hl 1 rfl) ?_
  refine lv_iload C.1 C.2.1 dL_law_1427 (lv_at hl 5 rfl) ?_
  refine lv_iconst (v := nI 1) C.1 C.2.1 dL_law_1429 (by decide) ?_
  refine lv_iadd C.1 C.2.1 dL_law_1430 ?_
  refine va_sld C.1 C.2.1 hX hbl hbA hw.2.2 (zvin 1 hi hL (by decide)) dL_law_1431 ?_
  refine sh_LVi (As := [.int (xs (nI i + nI 1).toNatClampNeg)]) (rest := []) C hw (sh_Mi_up sub_M (kX13_next l (xs (nI i + nI 1).toNatClampNeg))) yy_X13_next yv_X13_next ml_L_177 f2 tbL_140 rfl rfl rfl rfl (Nat.le_of_ble_eq_true rfl) ⟨by decide, by decide⟩ hkc hks hl.1 dL_law_1432 (fun H locs hw => ?_)
  refine lv_istore C.1 C.2.1 dL_law_1435 hl (by decide) rfl (fun ls hl => ?_)
  refine lv_aload_n C.1 C.2.1 dL_law_1437 rfl (lv_at hl 4 rfl) ?_
  refine sh_LVi (As := []) (rest := []) C hw (sh_Mi_up sub_M (kX13_thrown l)) yy_X13_thrown yv_X13_thrown ml_L_105 (zthr SL2) tbL_140 rfl rfl rfl rfl (Nat.le_of_ble_eq_true rfl) ⟨by decide, by decide⟩ hkc hks hl.1 dL_law_1438 (fun H locs hw => ?_)
  refine lv_iload C.1 C.2.1 dL_law_1441 (lv_at hl 1 rfl) ?_
  refine lv_icmp_eq (tgt := 1448) C.1 C.2.1 dL_law_1443 (by decide) (fun _ => ?_) (fun w => absurd f3 w)
  refine lv_iload C.1 C.2.1 dL_law_1448 (lv_at hl 1 rfl) ?_
  have hend : W p l e room_1 s m #[Value.ref b] below meth c H locs (cells + 2) (slots + 12) Q (F0 m 1465 ls []) := lv_goto (tgt := 1653) C.1 C.2.1 dL_law_1465 (by decide) (kk SL2 H locs ls f5 hw (lv_sub hl [2, 3, 4, 5, 6] rfl))
  refine lv_if_ne (tgt := 1465) C.1 C.2.1 dL_law_1450 (by decide) (fun _ => hend) (fun hz => ?_)
  refine lv_aload_n C.1 C.2.1 dL_law_1453 rfl (lv_at hl 5 rfl) ?_
  refine lv_iconst (v := 0) C.1 C.2.1 dL_law_1454 (by decide) ?_
  refine sh_lald (β := Unit) (k := some ()) (res := ()) C hw rfl tbL_o dL_law_1455 (fun _ => ?_)
  refine lv_iload C.1 C.2.1 dL_law_1456 (lv_at hl 0 rfl) ?_
  refine lv_i2l (v := r.toInt64) C.1 C.2.1 dL_law_1458 rfl ?_
  refine sh_lcmp_eq (β := Unit) (k1 := some ()) (k2 := none) (res := ()) (tgt := 1465) C (if_pos (f4 hz)) dL_law_1459 dL_law_1460 (by decide) (fun _ => hend) (fun w => nomatch w)
theorem yh_L_reader : sh_YH yL_reader cL_reader 5 [(0, 10, 13, 39), (0, 10, 17, 34)] 4 := ⟨sh_t1 (i := 0) (by decide +kernel) (by decide +kernel), sh_t6 (i := 28) (by decide +kernel) (by decide +kernel), sh_t6 (i := 27) (by decide +kernel) (by decide +kernel), by decide, by decide +kernel⟩
theorem ml_L_178 : Cond.methodLink RL 178 yL_reader ∈ sh_ws := sh_t6 (i := 26) (by decide +kernel) (by decide +kernel)
theorem ml_L_180 : Cond.methodLink RL 180 yX13_reader ∈ sh_ws := sh_t8 (i := 103) (by decide +kernel) (by decide +kernel)
set_option maxRecDepth 100000 in
set_option maxHeartbeats 4000000 in
theorem wL_24 {p : Program} {l : Launch} {e : Env} {s : State} {m : MethodId} {below : List Frame} {meth : Method} {c : Code} {G : sh_Ev} {Q : State → Prop} {b L : Nat} {xs : Nat → Int32} (hst : l.stackTraces = false) (C : sh_Cx p s m #[Value.ref b] meth c cL_law 7 RL G (fun q : Nat => s.heap.size ≤ q)) (hNq : sh_Nq s) (hX : va_X b L xs s s.heap) (hbl : b < s.heap.size) {i : Nat} (hi : i + 6 ≤ L) (hL : L ≤ 3072) {SL : sh_St} (hR : zLR SL) {H : Heap} {locs : List Loc} {ls : Array Slot} {cells slots : Nat} (hw : sh_Wx G tbL (fun q : Nat => s.heap.size ≤ q) s H locs SL) (hl : lv_has ls 7 [(0, .ref b), (1, .ref (G.2.1 0)), (2, .ref (G.2.1 140)), (3, .ref (G.2.1 162)), (4, .int (nI i))]) (hkc : cells + 2 ≤ room_1.cells) (hks : slots + 12 ≤ room_1.slots)
    (kk : ∀ (SL' : sh_St) (H1 : Heap) (locs1 : List Loc) (ls' : Array Slot), zLR SL' → sh_Wx G tbL (fun q : Nat => s.heap.size ≤ q) s H1 locs1 SL' → lv_has ls' 7 [(0, .ref b), (1, .ref (G.2.1 0)), (2, .ref (G.2.1 140)), (3, .ref (G.2.1 162)), (4, .int (nI i))] → W p l e room_1 s m #[Value.ref b] below meth c H1 locs1 (cells + 2) (slots + 12) Q (F0 m 1653 ls' [])) : W p l e room_1 s m #[Value.ref b] below meth c H locs cells slots Q (F0 m 1468 ls []) := by
  have hbA : ¬ (fun q : Nat => s.heap.size ≤ q) b := Nat.not_le.mpr hbl
  obtain ⟨kq, SL1, r, SL2, f1, f2, f3, f4, f5⟩ := zL_reader hR (xs (nI i + nI 1).toNatClampNeg) (xs (nI i + nI 2).toNatClampNeg)
  refine lv_aload_n C.1 C.2.1 dL_law_1468 rfl (lv_at hl 1 rfl) ?_
  refine lv_aload_n C.1 C.2.1 dL_law_1469 rfl (lv_at hl 0 rfl) ?_
  refine lv_iload C.1 C.2.1 dL_law_1470 (lv_at hl 4 rfl) ?_
  refine lv_iconst (v := nI 1) C.1 C.2.1 dL_law_1472 (by decide) ?_
  refine lv_iadd C.1 C.2.1 dL_law_1473 ?_
  refine va_sld C.1 C.2.1 hX hbl hbA hw.2.2 (zvin 1 hi hL (by decide)) dL_law_1474 ?_
  refine lv_aload_n C.1 C.2.1 dL_law_1475 rfl (lv_at hl 0 rfl) ?_
  refine lv_iload C.1 C.2.1 dL_law_1476 (lv_at hl 4 rfl) ?_
  refine lv_iconst (v := nI 2) C.1 C.2.1 dL_law_1478 (by decide) ?_
  refine lv_iadd C.1 C.2.1 dL_law_1479 ?_
  refine va_sld C.1 C.2.1 hX hbl hbA hw.2.2 (zvin 2 hi hL (by decide)) dL_law_1480 ?_
  refine lv_aload_n C.1 C.2.1 dL_law_1481 rfl (lv_at hl 3 rfl) ?_
  refine sh_LH (As := [.ref (G.2.1 0), .int (xs (nI i + nI 1).toNatClampNeg), .int (xs (nI i + nI 2).toNatClampNeg), .ref (G.2.1 162)]) (rest := []) C hNq hw (kL_reader l hst (xs (nI i + nI 1).toNatClampNeg) (xs (nI i + nI 2).toNatClampNeg)) yh_L_reader ml_L_178 f1 rfl rfl rfl (Nat.le_of_ble_eq_true rfl) ⟨by decide, by decide⟩ (by omega) (by omega) hl.1 dL_law_1482 (fun H locs hw => ?_)
  refine W.widen (k := cells + 2) (n := slots + 12) (by omega) (by omega) ?_
  refine lv_istore C.1 C.2.1 dL_law_1485 hl (by decide) rfl (fun ls hl => ?_)
  refine lv_aload_n C.1 C.2.1 dL_law_1487 rfl (lv_at hl 3 rfl) ?_
  refine lv_aload_n C.1 C.2.1 dL_law_1488 rfl (lv_at hl 1 rfl) ?_
  refine lv_iload C.1 C.2.1 dL_law_1489 (lv_at hl 5 rfl) ?_
  refine lv_iconst (v := nI 1) C.1 C.2.1 dL_law_1491 (by decide) ?_
  refine lv_iadd C.1 C.2.1 dL_law_1492 ?_
  refine va_sld C.1 C.2.1 hX hbl hbA hw.2.2 (zvin 1 hi hL (by decide)) dL_law_1493 ?_
  refine lv_aload_n C.1 C.2.1 dL_law_1494 rfl (lv_at hl 1 rfl) ?_
  refine lv_iload C.1 C.2.1 dL_law_1495 (lv_at hl 5 rfl) ?_
  refine lv_iconst (v := nI 2) C.1 C.2.1 dL_law_1497 (by decide) ?_
  refine lv_iadd C.1 C.2.1 dL_law_1498 ?_
  refine va_sld C.1 C.2.1 hX hbl hbA hw.2.2 (zvin 2 hi hL (by decide)) dL_law_1499 ?_
  refine sh_LVi (As := [.int (xs (nI i + nI 1).toNatClampNeg), .int (xs (nI i + nI 2).toNatClampNeg)]) (rest := []) C hw (sh_Mi_up sub_M (kX13_reader l (xs (nI i + nI 1).toNatClampNeg) (xs (nI i + nI 2).toNatClampNeg))) yy_X13_reader yv_X13_reader ml_L_180 f2 tbL_140 rfl rfl rfl rfl (Nat.le_of_ble_eq_true rfl) ⟨by decide, by decide⟩ hkc hks hl.1 dL_law_1500 (fun H locs hw => ?_)
  refine lv_istore C.1 C.2.1 dL_law_1503 hl (by decide) rfl (fun ls hl => ?_)
  refine lv_aload_n C.1 C.2.1 dL_law_1505 rfl (lv_at hl 4 rfl) ?_
  refine sh_LVi (As := []) (rest := []) C hw (sh_Mi_up sub_M (kX13_thrown l)) yy_X13_thrown yv_X13_thrown ml_L_105 (zthr SL2) tbL_140 rfl rfl rfl rfl (Nat.le_of_ble_eq_true rfl) ⟨by decide, by decide⟩ hkc hks hl.1 dL_law_1506 (fun H locs hw => ?_)
  refine lv_iload C.1 C.2.1 dL_law_1509 (lv_at hl 1 rfl) ?_
  refine lv_icmp_eq (tgt := 1516) C.1 C.2.1 dL_law_1511 (by decide) (fun _ => ?_) (fun w => absurd f3 w)
  refine lv_iload C.1 C.2.1 dL_law_1516 (lv_at hl 1 rfl) ?_
  have hend : W p l e room_1 s m #[Value.ref b] below meth c H locs (cells + 2) (slots + 12) Q (F0 m 1533 ls []) := lv_goto (tgt := 1653) C.1 C.2.1 dL_law_1533 (by decide) (kk SL2 H locs ls f5 hw (lv_sub hl [2, 3, 4, 5, 6] rfl))
  refine lv_if_ne (tgt := 1533) C.1 C.2.1 dL_law_1518 (by decide) (fun _ => hend) (fun hz => ?_)
  refine lv_aload_n C.1 C.2.1 dL_law_1521 rfl (lv_at hl 5 rfl) ?_
  refine lv_iconst (v := 0) C.1 C.2.1 dL_law_1522 (by decide) ?_
  refine sh_lald (β := Unit) (k := some ()) (res := ()) C hw rfl tbL_o dL_law_1523 (fun _ => ?_)
  refine lv_iload C.1 C.2.1 dL_law_1524 (lv_at hl 0 rfl) ?_
  refine lv_i2l (v := r.toInt64) C.1 C.2.1 dL_law_1526 rfl ?_
  refine sh_lcmp_eq (β := Unit) (k1 := some ()) (k2 := none) (res := ()) (tgt := 1533) C (if_pos (f4 hz)) dL_law_1527 dL_law_1528 (by decide) (fun _ => hend) (fun w => nomatch w)
theorem yh_L_batch : sh_YH yL_batch cL_batch 5 [(0, 10, 13, 39)] 4 := ⟨sh_t1 (i := 0) (by decide +kernel) (by decide +kernel), sh_t6 (i := 35) (by decide +kernel) (by decide +kernel), sh_t6 (i := 34) (by decide +kernel) (by decide +kernel), by decide, by decide +kernel⟩
theorem ml_L_181 : Cond.methodLink RL 181 yL_batch ∈ sh_ws := sh_t6 (i := 33) (by decide +kernel) (by decide +kernel)
theorem ml_L_183 : Cond.methodLink RL 183 yX13_batch ∈ sh_ws := sh_t8 (i := 107) (by decide +kernel) (by decide +kernel)
set_option maxRecDepth 100000 in
set_option maxHeartbeats 4000000 in
theorem wL_25 {p : Program} {l : Launch} {e : Env} {s : State} {m : MethodId} {below : List Frame} {meth : Method} {c : Code} {G : sh_Ev} {Q : State → Prop} {b L : Nat} {xs : Nat → Int32} (hst : l.stackTraces = false) (C : sh_Cx p s m #[Value.ref b] meth c cL_law 7 RL G (fun q : Nat => s.heap.size ≤ q)) (hNq : sh_Nq s) (hX : va_X b L xs s s.heap) (hbl : b < s.heap.size) {i : Nat} (hi : i + 6 ≤ L) (hL : L ≤ 3072) {SL : sh_St} (hR : zLR SL) {H : Heap} {locs : List Loc} {ls : Array Slot} {cells slots : Nat} (hw : sh_Wx G tbL (fun q : Nat => s.heap.size ≤ q) s H locs SL) (hl : lv_has ls 7 [(0, .ref b), (1, .ref (G.2.1 0)), (2, .ref (G.2.1 140)), (3, .ref (G.2.1 162)), (4, .int (nI i))]) (hkc : cells + 2 ≤ room_1.cells) (hks : slots + 12 ≤ room_1.slots)
    (kk : ∀ (SL' : sh_St) (H1 : Heap) (locs1 : List Loc) (ls' : Array Slot), zLR SL' → sh_Wx G tbL (fun q : Nat => s.heap.size ≤ q) s H1 locs1 SL' → lv_has ls' 7 [(0, .ref b), (1, .ref (G.2.1 0)), (2, .ref (G.2.1 140)), (3, .ref (G.2.1 162)), (4, .int (nI i))] → W p l e room_1 s m #[Value.ref b] below meth c H1 locs1 (cells + 2) (slots + 12) Q (F0 m 1653 ls' [])) : W p l e room_1 s m #[Value.ref b] below meth c H locs cells slots Q (F0 m 1536 ls []) := by
  have hbA : ¬ (fun q : Nat => s.heap.size ≤ q) b := Nat.not_le.mpr hbl
  obtain ⟨kq, SL1, r, SL2, f1, f2, f3, f4, f5⟩ := zL_batch hR (xs (nI i + nI 1).toNatClampNeg) (xs (nI i + nI 2).toNatClampNeg)
  refine lv_aload_n C.1 C.2.1 dL_law_1536 rfl (lv_at hl 1 rfl) ?_
  refine lv_aload_n C.1 C.2.1 dL_law_1537 rfl (lv_at hl 0 rfl) ?_
  refine lv_iload C.1 C.2.1 dL_law_1538 (lv_at hl 4 rfl) ?_
  refine lv_iconst (v := nI 1) C.1 C.2.1 dL_law_1540 (by decide) ?_
  refine lv_iadd C.1 C.2.1 dL_law_1541 ?_
  refine va_sld C.1 C.2.1 hX hbl hbA hw.2.2 (zvin 1 hi hL (by decide)) dL_law_1542 ?_
  refine lv_aload_n C.1 C.2.1 dL_law_1543 rfl (lv_at hl 0 rfl) ?_
  refine lv_iload C.1 C.2.1 dL_law_1544 (lv_at hl 4 rfl) ?_
  refine lv_iconst (v := nI 2) C.1 C.2.1 dL_law_1546 (by decide) ?_
  refine lv_iadd C.1 C.2.1 dL_law_1547 ?_
  refine va_sld C.1 C.2.1 hX hbl hbA hw.2.2 (zvin 2 hi hL (by decide)) dL_law_1548 ?_
  refine lv_aload_n C.1 C.2.1 dL_law_1549 rfl (lv_at hl 3 rfl) ?_
  refine sh_LH (As := [.ref (G.2.1 0), .int (xs (nI i + nI 1).toNatClampNeg), .int (xs (nI i + nI 2).toNatClampNeg), .ref (G.2.1 162)]) (rest := []) C hNq hw (kL_batch l hst (xs (nI i + nI 1).toNatClampNeg) (xs (nI i + nI 2).toNatClampNeg)) yh_L_batch ml_L_181 f1 rfl rfl rfl (Nat.le_of_ble_eq_true rfl) ⟨by decide, by decide⟩ (by omega) (by omega) hl.1 dL_law_1550 (fun H locs hw => ?_)
  refine W.widen (k := cells + 2) (n := slots + 12) (by omega) (by omega) ?_
  refine lv_istore C.1 C.2.1 dL_law_1553 hl (by decide) rfl (fun ls hl => ?_)
  refine lv_aload_n C.1 C.2.1 dL_law_1555 rfl (lv_at hl 3 rfl) ?_
  refine lv_aload_n C.1 C.2.1 dL_law_1556 rfl (lv_at hl 1 rfl) ?_
  refine lv_iload C.1 C.2.1 dL_law_1557 (lv_at hl 5 rfl) ?_
  refine lv_iconst (v := nI 1) C.1 C.2.1 dL_law_1559 (by decide) ?_
  refine lv_iadd C.1 C.2.1 dL_law_1560 ?_
  refine va_sld C.1 C.2.1 hX hbl hbA hw.2.2 (zvin 1 hi hL (by decide)) dL_law_1561 ?_
  refine lv_aload_n C.1 C.2.1 dL_law_1562 rfl (lv_at hl 1 rfl) ?_
  refine lv_iload C.1 C.2.1 dL_law_1563 (lv_at hl 5 rfl) ?_
  refine lv_iconst (v := nI 2) C.1 C.2.1 dL_law_1565 (by decide) ?_
  refine lv_iadd C.1 C.2.1 dL_law_1566 ?_
  refine va_sld C.1 C.2.1 hX hbl hbA hw.2.2 (zvin 2 hi hL (by decide)) dL_law_1567 ?_
  refine sh_LVi (As := [.int (xs (nI i + nI 1).toNatClampNeg), .int (xs (nI i + nI 2).toNatClampNeg)]) (rest := []) C hw (sh_Mi_up sub_M (kX13_batch l (xs (nI i + nI 1).toNatClampNeg) (xs (nI i + nI 2).toNatClampNeg))) yy_X13_batch yv_X13_batch ml_L_183 f2 tbL_140 rfl rfl rfl rfl (Nat.le_of_ble_eq_true rfl) ⟨by decide, by decide⟩ hkc hks hl.1 dL_law_1568 (fun H locs hw => ?_)
  refine lv_istore C.1 C.2.1 dL_law_1571 hl (by decide) rfl (fun ls hl => ?_)
  refine lv_aload_n C.1 C.2.1 dL_law_1573 rfl (lv_at hl 4 rfl) ?_
  refine sh_LVi (As := []) (rest := []) C hw (sh_Mi_up sub_M (kX13_thrown l)) yy_X13_thrown yv_X13_thrown ml_L_105 (zthr SL2) tbL_140 rfl rfl rfl rfl (Nat.le_of_ble_eq_true rfl) ⟨by decide, by decide⟩ hkc hks hl.1 dL_law_1574 (fun H locs hw => ?_)
  refine lv_iload C.1 C.2.1 dL_law_1577 (lv_at hl 1 rfl) ?_
  refine lv_icmp_eq (tgt := 1584) C.1 C.2.1 dL_law_1579 (by decide) (fun _ => ?_) (fun w => absurd f3 w)
  refine lv_iload C.1 C.2.1 dL_law_1584 (lv_at hl 1 rfl) ?_
  have hend : W p l e room_1 s m #[Value.ref b] below meth c H locs (cells + 2) (slots + 12) Q (F0 m 1601 ls []) := lv_goto (tgt := 1653) C.1 C.2.1 dL_law_1601 (by decide) (kk SL2 H locs ls f5 hw (lv_sub hl [2, 3, 4, 5, 6] rfl))
  refine lv_if_ne (tgt := 1601) C.1 C.2.1 dL_law_1586 (by decide) (fun _ => hend) (fun hz => ?_)
  refine lv_aload_n C.1 C.2.1 dL_law_1589 rfl (lv_at hl 5 rfl) ?_
  refine lv_iconst (v := 0) C.1 C.2.1 dL_law_1590 (by decide) ?_
  refine sh_lald (β := Unit) (k := some ()) (res := ()) C hw rfl tbL_o dL_law_1591 (fun _ => ?_)
  refine lv_iload C.1 C.2.1 dL_law_1592 (lv_at hl 0 rfl) ?_
  refine lv_i2l (v := r.toInt64) C.1 C.2.1 dL_law_1594 rfl ?_
  refine sh_lcmp_eq (β := Unit) (k1 := some ()) (k2 := none) (res := ()) (tgt := 1601) C (if_pos (f4 hz)) dL_law_1595 dL_law_1596 (by decide) (fun _ => hend) (fun w => nomatch w)
theorem ml_L_184 : Cond.methodLink RL 184 yX12_image ∈ sh_ws := sh_t2 (i := 189) (by decide +kernel) (by decide +kernel)
theorem ml_L_187 : Cond.methodLink RL 187 yX13_image ∈ sh_ws := sh_t8 (i := 111) (by decide +kernel) (by decide +kernel)
set_option maxRecDepth 100000 in
set_option maxHeartbeats 4000000 in
theorem wL_26 {p : Program} {l : Launch} {e : Env} {s : State} {m : MethodId} {below : List Frame} {meth : Method} {c : Code} {G : sh_Ev} {Q : State → Prop} {b L : Nat} {xs : Nat → Int32} (hst : l.stackTraces = false) (C : sh_Cx p s m #[Value.ref b] meth c cL_law 7 RL G (fun q : Nat => s.heap.size ≤ q)) (hNq : sh_Nq s) (hX : va_X b L xs s s.heap) (hbl : b < s.heap.size) {i : Nat} (hi : i + 6 ≤ L) (hL : L ≤ 3072) {SL : sh_St} (hR : zLR SL) {H : Heap} {locs : List Loc} {ls : Array Slot} {cells slots : Nat} (hw : sh_Wx G tbL (fun q : Nat => s.heap.size ≤ q) s H locs SL) (hl : lv_has ls 7 [(0, .ref b), (1, .ref (G.2.1 0)), (2, .ref (G.2.1 140)), (3, .ref (G.2.1 162)), (4, .int (nI i))]) (hkc : cells + 2 ≤ room_1.cells) (hks : slots + 12 ≤ room_1.slots)
    (kk : ∀ (SL' : sh_St) (H1 : Heap) (locs1 : List Loc) (ls' : Array Slot), zLR SL' → sh_Wx G tbL (fun q : Nat => s.heap.size ≤ q) s H1 locs1 SL' → lv_has ls' 7 [(0, .ref b), (1, .ref (G.2.1 0)), (2, .ref (G.2.1 140)), (3, .ref (G.2.1 162)), (4, .int (nI i))] → W p l e room_1 s m #[Value.ref b] below meth c H1 locs1 (cells + 2) (slots + 12) Q (F0 m 1653 ls' [])) : W p l e room_1 s m #[Value.ref b] below meth c H locs cells slots Q (F0 m 1604 ls []) := by
  have hbA : ¬ (fun q : Nat => s.heap.size ≤ q) b := Nat.not_le.mpr hbl
  obtain ⟨SL1, SL2, f1, f2, f5⟩ := zL_image hR
  refine lv_aload_n C.1 C.2.1 dL_law_1604 rfl (lv_at hl 1 rfl) ?_
  refine sh_LVv (As := []) (rest := []) C hw (sh_Mv_up sub_X (kX12_image l)) yy_X12_image yv_X12_image ml_L_184 f1 tbL_0 rfl rfl rfl rfl (Nat.le_of_ble_eq_true rfl) ⟨by decide, by decide⟩ (by omega) (by omega) hl.1 dL_law_1605 (fun H locs hw => ?_)
  refine lv_aload_n C.1 C.2.1 dL_law_1608 rfl (lv_at hl 2 rfl) ?_
  refine sh_LVv (As := []) (rest := []) C hw (sh_Mv_up sub_M (kX13_image l)) yy_X13_image yv_X13_image ml_L_187 f2 tbL_140 rfl rfl rfl rfl (Nat.le_of_ble_eq_true rfl) ⟨by decide, by decide⟩ (by omega) (by omega) hl.1 dL_law_1609 (fun H locs hw => ?_)
  refine W.widen (k := cells + 2) (n := slots + 12) (by omega) (by omega) ?_
  exact lv_goto (tgt := 1653) C.1 C.2.1 dL_law_1612 (by decide) (kk SL2 H locs ls f5 hw hl)
theorem ml_L_188 : Cond.methodLink RL 188 yX12_back ∈ sh_ws := sh_t2 (i := 200) (by decide +kernel) (by decide +kernel)
theorem ml_L_192 : Cond.methodLink RL 192 yX13_back ∈ sh_ws := sh_t8 (i := 115) (by decide +kernel) (by decide +kernel)
set_option maxRecDepth 100000 in
set_option maxHeartbeats 4000000 in
theorem wL_27 {p : Program} {l : Launch} {e : Env} {s : State} {m : MethodId} {below : List Frame} {meth : Method} {c : Code} {G : sh_Ev} {Q : State → Prop} {b L : Nat} {xs : Nat → Int32} (hst : l.stackTraces = false) (C : sh_Cx p s m #[Value.ref b] meth c cL_law 7 RL G (fun q : Nat => s.heap.size ≤ q)) (hNq : sh_Nq s) (hX : va_X b L xs s s.heap) (hbl : b < s.heap.size) {i : Nat} (hi : i + 6 ≤ L) (hL : L ≤ 3072) {SL : sh_St} (hR : zLR SL) {H : Heap} {locs : List Loc} {ls : Array Slot} {cells slots : Nat} (hw : sh_Wx G tbL (fun q : Nat => s.heap.size ≤ q) s H locs SL) (hl : lv_has ls 7 [(0, .ref b), (1, .ref (G.2.1 0)), (2, .ref (G.2.1 140)), (3, .ref (G.2.1 162)), (4, .int (nI i))]) (hkc : cells + 2 ≤ room_1.cells) (hks : slots + 12 ≤ room_1.slots)
    (kk : ∀ (SL' : sh_St) (H1 : Heap) (locs1 : List Loc) (ls' : Array Slot), zLR SL' → sh_Wx G tbL (fun q : Nat => s.heap.size ≤ q) s H1 locs1 SL' → lv_has ls' 7 [(0, .ref b), (1, .ref (G.2.1 0)), (2, .ref (G.2.1 140)), (3, .ref (G.2.1 162)), (4, .int (nI i))] → W p l e room_1 s m #[Value.ref b] below meth c H1 locs1 (cells + 2) (slots + 12) Q (F0 m 1653 ls' [])) : W p l e room_1 s m #[Value.ref b] below meth c H locs cells slots Q (F0 m 1615 ls []) := by
  have hbA : ¬ (fun q : Nat => s.heap.size ≤ q) b := Nat.not_le.mpr hbl
  obtain ⟨r, SL1, SL2, f1, f2, f5⟩ := zL_back hR
  refine lv_aload_n C.1 C.2.1 dL_law_1615 rfl (lv_at hl 1 rfl) ?_
  refine sh_LVi (As := []) (rest := []) C hw (sh_Mi_up sub_X (kX12_back l)) yy_X12_back yv_X12_back ml_L_188 f1 tbL_0 rfl rfl rfl rfl (Nat.le_of_ble_eq_true rfl) ⟨by decide, by decide⟩ (by omega) (by omega) hl.1 dL_law_1616 (fun H locs hw => ?_)
  refine lv_aload_n C.1 C.2.1 dL_law_1619 rfl (lv_at hl 2 rfl) ?_
  refine sh_LVi (As := []) (rest := [.int r]) C hw (sh_Mi_up sub_M (kX13_back l)) yy_X13_back yv_X13_back ml_L_192 f2 tbL_140 rfl rfl rfl rfl (Nat.le_of_ble_eq_true rfl) ⟨by decide, by decide⟩ (by omega) (by omega) hl.1 dL_law_1620 (fun H locs hw => ?_)
  refine W.widen (k := cells + 2) (n := slots + 12) (by omega) (by omega) ?_
  exact lv_icmp_eq (tgt := 1653) C.1 C.2.1 dL_law_1623 (by decide) (fun _ => kk SL2 H locs ls f5 hw hl) (fun w => absurd rfl w)
theorem ml_L_193 : Cond.methodLink RL 193 yX12_count ∈ sh_ws := sh_t2 (i := 212) (by decide +kernel) (by decide +kernel)
theorem ml_L_196 : Cond.methodLink RL 196 yX13_count ∈ sh_ws := sh_t8 (i := 119) (by decide +kernel) (by decide +kernel)
set_option maxRecDepth 100000 in
set_option maxHeartbeats 4000000 in
theorem wL_28 {p : Program} {l : Launch} {e : Env} {s : State} {m : MethodId} {below : List Frame} {meth : Method} {c : Code} {G : sh_Ev} {Q : State → Prop} {b L : Nat} {xs : Nat → Int32} (hst : l.stackTraces = false) (C : sh_Cx p s m #[Value.ref b] meth c cL_law 7 RL G (fun q : Nat => s.heap.size ≤ q)) (hNq : sh_Nq s) (hX : va_X b L xs s s.heap) (hbl : b < s.heap.size) {i : Nat} (hi : i + 6 ≤ L) (hL : L ≤ 3072) {SL : sh_St} (hR : zLR SL) {H : Heap} {locs : List Loc} {ls : Array Slot} {cells slots : Nat} (hw : sh_Wx G tbL (fun q : Nat => s.heap.size ≤ q) s H locs SL) (hl : lv_has ls 7 [(0, .ref b), (1, .ref (G.2.1 0)), (2, .ref (G.2.1 140)), (3, .ref (G.2.1 162)), (4, .int (nI i))]) (hkc : cells + 2 ≤ room_1.cells) (hks : slots + 12 ≤ room_1.slots)
    (kk : ∀ (SL' : sh_St) (H1 : Heap) (locs1 : List Loc) (ls' : Array Slot), zLR SL' → sh_Wx G tbL (fun q : Nat => s.heap.size ≤ q) s H1 locs1 SL' → lv_has ls' 7 [(0, .ref b), (1, .ref (G.2.1 0)), (2, .ref (G.2.1 140)), (3, .ref (G.2.1 162)), (4, .int (nI i))] → W p l e room_1 s m #[Value.ref b] below meth c H1 locs1 (cells + 2) (slots + 12) Q (F0 m 1653 ls' [])) : W p l e room_1 s m #[Value.ref b] below meth c H locs cells slots Q (F0 m 1628 ls []) := by
  have hbA : ¬ (fun q : Nat => s.heap.size ≤ q) b := Nat.not_le.mpr hbl
  obtain ⟨r, SL1, SL2, f1, f2, f5⟩ := zL_count hR (xs (nI i + nI 1).toNatClampNeg)
  refine lv_aload_n C.1 C.2.1 dL_law_1628 rfl (lv_at hl 1 rfl) ?_
  refine lv_aload_n C.1 C.2.1 dL_law_1629 rfl (lv_at hl 0 rfl) ?_
  refine lv_iload C.1 C.2.1 dL_law_1630 (lv_at hl 4 rfl) ?_
  refine lv_iconst (v := nI 1) C.1 C.2.1 dL_law_1632 (by decide) ?_
  refine lv_iadd C.1 C.2.1 dL_law_1633 ?_
  refine va_sld C.1 C.2.1 hX hbl hbA hw.2.2 (zvin 1 hi hL (by decide)) dL_law_1634 ?_
  refine sh_LVi (As := [.int (xs (nI i + nI 1).toNatClampNeg)]) (rest := []) C hw (sh_Mi_up sub_X (kX12_count l (xs (nI i + nI 1).toNatClampNeg))) yy_X12_count yv_X12_count ml_L_193 f1 tbL_0 rfl rfl rfl rfl (Nat.le_of_ble_eq_true rfl) ⟨by decide, by decide⟩ (by omega) (by omega) hl.1 dL_law_1635 (fun H locs hw => ?_)
  refine lv_aload_n C.1 C.2.1 dL_law_1638 rfl (lv_at hl 2 rfl) ?_
  refine lv_aload_n C.1 C.2.1 dL_law_1639 rfl (lv_at hl 0 rfl) ?_
  refine lv_iload C.1 C.2.1 dL_law_1640 (lv_at hl 4 rfl) ?_
  refine lv_iconst (v := nI 1) C.1 C.2.1 dL_law_1642 (by decide) ?_
  refine lv_iadd C.1 C.2.1 dL_law_1643 ?_
  refine va_sld C.1 C.2.1 hX hbl hbA hw.2.2 (zvin 1 hi hL (by decide)) dL_law_1644 ?_
  refine sh_LVi (As := [.int (xs (nI i + nI 1).toNatClampNeg)]) (rest := [.int r]) C hw (sh_Mi_up sub_M (kX13_count l (xs (nI i + nI 1).toNatClampNeg))) yy_X13_count yv_X13_count ml_L_196 f2 tbL_140 rfl rfl rfl rfl (Nat.le_of_ble_eq_true rfl) ⟨by decide, by decide⟩ (by omega) (by omega) hl.1 dL_law_1645 (fun H locs hw => ?_)
  refine W.widen (k := cells + 2) (n := slots + 12) (by omega) (by omega) ?_
  exact lv_icmp_eq (tgt := 1653) C.1 C.2.1 dL_law_1648 (by decide) (fun _ => kk SL2 H locs ls f5 hw hl) (fun w => absurd rfl w)
