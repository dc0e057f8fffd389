/-! ordinal(), the switch's own table, rows of references, and a Store laid over another -/
theorem ol_1 : Cond.fieldLink RJx29ce0 7 "java/lang/Enum" "ordinal" "I" ∈ sh_ws := sh_t8 (i := 150) (by decide +kernel) (by decide +kernel)
theorem ol_2 : Cond.methodLink RX4 104 ⟨"SteadyShelf$Act", "ordinal", "()I"⟩ ∈ sh_ws := sh_t3 (i := 118) (by decide +kernel) (by decide +kernel)
theorem ol_3 : Cond.sameMethod "SteadyShelf$Act" "java/lang/Enum" "ordinal" "()I" ∈ sh_ws := sh_t3 (i := 119) (by decide +kernel) (by decide +kernel)
theorem ol_4 : Cond.selects "SteadyShelf$Act" ⟨"SteadyShelf$Act", "ordinal", "()I"⟩ yJx29ce0_ordinal_8abf5 ∈ sh_ws := sh_t3 (i := 121) (by decide +kernel) (by decide +kernel)
theorem ol_5 : Cond.instanceMethod yJx29ce0_ordinal_8abf5 ∈ sh_ws := sh_t3 (i := 122) (by decide +kernel) (by decide +kernel)
theorem ol_6 : Cond.code yJx29ce0_ordinal_8abf5 cJx29ce0_ordinal_8abf5 1 (some .int) ∈ sh_ws := sh_t3 (i := 123) (by decide +kernel) (by decide +kernel)
theorem ol_7 : Cond.initialized "java/lang/Enum" ∈ sh_ws := sh_t1 (i := 4) (by decide +kernel) (by decide +kernel)
theorem ol_8 : Cond.fieldLink RX4 99 "SteadyShelf$1" "$SwitchMap$SteadyShelf$Act" "[I" ∈ sh_ws := sh_t3 (i := 116) (by decide +kernel) (by decide +kernel)
def sh_ords : List Int32 := [0, 1, 2, 3, 4, 5, 6, 7, 8]
set_option maxRecDepth 100000 in
theorem kJ_ordinal (l : Launch) (v0 : Int32) : sh_Mi l yJx29ce0_ordinal_8abf5 cJx29ce0_ordinal_8abf5 1 .int 1 tbX (fun G => [.ref (G.2.2.1 v0.toNatClampNeg)]) (fun S => sh_g v0 9 (some (sh_ords.getD v0.toNatClampNeg 0, S))) := by
  refine sh_mki (by decide) (fun G => Nat.le_of_ble_eq_true rfl) ?_
  intro p e s m args below meth c G A S res ls hf C hr hw hl
  have C : sh_Cx p s m args meth c cJx29ce0_ordinal_8abf5 1 RJx29ce0 G A := C
  have hl : lv_has ls 1 [(0, .ref (G.2.2.1 v0.toNatClampNeg))] := hl
  replace hf : sh_g v0 9 (some (sh_ords.getD v0.toNatClampNeg 0, S)) = some res := hf
  refine lv_aload_n C.1 C.2.1 dJx29ce0_ordinal_8abf5_0 rfl (lv_at hl 0 rfl) ?_
  refine sh_getF C hw ("java/lang/Enum", "ordinal", "I", [0, 1, 2, 3, 4, 5, 6, 7, 8]) (by decide) hf ol_1 dJx29ce0_ordinal_8abf5_1 (fun hf => ?_)
  exact sh_ri C hw hr hf dJx29ce0_ordinal_8abf5_4
section ShOrd
variable {p : Program} {l : Launch} {e : Env} {d : Nat} {s : State} {m : MethodId} {args : Array Value} {below : List Frame} {meth : Method} {c : Code} {H : Heap} {locs : List Loc} {Q : State → Prop}
variable {cc : ByteArray} {nL : Nat} {G : sh_Ev} {A : Nat → Prop} {S : sh_St} {pc : Nat} {ls : Array Slot} {rest : List Value} {β : Type} {res : β}
theorem sh_ordc (C : sh_Cx p s m args meth c cc nL RX4 G A) (hd : 1 < d) : va_CU (sh_rm d) s args RX4 "SteadyShelf$Act" "java/lang/Enum" 104 ⟨"SteadyShelf$Act", "ordinal", "()I"⟩ yJx29ce0_ordinal_8abf5 cJx29ce0_ordinal_8abf5 1 (some .int) (sh_wq yJx29ce0_ordinal_8abf5 cJx29ce0_ordinal_8abf5 1 (some .int)) (sh_rm 1) 0 0 0 := by
  refine va_cwU 0 C.2.2.2.2.1 ?_ rfl rfl rfl rfl (by decide +kernel) (sh_rmR hd (by decide))
  intro w hw
  rcases List.mem_append.mp hw with hw | hw
  · simp only [List.mem_cons, List.not_mem_nil, or_false] at hw
    have hin : w ∈ sh_ws := by
      rcases hw with rfl | rfl | rfl | rfl | rfl
      · exact ol_2
      · exact ol_3
      · exact ol_4
      · exact ol_5
      · exact ol_7
    exact ⟨hin, good_of_word (List.mem_filter.mp hin).2⟩
  · exact sh_good ol_6 w hw
theorem sh_ord (C : sh_Cx p s m args meth c cc nL RX4 G A) (h : sh_Wx G tbX A s H locs S) {v : Int32} {k : Option β} (hf : sh_g v 9 k = some res) (hrest : (rest.map fun v => v.category).sum ≤ 8) (hd : 1 < d) (hls : ls.size = nL) (hdg : decode cc pc = .ok (.invokevirtual 104, 3))
    (kk : ∀ (H1 : Heap) (locs1 : List Loc), sh_Wx G tbX A s H1 locs1 S → k = some res → W p l e (sh_rm d) s m args below meth c H1 locs1 0 0 Q (F0 m (pc + 3) ls (.int (sh_ords.getD v.toNatClampNeg 0) :: rest))) : W p l e (sh_rm d) s m args below meth c H locs 0 0 Q (F0 m pc ls (.ref (G.2.2.1 v.toNatClampNeg) :: rest)) := by
  obtain ⟨hin, hf⟩ := sh_g_of hf
  have hF : sh_g v 9 (some (sh_ords.getD v.toNatClampNeg 0, S)) = some (sh_ords.getD v.toNatClampNeg 0, S) := by unfold sh_g; rw [if_neg hin]
  have hM := kJ_ordinal l v G H.size S (sh_ords.getD v.toNatClampNeg 0, S) hF
  refine va_calli (va_runU (As := []) (rest := rest) ⟨C.1, C.2.1, C.2.2.1, C.2.2.2.1, C.2.2.2.2.1⟩ hM (sh_ordc C hd) ⟨sh_blind _ G tbX _ S, va_recvE (sh_En C) (sh_acLt hin) h.2.2, fun U hU hW => ⟨rfl, sh_before C h U hU hW⟩⟩ rfl rfl hls rfl (lv_room hrest) hdg ⟨Nat.le_refl 0, Nat.le_refl 0⟩) h.2.2 (fun q _ hq => sh_freeA C h q hq) (sh_freeA C h) (fun r1 u1 t H1 locs1 ht1 hvm hw hB hz1 hk1 hS => ?_)
  cases hw
  exact kk H1 locs1 (sh_behind C h ht1 hB hS) hf
theorem sh_ordv : ∀ j, j < 9 → sh_ords.getD j 0 = nI j := by decide
/-- the table of the switch, at a constant's number: four instructions -/
theorem sh_swm_row (C : sh_Cx p s m args meth c cc nL RX4 G A) (h : sh_Wx G tbX A s H locs S) {v : Int32} {k : Option β} {ix : Nat} (hl1 : ls[1]? = some (.val (.ref (G.2.2.1 v.toNatClampNeg)))) (hf : sh_g v 9 k = some res) (L : Cond.fieldLink RX4 ix "SteadyShelf$1" "$SwitchMap$SteadyShelf$Act" "[I" ∈ sh_ws) (hrest : (rest.map fun v => v.category).sum ≤ 7) (hd : 1 < d) (hls : ls.size = nL)
    (d0 : decode cc pc = .ok (.getstatic ix, 3)) (d3 : decode cc (pc + 3) = .ok (.aload_n 1, 1)) (d4 : decode cc (pc + 3 + 1) = .ok (.invokevirtual 104, 3)) (d7 : decode cc (pc + 3 + 1 + 3) = .ok (.iaload, 1))
    (kk : ∀ (H1 : Heap) (locs1 : List Loc), sh_Wx G tbX A s H1 locs1 S → k = some res → W p l e (sh_rm d) s m args below meth c H1 locs1 0 0 Q (F0 m (pc + 3 + 1 + 3 + 1) ls (.int (sh_swm.getD v.toNatClampNeg 0) :: rest))) : W p l e (sh_rm d) s m args below meth c H locs 0 0 Q (F0 m pc ls rest) := by
  obtain ⟨t, hZ, hT⟩ := C.2.2.2.2.2.2.2.2.2.2.2.2.1
  refine va_gets C.1 C.2.1 hZ h.2.2 C.2.2.2.1 (C.2.2.2.2.1 _ L) (fun _ h9 => h9) d0 ?_
  refine lv_aload_n C.1 C.2.1 d3 rfl hl1 ?_
  refine sh_ord C h hf (by rw [List.map_cons, List.sum_cons]; show 1 + _ ≤ 8; omega) hd hls d4 (fun H1 locs1 hw hf => ?_)
  have hlt : v.toNatClampNeg < 9 := Nat.not_le.mp fun q => (sh_g_of ‹sh_g v 9 k = some res›).1 (Or.inr q)
  rw [sh_ordv _ hlt]
  refine va_ti (t := t) C.1 C.2.1 hT hw.2.2 (vp_in_nI hlt (by decide)) (v := .int (sh_swm.getD v.toNatClampNeg 0)) (by rw [nI_clamp (by omega)]) d7 ?_
  exact kk H1 locs1 hw hf
end ShOrd
section ShRef
variable {p : Program} {l : Launch} {e : Env} {R : Room} {s : State} {m : MethodId} {args : Array Value} {below : List Frame} {meth : Method} {c : Code} {H : Heap} {locs : List Loc} {cells slots : Nat} {Q : State → Prop}
variable {cc : ByteArray} {nL : Nat} {own : String} {G : sh_Ev} {A : Nat → Prop} {tb : List sh_Ds} {S : sh_St} {pc : Nat} {ls : Array Slot} {rest : List Value} {β : Type} {res : β}
theorem sh_aald3 (C : sh_Cx p s m args meth c cc nL own G A) (h : sh_Wx G tb A s H locs S) {i n b st : Nat} {j : Int32} {k : Option β} (hf : sh_g j n k = some res) (ht : tb[i]? = some (.inr (3, n, b, st))) (hdg : decode cc pc = .ok (.aaload, 1))
    (kk : j.toNatClampNeg < n → k = some res → W p l e R s m args below meth c H locs cells slots Q (F0 m (pc + 1) ls (.ref (G.2.1 (b + st * j.toNatClampNeg)) :: rest))) : W p l e R s m args below meth c H locs cells slots Q (F0 m pc ls (.int j :: .ref (G.2.1 i) :: rest)) := by
  obtain ⟨hx, hb, hml, hown, hts, hK, hA, hlocks, hSf⟩ := C
  obtain ⟨hin, hf⟩ := sh_g_of hf
  exact va_aldq hx hb hK h.1 i 3 (sh_get G S ht) rfl hin hdg (kk (Nat.not_le.mp fun q => hin (Or.inr q)) hf)
theorem sh_aald4 (C : sh_Cx p s m args meth c cc nL own G A) (h : sh_Wx G tb A s H locs S) {i n b st : Nat} {j : Int32} {k : Option β} (hf : sh_g j n k = some res) (ht : tb[i]? = some (.inr (4, n, b, st))) (hdg : decode cc pc = .ok (.aaload, 1))
    (kk : j.toNatClampNeg < n → k = some res → W p l e R s m args below meth c H locs cells slots Q (F0 m (pc + 1) ls (.ref (G.2.1 (b + st * j.toNatClampNeg)) :: rest))) : W p l e R s m args below meth c H locs cells slots Q (F0 m pc ls (.int j :: .ref (G.2.1 i) :: rest)) := by
  obtain ⟨hx, hb, hml, hown, hts, hK, hA, hlocks, hSf⟩ := C
  obtain ⟨hin, hf⟩ := sh_g_of hf
  exact va_aldq hx hb hK h.1 i 4 (sh_get G S ht) rfl hin hdg (kk (Nat.not_le.mp fun q => hin (Or.inr q)) hf)
end ShRef
theorem tbX_cur {j : Nat} (h : j < 4) : tbX[132 + 2 * j]? = some (.inl (0, [(2, 133 + 2 * j), (0, 0), (0, 0), (0, 0), (0, 0)])) := by
  match j, h with
  | 0, _ => rfl
  | 1, _ => rfl
  | 2, _ => rfl
  | 3, _ => rfl
  | j + 4, h => omega
theorem tbX_curN {j : Nat} (h : j < 4) : tbX[133 + 2 * j]? = some (.inr (0, 60, 0, 0)) := by
  match j, h with
  | 0, _ => rfl
  | 1, _ => rfl
  | 2, _ => rfl
  | 3, _ => rfl
  | j + 4, h => omega
/-- a Store's ten cells -/
def sh_isS (b : Nat) : Prop := tbX[b]? = some (.inl (5, [(0, 0), (0, 0), (0, 0), (0, 0), (2, b + 1), (2, b + 2), (2, b + 3), (2, b + 4), (2, b + 5), (2, b + 6), (2, b + 7), (2, b + 8), (2, b + 9)])) ∧ tbX[b + 1]? = some (.inr (0, 40, 0, 0)) ∧ tbX[b + 2]? = some (.inr (0, 40, 0, 0)) ∧ tbX[b + 3]? = some (.inr (0, 40, 0, 0)) ∧ tbX[b + 4]? = some (.inr (1, 240, 0, 0)) ∧ tbX[b + 5]? = some (.inr (0, 240, 0, 0)) ∧ tbX[b + 6]? = some (.inr (0, 240, 0, 0)) ∧ tbX[b + 7]? = some (.inr (0, 240, 0, 0)) ∧ tbX[b + 8]? = some (.inr (0, 240, 0, 0)) ∧ tbX[b + 9]? = some (.inr (0, 240, 0, 0))
theorem isS_4 : sh_isS 4 := ⟨rfl, rfl, rfl, rfl, rfl, rfl, rfl, rfl, rfl, rfl⟩
theorem isS_14 : sh_isS 14 := ⟨rfl, rfl, rfl, rfl, rfl, rfl, rfl, rfl, rfl, rfl⟩
theorem isS_24 : sh_isS 24 := ⟨rfl, rfl, rfl, rfl, rfl, rfl, rfl, rfl, rfl, rfl⟩
theorem isS_h {j : Nat} (h : j < 8) : sh_isS (36 + 10 * j) := by
  match j, h with
  | 0, _ => exact ⟨rfl, rfl, rfl, rfl, rfl, rfl, rfl, rfl, rfl, rfl⟩
  | 1, _ => exact ⟨rfl, rfl, rfl, rfl, rfl, rfl, rfl, rfl, rfl, rfl⟩
  | 2, _ => exact ⟨rfl, rfl, rfl, rfl, rfl, rfl, rfl, rfl, rfl, rfl⟩
  | 3, _ => exact ⟨rfl, rfl, rfl, rfl, rfl, rfl, rfl, rfl, rfl, rfl⟩
  | 4, _ => exact ⟨rfl, rfl, rfl, rfl, rfl, rfl, rfl, rfl, rfl, rfl⟩
  | 5, _ => exact ⟨rfl, rfl, rfl, rfl, rfl, rfl, rfl, rfl, rfl, rfl⟩
  | 6, _ => exact ⟨rfl, rfl, rfl, rfl, rfl, rfl, rfl, rfl, rfl, rfl⟩
  | 7, _ => exact ⟨rfl, rfl, rfl, rfl, rfl, rfl, rfl, rfl, rfl, rfl⟩
  | j + 8, h => omega
theorem ab_1 : Cond.native arraycopyName ∈ sh_ws ∧ Cond.static arraycopyName ∈ sh_ws ∧ Cond.initialized "java/lang/System" ∈ sh_ws := ⟨sh_t2 (i := 199) (by decide +kernel) (by decide +kernel), sh_t2 (i := 198) (by decide +kernel) (by decide +kernel), sh_t1 (i := 15) (by decide +kernel) (by decide +kernel)⟩
section ShCopy
variable {p : Program} {l : Launch} {e : Env} {d : Nat} {s : State} {m : MethodId} {args : Array Value} {below : List Frame} {meth : Method} {c : Code} {H : Heap} {locs : List Loc} {Q : State → Prop}
variable {cc : ByteArray} {nL : Nat} {own : String} {G : sh_Ev} {A : Nat → Prop} {tb : List sh_Ds} {S : sh_St} {pc : Nat} {ls : Array Slot} {rest : List Value} {β : Type} {res : β}
theorem sh_cpi (C : sh_Cx p s m args meth c cc nL own G A) (h : sh_Wx G tb A s H locs S) {i j n b st b' st' idx : Nat} {v : Int32} (hv : v.toNatClampNeg = n) (hv0 : ¬ v < 0) {f : sh_St → Option β} (hf : sh_t (sh_RI S j (va_cpy (S.1 i) (S.1 j) 0 0 n)) f = some res) (hi : tb[i]? = some (.inr (0, n, b, st))) (hj : tb[j]? = some (.inr (0, n, b', st'))) (L : Cond.methodLink own idx arraycopyName ∈ sh_ws) (hd : 0 < d) (hls : ls.size = nL) (hrest : (rest.map fun v => v.category).sum ≤ 8) (hdg : decode cc pc = .ok (.invokestatic idx, 3))
    (kk : ∀ (S' : sh_St) (H1 : Heap) (locs1 : List Loc), sh_Wx G tb A s H1 locs1 S' → f S' = some res → W p l e (sh_rm d) s m args below meth c H1 locs1 0 0 Q (F0 m (pc + 3) ls rest)) : W p l e (sh_rm d) s m args below meth c H locs 0 0 Q (F0 m pc ls (.int v :: .int 0 :: .ref (G.2.1 j) :: .int 0 :: .ref (G.2.1 i) :: rest)) := by
  obtain ⟨hx, hb, hml, hown, hts, hK, hA, hlocks, hSf⟩ := C
  refine va_copyi (R := sh_rm d) hx hb (hml.trans hls.symm) hown (hts _ L) (hts _ ab_1.1) (hts _ ab_1.2.1) (hts _ ab_1.2.2) hK h.1 h.2.1 h.2.2 i j 0 0 (sh_get G S hi) (sh_get G S hj) rfl rfl rfl (by decide) (by decide) hv0 (by rw [hv]; show 0 + n ≤ n; omega) (by rw [hv]; show 0 + n ≤ n; omega) (fun _ _ => rfl) hd (by show _ + (nativeFrameWords "java/lang/System" "arraycopy" 5 + 11) ≤ 40 * d; have hw : nativeFrameWords "java/lang/System" "arraycopy" 5 ≤ 20 := (by decide); omega) hdg (fun H1 locs1 hP hD hS => ?_)
  have e1 := sh_set G S (sh_RI S j (va_cpy (S.1 i) (S.1 j) 0 0 n)) hj (fun q hq => sh_RI_ne S j _ q hq)
  have e2 : (sh_RI S j (va_cpy (S.1 i) (S.1 j) 0 0 n)).1 j = va_cpy (S.1 i) (S.1 j) 0 0 n := by simp [sh_RI]
  rw [e2] at e1
  rw [hv] at hP hD
  refine kk _ H1 locs1 ⟨?_, ?_, hS⟩ hf
  · rw [e1]; exact hP
  · rw [e1]; exact hD
theorem sh_cpl (C : sh_Cx p s m args meth c cc nL own G A) (h : sh_Wx G tb A s H locs S) {i j n b st b' st' idx : Nat} {v : Int32} (hv : v.toNatClampNeg = n) (hv0 : ¬ v < 0) {f : sh_St → Option β} (hf : sh_t (sh_RL S j (va_cpy (S.2 i) (S.2 j) 0 0 n)) f = some res) (hi : tb[i]? = some (.inr (1, n, b, st))) (hj : tb[j]? = some (.inr (1, n, b', st'))) (L : Cond.methodLink own idx arraycopyName ∈ sh_ws) (hd : 0 < d) (hls : ls.size = nL) (hrest : (rest.map fun v => v.category).sum ≤ 8) (hdg : decode cc pc = .ok (.invokestatic idx, 3))
    (kk : ∀ (S' : sh_St) (H1 : Heap) (locs1 : List Loc), sh_Wx G tb A s H1 locs1 S' → f S' = some res → W p l e (sh_rm d) s m args below meth c H1 locs1 0 0 Q (F0 m (pc + 3) ls rest)) : W p l e (sh_rm d) s m args below meth c H locs 0 0 Q (F0 m pc ls (.int v :: .int 0 :: .ref (G.2.1 j) :: .int 0 :: .ref (G.2.1 i) :: rest)) := by
  obtain ⟨hx, hb, hml, hown, hts, hK, hA, hlocks, hSf⟩ := C
  refine va_copyl (R := sh_rm d) hx hb (hml.trans hls.symm) hown (hts _ L) (hts _ ab_1.1) (hts _ ab_1.2.1) (hts _ ab_1.2.2) hK h.1 h.2.1 h.2.2 i j 1 1 (sh_get G S hi) (sh_get G S hj) rfl rfl rfl (by decide) (by decide) hv0 (by rw [hv]; show 0 + n ≤ n; omega) (by rw [hv]; show 0 + n ≤ n; omega) (fun _ _ => rfl) hd (by show _ + (nativeFrameWords "java/lang/System" "arraycopy" 5 + 11) ≤ 40 * d; have hw : nativeFrameWords "java/lang/System" "arraycopy" 5 ≤ 20 := (by decide); omega) hdg (fun H1 locs1 hP hD hS => ?_)
  have e1 := sh_set G S (sh_RL S j (va_cpy (S.2 i) (S.2 j) 0 0 n)) hj (fun q hq => sh_RL_ne S j _ q hq)
  have e2 : (sh_RL S j (va_cpy (S.2 i) (S.2 j) 0 0 n)).2 j = va_cpy (S.2 i) (S.2 j) 0 0 n := by simp [sh_RL]
  rw [e2] at e1
  rw [hv] at hP hD
  refine kk _ H1 locs1 ⟨?_, ?_, hS⟩ hf
  · rw [e1]; exact hP
  · rw [e1]; exact hD
end ShCopy
def fX7_copyFrom (S : sh_St) (dd ss : Nat) : Option (Unit × sh_St) :=
    sh_t (sh_I S dd 0 (S.1 ss 0)) fun S1 =>
    sh_t (sh_I S1 dd 1 (S1.1 ss 1)) fun S2 =>
    sh_b (S2.1 ss 2) (sh_t (sh_I S2 dd 2 (S2.1 ss 2)) fun S3 =>
    sh_t (sh_I S3 dd 3 (S3.1 ss 3)) fun S4 =>
    sh_t (sh_RI S4 (dd + 1) (va_cpy (S4.1 (ss + 1)) (S4.1 (dd + 1)) 0 0 40)) fun S5 =>
    sh_t (sh_RI S5 (dd + 2) (va_cpy (S5.1 (ss + 2)) (S5.1 (dd + 2)) 0 0 40)) fun S6 =>
    sh_t (sh_RI S6 (dd + 3) (va_cpy (S6.1 (ss + 3)) (S6.1 (dd + 3)) 0 0 40)) fun S7 =>
    sh_t (sh_RL S7 (dd + 4) (va_cpy (S7.2 (ss + 4)) (S7.2 (dd + 4)) 0 0 240)) fun S8 =>
    sh_t (sh_RI S8 (dd + 5) (va_cpy (S8.1 (ss + 5)) (S8.1 (dd + 5)) 0 0 240)) fun S9 =>
    sh_t (sh_RI S9 (dd + 6) (va_cpy (S9.1 (ss + 6)) (S9.1 (dd + 6)) 0 0 240)) fun S10 =>
    sh_t (sh_RI S10 (dd + 7) (va_cpy (S10.1 (ss + 7)) (S10.1 (dd + 7)) 0 0 240)) fun S11 =>
    sh_t (sh_RI S11 (dd + 8) (va_cpy (S11.1 (ss + 8)) (S11.1 (dd + 8)) 0 0 240)) fun S12 =>
    sh_t (sh_RI S12 (dd + 9) (va_cpy (S12.1 (ss + 9)) (S12.1 (dd + 9)) 0 0 240)) fun S13 =>
    some ((), S13))
set_option maxRecDepth 100000 in
set_option maxHeartbeats 4000000 in
theorem kX7_copyFrom (l : Launch) {dd ss : Nat} (h1 : sh_isS dd) (h2 : sh_isS ss) : sh_Mv l yX7_copyFrom cX7_copyFrom 2 1 tbX (fun G => [.ref (G.2.1 dd), .ref (G.2.1 ss)]) (fun S => fX7_copyFrom S dd ss) := by
  refine sh_mkv (by decide) (fun G => Nat.le_of_ble_eq_true rfl) ?_
  intro p e s m args below meth c G A S res ls hf C hr hw hl
  have C : sh_Cx p s m args meth c cX7_copyFrom 2 RX7 G A := C
  have hl : lv_has ls 2 [(0, .ref (G.2.1 dd)), (1, .ref (G.2.1 ss))] := hl
  replace hf : fX7_copyFrom S dd ss = some res := hf
  rw [fX7_copyFrom] at hf
  refine lv_aload_n C.1 C.2.1 dX7_copyFrom_0 rfl (lv_at hl 0 rfl) ?_
  refine lv_aload_n C.1 C.2.1 dX7_copyFrom_1 rfl (lv_at hl 1 rfl) ?_
  refine sh_geti C hw fl_X7_9 h2.1 rfl dX7_copyFrom_2 ?_
  refine sh_puti C hw fl_X7_9 fp_5_0 hf h1.1 rfl dX7_copyFrom_5 (fun S1 H locs hw hf => ?_)
  refine lv_aload_n C.1 C.2.1 dX7_copyFrom_8 rfl (lv_at hl 0 rfl) ?_
  refine lv_aload_n C.1 C.2.1 dX7_copyFrom_9 rfl (lv_at hl 1 rfl) ?_
  refine sh_geti C hw fl_X7_15 h2.1 rfl dX7_copyFrom_10 ?_
  refine sh_puti C hw fl_X7_15 fp_5_1 hf h1.1 rfl dX7_copyFrom_13 (fun S2 H locs hw hf => ?_)
  refine lv_aload_n C.1 C.2.1 dX7_copyFrom_16 rfl (lv_at hl 0 rfl) ?_
  refine lv_aload_n C.1 C.2.1 dX7_copyFrom_17 rfl (lv_at hl 1 rfl) ?_
  refine sh_geti C hw fl_X7_18 h2.1 rfl dX7_copyFrom_18 ?_
  refine sh_putz C hw fl_X7_18 fp_5_2 hf h1.1 rfl dX7_copyFrom_21 (fun S3 H locs hw hf => ?_)
  refine lv_aload_n C.1 C.2.1 dX7_copyFrom_24 rfl (lv_at hl 0 rfl) ?_
  refine lv_aload_n C.1 C.2.1 dX7_copyFrom_25 rfl (lv_at hl 1 rfl) ?_
  refine sh_geti C hw fl_X7_22 h2.1 rfl dX7_copyFrom_26 ?_
  refine sh_puti C hw fl_X7_22 fp_5_3 hf h1.1 rfl dX7_copyFrom_29 (fun S4 H locs hw hf => ?_)
  refine lv_aload_n C.1 C.2.1 dX7_copyFrom_32 rfl (lv_at hl 1 rfl) ?_
  refine sh_getr C hw fl_X7_25 h2.1 rfl dX7_copyFrom_33 ?_
  refine lv_iconst (v := 0) C.1 C.2.1 dX7_copyFrom_36 (by decide) ?_
  refine lv_aload_n C.1 C.2.1 dX7_copyFrom_37 rfl (lv_at hl 0 rfl) ?_
  refine sh_getr C hw fl_X7_25 h1.1 rfl dX7_copyFrom_38 ?_
  refine lv_iconst (v := 0) C.1 C.2.1 dX7_copyFrom_41 (by decide) ?_
  refine lv_bipush (v := 40) C.1 C.2.1 dX7_copyFrom_42 (by decide) ?_
  refine sh_cpi C hw (n := 40) (by decide) (by decide) hf h2.2.1 h1.2.1 ml_X7_54 (by decide) hl.1 (Nat.le_of_ble_eq_true rfl) dX7_copyFrom_44 (fun S5 H locs hw hf => ?_)
  refine lv_aload_n C.1 C.2.1 dX7_copyFrom_47 rfl (lv_at hl 1 rfl) ?_
  refine sh_getr C hw fl_X7_29 h2.1 rfl dX7_copyFrom_48 ?_
  refine lv_iconst (v := 0) C.1 C.2.1 dX7_copyFrom_51 (by decide) ?_
  refine lv_aload_n C.1 C.2.1 dX7_copyFrom_52 rfl (lv_at hl 0 rfl) ?_
  refine sh_getr C hw fl_X7_29 h1.1 rfl dX7_copyFrom_53 ?_
  refine lv_iconst (v := 0) C.1 C.2.1 dX7_copyFrom_56 (by decide) ?_
  refine lv_bipush (v := 40) C.1 C.2.1 dX7_copyFrom_57 (by decide) ?_
  refine sh_cpi C hw (n := 40) (by decide) (by decide) hf h2.2.2.1 h1.2.2.1 ml_X7_54 (by decide) hl.1 (Nat.le_of_ble_eq_true rfl) dX7_copyFrom_59 (fun S6 H locs hw hf => ?_)
  refine lv_aload_n C.1 C.2.1 dX7_copyFrom_62 rfl (lv_at hl 1 rfl) ?_
  refine sh_getr C hw fl_X7_32 h2.1 rfl dX7_copyFrom_63 ?_
  refine lv_iconst (v := 0) C.1 C.2.1 dX7_copyFrom_66 (by decide) ?_
  refine lv_aload_n C.1 C.2.1 dX7_copyFrom_67 rfl (lv_at hl 0 rfl) ?_
  refine sh_getr C hw fl_X7_32 h1.1 rfl dX7_copyFrom_68 ?_
  refine lv_iconst (v := 0) C.1 C.2.1 dX7_copyFrom_71 (by decide) ?_
  refine lv_bipush (v := 40) C.1 C.2.1 dX7_copyFrom_72 (by decide) ?_
  refine sh_cpi C hw (n := 40) (by decide) (by decide) hf h2.2.2.2.1 h1.2.2.2.1 ml_X7_54 (by decide) hl.1 (Nat.le_of_ble_eq_true rfl) dX7_copyFrom_74 (fun S7 H locs hw hf => ?_)
  refine lv_aload_n C.1 C.2.1 dX7_copyFrom_77 rfl (lv_at hl 1 rfl) ?_
  refine sh_getr C hw fl_X7_35 h2.1 rfl dX7_copyFrom_78 ?_
  refine lv_iconst (v := 0) C.1 C.2.1 dX7_copyFrom_81 (by decide) ?_
  refine lv_aload_n C.1 C.2.1 dX7_copyFrom_82 rfl (lv_at hl 0 rfl) ?_
  refine sh_getr C hw fl_X7_35 h1.1 rfl dX7_copyFrom_83 ?_
  refine lv_iconst (v := 0) C.1 C.2.1 dX7_copyFrom_86 (by decide) ?_
  refine lv_sipush (v := 240) C.1 C.2.1 dX7_copyFrom_87 (by decide) ?_
  refine sh_cpl C hw (n := 240) (by decide) (by decide) hf h2.2.2.2.2.1 h1.2.2.2.2.1 ml_X7_54 (by decide) hl.1 (Nat.le_of_ble_eq_true rfl) dX7_copyFrom_90 (fun S8 H locs hw hf => ?_)
  refine lv_aload_n C.1 C.2.1 dX7_copyFrom_93 rfl (lv_at hl 1 rfl) ?_
  refine sh_getr C hw fl_X7_39 h2.1 rfl dX7_copyFrom_94 ?_
  refine lv_iconst (v := 0) C.1 C.2.1 dX7_copyFrom_97 (by decide) ?_
  refine lv_aload_n C.1 C.2.1 dX7_copyFrom_98 rfl (lv_at hl 0 rfl) ?_
  refine sh_getr C hw fl_X7_39 h1.1 rfl dX7_copyFrom_99 ?_
  refine lv_iconst (v := 0) C.1 C.2.1 dX7_copyFrom_102 (by decide) ?_
  refine lv_sipush (v := 240) C.1 C.2.1 dX7_copyFrom_103 (by decide) ?_
  refine sh_cpi C hw (n := 240) (by decide) (by decide) hf h2.2.2.2.2.2.1 h1.2.2.2.2.2.1 ml_X7_54 (by decide) hl.1 (Nat.le_of_ble_eq_true rfl) dX7_copyFrom_106 (fun S9 H locs hw hf => ?_)
  refine lv_aload_n C.1 C.2.1 dX7_copyFrom_109 rfl (lv_at hl 1 rfl) ?_
  refine sh_getr C hw fl_X7_42 h2.1 rfl dX7_copyFrom_110 ?_
  refine lv_iconst (v := 0) C.1 C.2.1 dX7_copyFrom_113 (by decide) ?_
  refine lv_aload_n C.1 C.2.1 dX7_copyFrom_114 rfl (lv_at hl 0 rfl) ?_
  refine sh_getr C hw fl_X7_42 h1.1 rfl dX7_copyFrom_115 ?_
  refine lv_iconst (v := 0) C.1 C.2.1 dX7_copyFrom_118 (by decide) ?_
  refine lv_sipush (v := 240) C.1 C.2.1 dX7_copyFrom_119 (by decide) ?_
  refine sh_cpi C hw (n := 240) (by decide) (by decide) hf h2.2.2.2.2.2.2.1 h1.2.2.2.2.2.2.1 ml_X7_54 (by decide) hl.1 (Nat.le_of_ble_eq_true rfl) dX7_copyFrom_122 (fun S10 H locs hw hf => ?_)
  refine lv_aload_n C.1 C.2.1 dX7_copyFrom_125 rfl (lv_at hl 1 rfl) ?_
  refine sh_getr C hw fl_X7_45 h2.1 rfl dX7_copyFrom_126 ?_
  refine lv_iconst (v := 0) C.1 C.2.1 dX7_copyFrom_129 (by decide) ?_
  refine lv_aload_n C.1 C.2.1 dX7_copyFrom_130 rfl (lv_at hl 0 rfl) ?_
  refine sh_getr C hw fl_X7_45 h1.1 rfl dX7_copyFrom_131 ?_
  refine lv_iconst (v := 0) C.1 C.2.1 dX7_copyFrom_134 (by decide) ?_
  refine lv_sipush (v := 240) C.1 C.2.1 dX7_copyFrom_135 (by decide) ?_
  refine sh_cpi C hw (n := 240) (by decide) (by decide) hf h2.2.2.2.2.2.2.2.1 h1.2.2.2.2.2.2.2.1 ml_X7_54 (by decide) hl.1 (Nat.le_of_ble_eq_true rfl) dX7_copyFrom_138 (fun S11 H locs hw hf => ?_)
  refine lv_aload_n C.1 C.2.1 dX7_copyFrom_141 rfl (lv_at hl 1 rfl) ?_
  refine sh_getr C hw fl_X7_48 h2.1 rfl dX7_copyFrom_142 ?_
  refine lv_iconst (v := 0) C.1 C.2.1 dX7_copyFrom_145 (by decide) ?_
  refine lv_aload_n C.1 C.2.1 dX7_copyFrom_146 rfl (lv_at hl 0 rfl) ?_
  refine sh_getr C hw fl_X7_48 h1.1 rfl dX7_copyFrom_147 ?_
  refine lv_iconst (v := 0) C.1 C.2.1 dX7_copyFrom_150 (by decide) ?_
  refine lv_sipush (v := 240) C.1 C.2.1 dX7_copyFrom_151 (by decide) ?_
  refine sh_cpi C hw (n := 240) (by decide) (by decide) hf h2.2.2.2.2.2.2.2.2.1 h1.2.2.2.2.2.2.2.2.1 ml_X7_54 (by decide) hl.1 (Nat.le_of_ble_eq_true rfl) dX7_copyFrom_154 (fun S12 H locs hw hf => ?_)
  refine lv_aload_n C.1 C.2.1 dX7_copyFrom_157 rfl (lv_at hl 1 rfl) ?_
  refine sh_getr C hw fl_X7_51 h2.1 rfl dX7_copyFrom_158 ?_
  refine lv_iconst (v := 0) C.1 C.2.1 dX7_copyFrom_161 (by decide) ?_
  refine lv_aload_n C.1 C.2.1 dX7_copyFrom_162 rfl (lv_at hl 0 rfl) ?_
  refine sh_getr C hw fl_X7_51 h1.1 rfl dX7_copyFrom_163 ?_
  refine lv_iconst (v := 0) C.1 C.2.1 dX7_copyFrom_166 (by decide) ?_
  refine lv_sipush (v := 240) C.1 C.2.1 dX7_copyFrom_167 (by decide) ?_
  refine sh_cpi C hw (n := 240) (by decide) (by decide) hf h2.2.2.2.2.2.2.2.2.2 h1.2.2.2.2.2.2.2.2.2 ml_X7_54 (by decide) hl.1 (Nat.le_of_ble_eq_true rfl) dX7_copyFrom_170 (fun S13 H locs hw hf => ?_)
  exact sh_rv C hw hr hf dX7_copyFrom_173
