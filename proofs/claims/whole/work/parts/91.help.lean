/-! the law's helpers, written by gen/mk_help.py -/
theorem tbL_0 : tbL[0]? = some (.inl (10, [(2, 1), (2, 3), (2, 4), (2, 14), (2, 24), (2, 34), (2, 116), (2, 128), (2, 131), (0, 0), (0, 0)])) := (sub_X 0 _ tbX_0).trans (by rw [sh_sd_0])
theorem cl_L_13 : Cond.classLink RL 13 "java/lang/IllegalArgumentException" ∈ sh_ws := sh_t2 (i := 231) (by decide +kernel) (by decide +kernel)
theorem ca_IA : Cond.castable "java/lang/IllegalArgumentException" "java/lang/IllegalArgumentException" ∈ sh_nest := by decide +kernel
theorem cl_L_19 : Cond.classLink RL 19 "java/lang/IllegalStateException" ∈ sh_ws := sh_t4 (i := 164) (by decide +kernel) (by decide +kernel)
theorem ca_IS : Cond.castable "java/lang/IllegalStateException" "java/lang/IllegalStateException" ∈ sh_nest := by decide +kernel
theorem cl_L_34 : Cond.classLink RL 34 "java/util/NoSuchElementException" ∈ sh_ws := sh_t4 (i := 232) (by decide +kernel) (by decide +kernel)
theorem ca_NS : Cond.castable "java/util/NoSuchElementException" "java/util/NoSuchElementException" ∈ sh_nest := by decide +kernel
theorem cl_L_39 : Cond.classLink RL 39 "java/lang/IndexOutOfBoundsException" ∈ sh_ws := sh_t5 (i := 24) (by decide +kernel) (by decide +kernel)
theorem ca_IO : Cond.castable "java/lang/IndexOutOfBoundsException" "java/lang/IndexOutOfBoundsException" ∈ sh_nest := by decide +kernel
theorem ml_L_7 : Cond.methodLink RL 7 yX12_acts ∈ sh_ws := sh_t2 (i := 232) (by decide +kernel) (by decide +kernel)
set_option maxRecDepth 100000 in
set_option maxHeartbeats 4000000 in
theorem kL_acts (l : Launch) (hst : l.stackTraces = false) : sh_Hi l yL_acts cL_acts 3 [(0, 8, 11, 13)] 11 1 6 tbL (fun G => [.ref (G.2.1 0), .ref (G.2.1 162)]) (sh_hf ["java/lang/IllegalArgumentException"] (sh_lf 0 tbX.length (fun S => fX12_acts S))) := by
  refine sh_mkh (by decide) (fun G => Nat.le_of_ble_eq_true rfl) ?_
  intro p e s m args below meth c G A S res ls hf C hr htab hNq hw hl
  have C : sh_Cx p s m args meth c cL_acts 3 RL G A := C
  have hl : lv_has ls 3 [(0, .ref (G.2.1 0)), (1, .ref (G.2.1 162))] := hl
  refine lv_aload_n C.1 C.2.1 dL_acts_0 rfl (lv_at hl 1 rfl) ?_
  refine lv_iconst (v := 0) C.1 C.2.1 dL_acts_1 (by decide) ?_
  refine lv_aload_n C.1 C.2.1 dL_acts_2 rfl (lv_at hl 0 rfl) ?_
  refine sh_HV (As := []) (rest := [.int 0, .ref (G.2.1 162)]) C hw (sh_Ti_up sub_X (kX12_acts l hst)) yy_X12_acts yv_X12_acts ml_L_7 hf tbL_0 rfl rfl rfl rfl (Nat.le_of_ble_eq_true rfl) (by decide) (by decide) (by decide) hl.1 dL_acts_3 (fun E S1 H locs q ce hw hf hce hcv hcl => ?_) (fun r S1 H locs hw hf => ?_)
  · have hf1 : (if some "java/lang/IllegalArgumentException" = some E then some ((1 : Int32), S1) else if (none : Option String) = some E then some (2, S1) else if (none : Option String) = some E then some (3, S1) else none) = some res := hf
    by_cases e0 : E = "java/lang/IllegalArgumentException"
    · subst e0
      rw [if_pos rfl] at hf1
      refine vx_catch (own := RL) (name := "java/lang/IllegalArgumentException") C.2.2.2.1 [] ⟨0, 8, 11, 13⟩ [] htab (fun z hz => nomatch hz) (by decide) (by decide) (C.2.2.2.2.1 _ cl_L_13) (sh_words C (Or.inr ca_IA)) hce hcv hcl ?_
      refine lv_astore_n C.1 C.2.1 dL_acts_11 rfl hl (by decide) rfl (fun ls hl => ?_)
      refine lv_iconst (v := 1) C.1 C.2.1 dL_acts_12 (by decide) ?_
      exact sh_hri C hw hr hf1 (by decide) (by decide) dL_acts_13
    rw [if_neg (fun h => e0 (Option.some.inj h).symm), if_neg (fun h => nomatch h), if_neg (fun h => nomatch h)] at hf1
    exact nomatch hf1
  · refine lv_i2l (v := r.toInt64) C.1 C.2.1 dL_acts_6 rfl ?_
    refine sh_last C hw hf tbL_o dL_acts_7 (fun S2 H locs hw hf => ?_)
    refine lv_goto (tgt := 14) C.1 C.2.1 dL_acts_8 (by decide) ?_
    refine lv_iconst (v := 0) C.1 C.2.1 dL_acts_14 (by decide) ?_
    exact sh_hri C hw hr hf (by decide) (by decide) dL_acts_15
theorem ml_L_15 : Cond.methodLink RL 15 yX12_put ∈ sh_ws := sh_t4 (i := 165) (by decide +kernel) (by decide +kernel)
set_option maxRecDepth 100000 in
set_option maxHeartbeats 4000000 in
theorem kL_put (l : Launch) (hst : l.stackTraces = false) (v1 : Int32) : sh_Hi l yL_put cL_put 4 [(0, 9, 12, 13), (0, 9, 15, 19)] 12 2 12 tbL (fun G => [.ref (G.2.1 0), .int v1, .ref (G.2.1 162)]) (sh_hf ["java/lang/IllegalArgumentException", "java/lang/IllegalStateException"] (sh_lf 0 tbX.length (fun S => fX12_put S v1))) := by
  refine sh_mkh (by decide) (fun G => Nat.le_of_ble_eq_true rfl) ?_
  intro p e s m args below meth c G A S res ls hf C hr htab hNq hw hl
  have C : sh_Cx p s m args meth c cL_put 4 RL G A := C
  have hl : lv_has ls 4 [(0, .ref (G.2.1 0)), (1, .int v1), (2, .ref (G.2.1 162))] := hl
  refine lv_aload_n C.1 C.2.1 dL_put_0 rfl (lv_at hl 2 rfl) ?_
  refine lv_iconst (v := 0) C.1 C.2.1 dL_put_1 (by decide) ?_
  refine lv_aload_n C.1 C.2.1 dL_put_2 rfl (lv_at hl 0 rfl) ?_
  refine lv_iload_n C.1 C.2.1 dL_put_3 rfl (lv_at hl 1 rfl) ?_
  refine sh_HV (As := [.int v1]) (rest := [.int 0, .ref (G.2.1 162)]) C hw (sh_Ti_up sub_X (kX12_put l hst v1)) yy_X12_put yv_X12_put ml_L_15 hf tbL_0 rfl rfl rfl rfl (Nat.le_of_ble_eq_true rfl) (by decide) (by decide) (by decide) hl.1 dL_put_4 (fun E S1 H locs q ce hw hf hce hcv hcl => ?_) (fun r S1 H locs hw hf => ?_)
  · have hf1 : (if some "java/lang/IllegalArgumentException" = some E then some ((1 : Int32), S1) else if some "java/lang/IllegalStateException" = some E then some (2, S1) else if (none : Option String) = some E then some (3, S1) else none) = some res := hf
    by_cases e0 : E = "java/lang/IllegalArgumentException"
    · subst e0
      rw [if_pos rfl] at hf1
      refine vx_catch (own := RL) (name := "java/lang/IllegalArgumentException") C.2.2.2.1 [] ⟨0, 9, 12, 13⟩ [⟨0, 9, 15, 19⟩] htab (fun z hz => nomatch hz) (by decide) (by decide) (C.2.2.2.2.1 _ cl_L_13) (sh_words C (Or.inr ca_IA)) hce hcv hcl ?_
      refine lv_astore_n C.1 C.2.1 dL_put_12 rfl hl (by decide) rfl (fun ls hl => ?_)
      refine lv_iconst (v := 1) C.1 C.2.1 dL_put_13 (by decide) ?_
      exact sh_hri C hw hr hf1 (by decide) (by decide) dL_put_14
    by_cases e1 : E = "java/lang/IllegalStateException"
    · subst e1
      rw [if_neg (by decide), if_pos rfl] at hf1
      refine vx_catch (own := RL) (name := "java/lang/IllegalStateException") C.2.2.2.1 [⟨0, 9, 12, 13⟩] ⟨0, 9, 15, 19⟩ [] htab (fun z hz => by
        simp only [List.mem_cons, List.not_mem_nil, or_false] at hz
        rcases hz with rfl
        · exact Or.inr ⟨by decide, "java/lang/IllegalArgumentException", C.2.2.2.2.1 _ cl_L_13, hNq ("java/lang/IllegalStateException", "java/lang/IllegalArgumentException") (by decide +kernel)⟩) (by decide) (by decide) (C.2.2.2.2.1 _ cl_L_19) (sh_words C (Or.inr ca_IS)) hce hcv hcl ?_
      refine lv_astore_n C.1 C.2.1 dL_put_15 rfl hl (by decide) rfl (fun ls hl => ?_)
      refine lv_iconst (v := 2) C.1 C.2.1 dL_put_16 (by decide) ?_
      exact sh_hri C hw hr hf1 (by decide) (by decide) dL_put_17
    rw [if_neg (fun h => e0 (Option.some.inj h).symm), if_neg (fun h => e1 (Option.some.inj h).symm), if_neg (fun h => nomatch h)] at hf1
    exact nomatch hf1
  · refine lv_i2l (v := r.toInt64) C.1 C.2.1 dL_put_7 rfl ?_
    refine sh_last C hw hf tbL_o dL_put_8 (fun S2 H locs hw hf => ?_)
    refine lv_goto (tgt := 18) C.1 C.2.1 dL_put_9 (by decide) ?_
    refine lv_iconst (v := 0) C.1 C.2.1 dL_put_18 (by decide) ?_
    exact sh_hri C hw hr hf (by decide) (by decide) dL_put_19
theorem ml_L_21 : Cond.methodLink RL 21 yX12_cut ∈ sh_ws := sh_t4 (i := 206) (by decide +kernel) (by decide +kernel)
set_option maxRecDepth 100000 in
set_option maxHeartbeats 4000000 in
theorem kL_cut (l : Launch) (hst : l.stackTraces = false) : sh_Hi l yL_cut cL_cut 3 [(0, 8, 11, 13), (0, 8, 14, 19)] 12 2 12 tbL (fun G => [.ref (G.2.1 0), .ref (G.2.1 162)]) (sh_hf ["java/lang/IllegalArgumentException", "java/lang/IllegalStateException"] (sh_lf 0 tbX.length (fun S => fX12_cut S))) := by
  refine sh_mkh (by decide) (fun G => Nat.le_of_ble_eq_true rfl) ?_
  intro p e s m args below meth c G A S res ls hf C hr htab hNq hw hl
  have C : sh_Cx p s m args meth c cL_cut 3 RL G A := C
  have hl : lv_has ls 3 [(0, .ref (G.2.1 0)), (1, .ref (G.2.1 162))] := hl
  refine lv_aload_n C.1 C.2.1 dL_cut_0 rfl (lv_at hl 1 rfl) ?_
  refine lv_iconst (v := 0) C.1 C.2.1 dL_cut_1 (by decide) ?_
  refine lv_aload_n C.1 C.2.1 dL_cut_2 rfl (lv_at hl 0 rfl) ?_
  refine sh_HV (As := []) (rest := [.int 0, .ref (G.2.1 162)]) C hw (sh_Ti_up sub_X (kX12_cut l hst)) yy_X12_cut yv_X12_cut ml_L_21 hf tbL_0 rfl rfl rfl rfl (Nat.le_of_ble_eq_true rfl) (by decide) (by decide) (by decide) hl.1 dL_cut_3 (fun E S1 H locs q ce hw hf hce hcv hcl => ?_) (fun r S1 H locs hw hf => ?_)
  · have hf1 : (if some "java/lang/IllegalArgumentException" = some E then some ((1 : Int32), S1) else if some "java/lang/IllegalStateException" = some E then some (2, S1) else if (none : Option String) = some E then some (3, S1) else none) = some res := hf
    by_cases e0 : E = "java/lang/IllegalArgumentException"
    · subst e0
      rw [if_pos rfl] at hf1
      refine vx_catch (own := RL) (name := "java/lang/IllegalArgumentException") C.2.2.2.1 [] ⟨0, 8, 11, 13⟩ [⟨0, 8, 14, 19⟩] htab (fun z hz => nomatch hz) (by decide) (by decide) (C.2.2.2.2.1 _ cl_L_13) (sh_words C (Or.inr ca_IA)) hce hcv hcl ?_
      refine lv_astore_n C.1 C.2.1 dL_cut_11 rfl hl (by decide) rfl (fun ls hl => ?_)
      refine lv_iconst (v := 1) C.1 C.2.1 dL_cut_12 (by decide) ?_
      exact sh_hri C hw hr hf1 (by decide) (by decide) dL_cut_13
    by_cases e1 : E = "java/lang/IllegalStateException"
    · subst e1
      rw [if_neg (by decide), if_pos rfl] at hf1
      refine vx_catch (own := RL) (name := "java/lang/IllegalStateException") C.2.2.2.1 [⟨0, 8, 11, 13⟩] ⟨0, 8, 14, 19⟩ [] htab (fun z hz => by
        simp only [List.mem_cons, List.not_mem_nil, or_false] at hz
        rcases hz with rfl
        · exact Or.inr ⟨by decide, "java/lang/IllegalArgumentException", C.2.2.2.2.1 _ cl_L_13, hNq ("java/lang/IllegalStateException", "java/lang/IllegalArgumentException") (by decide +kernel)⟩) (by decide) (by decide) (C.2.2.2.2.1 _ cl_L_19) (sh_words C (Or.inr ca_IS)) hce hcv hcl ?_
      refine lv_astore_n C.1 C.2.1 dL_cut_14 rfl hl (by decide) rfl (fun ls hl => ?_)
      refine lv_iconst (v := 2) C.1 C.2.1 dL_cut_15 (by decide) ?_
      exact sh_hri C hw hr hf1 (by decide) (by decide) dL_cut_16
    rw [if_neg (fun h => e0 (Option.some.inj h).symm), if_neg (fun h => e1 (Option.some.inj h).symm), if_neg (fun h => nomatch h)] at hf1
    exact nomatch hf1
  · refine lv_i2l (v := r.toInt64) C.1 C.2.1 dL_cut_6 rfl ?_
    refine sh_last C hw hf tbL_o dL_cut_7 (fun S2 H locs hw hf => ?_)
    refine lv_goto (tgt := 17) C.1 C.2.1 dL_cut_8 (by decide) ?_
    refine lv_iconst (v := 0) C.1 C.2.1 dL_cut_17 (by decide) ?_
    exact sh_hri C hw hr hf (by decide) (by decide) dL_cut_18
theorem ml_L_24 : Cond.methodLink RL 24 yX12_turn ∈ sh_ws := sh_t4 (i := 215) (by decide +kernel) (by decide +kernel)
set_option maxRecDepth 100000 in
set_option maxHeartbeats 4000000 in
theorem kL_turn (l : Launch) (hst : l.stackTraces = false) : sh_Hi l yL_turn cL_turn 3 [(0, 8, 11, 13), (0, 8, 14, 19)] 12 1 6 tbL (fun G => [.ref (G.2.1 0), .ref (G.2.1 162)]) (sh_hf ["java/lang/IllegalArgumentException", "java/lang/IllegalStateException"] (sh_lf 0 tbX.length (fun S => fX12_turn S))) := by
  refine sh_mkh (by decide) (fun G => Nat.le_of_ble_eq_true rfl) ?_
  intro p e s m args below meth c G A S res ls hf C hr htab hNq hw hl
  have C : sh_Cx p s m args meth c cL_turn 3 RL G A := C
  have hl : lv_has ls 3 [(0, .ref (G.2.1 0)), (1, .ref (G.2.1 162))] := hl
  refine lv_aload_n C.1 C.2.1 dL_turn_0 rfl (lv_at hl 1 rfl) ?_
  refine lv_iconst (v := 0) C.1 C.2.1 dL_turn_1 (by decide) ?_
  refine lv_aload_n C.1 C.2.1 dL_turn_2 rfl (lv_at hl 0 rfl) ?_
  refine sh_HV (As := []) (rest := [.int 0, .ref (G.2.1 162)]) C hw (sh_Ti_up sub_X (kX12_turn l hst)) yy_X12_turn yv_X12_turn ml_L_24 hf tbL_0 rfl rfl rfl rfl (Nat.le_of_ble_eq_true rfl) (by decide) (by decide) (by decide) hl.1 dL_turn_3 (fun E S1 H locs q ce hw hf hce hcv hcl => ?_) (fun r S1 H locs hw hf => ?_)
  · have hf1 : (if some "java/lang/IllegalArgumentException" = some E then some ((1 : Int32), S1) else if some "java/lang/IllegalStateException" = some E then some (2, S1) else if (none : Option String) = some E then some (3, S1) else none) = some res := hf
    by_cases e0 : E = "java/lang/IllegalArgumentException"
    · subst e0
      rw [if_pos rfl] at hf1
      refine vx_catch (own := RL) (name := "java/lang/IllegalArgumentException") C.2.2.2.1 [] ⟨0, 8, 11, 13⟩ [⟨0, 8, 14, 19⟩] htab (fun z hz => nomatch hz) (by decide) (by decide) (C.2.2.2.2.1 _ cl_L_13) (sh_words C (Or.inr ca_IA)) hce hcv hcl ?_
      refine lv_astore_n C.1 C.2.1 dL_turn_11 rfl hl (by decide) rfl (fun ls hl => ?_)
      refine lv_iconst (v := 1) C.1 C.2.1 dL_turn_12 (by decide) ?_
      exact sh_hri C hw hr hf1 (by decide) (by decide) dL_turn_13
    by_cases e1 : E = "java/lang/IllegalStateException"
    · subst e1
      rw [if_neg (by decide), if_pos rfl] at hf1
      refine vx_catch (own := RL) (name := "java/lang/IllegalStateException") C.2.2.2.1 [⟨0, 8, 11, 13⟩] ⟨0, 8, 14, 19⟩ [] htab (fun z hz => by
        simp only [List.mem_cons, List.not_mem_nil, or_false] at hz
        rcases hz with rfl
        · exact Or.inr ⟨by decide, "java/lang/IllegalArgumentException", C.2.2.2.2.1 _ cl_L_13, hNq ("java/lang/IllegalStateException", "java/lang/IllegalArgumentException") (by decide +kernel)⟩) (by decide) (by decide) (C.2.2.2.2.1 _ cl_L_19) (sh_words C (Or.inr ca_IS)) hce hcv hcl ?_
      refine lv_astore_n C.1 C.2.1 dL_turn_14 rfl hl (by decide) rfl (fun ls hl => ?_)
      refine lv_iconst (v := 2) C.1 C.2.1 dL_turn_15 (by decide) ?_
      exact sh_hri C hw hr hf1 (by decide) (by decide) dL_turn_16
    rw [if_neg (fun h => e0 (Option.some.inj h).symm), if_neg (fun h => e1 (Option.some.inj h).symm), if_neg (fun h => nomatch h)] at hf1
    exact nomatch hf1
  · refine lv_i2l (v := r.toInt64) C.1 C.2.1 dL_turn_6 rfl ?_
    refine sh_last C hw hf tbL_o dL_turn_7 (fun S2 H locs hw hf => ?_)
    refine lv_goto (tgt := 17) C.1 C.2.1 dL_turn_8 (by decide) ?_
    refine lv_iconst (v := 0) C.1 C.2.1 dL_turn_17 (by decide) ?_
    exact sh_hri C hw hr hf (by decide) (by decide) dL_turn_18
theorem ml_L_27 : Cond.methodLink RL 27 yX12_build ∈ sh_ws := sh_t4 (i := 224) (by decide +kernel) (by decide +kernel)
set_option maxRecDepth 100000 in
set_option maxHeartbeats 4000000 in
theorem kL_build (l : Launch) (hst : l.stackTraces = false) : sh_Hi l yL_build cL_build 3 [(0, 8, 11, 19)] 12 1 6 tbL (fun G => [.ref (G.2.1 0), .ref (G.2.1 162)]) (sh_hf ["java/lang/IllegalStateException"] (sh_lf 0 tbX.length (fun S => fX12_build S))) := by
  refine sh_mkh (by decide) (fun G => Nat.le_of_ble_eq_true rfl) ?_
  intro p e s m args below meth c G A S res ls hf C hr htab hNq hw hl
  have C : sh_Cx p s m args meth c cL_build 3 RL G A := C
  have hl : lv_has ls 3 [(0, .ref (G.2.1 0)), (1, .ref (G.2.1 162))] := hl
  refine lv_aload_n C.1 C.2.1 dL_build_0 rfl (lv_at hl 1 rfl) ?_
  refine lv_iconst (v := 0) C.1 C.2.1 dL_build_1 (by decide) ?_
  refine lv_aload_n C.1 C.2.1 dL_build_2 rfl (lv_at hl 0 rfl) ?_
  refine sh_HV (As := []) (rest := [.int 0, .ref (G.2.1 162)]) C hw (sh_Ti_up sub_X (kX12_build l hst)) yy_X12_build yv_X12_build ml_L_27 hf tbL_0 rfl rfl rfl rfl (Nat.le_of_ble_eq_true rfl) (by decide) (by decide) (by decide) hl.1 dL_build_3 (fun E S1 H locs q ce hw hf hce hcv hcl => ?_) (fun r S1 H locs hw hf => ?_)
  · have hf1 : (if some "java/lang/IllegalStateException" = some E then some ((1 : Int32), S1) else if (none : Option String) = some E then some (2, S1) else if (none : Option String) = some E then some (3, S1) else none) = some res := hf
    by_cases e0 : E = "java/lang/IllegalStateException"
    · subst e0
      rw [if_pos rfl] at hf1
      refine vx_catch (own := RL) (name := "java/lang/IllegalStateException") C.2.2.2.1 [] ⟨0, 8, 11, 19⟩ [] htab (fun z hz => nomatch hz) (by decide) (by decide) (C.2.2.2.2.1 _ cl_L_19) (sh_words C (Or.inr ca_IS)) hce hcv hcl ?_
      refine lv_astore_n C.1 C.2.1 dL_build_11 rfl hl (by decide) rfl (fun ls hl => ?_)
      refine lv_iconst (v := 1) C.1 C.2.1 dL_build_12 (by decide) ?_
      exact sh_hri C hw hr hf1 (by decide) (by decide) dL_build_13
    rw [if_neg (fun h => e0 (Option.some.inj h).symm), if_neg (fun h => nomatch h), if_neg (fun h => nomatch h)] at hf1
    exact nomatch hf1
  · refine lv_i2l (v := r.toInt64) C.1 C.2.1 dL_build_6 rfl ?_
    refine sh_last C hw hf tbL_o dL_build_7 (fun S2 H locs hw hf => ?_)
    refine lv_goto (tgt := 14) C.1 C.2.1 dL_build_8 (by decide) ?_
    refine lv_iconst (v := 0) C.1 C.2.1 dL_build_14 (by decide) ?_
    exact sh_hri C hw hr hf (by decide) (by decide) dL_build_15
theorem ml_L_30 : Cond.methodLink RL 30 yX12_tune ∈ sh_ws := sh_t4 (i := 233) (by decide +kernel) (by decide +kernel)
set_option maxRecDepth 100000 in
set_option maxHeartbeats 4000000 in
theorem kL_tune (l : Launch) (hst : l.stackTraces = false) (v1 : Int32) (v2 : Int32) : sh_Hi l yL_tune cL_tune 5 [(0, 10, 13, 34), (0, 10, 17, 13), (0, 10, 21, 19)] 12 1 6 tbL (fun G => [.ref (G.2.1 0), .int v1, .int v2, .ref (G.2.1 162)]) (sh_hf ["java/util/NoSuchElementException", "java/lang/IllegalArgumentException", "java/lang/IllegalStateException"] (sh_lf 0 tbX.length (fun S => fX12_tune S v1 v2))) := by
  refine sh_mkh (by decide) (fun G => Nat.le_of_ble_eq_true rfl) ?_
  intro p e s m args below meth c G A S res ls hf C hr htab hNq hw hl
  have C : sh_Cx p s m args meth c cL_tune 5 RL G A := C
  have hl : lv_has ls 5 [(0, .ref (G.2.1 0)), (1, .int v1), (2, .int v2), (3, .ref (G.2.1 162))] := hl
  refine lv_aload_n C.1 C.2.1 dL_tune_0 rfl (lv_at hl 3 rfl) ?_
  refine lv_iconst (v := 0) C.1 C.2.1 dL_tune_1 (by decide) ?_
  refine lv_aload_n C.1 C.2.1 dL_tune_2 rfl (lv_at hl 0 rfl) ?_
  refine lv_iload_n C.1 C.2.1 dL_tune_3 rfl (lv_at hl 1 rfl) ?_
  refine lv_iload_n C.1 C.2.1 dL_tune_4 rfl (lv_at hl 2 rfl) ?_
  refine sh_HV (As := [.int v1, .int v2]) (rest := [.int 0, .ref (G.2.1 162)]) C hw (sh_Ti_up sub_X (kX12_tune l hst v1 v2)) yy_X12_tune yv_X12_tune ml_L_30 hf tbL_0 rfl rfl rfl rfl (Nat.le_of_ble_eq_true rfl) (by decide) (by decide) (by decide) hl.1 dL_tune_5 (fun E S1 H locs q ce hw hf hce hcv hcl => ?_) (fun r S1 H locs hw hf => ?_)
  · have hf1 : (if some "java/util/NoSuchElementException" = some E then some ((1 : Int32), S1) else if some "java/lang/IllegalArgumentException" = some E then some (2, S1) else if some "java/lang/IllegalStateException" = some E then some (3, S1) else none) = some res := hf
    by_cases e0 : E = "java/util/NoSuchElementException"
    · subst e0
      rw [if_pos rfl] at hf1
      refine vx_catch (own := RL) (name := "java/util/NoSuchElementException") C.2.2.2.1 [] ⟨0, 10, 13, 34⟩ [⟨0, 10, 17, 13⟩, ⟨0, 10, 21, 19⟩] htab (fun z hz => nomatch hz) (by decide) (by decide) (C.2.2.2.2.1 _ cl_L_34) (sh_words C (Or.inr ca_NS)) hce hcv hcl ?_
      refine lv_astore C.1 C.2.1 dL_tune_13 hl (by decide) rfl (fun ls hl => ?_)
      refine lv_iconst (v := 1) C.1 C.2.1 dL_tune_15 (by decide) ?_
      exact sh_hri C hw hr hf1 (by decide) (by decide) dL_tune_16
    by_cases e1 : E = "java/lang/IllegalArgumentException"
    · subst e1
      rw [if_neg (by decide), if_pos rfl] at hf1
      refine vx_catch (own := RL) (name := "java/lang/IllegalArgumentException") C.2.2.2.1 [⟨0, 10, 13, 34⟩] ⟨0, 10, 17, 13⟩ [⟨0, 10, 21, 19⟩] htab (fun z hz => by
        simp only [List.mem_cons, List.not_mem_nil, or_false] at hz
        rcases hz with rfl
        · exact Or.inr ⟨by decide, "java/util/NoSuchElementException", C.2.2.2.2.1 _ cl_L_34, hNq ("java/lang/IllegalArgumentException", "java/util/NoSuchElementException") (by decide +kernel)⟩) (by decide) (by decide) (C.2.2.2.2.1 _ cl_L_13) (sh_words C (Or.inr ca_IA)) hce hcv hcl ?_
      refine lv_astore C.1 C.2.1 dL_tune_17 hl (by decide) rfl (fun ls hl => ?_)
      refine lv_iconst (v := 2) C.1 C.2.1 dL_tune_19 (by decide) ?_
      exact sh_hri C hw hr hf1 (by decide) (by decide) dL_tune_20
    by_cases e2 : E = "java/lang/IllegalStateException"
    · subst e2
      rw [if_neg (by decide), if_neg (by decide), if_pos rfl] at hf1
      refine vx_catch (own := RL) (name := "java/lang/IllegalStateException") C.2.2.2.1 [⟨0, 10, 13, 34⟩, ⟨0, 10, 17, 13⟩] ⟨0, 10, 21, 19⟩ [] htab (fun z hz => by
        simp only [List.mem_cons, List.not_mem_nil, or_false] at hz
        rcases hz with rfl | rfl
        · exact Or.inr ⟨by decide, "java/util/NoSuchElementException", C.2.2.2.2.1 _ cl_L_34, hNq ("java/lang/IllegalStateException", "java/util/NoSuchElementException") (by decide +kernel)⟩
        · exact Or.inr ⟨by decide, "java/lang/IllegalArgumentException", C.2.2.2.2.1 _ cl_L_13, hNq ("java/lang/IllegalStateException", "java/lang/IllegalArgumentException") (by decide +kernel)⟩) (by decide) (by decide) (C.2.2.2.2.1 _ cl_L_19) (sh_words C (Or.inr ca_IS)) hce hcv hcl ?_
      refine lv_astore C.1 C.2.1 dL_tune_21 hl (by decide) rfl (fun ls hl => ?_)
      refine lv_iconst (v := 3) C.1 C.2.1 dL_tune_23 (by decide) ?_
      exact sh_hri C hw hr hf1 (by decide) (by decide) dL_tune_24
    rw [if_neg (fun h => e0 (Option.some.inj h).symm), if_neg (fun h => e1 (Option.some.inj h).symm), if_neg (fun h => e2 (Option.some.inj h).symm)] at hf1
    exact nomatch hf1
  · refine lv_i2l (v := r.toInt64) C.1 C.2.1 dL_tune_8 rfl ?_
    refine sh_last C hw hf tbL_o dL_tune_9 (fun S2 H locs hw hf => ?_)
    refine lv_goto (tgt := 25) C.1 C.2.1 dL_tune_10 (by decide) ?_
    refine lv_iconst (v := 0) C.1 C.2.1 dL_tune_25 (by decide) ?_
    exact sh_hri C hw hr hf (by decide) (by decide) dL_tune_26
theorem ml_L_36 : Cond.methodLink RL 36 yX12_tear ∈ sh_ws := sh_t5 (i := 25) (by decide +kernel) (by decide +kernel)
set_option maxRecDepth 100000 in
set_option maxHeartbeats 4000000 in
theorem kL_tear (l : Launch) (hst : l.stackTraces = false) (v1 : Int32) : sh_Hi l yL_tear cL_tear 4 [(0, 9, 12, 39), (0, 9, 15, 19)] 12 1 6 tbL (fun G => [.ref (G.2.1 0), .int v1, .ref (G.2.1 162)]) (sh_hf ["java/lang/IndexOutOfBoundsException", "java/lang/IllegalStateException"] (sh_lf 0 tbX.length (fun S => fX12_tear S v1))) := by
  refine sh_mkh (by decide) (fun G => Nat.le_of_ble_eq_true rfl) ?_
  intro p e s m args below meth c G A S res ls hf C hr htab hNq hw hl
  have C : sh_Cx p s m args meth c cL_tear 4 RL G A := C
  have hl : lv_has ls 4 [(0, .ref (G.2.1 0)), (1, .int v1), (2, .ref (G.2.1 162))] := hl
  refine lv_aload_n C.1 C.2.1 dL_tear_0 rfl (lv_at hl 2 rfl) ?_
  refine lv_iconst (v := 0) C.1 C.2.1 dL_tear_1 (by decide) ?_
  refine lv_aload_n C.1 C.2.1 dL_tear_2 rfl (lv_at hl 0 rfl) ?_
  refine lv_iload_n C.1 C.2.1 dL_tear_3 rfl (lv_at hl 1 rfl) ?_
  refine sh_HV (As := [.int v1]) (rest := [.int 0, .ref (G.2.1 162)]) C hw (sh_Ti_up sub_X (kX12_tear l hst v1)) yy_X12_tear yv_X12_tear ml_L_36 hf tbL_0 rfl rfl rfl rfl (Nat.le_of_ble_eq_true rfl) (by decide) (by decide) (by decide) hl.1 dL_tear_4 (fun E S1 H locs q ce hw hf hce hcv hcl => ?_) (fun r S1 H locs hw hf => ?_)
  · have hf1 : (if some "java/lang/IndexOutOfBoundsException" = some E then some ((1 : Int32), S1) else if some "java/lang/IllegalStateException" = some E then some (2, S1) else if (none : Option String) = some E then some (3, S1) else none) = some res := hf
    by_cases e0 : E = "java/lang/IndexOutOfBoundsException"
    · subst e0
      rw [if_pos rfl] at hf1
      refine vx_catch (own := RL) (name := "java/lang/IndexOutOfBoundsException") C.2.2.2.1 [] ⟨0, 9, 12, 39⟩ [⟨0, 9, 15, 19⟩] htab (fun z hz => nomatch hz) (by decide) (by decide) (C.2.2.2.2.1 _ cl_L_39) (sh_words C (Or.inr ca_IO)) hce hcv hcl ?_
      refine lv_astore_n C.1 C.2.1 dL_tear_12 rfl hl (by decide) rfl (fun ls hl => ?_)
      refine lv_iconst (v := 1) C.1 C.2.1 dL_tear_13 (by decide) ?_
      exact sh_hri C hw hr hf1 (by decide) (by decide) dL_tear_14
    by_cases e1 : E = "java/lang/IllegalStateException"
    · subst e1
      rw [if_neg (by decide), if_pos rfl] at hf1
      refine vx_catch (own := RL) (name := "java/lang/IllegalStateException") C.2.2.2.1 [⟨0, 9, 12, 39⟩] ⟨0, 9, 15, 19⟩ [] htab (fun z hz => by
        simp only [List.mem_cons, List.not_mem_nil, or_false] at hz
        rcases hz with rfl
        · exact Or.inr ⟨by decide, "java/lang/IndexOutOfBoundsException", C.2.2.2.2.1 _ cl_L_39, hNq ("java/lang/IllegalStateException", "java/lang/IndexOutOfBoundsException") (by decide +kernel)⟩) (by decide) (by decide) (C.2.2.2.2.1 _ cl_L_19) (sh_words C (Or.inr ca_IS)) hce hcv hcl ?_
      refine lv_astore_n C.1 C.2.1 dL_tear_15 rfl hl (by decide) rfl (fun ls hl => ?_)
      refine lv_iconst (v := 2) C.1 C.2.1 dL_tear_16 (by decide) ?_
      exact sh_hri C hw hr hf1 (by decide) (by decide) dL_tear_17
    rw [if_neg (fun h => e0 (Option.some.inj h).symm), if_neg (fun h => e1 (Option.some.inj h).symm), if_neg (fun h => nomatch h)] at hf1
    exact nomatch hf1
  · refine lv_i2l (v := r.toInt64) C.1 C.2.1 dL_tear_7 rfl ?_
    refine sh_last C hw hf tbL_o dL_tear_8 (fun S2 H locs hw hf => ?_)
    refine lv_goto (tgt := 18) C.1 C.2.1 dL_tear_9 (by decide) ?_
    refine lv_iconst (v := 0) C.1 C.2.1 dL_tear_18 (by decide) ?_
    exact sh_hri C hw hr hf (by decide) (by decide) dL_tear_19
theorem ml_L_41 : Cond.methodLink RL 41 yX12_undo ∈ sh_ws := sh_t5 (i := 53) (by decide +kernel) (by decide +kernel)
set_option maxRecDepth 100000 in
set_option maxHeartbeats 4000000 in
theorem kL_undo (l : Launch) (hst : l.stackTraces = false) : sh_Hi l yL_undo cL_undo 3 [(0, 8, 11, 19)] 11 1 6 tbL (fun G => [.ref (G.2.1 0), .ref (G.2.1 162)]) (sh_hf ["java/lang/IllegalStateException"] (sh_lf 0 tbX.length (fun S => fX12_undo S))) := by
  refine sh_mkh (by decide) (fun G => Nat.le_of_ble_eq_true rfl) ?_
  intro p e s m args below meth c G A S res ls hf C hr htab hNq hw hl
  have C : sh_Cx p s m args meth c cL_undo 3 RL G A := C
  have hl : lv_has ls 3 [(0, .ref (G.2.1 0)), (1, .ref (G.2.1 162))] := hl
  refine lv_aload_n C.1 C.2.1 dL_undo_0 rfl (lv_at hl 1 rfl) ?_
  refine lv_iconst (v := 0) C.1 C.2.1 dL_undo_1 (by decide) ?_
  refine lv_aload_n C.1 C.2.1 dL_undo_2 rfl (lv_at hl 0 rfl) ?_
  refine sh_HV (As := []) (rest := [.int 0, .ref (G.2.1 162)]) C hw (sh_Ti_up sub_X (kX12_undo l hst)) yy_X12_undo yv_X12_undo ml_L_41 hf tbL_0 rfl rfl rfl rfl (Nat.le_of_ble_eq_true rfl) (by decide) (by decide) (by decide) hl.1 dL_undo_3 (fun E S1 H locs q ce hw hf hce hcv hcl => ?_) (fun r S1 H locs hw hf => ?_)
  · have hf1 : (if some "java/lang/IllegalStateException" = some E then some ((1 : Int32), S1) else if (none : Option String) = some E then some (2, S1) else if (none : Option String) = some E then some (3, S1) else none) = some res := hf
    by_cases e0 : E = "java/lang/IllegalStateException"
    · subst e0
      rw [if_pos rfl] at hf1
      refine vx_catch (own := RL) (name := "java/lang/IllegalStateException") C.2.2.2.1 [] ⟨0, 8, 11, 19⟩ [] htab (fun z hz => nomatch hz) (by decide) (by decide) (C.2.2.2.2.1 _ cl_L_19) (sh_words C (Or.inr ca_IS)) hce hcv hcl ?_
      refine lv_astore_n C.1 C.2.1 dL_undo_11 rfl hl (by decide) rfl (fun ls hl => ?_)
      refine lv_iconst (v := 1) C.1 C.2.1 dL_undo_12 (by decide) ?_
      exact sh_hri C hw hr hf1 (by decide) (by decide) dL_undo_13
    rw [if_neg (fun h => e0 (Option.some.inj h).symm), if_neg (fun h => nomatch h), if_neg (fun h => nomatch h)] at hf1
    exact nomatch hf1
  · refine lv_i2l (v := r.toInt64) C.1 C.2.1 dL_undo_6 rfl ?_
    refine sh_last C hw hf tbL_o dL_undo_7 (fun S2 H locs hw hf => ?_)
    refine lv_goto (tgt := 14) C.1 C.2.1 dL_undo_8 (by decide) ?_
    refine lv_iconst (v := 0) C.1 C.2.1 dL_undo_14 (by decide) ?_
    exact sh_hri C hw hr hf (by decide) (by decide) dL_undo_15
theorem ml_L_44 : Cond.methodLink RL 44 yX12_find ∈ sh_ws := sh_t5 (i := 65) (by decide +kernel) (by decide +kernel)
set_option maxRecDepth 100000 in
set_option maxHeartbeats 4000000 in
theorem kL_find (l : Launch) (hst : l.stackTraces = false) (v1 : Int32) : sh_Hi l yL_find cL_find 4 [(0, 9, 12, 34), (0, 9, 15, 13)] 12 1 6 tbL (fun G => [.ref (G.2.1 0), .int v1, .ref (G.2.1 162)]) (sh_hf ["java/util/NoSuchElementException", "java/lang/IllegalArgumentException"] (sh_lf 0 tbX.length (fun S => fX12_find S v1))) := by
  refine sh_mkh (by decide) (fun G => Nat.le_of_ble_eq_true rfl) ?_
  intro p e s m args below meth c G A S res ls hf C hr htab hNq hw hl
  have C : sh_Cx p s m args meth c cL_find 4 RL G A := C
  have hl : lv_has ls 4 [(0, .ref (G.2.1 0)), (1, .int v1), (2, .ref (G.2.1 162))] := hl
  refine lv_aload_n C.1 C.2.1 dL_find_0 rfl (lv_at hl 2 rfl) ?_
  refine lv_iconst (v := 0) C.1 C.2.1 dL_find_1 (by decide) ?_
  refine lv_aload_n C.1 C.2.1 dL_find_2 rfl (lv_at hl 0 rfl) ?_
  refine lv_iload_n C.1 C.2.1 dL_find_3 rfl (lv_at hl 1 rfl) ?_
  refine sh_HV (As := [.int v1]) (rest := [.int 0, .ref (G.2.1 162)]) C hw (sh_Ti_up sub_X (kX12_find l hst v1)) yy_X12_find yv_X12_find ml_L_44 hf tbL_0 rfl rfl rfl rfl (Nat.le_of_ble_eq_true rfl) (by decide) (by decide) (by decide) hl.1 dL_find_4 (fun E S1 H locs q ce hw hf hce hcv hcl => ?_) (fun r S1 H locs hw hf => ?_)
  · have hf1 : (if some "java/util/NoSuchElementException" = some E then some ((1 : Int32), S1) else if some "java/lang/IllegalArgumentException" = some E then some (2, S1) else if (none : Option String) = some E then some (3, S1) else none) = some res := hf
    by_cases e0 : E = "java/util/NoSuchElementException"
    · subst e0
      rw [if_pos rfl] at hf1
      refine vx_catch (own := RL) (name := "java/util/NoSuchElementException") C.2.2.2.1 [] ⟨0, 9, 12, 34⟩ [⟨0, 9, 15, 13⟩] htab (fun z hz => nomatch hz) (by decide) (by decide) (C.2.2.2.2.1 _ cl_L_34) (sh_words C (Or.inr ca_NS)) hce hcv hcl ?_
      refine lv_astore_n C.1 C.2.1 dL_find_12 rfl hl (by decide) rfl (fun ls hl => ?_)
      refine lv_iconst (v := 1) C.1 C.2.1 dL_find_13 (by decide) ?_
      exact sh_hri C hw hr hf1 (by decide) (by decide) dL_find_14
    by_cases e1 : E = "java/lang/IllegalArgumentException"
    · subst e1
      rw [if_neg (by decide), if_pos rfl] at hf1
      refine vx_catch (own := RL) (name := "java/lang/IllegalArgumentException") C.2.2.2.1 [⟨0, 9, 12, 34⟩] ⟨0, 9, 15, 13⟩ [] htab (fun z hz => by
        simp only [List.mem_cons, List.not_mem_nil, or_false] at hz
        rcases hz with rfl
        · exact Or.inr ⟨by decide, "java/util/NoSuchElementException", C.2.2.2.2.1 _ cl_L_34, hNq ("java/lang/IllegalArgumentException", "java/util/NoSuchElementException") (by decide +kernel)⟩) (by decide) (by decide) (C.2.2.2.2.1 _ cl_L_13) (sh_words C (Or.inr ca_IA)) hce hcv hcl ?_
      refine lv_astore_n C.1 C.2.1 dL_find_15 rfl hl (by decide) rfl (fun ls hl => ?_)
      refine lv_iconst (v := 2) C.1 C.2.1 dL_find_16 (by decide) ?_
      exact sh_hri C hw hr hf1 (by decide) (by decide) dL_find_17
    rw [if_neg (fun h => e0 (Option.some.inj h).symm), if_neg (fun h => e1 (Option.some.inj h).symm), if_neg (fun h => nomatch h)] at hf1
    exact nomatch hf1
  · refine lv_i2l (v := r.toInt64) C.1 C.2.1 dL_find_7 rfl ?_
    refine sh_last C hw hf tbL_o dL_find_8 (fun S2 H locs hw hf => ?_)
    refine lv_goto (tgt := 18) C.1 C.2.1 dL_find_9 (by decide) ?_
    refine lv_iconst (v := 0) C.1 C.2.1 dL_find_18 (by decide) ?_
    exact sh_hri C hw hr hf (by decide) (by decide) dL_find_19
theorem ml_L_47 : Cond.methodLink RL 47 yX12_way ∈ sh_ws := sh_t5 (i := 105) (by decide +kernel) (by decide +kernel)
set_option maxRecDepth 100000 in
set_option maxHeartbeats 4000000 in
theorem kL_way (l : Launch) (hst : l.stackTraces = false) (v1 : Int32) : sh_Hi l yL_way cL_way 4 [(0, 9, 12, 13)] 12 1 6 tbL (fun G => [.ref (G.2.1 0), .int v1, .ref (G.2.1 162)]) (sh_hf ["java/lang/IllegalArgumentException"] (sh_lf 0 tbX.length (fun S => fX12_way S v1))) := by
  refine sh_mkh (by decide) (fun G => Nat.le_of_ble_eq_true rfl) ?_
  intro p e s m args below meth c G A S res ls hf C hr htab hNq hw hl
  have C : sh_Cx p s m args meth c cL_way 4 RL G A := C
  have hl : lv_has ls 4 [(0, .ref (G.2.1 0)), (1, .int v1), (2, .ref (G.2.1 162))] := hl
  refine lv_aload_n C.1 C.2.1 dL_way_0 rfl (lv_at hl 2 rfl) ?_
  refine lv_iconst (v := 0) C.1 C.2.1 dL_way_1 (by decide) ?_
  refine lv_aload_n C.1 C.2.1 dL_way_2 rfl (lv_at hl 0 rfl) ?_
  refine lv_iload_n C.1 C.2.1 dL_way_3 rfl (lv_at hl 1 rfl) ?_
  refine sh_HV (As := [.int v1]) (rest := [.int 0, .ref (G.2.1 162)]) C hw (sh_Ti_up sub_X (kX12_way l hst v1)) yy_X12_way yv_X12_way ml_L_47 hf tbL_0 rfl rfl rfl rfl (Nat.le_of_ble_eq_true rfl) (by decide) (by decide) (by decide) hl.1 dL_way_4 (fun E S1 H locs q ce hw hf hce hcv hcl => ?_) (fun r S1 H locs hw hf => ?_)
  · have hf1 : (if some "java/lang/IllegalArgumentException" = some E then some ((1 : Int32), S1) else if (none : Option String) = some E then some (2, S1) else if (none : Option String) = some E then some (3, S1) else none) = some res := hf
    by_cases e0 : E = "java/lang/IllegalArgumentException"
    · subst e0
      rw [if_pos rfl] at hf1
      refine vx_catch (own := RL) (name := "java/lang/IllegalArgumentException") C.2.2.2.1 [] ⟨0, 9, 12, 13⟩ [] htab (fun z hz => nomatch hz) (by decide) (by decide) (C.2.2.2.2.1 _ cl_L_13) (sh_words C (Or.inr ca_IA)) hce hcv hcl ?_
      refine lv_astore_n C.1 C.2.1 dL_way_12 rfl hl (by decide) rfl (fun ls hl => ?_)
      refine lv_iconst (v := 1) C.1 C.2.1 dL_way_13 (by decide) ?_
      exact sh_hri C hw hr hf1 (by decide) (by decide) dL_way_14
    rw [if_neg (fun h => e0 (Option.some.inj h).symm), if_neg (fun h => nomatch h), if_neg (fun h => nomatch h)] at hf1
    exact nomatch hf1
  · refine lv_i2l (v := r.toInt64) C.1 C.2.1 dL_way_7 rfl ?_
    refine sh_last C hw hf tbL_o dL_way_8 (fun S2 H locs hw hf => ?_)
    refine lv_goto (tgt := 15) C.1 C.2.1 dL_way_9 (by decide) ?_
    refine lv_iconst (v := 0) C.1 C.2.1 dL_way_15 (by decide) ?_
    exact sh_hri C hw hr hf (by decide) (by decide) dL_way_16
theorem ml_L_50 : Cond.methodLink RL 50 yX12_block ∈ sh_ws := sh_t5 (i := 118) (by decide +kernel) (by decide +kernel)
set_option maxRecDepth 100000 in
set_option maxHeartbeats 4000000 in
theorem kL_block (l : Launch) (hst : l.stackTraces = false) (v1 : Int32) (v2 : Int32) : sh_Hi l yL_block cL_block 5 [(0, 10, 13, 39), (0, 10, 17, 34)] 11 1 6 tbL (fun G => [.ref (G.2.1 0), .int v1, .int v2, .ref (G.2.1 162)]) (sh_hf ["java/lang/IndexOutOfBoundsException", "java/util/NoSuchElementException"] (sh_lf 0 tbX.length (fun S => fX12_block S v1 v2))) := by
  refine sh_mkh (by decide) (fun G => Nat.le_of_ble_eq_true rfl) ?_
  intro p e s m args below meth c G A S res ls hf C hr htab hNq hw hl
  have C : sh_Cx p s m args meth c cL_block 5 RL G A := C
  have hl : lv_has ls 5 [(0, .ref (G.2.1 0)), (1, .int v1), (2, .int v2), (3, .ref (G.2.1 162))] := hl
  refine lv_aload_n C.1 C.2.1 dL_block_0 rfl (lv_at hl 3 rfl) ?_
  refine lv_iconst (v := 0) C.1 C.2.1 dL_block_1 (by decide) ?_
  refine lv_aload_n C.1 C.2.1 dL_block_2 rfl (lv_at hl 0 rfl) ?_
  refine lv_iload_n C.1 C.2.1 dL_block_3 rfl (lv_at hl 1 rfl) ?_
  refine lv_iload_n C.1 C.2.1 dL_block_4 rfl (lv_at hl 2 rfl) ?_
  refine sh_HV (As := [.int v1, .int v2]) (rest := [.int 0, .ref (G.2.1 162)]) C hw (sh_Ti_up sub_X (kX12_block l hst v1 v2)) yy_X12_block yv_X12_block ml_L_50 hf tbL_0 rfl rfl rfl rfl (Nat.le_of_ble_eq_true rfl) (by decide) (by decide) (by decide) hl.1 dL_block_5 (fun E S1 H locs q ce hw hf hce hcv hcl => ?_) (fun r S1 H locs hw hf => ?_)
  · have hf1 : (if some "java/lang/IndexOutOfBoundsException" = some E then some ((1 : Int32), S1) else if some "java/util/NoSuchElementException" = some E then some (2, S1) else if (none : Option String) = some E then some (3, S1) else none) = some res := hf
    by_cases e0 : E = "java/lang/IndexOutOfBoundsException"
    · subst e0
      rw [if_pos rfl] at hf1
      refine vx_catch (own := RL) (name := "java/lang/IndexOutOfBoundsException") C.2.2.2.1 [] ⟨0, 10, 13, 39⟩ [⟨0, 10, 17, 34⟩] htab (fun z hz => nomatch hz) (by decide) (by decide) (C.2.2.2.2.1 _ cl_L_39) (sh_words C (Or.inr ca_IO)) hce hcv hcl ?_
      refine lv_astore C.1 C.2.1 dL_block_13 hl (by decide) rfl (fun ls hl => ?_)
      refine lv_iconst (v := 1) C.1 C.2.1 dL_block_15 (by decide) ?_
      exact sh_hri C hw hr hf1 (by decide) (by decide) dL_block_16
    by_cases e1 : E = "java/util/NoSuchElementException"
    · subst e1
      rw [if_neg (by decide), if_pos rfl] at hf1
      refine vx_catch (own := RL) (name := "java/util/NoSuchElementException") C.2.2.2.1 [⟨0, 10, 13, 39⟩] ⟨0, 10, 17, 34⟩ [] htab (fun z hz => by
        simp only [List.mem_cons, List.not_mem_nil, or_false] at hz
        rcases hz with rfl
        · exact Or.inr ⟨by decide, "java/lang/IndexOutOfBoundsException", C.2.2.2.2.1 _ cl_L_39, hNq ("java/util/NoSuchElementException", "java/lang/IndexOutOfBoundsException") (by decide +kernel)⟩) (by decide) (by decide) (C.2.2.2.2.1 _ cl_L_34) (sh_words C (Or.inr ca_NS)) hce hcv hcl ?_
      refine lv_astore C.1 C.2.1 dL_block_17 hl (by decide) rfl (fun ls hl => ?_)
      refine lv_iconst (v := 2) C.1 C.2.1 dL_block_19 (by decide) ?_
      exact sh_hri C hw hr hf1 (by decide) (by decide) dL_block_20
    rw [if_neg (fun h => e0 (Option.some.inj h).symm), if_neg (fun h => e1 (Option.some.inj h).symm), if_neg (fun h => nomatch h)] at hf1
    exact nomatch hf1
  · refine lv_i2l (v := r.toInt64) C.1 C.2.1 dL_block_8 rfl ?_
    refine sh_last C hw hf tbL_o dL_block_9 (fun S2 H locs hw hf => ?_)
    refine lv_goto (tgt := 21) C.1 C.2.1 dL_block_10 (by decide) ?_
    refine lv_iconst (v := 0) C.1 C.2.1 dL_block_21 (by decide) ?_
    exact sh_hri C hw hr hf (by decide) (by decide) dL_block_22
theorem ml_L_53 : Cond.methodLink RL 53 yX12_entry ∈ sh_ws := sh_t5 (i := 126) (by decide +kernel) (by decide +kernel)
set_option maxRecDepth 100000 in
set_option maxHeartbeats 4000000 in
theorem kL_entry (l : Launch) (hst : l.stackTraces = false) (v1 : Int32) (v2 : Int32) (v3 : Int32) : sh_Hi l yL_entry cL_entry 6 [(0, 12, 15, 39), (0, 12, 19, 34)] 11 1 6 tbL (fun G => [.ref (G.2.1 0), .int v1, .int v2, .int v3, .ref (G.2.1 162)]) (sh_hf ["java/lang/IndexOutOfBoundsException", "java/util/NoSuchElementException"] (sh_lf 0 tbX.length (fun S => fX12_entry S v1 v2 v3))) := by
  refine sh_mkh (by decide) (fun G => Nat.le_of_ble_eq_true rfl) ?_
  intro p e s m args below meth c G A S res ls hf C hr htab hNq hw hl
  have C : sh_Cx p s m args meth c cL_entry 6 RL G A := C
  have hl : lv_has ls 6 [(0, .ref (G.2.1 0)), (1, .int v1), (2, .int v2), (3, .int v3), (4, .ref (G.2.1 162))] := hl
  refine lv_aload C.1 C.2.1 dL_entry_0 (lv_at hl 4 rfl) ?_
  refine lv_iconst (v := 0) C.1 C.2.1 dL_entry_2 (by decide) ?_
  refine lv_aload_n C.1 C.2.1 dL_entry_3 rfl (lv_at hl 0 rfl) ?_
  refine lv_iload_n C.1 C.2.1 dL_entry_4 rfl (lv_at hl 1 rfl) ?_
  refine lv_iload_n C.1 C.2.1 dL_entry_5 rfl (lv_at hl 2 rfl) ?_
  refine lv_iload_n C.1 C.2.1 dL_entry_6 rfl (lv_at hl 3 rfl) ?_
  refine sh_HV (As := [.int v1, .int v2, .int v3]) (rest := [.int 0, .ref (G.2.1 162)]) C hw (sh_Ti_up sub_X (kX12_entry l hst v1 v2 v3)) yy_X12_entry yv_X12_entry ml_L_53 hf tbL_0 rfl rfl rfl rfl (Nat.le_of_ble_eq_true rfl) (by decide) (by decide) (by decide) hl.1 dL_entry_7 (fun E S1 H locs q ce hw hf hce hcv hcl => ?_) (fun r S1 H locs hw hf => ?_)
  · have hf1 : (if some "java/lang/IndexOutOfBoundsException" = some E then some ((1 : Int32), S1) else if some "java/util/NoSuchElementException" = some E then some (2, S1) else if (none : Option String) = some E then some (3, S1) else none) = some res := hf
    by_cases e0 : E = "java/lang/IndexOutOfBoundsException"
    · subst e0
      rw [if_pos rfl] at hf1
      refine vx_catch (own := RL) (name := "java/lang/IndexOutOfBoundsException") C.2.2.2.1 [] ⟨0, 12, 15, 39⟩ [⟨0, 12, 19, 34⟩] htab (fun z hz => nomatch hz) (by decide) (by decide) (C.2.2.2.2.1 _ cl_L_39) (sh_words C (Or.inr ca_IO)) hce hcv hcl ?_
      refine lv_astore C.1 C.2.1 dL_entry_15 hl (by decide) rfl (fun ls hl => ?_)
      refine lv_iconst (v := 1) C.1 C.2.1 dL_entry_17 (by decide) ?_
      exact sh_hri C hw hr hf1 (by decide) (by decide) dL_entry_18
    by_cases e1 : E = "java/util/NoSuchElementException"
    · subst e1
      rw [if_neg (by decide), if_pos rfl] at hf1
      refine vx_catch (own := RL) (name := "java/util/NoSuchElementException") C.2.2.2.1 [⟨0, 12, 15, 39⟩] ⟨0, 12, 19, 34⟩ [] htab (fun z hz => by
        simp only [List.mem_cons, List.not_mem_nil, or_false] at hz
        rcases hz with rfl
        · exact Or.inr ⟨by decide, "java/lang/IndexOutOfBoundsException", C.2.2.2.2.1 _ cl_L_39, hNq ("java/util/NoSuchElementException", "java/lang/IndexOutOfBoundsException") (by decide +kernel)⟩) (by decide) (by decide) (C.2.2.2.2.1 _ cl_L_34) (sh_words C (Or.inr ca_NS)) hce hcv hcl ?_
      refine lv_astore C.1 C.2.1 dL_entry_19 hl (by decide) rfl (fun ls hl => ?_)
      refine lv_iconst (v := 2) C.1 C.2.1 dL_entry_21 (by decide) ?_
      exact sh_hri C hw hr hf1 (by decide) (by decide) dL_entry_22
    rw [if_neg (fun h => e0 (Option.some.inj h).symm), if_neg (fun h => e1 (Option.some.inj h).symm), if_neg (fun h => nomatch h)] at hf1
    exact nomatch hf1
  · refine lv_i2l (v := r.toInt64) C.1 C.2.1 dL_entry_10 rfl ?_
    refine sh_last C hw hf tbL_o dL_entry_11 (fun S2 H locs hw hf => ?_)
    refine lv_goto (tgt := 23) C.1 C.2.1 dL_entry_12 (by decide) ?_
    refine lv_iconst (v := 0) C.1 C.2.1 dL_entry_23 (by decide) ?_
    exact sh_hri C hw hr hf (by decide) (by decide) dL_entry_24
theorem ml_L_57 : Cond.methodLink RL 57 yX12_letter ∈ sh_ws := sh_t5 (i := 140) (by decide +kernel) (by decide +kernel)
set_option maxRecDepth 100000 in
set_option maxHeartbeats 4000000 in
theorem kL_letter (l : Launch) (hst : l.stackTraces = false) (v1 : Int32) (v2 : Int32) (v3 : Int32) : sh_Hi l yL_letter cL_letter 6 [(0, 12, 15, 39)] 11 1 6 tbL (fun G => [.ref (G.2.1 0), .int v1, .int v2, .int v3, .ref (G.2.1 162)]) (sh_hf ["java/lang/IndexOutOfBoundsException"] (sh_lf 0 tbX.length (fun S => fX12_letter S v1 v2 v3))) := by
  refine sh_mkh (by decide) (fun G => Nat.le_of_ble_eq_true rfl) ?_
  intro p e s m args below meth c G A S res ls hf C hr htab hNq hw hl
  have C : sh_Cx p s m args meth c cL_letter 6 RL G A := C
  have hl : lv_has ls 6 [(0, .ref (G.2.1 0)), (1, .int v1), (2, .int v2), (3, .int v3), (4, .ref (G.2.1 162))] := hl
  refine lv_aload C.1 C.2.1 dL_letter_0 (lv_at hl 4 rfl) ?_
  refine lv_iconst (v := 0) C.1 C.2.1 dL_letter_2 (by decide) ?_
  refine lv_aload_n C.1 C.2.1 dL_letter_3 rfl (lv_at hl 0 rfl) ?_
  refine lv_iload_n C.1 C.2.1 dL_letter_4 rfl (lv_at hl 1 rfl) ?_
  refine lv_iload_n C.1 C.2.1 dL_letter_5 rfl (lv_at hl 2 rfl) ?_
  refine lv_iload_n C.1 C.2.1 dL_letter_6 rfl (lv_at hl 3 rfl) ?_
  refine sh_HV (As := [.int v1, .int v2, .int v3]) (rest := [.int 0, .ref (G.2.1 162)]) C hw (sh_Ti_up sub_X (kX12_letter l hst v1 v2 v3)) yy_X12_letter yv_X12_letter ml_L_57 hf tbL_0 rfl rfl rfl rfl (Nat.le_of_ble_eq_true rfl) (by decide) (by decide) (by decide) hl.1 dL_letter_7 (fun E S1 H locs q ce hw hf hce hcv hcl => ?_) (fun r S1 H locs hw hf => ?_)
  · have hf1 : (if some "java/lang/IndexOutOfBoundsException" = some E then some ((1 : Int32), S1) else if (none : Option String) = some E then some (2, S1) else if (none : Option String) = some E then some (3, S1) else none) = some res := hf
    by_cases e0 : E = "java/lang/IndexOutOfBoundsException"
    · subst e0
      rw [if_pos rfl] at hf1
      refine vx_catch (own := RL) (name := "java/lang/IndexOutOfBoundsException") C.2.2.2.1 [] ⟨0, 12, 15, 39⟩ [] htab (fun z hz => nomatch hz) (by decide) (by decide) (C.2.2.2.2.1 _ cl_L_39) (sh_words C (Or.inr ca_IO)) hce hcv hcl ?_
      refine lv_astore C.1 C.2.1 dL_letter_15 hl (by decide) rfl (fun ls hl => ?_)
      refine lv_iconst (v := 1) C.1 C.2.1 dL_letter_17 (by decide) ?_
      exact sh_hri C hw hr hf1 (by decide) (by decide) dL_letter_18
    rw [if_neg (fun h => e0 (Option.some.inj h).symm), if_neg (fun h => nomatch h), if_neg (fun h => nomatch h)] at hf1
    exact nomatch hf1
  · refine lv_i2l (v := r.toInt64) C.1 C.2.1 dL_letter_10 rfl ?_
    refine sh_last C hw hf tbL_o dL_letter_11 (fun S2 H locs hw hf => ?_)
    refine lv_goto (tgt := 19) C.1 C.2.1 dL_letter_12 (by decide) ?_
    refine lv_iconst (v := 0) C.1 C.2.1 dL_letter_19 (by decide) ?_
    exact sh_hri C hw hr hf (by decide) (by decide) dL_letter_20
theorem ml_L_60 : Cond.methodLink RL 60 yX12_row ∈ sh_ws := sh_t5 (i := 147) (by decide +kernel) (by decide +kernel)
set_option maxRecDepth 100000 in
set_option maxHeartbeats 4000000 in
theorem kL_row (l : Launch) (hst : l.stackTraces = false) (v1 : Int32) (v2 : Int32) (v3 : Int32) : sh_Hi l yL_row cL_row 6 [(0, 12, 15, 39), (0, 12, 19, 34)] 11 1 6 tbL (fun G => [.ref (G.2.1 0), .int v1, .int v2, .int v3, .ref (G.2.1 162)]) (sh_hf ["java/lang/IndexOutOfBoundsException", "java/util/NoSuchElementException"] (sh_lf 0 tbX.length (fun S => fX12_row S v1 v2 v3))) := by
  refine sh_mkh (by decide) (fun G => Nat.le_of_ble_eq_true rfl) ?_
  intro p e s m args below meth c G A S res ls hf C hr htab hNq hw hl
  have C : sh_Cx p s m args meth c cL_row 6 RL G A := C
  have hl : lv_has ls 6 [(0, .ref (G.2.1 0)), (1, .int v1), (2, .int v2), (3, .int v3), (4, .ref (G.2.1 162))] := hl
  refine lv_aload C.1 C.2.1 dL_row_0 (lv_at hl 4 rfl) ?_
  refine lv_iconst (v := 0) C.1 C.2.1 dL_row_2 (by decide) ?_
  refine lv_aload_n C.1 C.2.1 dL_row_3 rfl (lv_at hl 0 rfl) ?_
  refine lv_iload_n C.1 C.2.1 dL_row_4 rfl (lv_at hl 1 rfl) ?_
  refine lv_iload_n C.1 C.2.1 dL_row_5 rfl (lv_at hl 2 rfl) ?_
  refine lv_iload_n C.1 C.2.1 dL_row_6 rfl (lv_at hl 3 rfl) ?_
  refine sh_HV (As := [.int v1, .int v2, .int v3]) (rest := [.int 0, .ref (G.2.1 162)]) C hw (sh_Ti_up sub_X (kX12_row l hst v1 v2 v3)) yy_X12_row yv_X12_row ml_L_60 hf tbL_0 rfl rfl rfl rfl (Nat.le_of_ble_eq_true rfl) (by decide) (by decide) (by decide) hl.1 dL_row_7 (fun E S1 H locs q ce hw hf hce hcv hcl => ?_) (fun r S1 H locs hw hf => ?_)
  · have hf1 : (if some "java/lang/IndexOutOfBoundsException" = some E then some ((1 : Int32), S1) else if some "java/util/NoSuchElementException" = some E then some (2, S1) else if (none : Option String) = some E then some (3, S1) else none) = some res := hf
    by_cases e0 : E = "java/lang/IndexOutOfBoundsException"
    · subst e0
      rw [if_pos rfl] at hf1
      refine vx_catch (own := RL) (name := "java/lang/IndexOutOfBoundsException") C.2.2.2.1 [] ⟨0, 12, 15, 39⟩ [⟨0, 12, 19, 34⟩] htab (fun z hz => nomatch hz) (by decide) (by decide) (C.2.2.2.2.1 _ cl_L_39) (sh_words C (Or.inr ca_IO)) hce hcv hcl ?_
      refine lv_astore C.1 C.2.1 dL_row_15 hl (by decide) rfl (fun ls hl => ?_)
      refine lv_iconst (v := 1) C.1 C.2.1 dL_row_17 (by decide) ?_
      exact sh_hri C hw hr hf1 (by decide) (by decide) dL_row_18
    by_cases e1 : E = "java/util/NoSuchElementException"
    · subst e1
      rw [if_neg (by decide), if_pos rfl] at hf1
      refine vx_catch (own := RL) (name := "java/util/NoSuchElementException") C.2.2.2.1 [⟨0, 12, 15, 39⟩] ⟨0, 12, 19, 34⟩ [] htab (fun z hz => by
        simp only [List.mem_cons, List.not_mem_nil, or_false] at hz
        rcases hz with rfl
        · exact Or.inr ⟨by decide, "java/lang/IndexOutOfBoundsException", C.2.2.2.2.1 _ cl_L_39, hNq ("java/util/NoSuchElementException", "java/lang/IndexOutOfBoundsException") (by decide +kernel)⟩) (by decide) (by decide) (C.2.2.2.2.1 _ cl_L_34) (sh_words C (Or.inr ca_NS)) hce hcv hcl ?_
      refine lv_astore C.1 C.2.1 dL_row_19 hl (by decide) rfl (fun ls hl => ?_)
      refine lv_iconst (v := 2) C.1 C.2.1 dL_row_21 (by decide) ?_
      exact sh_hri C hw hr hf1 (by decide) (by decide) dL_row_22
    rw [if_neg (fun h => e0 (Option.some.inj h).symm), if_neg (fun h => e1 (Option.some.inj h).symm), if_neg (fun h => nomatch h)] at hf1
    exact nomatch hf1
  · refine lv_i2l (v := r.toInt64) C.1 C.2.1 dL_row_10 rfl ?_
    refine sh_last C hw hf tbL_o dL_row_11 (fun S2 H locs hw hf => ?_)
    refine lv_goto (tgt := 23) C.1 C.2.1 dL_row_12 (by decide) ?_
    refine lv_iconst (v := 0) C.1 C.2.1 dL_row_23 (by decide) ?_
    exact sh_hri C hw hr hf (by decide) (by decide) dL_row_24
theorem ml_L_63 : Cond.methodLink RL 63 yX12_shape ∈ sh_ws := sh_t5 (i := 155) (by decide +kernel) (by decide +kernel)
set_option maxRecDepth 100000 in
set_option maxHeartbeats 4000000 in
theorem kL_shape (l : Launch) (hst : l.stackTraces = false) (v1 : Int32) : sh_Hi l yL_shape cL_shape 4 [(0, 9, 12, 34)] 11 1 6 tbL (fun G => [.ref (G.2.1 0), .int v1, .ref (G.2.1 162)]) (sh_hf ["java/util/NoSuchElementException"] (sh_lf 0 tbX.length (fun S => fX12_shape S v1))) := by
  refine sh_mkh (by decide) (fun G => Nat.le_of_ble_eq_true rfl) ?_
  intro p e s m args below meth c G A S res ls hf C hr htab hNq hw hl
  have C : sh_Cx p s m args meth c cL_shape 4 RL G A := C
  have hl : lv_has ls 4 [(0, .ref (G.2.1 0)), (1, .int v1), (2, .ref (G.2.1 162))] := hl
  refine lv_aload_n C.1 C.2.1 dL_shape_0 rfl (lv_at hl 2 rfl) ?_
  refine lv_iconst (v := 0) C.1 C.2.1 dL_shape_1 (by decide) ?_
  refine lv_aload_n C.1 C.2.1 dL_shape_2 rfl (lv_at hl 0 rfl) ?_
  refine lv_iload_n C.1 C.2.1 dL_shape_3 rfl (lv_at hl 1 rfl) ?_
  refine sh_HV (As := [.int v1]) (rest := [.int 0, .ref (G.2.1 162)]) C hw (sh_Ti_up sub_X (kX12_shape l hst v1)) yy_X12_shape yv_X12_shape ml_L_63 hf tbL_0 rfl rfl rfl rfl (Nat.le_of_ble_eq_true rfl) (by decide) (by decide) (by decide) hl.1 dL_shape_4 (fun E S1 H locs q ce hw hf hce hcv hcl => ?_) (fun r S1 H locs hw hf => ?_)
  · have hf1 : (if some "java/util/NoSuchElementException" = some E then some ((1 : Int32), S1) else if (none : Option String) = some E then some (2, S1) else if (none : Option String) = some E then some (3, S1) else none) = some res := hf
    by_cases e0 : E = "java/util/NoSuchElementException"
    · subst e0
      rw [if_pos rfl] at hf1
      refine vx_catch (own := RL) (name := "java/util/NoSuchElementException") C.2.2.2.1 [] ⟨0, 9, 12, 34⟩ [] htab (fun z hz => nomatch hz) (by decide) (by decide) (C.2.2.2.2.1 _ cl_L_34) (sh_words C (Or.inr ca_NS)) hce hcv hcl ?_
      refine lv_astore_n C.1 C.2.1 dL_shape_12 rfl hl (by decide) rfl (fun ls hl => ?_)
      refine lv_iconst (v := 1) C.1 C.2.1 dL_shape_13 (by decide) ?_
      exact sh_hri C hw hr hf1 (by decide) (by decide) dL_shape_14
    rw [if_neg (fun h => e0 (Option.some.inj h).symm), if_neg (fun h => nomatch h), if_neg (fun h => nomatch h)] at hf1
    exact nomatch hf1
  · refine lv_i2l (v := r.toInt64) C.1 C.2.1 dL_shape_7 rfl ?_
    refine sh_last C hw hf tbL_o dL_shape_8 (fun S2 H locs hw hf => ?_)
    refine lv_goto (tgt := 15) C.1 C.2.1 dL_shape_9 (by decide) ?_
    refine lv_iconst (v := 0) C.1 C.2.1 dL_shape_15 (by decide) ?_
    exact sh_hri C hw hr hf (by decide) (by decide) dL_shape_16
theorem ml_L_66 : Cond.methodLink RL 66 yX12_crowds ∈ sh_ws := sh_t5 (i := 208) (by decide +kernel) (by decide +kernel)
set_option maxRecDepth 100000 in
set_option maxHeartbeats 4000000 in
theorem kL_crowds (l : Launch) (hst : l.stackTraces = false) (v1 : Int32) : sh_Hi l yL_crowds cL_crowds 4 [(0, 9, 12, 13)] 11 1 6 tbL (fun G => [.ref (G.2.1 0), .int v1, .ref (G.2.1 162)]) (sh_hf ["java/lang/IllegalArgumentException"] (sh_lf 0 tbX.length (fun S => fX12_crowds S v1))) := by
  refine sh_mkh (by decide) (fun G => Nat.le_of_ble_eq_true rfl) ?_
  intro p e s m args below meth c G A S res ls hf C hr htab hNq hw hl
  have C : sh_Cx p s m args meth c cL_crowds 4 RL G A := C
  have hl : lv_has ls 4 [(0, .ref (G.2.1 0)), (1, .int v1), (2, .ref (G.2.1 162))] := hl
  refine lv_aload_n C.1 C.2.1 dL_crowds_0 rfl (lv_at hl 2 rfl) ?_
  refine lv_iconst (v := 0) C.1 C.2.1 dL_crowds_1 (by decide) ?_
  refine lv_aload_n C.1 C.2.1 dL_crowds_2 rfl (lv_at hl 0 rfl) ?_
  refine lv_iload_n C.1 C.2.1 dL_crowds_3 rfl (lv_at hl 1 rfl) ?_
  refine sh_HV (As := [.int v1]) (rest := [.int 0, .ref (G.2.1 162)]) C hw (sh_Ti_up sub_X (kX12_crowds l hst v1)) yy_X12_crowds yv_X12_crowds ml_L_66 hf tbL_0 rfl rfl rfl rfl (Nat.le_of_ble_eq_true rfl) (by decide) (by decide) (by decide) hl.1 dL_crowds_4 (fun E S1 H locs q ce hw hf hce hcv hcl => ?_) (fun r S1 H locs hw hf => ?_)
  · have hf1 : (if some "java/lang/IllegalArgumentException" = some E then some ((1 : Int32), S1) else if (none : Option String) = some E then some (2, S1) else if (none : Option String) = some E then some (3, S1) else none) = some res := hf
    by_cases e0 : E = "java/lang/IllegalArgumentException"
    · subst e0
      rw [if_pos rfl] at hf1
      refine vx_catch (own := RL) (name := "java/lang/IllegalArgumentException") C.2.2.2.1 [] ⟨0, 9, 12, 13⟩ [] htab (fun z hz => nomatch hz) (by decide) (by decide) (C.2.2.2.2.1 _ cl_L_13) (sh_words C (Or.inr ca_IA)) hce hcv hcl ?_
      refine lv_astore_n C.1 C.2.1 dL_crowds_12 rfl hl (by decide) rfl (fun ls hl => ?_)
      refine lv_iconst (v := 1) C.1 C.2.1 dL_crowds_13 (by decide) ?_
      exact sh_hri C hw hr hf1 (by decide) (by decide) dL_crowds_14
    rw [if_neg (fun h => e0 (Option.some.inj h).symm), if_neg (fun h => nomatch h), if_neg (fun h => nomatch h)] at hf1
    exact nomatch hf1
  · refine lv_i2l (v := r.toInt64) C.1 C.2.1 dL_crowds_7 rfl ?_
    refine sh_last C hw hf tbL_o dL_crowds_8 (fun S2 H locs hw hf => ?_)
    refine lv_goto (tgt := 15) C.1 C.2.1 dL_crowds_9 (by decide) ?_
    refine lv_iconst (v := 0) C.1 C.2.1 dL_crowds_15 (by decide) ?_
    exact sh_hri C hw hr hf (by decide) (by decide) dL_crowds_16
theorem ml_L_69 : Cond.methodLink RL 69 yX12_best ∈ sh_ws := sh_t5 (i := 220) (by decide +kernel) (by decide +kernel)
set_option maxRecDepth 100000 in
set_option maxHeartbeats 4000000 in
theorem kL_best (l : Launch) (hst : l.stackTraces = false) (v1 : Int32) (v2 : Int32) : sh_Hi l yL_best cL_best 5 [(0, 10, 13, 13)] 11 1 6 tbL (fun G => [.ref (G.2.1 0), .int v1, .int v2, .ref (G.2.1 162)]) (sh_hf ["java/lang/IllegalArgumentException"] (sh_lf 0 tbX.length (fun S => fX12_best S v1 v2))) := by
  refine sh_mkh (by decide) (fun G => Nat.le_of_ble_eq_true rfl) ?_
  intro p e s m args below meth c G A S res ls hf C hr htab hNq hw hl
  have C : sh_Cx p s m args meth c cL_best 5 RL G A := C
  have hl : lv_has ls 5 [(0, .ref (G.2.1 0)), (1, .int v1), (2, .int v2), (3, .ref (G.2.1 162))] := hl
  refine lv_aload_n C.1 C.2.1 dL_best_0 rfl (lv_at hl 3 rfl) ?_
  refine lv_iconst (v := 0) C.1 C.2.1 dL_best_1 (by decide) ?_
  refine lv_aload_n C.1 C.2.1 dL_best_2 rfl (lv_at hl 0 rfl) ?_
  refine lv_iload_n C.1 C.2.1 dL_best_3 rfl (lv_at hl 1 rfl) ?_
  refine lv_iload_n C.1 C.2.1 dL_best_4 rfl (lv_at hl 2 rfl) ?_
  refine sh_HV (As := [.int v1, .int v2]) (rest := [.int 0, .ref (G.2.1 162)]) C hw (sh_Ti_up sub_X (kX12_best l hst v1 v2)) yy_X12_best yv_X12_best ml_L_69 hf tbL_0 rfl rfl rfl rfl (Nat.le_of_ble_eq_true rfl) (by decide) (by decide) (by decide) hl.1 dL_best_5 (fun E S1 H locs q ce hw hf hce hcv hcl => ?_) (fun r S1 H locs hw hf => ?_)
  · have hf1 : (if some "java/lang/IllegalArgumentException" = some E then some ((1 : Int32), S1) else if (none : Option String) = some E then some (2, S1) else if (none : Option String) = some E then some (3, S1) else none) = some res := hf
    by_cases e0 : E = "java/lang/IllegalArgumentException"
    · subst e0
      rw [if_pos rfl] at hf1
      refine vx_catch (own := RL) (name := "java/lang/IllegalArgumentException") C.2.2.2.1 [] ⟨0, 10, 13, 13⟩ [] htab (fun z hz => nomatch hz) (by decide) (by decide) (C.2.2.2.2.1 _ cl_L_13) (sh_words C (Or.inr ca_IA)) hce hcv hcl ?_
      refine lv_astore C.1 C.2.1 dL_best_13 hl (by decide) rfl (fun ls hl => ?_)
      refine lv_iconst (v := 1) C.1 C.2.1 dL_best_15 (by decide) ?_
      exact sh_hri C hw hr hf1 (by decide) (by decide) dL_best_16
    rw [if_neg (fun h => e0 (Option.some.inj h).symm), if_neg (fun h => nomatch h), if_neg (fun h => nomatch h)] at hf1
    exact nomatch hf1
  · refine lv_i2l (v := r.toInt64) C.1 C.2.1 dL_best_8 rfl ?_
    refine sh_last C hw hf tbL_o dL_best_9 (fun S2 H locs hw hf => ?_)
    refine lv_goto (tgt := 17) C.1 C.2.1 dL_best_10 (by decide) ?_
    refine lv_iconst (v := 0) C.1 C.2.1 dL_best_17 (by decide) ?_
    exact sh_hri C hw hr hf (by decide) (by decide) dL_best_18
theorem ml_L_76 : Cond.methodLink RL 76 yX12_next ∈ sh_ws := sh_t6 (i := 8) (by decide +kernel) (by decide +kernel)
set_option maxRecDepth 100000 in
set_option maxHeartbeats 4000000 in
theorem kL_next (l : Launch) (hst : l.stackTraces = false) (v1 : Int32) : sh_Hi l yL_next cL_next 4 [(0, 9, 12, 39), (0, 9, 15, 19)] 11 1 6 tbL (fun G => [.ref (G.2.1 0), .int v1, .ref (G.2.1 162)]) (sh_hf ["java/lang/IndexOutOfBoundsException", "java/lang/IllegalStateException"] (sh_lf 0 tbX.length (fun S => fX12_next S v1))) := by
  refine sh_mkh (by decide) (fun G => Nat.le_of_ble_eq_true rfl) ?_
  intro p e s m args below meth c G A S res ls hf C hr htab hNq hw hl
  have C : sh_Cx p s m args meth c cL_next 4 RL G A := C
  have hl : lv_has ls 4 [(0, .ref (G.2.1 0)), (1, .int v1), (2, .ref (G.2.1 162))] := hl
  refine lv_aload_n C.1 C.2.1 dL_next_0 rfl (lv_at hl 2 rfl) ?_
  refine lv_iconst (v := 0) C.1 C.2.1 dL_next_1 (by decide) ?_
  refine lv_aload_n C.1 C.2.1 dL_next_2 rfl (lv_at hl 0 rfl) ?_
  refine lv_iload_n C.1 C.2.1 dL_next_3 rfl (lv_at hl 1 rfl) ?_
  refine sh_HV (As := [.int v1]) (rest := [.int 0, .ref (G.2.1 162)]) C hw (sh_Ti_up sub_X (kX12_next l hst v1)) yy_X12_next yv_X12_next ml_L_76 hf tbL_0 rfl rfl rfl rfl (Nat.le_of_ble_eq_true rfl) (by decide) (by decide) (by decide) hl.1 dL_next_4 (fun E S1 H locs q ce hw hf hce hcv hcl => ?_) (fun r S1 H locs hw hf => ?_)
  · have hf1 : (if some "java/lang/IndexOutOfBoundsException" = some E then some ((1 : Int32), S1) else if some "java/lang/IllegalStateException" = some E then some (2, S1) else if (none : Option String) = some E then some (3, S1) else none) = some res := hf
    by_cases e0 : E = "java/lang/IndexOutOfBoundsException"
    · subst e0
      rw [if_pos rfl] at hf1
      refine vx_catch (own := RL) (name := "java/lang/IndexOutOfBoundsException") C.2.2.2.1 [] ⟨0, 9, 12, 39⟩ [⟨0, 9, 15, 19⟩] htab (fun z hz => nomatch hz) (by decide) (by decide) (C.2.2.2.2.1 _ cl_L_39) (sh_words C (Or.inr ca_IO)) hce hcv hcl ?_
      refine lv_astore_n C.1 C.2.1 dL_next_12 rfl hl (by decide) rfl (fun ls hl => ?_)
      refine lv_iconst (v := 1) C.1 C.2.1 dL_next_13 (by decide) ?_
      exact sh_hri C hw hr hf1 (by decide) (by decide) dL_next_14
    by_cases e1 : E = "java/lang/IllegalStateException"
    · subst e1
      rw [if_neg (by decide), if_pos rfl] at hf1
      refine vx_catch (own := RL) (name := "java/lang/IllegalStateException") C.2.2.2.1 [⟨0, 9, 12, 39⟩] ⟨0, 9, 15, 19⟩ [] htab (fun z hz => by
        simp only [List.mem_cons, List.not_mem_nil, or_false] at hz
        rcases hz with rfl
        · exact Or.inr ⟨by decide, "java/lang/IndexOutOfBoundsException", C.2.2.2.2.1 _ cl_L_39, hNq ("java/lang/IllegalStateException", "java/lang/IndexOutOfBoundsException") (by decide +kernel)⟩) (by decide) (by decide) (C.2.2.2.2.1 _ cl_L_19) (sh_words C (Or.inr ca_IS)) hce hcv hcl ?_
      refine lv_astore_n C.1 C.2.1 dL_next_15 rfl hl (by decide) rfl (fun ls hl => ?_)
      refine lv_iconst (v := 2) C.1 C.2.1 dL_next_16 (by decide) ?_
      exact sh_hri C hw hr hf1 (by decide) (by decide) dL_next_17
    rw [if_neg (fun h => e0 (Option.some.inj h).symm), if_neg (fun h => e1 (Option.some.inj h).symm), if_neg (fun h => nomatch h)] at hf1
    exact nomatch hf1
  · refine lv_i2l (v := r.toInt64) C.1 C.2.1 dL_next_7 rfl ?_
    refine sh_last C hw hf tbL_o dL_next_8 (fun S2 H locs hw hf => ?_)
    refine lv_goto (tgt := 18) C.1 C.2.1 dL_next_9 (by decide) ?_
    refine lv_iconst (v := 0) C.1 C.2.1 dL_next_18 (by decide) ?_
    exact sh_hri C hw hr hf (by decide) (by decide) dL_next_19
theorem ml_L_79 : Cond.methodLink RL 79 yX12_reader ∈ sh_ws := sh_t6 (i := 29) (by decide +kernel) (by decide +kernel)
set_option maxRecDepth 100000 in
set_option maxHeartbeats 4000000 in
theorem kL_reader (l : Launch) (hst : l.stackTraces = false) (v1 : Int32) (v2 : Int32) : sh_Hi l yL_reader cL_reader 5 [(0, 10, 13, 39), (0, 10, 17, 34)] 11 1 6 tbL (fun G => [.ref (G.2.1 0), .int v1, .int v2, .ref (G.2.1 162)]) (sh_hf ["java/lang/IndexOutOfBoundsException", "java/util/NoSuchElementException"] (sh_lf 0 tbX.length (fun S => fX12_reader S v1 v2))) := by
  refine sh_mkh (by decide) (fun G => Nat.le_of_ble_eq_true rfl) ?_
  intro p e s m args below meth c G A S res ls hf C hr htab hNq hw hl
  have C : sh_Cx p s m args meth c cL_reader 5 RL G A := C
  have hl : lv_has ls 5 [(0, .ref (G.2.1 0)), (1, .int v1), (2, .int v2), (3, .ref (G.2.1 162))] := hl
  refine lv_aload_n C.1 C.2.1 dL_reader_0 rfl (lv_at hl 3 rfl) ?_
  refine lv_iconst (v := 0) C.1 C.2.1 dL_reader_1 (by decide) ?_
  refine lv_aload_n C.1 C.2.1 dL_reader_2 rfl (lv_at hl 0 rfl) ?_
  refine lv_iload_n C.1 C.2.1 dL_reader_3 rfl (lv_at hl 1 rfl) ?_
  refine lv_iload_n C.1 C.2.1 dL_reader_4 rfl (lv_at hl 2 rfl) ?_
  refine sh_HV (As := [.int v1, .int v2]) (rest := [.int 0, .ref (G.2.1 162)]) C hw (sh_Ti_up sub_X (kX12_reader l hst v1 v2)) yy_X12_reader yv_X12_reader ml_L_79 hf tbL_0 rfl rfl rfl rfl (Nat.le_of_ble_eq_true rfl) (by decide) (by decide) (by decide) hl.1 dL_reader_5 (fun E S1 H locs q ce hw hf hce hcv hcl => ?_) (fun r S1 H locs hw hf => ?_)
  · have hf1 : (if some "java/lang/IndexOutOfBoundsException" = some E then some ((1 : Int32), S1) else if some "java/util/NoSuchElementException" = some E then some (2, S1) else if (none : Option String) = some E then some (3, S1) else none) = some res := hf
    by_cases e0 : E = "java/lang/IndexOutOfBoundsException"
    · subst e0
      rw [if_pos rfl] at hf1
      refine vx_catch (own := RL) (name := "java/lang/IndexOutOfBoundsException") C.2.2.2.1 [] ⟨0, 10, 13, 39⟩ [⟨0, 10, 17, 34⟩] htab (fun z hz => nomatch hz) (by decide) (by decide) (C.2.2.2.2.1 _ cl_L_39) (sh_words C (Or.inr ca_IO)) hce hcv hcl ?_
      refine lv_astore C.1 C.2.1 dL_reader_13 hl (by decide) rfl (fun ls hl => ?_)
      refine lv_iconst (v := 1) C.1 C.2.1 dL_reader_15 (by decide) ?_
      exact sh_hri C hw hr hf1 (by decide) (by decide) dL_reader_16
    by_cases e1 : E = "java/util/NoSuchElementException"
    · subst e1
      rw [if_neg (by decide), if_pos rfl] at hf1
      refine vx_catch (own := RL) (name := "java/util/NoSuchElementException") C.2.2.2.1 [⟨0, 10, 13, 39⟩] ⟨0, 10, 17, 34⟩ [] htab (fun z hz => by
        simp only [List.mem_cons, List.not_mem_nil, or_false] at hz
        rcases hz with rfl
        · exact Or.inr ⟨by decide, "java/lang/IndexOutOfBoundsException", C.2.2.2.2.1 _ cl_L_39, hNq ("java/util/NoSuchElementException", "java/lang/IndexOutOfBoundsException") (by decide +kernel)⟩) (by decide) (by decide) (C.2.2.2.2.1 _ cl_L_34) (sh_words C (Or.inr ca_NS)) hce hcv hcl ?_
      refine lv_astore C.1 C.2.1 dL_reader_17 hl (by decide) rfl (fun ls hl => ?_)
      refine lv_iconst (v := 2) C.1 C.2.1 dL_reader_19 (by decide) ?_
      exact sh_hri C hw hr hf1 (by decide) (by decide) dL_reader_20
    rw [if_neg (fun h => e0 (Option.some.inj h).symm), if_neg (fun h => e1 (Option.some.inj h).symm), if_neg (fun h => nomatch h)] at hf1
    exact nomatch hf1
  · refine lv_i2l (v := r.toInt64) C.1 C.2.1 dL_reader_8 rfl ?_
    refine sh_last C hw hf tbL_o dL_reader_9 (fun S2 H locs hw hf => ?_)
    refine lv_goto (tgt := 21) C.1 C.2.1 dL_reader_10 (by decide) ?_
    refine lv_iconst (v := 0) C.1 C.2.1 dL_reader_21 (by decide) ?_
    exact sh_hri C hw hr hf (by decide) (by decide) dL_reader_22
theorem ml_L_82 : Cond.methodLink RL 82 yX12_batch ∈ sh_ws := sh_t6 (i := 36) (by decide +kernel) (by decide +kernel)
set_option maxRecDepth 100000 in
set_option maxHeartbeats 4000000 in
theorem kL_batch (l : Launch) (hst : l.stackTraces = false) (v1 : Int32) (v2 : Int32) : sh_Hi l yL_batch cL_batch 5 [(0, 10, 13, 39)] 11 1 6 tbL (fun G => [.ref (G.2.1 0), .int v1, .int v2, .ref (G.2.1 162)]) (sh_hf ["java/lang/IndexOutOfBoundsException"] (sh_lf 0 tbX.length (fun S => fX12_batch S v1 v2))) := by
  refine sh_mkh (by decide) (fun G => Nat.le_of_ble_eq_true rfl) ?_
  intro p e s m args below meth c G A S res ls hf C hr htab hNq hw hl
  have C : sh_Cx p s m args meth c cL_batch 5 RL G A := C
  have hl : lv_has ls 5 [(0, .ref (G.2.1 0)), (1, .int v1), (2, .int v2), (3, .ref (G.2.1 162))] := hl
  refine lv_aload_n C.1 C.2.1 dL_batch_0 rfl (lv_at hl 3 rfl) ?_
  refine lv_iconst (v := 0) C.1 C.2.1 dL_batch_1 (by decide) ?_
  refine lv_aload_n C.1 C.2.1 dL_batch_2 rfl (lv_at hl 0 rfl) ?_
  refine lv_iload_n C.1 C.2.1 dL_batch_3 rfl (lv_at hl 1 rfl) ?_
  refine lv_iload_n C.1 C.2.1 dL_batch_4 rfl (lv_at hl 2 rfl) ?_
  refine sh_HV (As := [.int v1, .int v2]) (rest := [.int 0, .ref (G.2.1 162)]) C hw (sh_Ti_up sub_X (kX12_batch l hst v1 v2)) yy_X12_batch yv_X12_batch ml_L_82 hf tbL_0 rfl rfl rfl rfl (Nat.le_of_ble_eq_true rfl) (by decide) (by decide) (by decide) hl.1 dL_batch_5 (fun E S1 H locs q ce hw hf hce hcv hcl => ?_) (fun r S1 H locs hw hf => ?_)
  · have hf1 : (if some "java/lang/IndexOutOfBoundsException" = some E then some ((1 : Int32), S1) else if (none : Option String) = some E then some (2, S1) else if (none : Option String) = some E then some (3, S1) else none) = some res := hf
    by_cases e0 : E = "java/lang/IndexOutOfBoundsException"
    · subst e0
      rw [if_pos rfl] at hf1
      refine vx_catch (own := RL) (name := "java/lang/IndexOutOfBoundsException") C.2.2.2.1 [] ⟨0, 10, 13, 39⟩ [] htab (fun z hz => nomatch hz) (by decide) (by decide) (C.2.2.2.2.1 _ cl_L_39) (sh_words C (Or.inr ca_IO)) hce hcv hcl ?_
      refine lv_astore C.1 C.2.1 dL_batch_13 hl (by decide) rfl (fun ls hl => ?_)
      refine lv_iconst (v := 1) C.1 C.2.1 dL_batch_15 (by decide) ?_
      exact sh_hri C hw hr hf1 (by decide) (by decide) dL_batch_16
    rw [if_neg (fun h => e0 (Option.some.inj h).symm), if_neg (fun h => nomatch h), if_neg (fun h => nomatch h)] at hf1
    exact nomatch hf1
  · refine lv_i2l (v := r.toInt64) C.1 C.2.1 dL_batch_8 rfl ?_
    refine sh_last C hw hf tbL_o dL_batch_9 (fun S2 H locs hw hf => ?_)
    refine lv_goto (tgt := 17) C.1 C.2.1 dL_batch_10 (by decide) ?_
    refine lv_iconst (v := 0) C.1 C.2.1 dL_batch_17 (by decide) ?_
    exact sh_hri C hw hr hf (by decide) (by decide) dL_batch_18
