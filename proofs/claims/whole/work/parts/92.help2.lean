/-! the helper of open -/
def sh_hfz (F : sh_St → Option ((Int32 ⊕ String) × sh_St)) (S : sh_St) : Option (Int32 × sh_St) :=
  sh_c (F S) fun x S' => match x with
  | .inl r => if r = 0 then sh_g 0 1 (sh_t (sh_L S' 162 (0 : Int32).toNatClampNeg 0) fun S2 => some (0, S2)) else sh_g 0 1 (sh_t (sh_L S' 162 (0 : Int32).toNatClampNeg 1) fun S2 => some (0, S2))
  | .inr E => if some "java/lang/IndexOutOfBoundsException" = some E then some (1, S') else none
theorem ml_L_72 : Cond.methodLink RL 72 yX12_open ∈ sh_ws := sh_t5 (i := 233) (by decide +kernel) (by decide +kernel)
set_option maxRecDepth 100000 in
set_option maxHeartbeats 4000000 in
theorem kL_open (l : Launch) (hst : l.stackTraces = false) (v1 v2 : Int32) : sh_Hi l yL_open cL_open 5 [(0, 17, 20, 39)] 11 1 6 tbL (fun G => [.ref (G.2.1 0), .int v1, .int v2, .ref (G.2.1 162)]) (sh_hfz (sh_lf 0 tbX.length (fun S => fX12_open S v1 v2))) := by
  refine sh_mkh (by decide) (fun G => Nat.le_of_ble_eq_true rfl) ?_
  intro p e s m args below meth c G A S res ls hf C hr htab hNq hw hl
  have C : sh_Cx p s m args meth c cL_open 5 RL G A := C
  have hl : lv_has ls 5 [(0, .ref (G.2.1 0)), (1, .int v1), (2, .int v2), (3, .ref (G.2.1 162))] := hl
  refine lv_aload_n C.1 C.2.1 dL_open_0 rfl (lv_at hl 3 rfl) ?_
  refine lv_iconst (v := 0) C.1 C.2.1 dL_open_1 (by decide) ?_
  refine lv_aload_n C.1 C.2.1 dL_open_2 rfl (lv_at hl 0 rfl) ?_
  refine lv_iload_n C.1 C.2.1 dL_open_3 rfl (lv_at hl 1 rfl) ?_
  refine lv_iload_n C.1 C.2.1 dL_open_4 rfl (lv_at hl 2 rfl) ?_
  refine sh_HV (As := [.int v1, .int v2]) (rest := [.int 0, .ref (G.2.1 162)]) C hw (sh_Ti_up sub_X (kX12_open l hst v1 v2)) yy_X12_open yv_X12_open ml_L_72 hf tbL_0 rfl rfl rfl rfl (Nat.le_of_ble_eq_true rfl) (by decide) (by decide) (by decide) hl.1 dL_open_5 (fun E S1 H locs q ce hw hf hce hcv hcl => ?_) (fun r S1 H locs hw hf => ?_)
  · have hf1 : (if some "java/lang/IndexOutOfBoundsException" = some E then some ((1 : Int32), S1) else none) = some res := hf
    by_cases e0 : E = "java/lang/IndexOutOfBoundsException"
    · subst e0
      rw [if_pos rfl] at hf1
      refine vx_catch (own := RL) (name := "java/lang/IndexOutOfBoundsException") C.2.2.2.1 [] ⟨0, 17, 20, 39⟩ [] htab (fun z hz => nomatch hz) (by decide) (by decide) (C.2.2.2.2.1 _ cl_L_39) (sh_words C (Or.inr ca_IO)) hce hcv hcl ?_
      refine lv_astore C.1 C.2.1 dL_open_20 hl (by decide) rfl (fun ls hl => ?_)
      refine lv_iconst (v := 1) C.1 C.2.1 dL_open_22 (by decide) ?_
      exact sh_hri C hw hr hf1 (by decide) (by decide) dL_open_23
    rw [if_neg (fun h => e0 (Option.some.inj h).symm)] at hf1
    exact nomatch hf1
  · have hf1 : (if r = 0 then sh_g 0 1 (sh_t (sh_L S1 162 (0 : Int32).toNatClampNeg 0) fun S2 => some ((0 : Int32), S2)) else sh_g 0 1 (sh_t (sh_L S1 162 (0 : Int32).toNatClampNeg 1) fun S2 => some ((0 : Int32), S2))) = some res := hf
    refine sh_if_eq (tgt := 15) C hf1 dL_open_8 (by decide) (fun hf => ?_) (fun hf => ?_)
    · refine lv_lconst (v := 0) C.1 C.2.1 dL_open_15 (by decide) ?_
      refine sh_last C hw hf tbL_o dL_open_16 (fun S2 H locs hw hf => ?_)
      refine lv_goto (tgt := 24) C.1 C.2.1 dL_open_17 (by decide) ?_
      refine lv_iconst (v := 0) C.1 C.2.1 dL_open_24 (by decide) ?_
      exact sh_hri C hw hr hf (by decide) (by decide) dL_open_25
    · refine lv_lconst (v := 1) C.1 C.2.1 dL_open_11 (by decide) ?_
      refine lv_goto (tgt := 16) C.1 C.2.1 dL_open_12 (by decide) ?_
      refine sh_last C hw hf tbL_o dL_open_16 (fun S2 H locs hw hf => ?_)
      refine lv_goto (tgt := 24) C.1 C.2.1 dL_open_17 (by decide) ?_
      refine lv_iconst (v := 0) C.1 C.2.1 dL_open_24 (by decide) ?_
      exact sh_hri C hw hr hf (by decide) (by decide) dL_open_25
