/-! every call of the law, seen in its state -/
theorem zL_acts {SL : sh_St} (h : zLR SL) : zLA SL (sh_hf ["java/lang/IllegalArgumentException"] (sh_lf 0 tbX.length (fun S => fX12_acts S)) SL) (sh_lf 140 tbM.length (fun M => fX13_acts M)) := zlaw_t (F := fun S => fX12_acts S) (Gf := fun M => fX13_acts M) (znd1 _) (by decide) h (fun M hM => zc_acts hM)
theorem zL_put {SL : sh_St} (h : zLR SL) (v1 : Int32) : zLA SL (sh_hf ["java/lang/IllegalArgumentException", "java/lang/IllegalStateException"] (sh_lf 0 tbX.length (fun S => fX12_put S v1)) SL) (sh_lf 140 tbM.length (fun M => fX13_put M v1)) := zlaw_t (F := fun S => fX12_put S v1) (Gf := fun M => fX13_put M v1) (znd2 (by decide)) (by decide) h (fun M hM => zc_put hM v1)
theorem zL_cut {SL : sh_St} (h : zLR SL) : zLA SL (sh_hf ["java/lang/IllegalArgumentException", "java/lang/IllegalStateException"] (sh_lf 0 tbX.length (fun S => fX12_cut S)) SL) (sh_lf 140 tbM.length (fun M => fX13_cut M)) := zlaw_t (F := fun S => fX12_cut S) (Gf := fun M => fX13_cut M) (znd2 (by decide)) (by decide) h (fun M hM => zc_cut hM)
theorem zL_turn {SL : sh_St} (h : zLR SL) : zLA SL (sh_hf ["java/lang/IllegalArgumentException", "java/lang/IllegalStateException"] (sh_lf 0 tbX.length (fun S => fX12_turn S)) SL) (sh_lf 140 tbM.length (fun M => fX13_turn M)) := zlaw_t (F := fun S => fX12_turn S) (Gf := fun M => fX13_turn M) (znd2 (by decide)) (by decide) h (fun M hM => zc_turn hM)
theorem zL_build {SL : sh_St} (h : zLR SL) : zLA SL (sh_hf ["java/lang/IllegalStateException"] (sh_lf 0 tbX.length (fun S => fX12_build S)) SL) (sh_lf 140 tbM.length (fun M => fX13_build M)) := zlaw_t (F := fun S => fX12_build S) (Gf := fun M => fX13_build M) (znd1 _) (by decide) h (fun M hM => zc_build hM)
theorem zL_tune {SL : sh_St} (h : zLR SL) (v1 : Int32) (v2 : Int32) : zLA SL (sh_hf ["java/util/NoSuchElementException", "java/lang/IllegalArgumentException", "java/lang/IllegalStateException"] (sh_lf 0 tbX.length (fun S => fX12_tune S v1 v2)) SL) (sh_lf 140 tbM.length (fun M => fX13_tune M v1 v2)) := zlaw_t (F := fun S => fX12_tune S v1 v2) (Gf := fun M => fX13_tune M v1 v2) (znd3 (by decide) (by decide) (by decide)) (by decide) h (fun M hM => zc_tune hM v1 v2)
theorem zL_tear {SL : sh_St} (h : zLR SL) (v1 : Int32) : zLA SL (sh_hf ["java/lang/IndexOutOfBoundsException", "java/lang/IllegalStateException"] (sh_lf 0 tbX.length (fun S => fX12_tear S v1)) SL) (sh_lf 140 tbM.length (fun M => fX13_tear M v1)) := zlaw_t (F := fun S => fX12_tear S v1) (Gf := fun M => fX13_tear M v1) (znd2 (by decide)) (by decide) h (fun M hM => zc_tear hM v1)
theorem zL_undo {SL : sh_St} (h : zLR SL) : zLA SL (sh_hf ["java/lang/IllegalStateException"] (sh_lf 0 tbX.length (fun S => fX12_undo S)) SL) (sh_lf 140 tbM.length (fun M => fX13_undo M)) := zlaw_t (F := fun S => fX12_undo S) (Gf := fun M => fX13_undo M) (znd1 _) (by decide) h (fun M hM => zc_undo hM)
theorem zL_find {SL : sh_St} (h : zLR SL) (v1 : Int32) : zLA SL (sh_hf ["java/util/NoSuchElementException", "java/lang/IllegalArgumentException"] (sh_lf 0 tbX.length (fun S => fX12_find S v1)) SL) (sh_lf 140 tbM.length (fun M => fX13_find M v1)) := zlaw_t (F := fun S => fX12_find S v1) (Gf := fun M => fX13_find M v1) (znd2 (by decide)) (by decide) h (fun M hM => zc_find hM v1)
theorem zL_way {SL : sh_St} (h : zLR SL) (v1 : Int32) : zLA SL (sh_hf ["java/lang/IllegalArgumentException"] (sh_lf 0 tbX.length (fun S => fX12_way S v1)) SL) (sh_lf 140 tbM.length (fun M => fX13_way M v1)) := zlaw_t (F := fun S => fX12_way S v1) (Gf := fun M => fX13_way M v1) (znd1 _) (by decide) h (fun M hM => zc_way hM v1)
theorem zL_block {SL : sh_St} (h : zLR SL) (v1 : Int32) (v2 : Int32) : zLA SL (sh_hf ["java/lang/IndexOutOfBoundsException", "java/util/NoSuchElementException"] (sh_lf 0 tbX.length (fun S => fX12_block S v1 v2)) SL) (sh_lf 140 tbM.length (fun M => fX13_block M v1 v2)) := zlaw_t (F := fun S => fX12_block S v1 v2) (Gf := fun M => fX13_block M v1 v2) (znd2 (by decide)) (by decide) h (fun M hM => zc_block hM v1 v2)
theorem zL_entry {SL : sh_St} (h : zLR SL) (v1 : Int32) (v2 : Int32) (v3 : Int32) : zLA SL (sh_hf ["java/lang/IndexOutOfBoundsException", "java/util/NoSuchElementException"] (sh_lf 0 tbX.length (fun S => fX12_entry S v1 v2 v3)) SL) (sh_lf 140 tbM.length (fun M => fX13_entry M v1 v2 v3)) := zlaw_t (F := fun S => fX12_entry S v1 v2 v3) (Gf := fun M => fX13_entry M v1 v2 v3) (znd2 (by decide)) (by decide) h (fun M hM => zc_entry hM v1 v2 v3)
theorem zL_letter {SL : sh_St} (h : zLR SL) (v1 : Int32) (v2 : Int32) (v3 : Int32) : zLA SL (sh_hf ["java/lang/IndexOutOfBoundsException"] (sh_lf 0 tbX.length (fun S => fX12_letter S v1 v2 v3)) SL) (sh_lf 140 tbM.length (fun M => fX13_letter M v1 v2 v3)) := zlaw_t (F := fun S => fX12_letter S v1 v2 v3) (Gf := fun M => fX13_letter M v1 v2 v3) (znd1 _) (by decide) h (fun M hM => zc_letter hM v1 v2 v3)
theorem zL_row {SL : sh_St} (h : zLR SL) (v1 : Int32) (v2 : Int32) (v3 : Int32) : zLA SL (sh_hf ["java/lang/IndexOutOfBoundsException", "java/util/NoSuchElementException"] (sh_lf 0 tbX.length (fun S => fX12_row S v1 v2 v3)) SL) (sh_lf 140 tbM.length (fun M => fX13_row M v1 v2 v3)) := zlaw_t (F := fun S => fX12_row S v1 v2 v3) (Gf := fun M => fX13_row M v1 v2 v3) (znd2 (by decide)) (by decide) h (fun M hM => zc_row hM v1 v2 v3)
theorem zL_shape {SL : sh_St} (h : zLR SL) (v1 : Int32) : zLA SL (sh_hf ["java/util/NoSuchElementException"] (sh_lf 0 tbX.length (fun S => fX12_shape S v1)) SL) (sh_lf 140 tbM.length (fun M => fX13_shape M v1)) := zlaw_t (F := fun S => fX12_shape S v1) (Gf := fun M => fX13_shape M v1) (znd1 _) (by decide) h (fun M hM => zc_shape hM v1)
theorem zL_crowds {SL : sh_St} (h : zLR SL) (v1 : Int32) : zLA SL (sh_hf ["java/lang/IllegalArgumentException"] (sh_lf 0 tbX.length (fun S => fX12_crowds S v1)) SL) (sh_lf 140 tbM.length (fun M => fX13_crowds M v1)) := zlaw_t (F := fun S => fX12_crowds S v1) (Gf := fun M => fX13_crowds M v1) (znd1 _) (by decide) h (fun M hM => zc_crowds hM v1)
theorem zL_best {SL : sh_St} (h : zLR SL) (v1 : Int32) (v2 : Int32) : zLA SL (sh_hf ["java/lang/IllegalArgumentException"] (sh_lf 0 tbX.length (fun S => fX12_best S v1 v2)) SL) (sh_lf 140 tbM.length (fun M => fX13_best M v1 v2)) := zlaw_t (F := fun S => fX12_best S v1 v2) (Gf := fun M => fX13_best M v1 v2) (znd1 _) (by decide) h (fun M hM => zc_best hM v1 v2)
theorem zL_next {SL : sh_St} (h : zLR SL) (v1 : Int32) : zLA SL (sh_hf ["java/lang/IndexOutOfBoundsException", "java/lang/IllegalStateException"] (sh_lf 0 tbX.length (fun S => fX12_next S v1)) SL) (sh_lf 140 tbM.length (fun M => fX13_next M v1)) := zlaw_t (F := fun S => fX12_next S v1) (Gf := fun M => fX13_next M v1) (znd2 (by decide)) (by decide) h (fun M hM => zc_next hM v1)
theorem zL_reader {SL : sh_St} (h : zLR SL) (v1 : Int32) (v2 : Int32) : zLA SL (sh_hf ["java/lang/IndexOutOfBoundsException", "java/util/NoSuchElementException"] (sh_lf 0 tbX.length (fun S => fX12_reader S v1 v2)) SL) (sh_lf 140 tbM.length (fun M => fX13_reader M v1 v2)) := zlaw_t (F := fun S => fX12_reader S v1 v2) (Gf := fun M => fX13_reader M v1 v2) (znd2 (by decide)) (by decide) h (fun M hM => zc_reader hM v1 v2)
theorem zL_batch {SL : sh_St} (h : zLR SL) (v1 : Int32) (v2 : Int32) : zLA SL (sh_hf ["java/lang/IndexOutOfBoundsException"] (sh_lf 0 tbX.length (fun S => fX12_batch S v1 v2)) SL) (sh_lf 140 tbM.length (fun M => fX13_batch M v1 v2)) := zlaw_t (F := fun S => fX12_batch S v1 v2) (Gf := fun M => fX13_batch M v1 v2) (znd1 _) (by decide) h (fun M hM => zc_batch hM v1 v2)
theorem zL_feed {SL : sh_St} (h : zLR SL) (v1 : Int32) (v2 : Int32) (v3 : Int32) (v4 : Int32) (v5 : Int32) : zLB SL (sh_lf 0 tbX.length (fun S => fX12_feed S v1 v2 v3 v4 v5) SL) (sh_lf 140 tbM.length (fun M => fX13_feed M v1 v2 v3 v4 v5)) := zlaw_b (F := fun S => fX12_feed S v1 v2 v3 v4 v5) (Gf := fun M => fX13_feed M v1 v2 v3 v4 v5) (zc_feed h v1 v2 v3 v4 v5)
theorem zL_end {SL : sh_St} (h : zLR SL) (v1 : Int32) : zLB SL (sh_lf 0 tbX.length (fun S => fX12_end S v1) SL) (sh_lf 140 tbM.length (fun M => fX13_end M v1)) := zlaw_b (F := fun S => fX12_end S v1) (Gf := fun M => fX13_end M v1) (zc_end h v1)
theorem zL_fault {SL : sh_St} (h : zLR SL) : zLB SL (sh_lf 0 tbX.length (fun S => fX12_fault S) SL) (sh_lf 140 tbM.length (fun M => fX13_fault M)) := zlaw_b (F := fun S => fX12_fault S) (Gf := fun M => fX13_fault M) (zc_fault h)
theorem zL_why {SL : sh_St} (h : zLR SL) : zLB SL (sh_lf 0 tbX.length (fun S => fX12_why S) SL) (sh_lf 140 tbM.length (fun M => fX13_why M)) := zlaw_b (F := fun S => fX12_why S) (Gf := fun M => fX13_why M) (zc_why h)
theorem zL_leaf {SL : sh_St} (h : zLR SL) (v1 : Int32) : zLB SL (sh_lf 0 tbX.length (fun S => fX12_leaf S v1) SL) (sh_lf 140 tbM.length (fun M => fX13_leaf M v1)) := zlaw_b (F := fun S => fX12_leaf S v1) (Gf := fun M => fX13_leaf M v1) (zc_leaf h v1)
theorem zL_back {SL : sh_St} (h : zLR SL) : zLB SL (sh_lf 0 tbX.length (fun S => fX12_back S) SL) (sh_lf 140 tbM.length (fun M => fX13_back M)) := zlaw_b (F := fun S => fX12_back S) (Gf := fun M => fX13_back M) (zc_back h)
theorem zL_count {SL : sh_St} (h : zLR SL) (v1 : Int32) : zLB SL (sh_lf 0 tbX.length (fun S => fX12_count S v1) SL) (sh_lf 140 tbM.length (fun M => fX13_count M v1)) := zlaw_b (F := fun S => fX12_count S v1) (Gf := fun M => fX13_count M v1) (zc_count h v1)
theorem zL_image {SL : sh_St} (h : zLR SL) : ∃ SL1 SL2, sh_lf 0 tbX.length (fun S => fX12_image S) SL = some ((), SL1) ∧ sh_lf 140 tbM.length (fun M => fX13_image M) SL1 = some ((), SL2) ∧ zLR SL2 := by
  rw [tbX_len, tbM_len]
  obtain ⟨S', M', f1, f2, f4⟩ := zc_image h
  refine ⟨sh_cb 0 140 SL S', sh_cb 140 22 (sh_cb 0 140 SL S') M', zlf_e (F := fun S => fX12_image S) f1, zlf_e (F := fun M => fX13_image M) (by rw [zs140 SL S']; exact f2), ?_⟩
  refine zLR_of (SL := SL) f4 (fun i hi => ?_) (fun i hi => zcb_in _ _ hi)
  have a := zcb_out (o := 140) (n := 22) (i := i) (sh_cb 0 140 SL S') M' (by omega)
  have b := zcb_in (o := 0) (n := 140) (i := i) SL S' hi
  rw [Nat.zero_add] at b
  exact ⟨a.1.trans b.1, a.2.trans b.2⟩
/-- and of open -/
def zLZ (SL : sh_St) (f : Option (Int32 × sh_St)) (g : sh_St → Option (Int32 × sh_St)) : Prop := ∃ k SL1 r SL2, f = some (k, SL1) ∧ g SL1 = some (r, SL2) ∧ SL2.1 140 0 = k ∧ (k = 0 → SL2.2 162 0 = if r = 0 then 0 else 1) ∧ zLR SL2
theorem zlaw_z {F : sh_St → Option ((Int32 ⊕ String) × sh_St)} {Gf : sh_St → Option (Int32 × sh_St)} {SL : sh_St} (hR : zLR SL) (h : ∀ M, zRR (sh_sS 0 SL) M → zCA ["java/lang/IndexOutOfBoundsException"] (F (sh_sS 0 SL)) (Gf M)) : zLZ SL (sh_hfz (sh_lf 0 tbX.length F) SL) (sh_lf 140 tbM.length Gf) := by
  rw [tbX_len, tbM_len]
  obtain ⟨x, S', r0, M0, f1, f2, e0, f4⟩ := h (sh_sS 140 SL) hR
  have hlf : sh_lf 0 140 F SL = some (x, sh_cb 0 140 SL S') := zlf_e f1
  rcases e0 with ⟨rfl, e1⟩ | ⟨k, nm, k1, rfl, k3⟩
  · obtain ⟨x2, S2, r, M', g1, g2, g3, g4⟩ := h (sh_sS 140 (sh_L (sh_cb 0 140 SL S') 162 0 (if r0 = 0 then 0 else 1))) (by
      rw [zs140L]
      exact zRR_cg hR (fun i hi => ⟨rfl, rfl⟩) (fun i hi => ⟨rfl, if_neg (by omega)⟩))
    have ex1 := f1.symm.trans g1
    cases ex1
    have hr : r = r0 ∧ M'.1 0 0 = nI 0 := by
      rcases g3 with ⟨a, b⟩ | ⟨k, nm, _, a, _⟩
      · cases a
        exact ⟨rfl, b⟩
      · cases a
    obtain ⟨rfl, hth⟩ := hr
    refine ⟨0, sh_L (sh_cb 0 140 SL S') 162 0 (if r = 0 then 0 else 1), r, sh_cb 140 22 (sh_L (sh_cb 0 140 SL S') 162 0 (if r = 0 then 0 else 1)) M', ?_, zlf_e g2, ?_, fun _ => ?_, ?_⟩
    · unfold sh_hfz
      rw [hlf]
      by_cases c : r = 0
      · show (if r = 0 then sh_g 0 1 (sh_t (sh_L (sh_cb 0 140 SL S') 162 (0 : Int32).toNatClampNeg 0) fun S2 => some ((0 : Int32), S2)) else sh_g 0 1 (sh_t (sh_L (sh_cb 0 140 SL S') 162 (0 : Int32).toNatClampNeg 1) fun S2 => some ((0 : Int32), S2))) = _
        rw [if_pos c, if_pos c]; rfl
      · show (if r = 0 then sh_g 0 1 (sh_t (sh_L (sh_cb 0 140 SL S') 162 (0 : Int32).toNatClampNeg 0) fun S2 => some ((0 : Int32), S2)) else sh_g 0 1 (sh_t (sh_L (sh_cb 0 140 SL S') 162 (0 : Int32).toNatClampNeg 1) fun S2 => some ((0 : Int32), S2))) = _
        rw [if_neg c, if_neg c]; rfl
    · have := (zcb_in (o := 140) (n := 22) (i := 0) (sh_L (sh_cb 0 140 SL S') 162 0 (if r = 0 then 0 else 1)) M' (by omega)).1
      rw [show 140 + 0 = 140 from rfl] at this
      rw [this, hth]
      rfl
    · rw [(zcb_out (o := 140) (n := 22) (i := 162) (sh_L (sh_cb 0 140 SL S') 162 0 (if r = 0 then 0 else 1)) M' (by omega)).2]
      exact zL_s _ _ _ _
    · refine zLR_of (SL := SL) g4 (fun i hi => ?_) (fun i hi => zcb_in _ _ hi)
      have a := zcb_out (o := 140) (n := 22) (i := i) (sh_L (sh_cb 0 140 SL S') 162 0 (if r = 0 then 0 else 1)) M' (by omega)
      have b := zcb_in (o := 0) (n := 140) (i := i) SL S' hi
      rw [Nat.zero_add] at b
      refine ⟨a.1.trans b.1, a.2.trans (Eq.trans ?_ b.2)⟩
      exact if_neg (by omega)
  · have hs := zs140 SL S'
    have hk3 : k < 1 := (List.getElem?_eq_some_iff.mp k1).1
    refine ⟨nI (k + 1), sh_cb 0 140 SL S', r0, sh_cb 140 22 (sh_cb 0 140 SL S') M0, ?_, zlf_e (by rw [hs]; exact f2), ?_, fun w => ?_, ?_⟩
    · unfold sh_hfz
      rw [hlf]
      have hk0 : k = 0 := by omega
      subst hk0
      show (if some "java/lang/IndexOutOfBoundsException" = some nm then some ((1 : Int32), sh_cb 0 140 SL S') else none) = _
      have k1' : some "java/lang/IndexOutOfBoundsException" = some nm := k1
      rw [if_pos k1']; rfl
    · have := (zcb_in (o := 140) (n := 22) (i := 0) (sh_cb 0 140 SL S') M0 (by omega)).1
      rw [show 140 + 0 = 140 from rfl] at this
      rw [this, k3]
    · have hc : k = 0 ∨ k = 1 ∨ k = 2 := by omega
      rcases hc with rfl | rfl | rfl <;> exact absurd w (by decide)
    · refine zLR_of (SL := SL) f4 (fun i hi => ?_) (fun i hi => zcb_in _ _ hi)
      have a := zcb_out (o := 140) (n := 22) (i := i) (sh_cb 0 140 SL S') M0 (by omega)
      have b := zcb_in (o := 0) (n := 140) (i := i) SL S' hi
      rw [Nat.zero_add] at b
      exact ⟨a.1.trans b.1, a.2.trans b.2⟩
theorem zL_open {SL : sh_St} (h : zLR SL) (v1 : Int32) {w : Nat} (hw : w ≤ 1) : zLZ SL (sh_hfz (sh_lf 0 tbX.length (fun S => fX12_open S v1 (nI w))) SL) (sh_lf 140 tbM.length (fun M => fX13_open M v1 (nI w))) := zlaw_z (F := fun S => fX12_open S v1 (nI w)) (Gf := fun M => fX13_open M v1 (nI w)) h (fun M hM => zc_open hM v1 hw)
