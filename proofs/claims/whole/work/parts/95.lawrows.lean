/-! calls in the law's body: the room is the claim's -/
section ShLaw
variable {p : Program} {l : Launch} {e : Env} {R : Room} {d' cells slots : Nat} {s : State} {m : MethodId} {args : Array Value} {below : List Frame} {meth : Method} {c : Code} {H : Heap} {locs : List Loc} {Q : State → Prop}
variable {cc : ByteArray} {nL : Nat} {own : String} {G : sh_Ev} {A : Nat → Prop} {tb : List sh_Ds} {S : sh_St} {pc : Nat} {ls : Array Slot} {rest st0 : List Value}
theorem sh_lcwV (C : sh_Cx p s m args meth c cc nL own G A) {y : MethodName} {cy : ByteArray} {mL n idx : Nat} {ret : Option FieldType} (Y : sh_Y y cy mL ret n) (V : sh_YV y) (L : Cond.methodLink own idx y ∈ sh_ws) (hR : d' + 1 ≤ R.frames ∧ 40 + 40 * d' ≤ R.locals) : CallW R s args own y.cls idx y cy mL ret (sh_wq y cy mL ret) (sh_rm d') 0 0 n := by
  obtain ⟨hi, hc, hm, hy⟩ := Y
  refine cwV n C.2.2.2.2.1 ?_ rfl rfl rfl ⟨rfl, hy⟩ ⟨hR.1, by show 8 + (mL + 11) + 40 * d' ≤ R.locals; omega⟩
  intro w hw
  rcases List.mem_append.mp hw with hw | hw
  · simp only [List.mem_cons, List.not_mem_nil, or_false] at hw
    have hin : w ∈ sh_ws := by
      rcases hw with rfl | rfl | rfl | rfl
      · exact L
      · exact V.1
      · exact V.2
      · exact hi
    exact ⟨hin, good_of_word (List.mem_filter.mp hin).2⟩
  · exact sh_good hc w hw
theorem sh_LVi (C : sh_Cx p s m args meth c cc nL own G A) (h : sh_Wx G tb A s H locs S) {y : MethodName} {cy : ByteArray} {mL n idx i ci : Nat} {rt : FieldType} {vs : sh_Ev → List Value} {F : sh_St → Option (Int32 × sh_St)} (M : sh_Mi l y cy mL rt d' tb vs F) (Y : sh_Y y cy mL (some rt) n) (V : sh_YV y) (L : Cond.methodLink own idx y ∈ sh_ws)
    {r : Int32} {S' : sh_St} (hF : F S = some (r, S')) {ds : List (Nat × Nat)} {T : u_T} {N : Nat} (ht : tb[i]? = some (.inl (ci, ds))) (hc : vwCl[ci]? = some (y.cls, T, N)) {As : List Value} (hvs : vs G = .ref (G.2.1 i) :: As) (hn : As.length = n) (hst : st0 = As.reverse ++ .ref (G.2.1 i) :: rest) (hrest : (rest.map fun v => v.category).sum ≤ 8) (hR : d' + 1 ≤ R.frames ∧ 40 + 40 * d' ≤ R.locals) (hkc : cells ≤ R.cells) (hks : slots ≤ R.slots) (hls : ls.size = nL) (hdg : decode cc pc = .ok (.invokevirtual idx, 3))
    (kk : ∀ (H1 : Heap) (locs1 : List Loc), sh_Wx G tb A s H1 locs1 S' → W p l e R s m args below meth c H1 locs1 cells slots Q (F0 m (pc + 3) ls (.int r :: rest))) : W p l e R s m args below meth c H locs cells slots Q (F0 m pc ls st0) := by
  have hM := M G H.size S (r, S') hF
  rw [hvs] at hM
  refine va_calli (va_runV (As := As) (rest := rest) ⟨C.1, C.2.1, C.2.2.1, C.2.2.2.1, C.2.2.2.2.1⟩ hM (sh_lcwV C Y V L hR) ⟨sh_blind _ G tb _ S, sh_recv C h ht hc, fun U hU hW => ⟨rfl, sh_before C h U hU hW⟩⟩ rfl hn hls hst (lv_room hrest) hdg ⟨hkc, hks⟩) h.2.2 (fun q _ hq => sh_freeA C h q hq) (sh_freeA C h) (fun r1 u t H1 locs1 ht1 hvm hw hB hz1 hk1 hS => ?_)
  cases hw
  exact kk H1 locs1 (sh_behind C h ht1 hB hS)
theorem sh_LVv (C : sh_Cx p s m args meth c cc nL own G A) (h : sh_Wx G tb A s H locs S) {y : MethodName} {cy : ByteArray} {mL n idx i ci : Nat} {vs : sh_Ev → List Value} {F : sh_St → Option (Unit × sh_St)} (M : sh_Mv l y cy mL d' tb vs F) (Y : sh_Y y cy mL none n) (V : sh_YV y) (L : Cond.methodLink own idx y ∈ sh_ws)
    {S' : sh_St} (hF : F S = some ((), S')) {ds : List (Nat × Nat)} {T : u_T} {N : Nat} (ht : tb[i]? = some (.inl (ci, ds))) (hc : vwCl[ci]? = some (y.cls, T, N)) {As : List Value} (hvs : vs G = .ref (G.2.1 i) :: As) (hn : As.length = n) (hst : st0 = As.reverse ++ .ref (G.2.1 i) :: rest) (hrest : (rest.map fun v => v.category).sum ≤ 8) (hR : d' + 1 ≤ R.frames ∧ 40 + 40 * d' ≤ R.locals) (hkc : cells ≤ R.cells) (hks : slots ≤ R.slots) (hls : ls.size = nL) (hdg : decode cc pc = .ok (.invokevirtual idx, 3))
    (kk : ∀ (H1 : Heap) (locs1 : List Loc), sh_Wx G tb A s H1 locs1 S' → W p l e R s m args below meth c H1 locs1 cells slots Q (F0 m (pc + 3) ls rest)) : W p l e R s m args below meth c H locs cells slots Q (F0 m pc ls st0) := by
  have hM := M G H.size S ((), S') hF
  rw [hvs] at hM
  refine va_callv (va_runV (As := As) (rest := rest) ⟨C.1, C.2.1, C.2.2.1, C.2.2.2.1, C.2.2.2.2.1⟩ hM (sh_lcwV C Y V L hR) ⟨sh_blind _ G tb _ S, sh_recv C h ht hc, fun U hU hW => ⟨rfl, sh_before C h U hU hW⟩⟩ rfl hn hls hst (lv_room hrest) hdg ⟨hkc, hks⟩) h.2.2 (fun q _ hq => sh_freeA C h q hq) (sh_freeA C h) (fun u t H1 locs1 ht1 hvm hw hB hz1 hk1 hS => ?_)
  cases hw
  exact kk H1 locs1 (sh_behind C h ht1 hB hS)
/-- a helper's link -/
def sh_YH (y : MethodName) (cy : ByteArray) (mL : Nat) (hh : List (Nat × Nat × Nat × Nat)) (n : Nat) : Prop := Cond.initialized y.cls ∈ sh_ws ∧ Cond.codeWith y cy mL (some .int) hh ∈ sh_ws ∧ Cond.static y ∈ sh_ws ∧ mL ≤ 21 ∧ (y.cls ≠ "java/lang/invoke/MethodHandle" ∧ y.cls ≠ "java/lang/invoke/VarHandle" ∧ (parseMethodDescriptor y.desc).map (fun d => d.parameters.length) = some n)
theorem sh_Nq_warm {s U : State} (hW : s.WarmedH U.vm) (h : sh_Nq s) : sh_Nq U := fun q hq => va_Nc.moved hW.alike (h q hq)
theorem sh_goodH {y : MethodName} {cc : ByteArray} {mL : Nat} {ret : Option FieldType} {hh : List (Nat × Nat × Nat × Nat)} (h : Cond.codeWith y cc mL ret hh ∈ sh_ws) : GoodIn sh_ws (sh_wh y cc mL ret hh) := by
  intro w hw
  have hin : w ∈ sh_ws := by
    rcases List.mem_cons.mp hw with rfl | hw
    · exact h
    · exact hw
  exact ⟨hin, good_of_word (List.mem_filter.mp hin).2⟩
theorem sh_LH (C : sh_Cx p s m args meth c cc nL own G A) (hNq : sh_Nq s) (h : sh_Wx G tb A s H locs S) {y : MethodName} {cy : ByteArray} {mL n idx kc ks : Nat} {hh : List (Nat × Nat × Nat × Nat)} {vs : sh_Ev → List Value} {F : sh_St → Option (Int32 × sh_St)} (M : sh_Hi l y cy mL hh d' kc ks tb vs F) (Y : sh_YH y cy mL hh n) (L : Cond.methodLink own idx y ∈ sh_ws)
    {r : Int32} {S' : sh_St} (hF : F S = some (r, S')) {As : List Value} (hvs : vs G = As) (hn : As.length = n) (hst : st0 = As.reverse ++ rest) (hrest : (rest.map fun v => v.category).sum ≤ 8) (hR : d' + 1 ≤ R.frames ∧ 40 + 40 * d' ≤ R.locals) (hkc : cells + kc ≤ R.cells) (hks : slots + ks ≤ R.slots) (hls : ls.size = nL) (hdg : decode cc pc = .ok (.invokestatic idx, 3))
    (kk : ∀ (H1 : Heap) (locs1 : List Loc), sh_Wx G tb A s H1 locs1 S' → W p l e R s m args below meth c H1 locs1 (cells + kc) (slots + ks) Q (F0 m (pc + 3) ls (.int r :: rest))) : W p l e R s m args below meth c H locs cells slots Q (F0 m pc ls st0) := by
  have hM := M G H.size S (r, S') hF
  rw [hvs] at hM
  obtain ⟨hi, hc, hs9, hm, hy⟩ := Y
  have cw : vx_CSW R s args own idx y cy mL (some .int) hh (sh_wh y cy mL (some .int) hh) (sh_rx d' kc ks) kc ks n := by
    refine vx_cwSW n C.2.2.2.2.1 ?_ rfl rfl rfl hy ⟨hR.1, by show 8 + (mL + 11) + 40 * d' ≤ R.locals; omega⟩
    intro w hw
    rcases List.mem_append.mp hw with hw | hw
    · simp only [List.mem_cons, List.not_mem_nil, or_false] at hw
      have hin : w ∈ sh_ws := by
        rcases hw with rfl | rfl | rfl
        · exact L
        · exact hs9
        · exact hi
      exact ⟨hin, good_of_word (List.mem_filter.mp hin).2⟩
    · exact sh_goodH hc w hw
  have hbl : FrameBlind (va_Pc As (fun U => sh_Pr G tb H.size S U ∧ sh_Nq U)) := by
    intro a U g mk h9
    have h1 := sh_blind As G tb H.size S a U g mk ⟨h9.1, h9.2.1⟩
    exact ⟨h1.1, h1.2, fun q hq => va_Nc.moved (u := U) (U := U.calling g mk a) (Vm.Alike.refl U.vm) (h9.2.2 q hq)⟩
  refine va_calli (vx_runSW (As := As) (rest := rest) ⟨C.1, C.2.1, C.2.2.1, C.2.2.2.1, C.2.2.2.2.1⟩ hM cw ⟨hbl, fun U hU hW => ⟨rfl, sh_before C h U hU hW, sh_Nq_warm hW hNq⟩⟩ rfl hn hls hst (lv_room hrest) hdg ⟨hkc, hks⟩) h.2.2 (fun q _ hq => sh_freeA C h q hq) (sh_freeA C h) (fun r1 u t H1 locs1 ht1 hvm hw hB hz1 hk1 hS => ?_)
  cases hw
  exact kk H1 locs1 (sh_behind C h ht1 hB hS)
end ShLaw
