/-! Calls: the callee gets the whole picture and gives it back -/
/-- a callee: its class, its code among the words, how many arguments -/
def sh_Y (y : MethodName) (cy : ByteArray) (mL : Nat) (ret : Option FieldType) (n : Nat) : Prop := Cond.initialized y.cls ∈ sh_ws ∧ Cond.code y cy mL ret ∈ sh_ws ∧ mL ≤ 21 ∧ (y.cls ≠ "java/lang/invoke/MethodHandle" ∧ y.cls ≠ "java/lang/invoke/VarHandle" ∧ (parseMethodDescriptor y.desc).map (fun d => d.parameters.length) = some n)
def sh_YV (y : MethodName) : Prop := Cond.instanceMethod y ∈ sh_ws ∧ Cond.selects y.cls y y ∈ sh_ws
section ShCalls
variable {p : Program} {l : Launch} {e : Env} {d d' : Nat} {s : State} {m : MethodId} {args : Array Value} {below : List Frame} {meth : Method} {c : Code} {H : Heap} {locs : List Loc} {Q : State → Prop}
variable {cc : ByteArray} {nL : Nat} {own : String} {G : sh_Ev} {A : Nat → Prop} {tb : List sh_Ds} {S : sh_St} {pc : Nat} {ls : Array Slot} {rest st0 : List Value} {β : Type} {res : β}
theorem sh_freeA (C : sh_Cx p s m args meth c cc nL own G A) (h : sh_Wx G tb A s H locs S) : ∀ q, va_A (sh_wz G S 0 tb) H.size q → A q := by
  intro q hq
  rcases hq with ⟨k, e, hk⟩ | hq
  · exact h.2.1.2 k (q, e) hk
  · exact C.2.2.2.2.2.2.1 q (Nat.le_trans h.2.2.1 hq)
theorem sh_before (C : sh_Cx p s m args meth c cc nL own G A) (h : sh_Wx G tb A s H locs S) (U : State) (hU : U.heap = H) (hW : s.WarmedH U.vm) : sh_Pr G tb H.size S U := by
  refine ⟨by rw [hU], by rw [hU]; exact h.1, va_K.moved hW.alike C.2.2.2.2.2.1, h.2.1.weaken (fun _ _ _ _ => trivial), ?_⟩
  rw [hU]
  exact sh_Sf_warm hW (sh_Sf_narrow (sh_Sf_kept C.2.2.2.2.2.2.2.2 h.2.2.2.1) (sh_freeA C h))
theorem sh_behind (C : sh_Cx p s m args meth c cc nL own G A) (h : sh_Wx G tb A s H locs S) {S' : sh_St} {t : State} {H1 : Heap} {locs1 : List Loc} (ht : t.heap = H1) (hB : sh_Bx G tb (va_A (sh_wz G S 0 tb) H.size) S' t) (hS : va_S A s.heap H1 locs1) : sh_Wx G tb A s H1 locs1 S' := by
  obtain ⟨hP, hK, hD⟩ := hB
  rw [ht] at hP
  exact ⟨hP, hD.weaken (fun _ q _ hq => sh_freeA C h q.1 hq), hS⟩
theorem sh_rmR {d d' mL : Nat} (hd : d' < d) (hm : mL ≤ 21) : (sh_rm d').frames + 1 ≤ (sh_rm d).frames ∧ 8 + (mL + 11) + (sh_rm d').locals ≤ (sh_rm d).locals := by
  constructor
  · exact hd
  · show 8 + (mL + 11) + 40 * d' ≤ 40 * d
    omega
theorem sh_cwV (C : sh_Cx p s m args meth c cc nL own G A) {y : MethodName} {cy : ByteArray} {mL n idx : Nat} {ret : Option FieldType} (Y : sh_Y y cy mL ret n) (V : sh_YV y) (L : Cond.methodLink own idx y ∈ sh_ws) (hd : d' < d) : CallW (sh_rm d) s args own y.cls idx y cy mL ret (sh_wq y cy mL ret) (sh_rm d') 0 0 n := by
  obtain ⟨hi, hc, hm, hy⟩ := Y
  refine cwV n C.2.2.2.2.1 ?_ rfl rfl rfl ⟨rfl, hy⟩ (sh_rmR hd hm)
  intro w hw
  rcases List.mem_append.mp hw with hw | hw
  · simp only [List.mem_cons, List.not_mem_nil, or_false] at hw
    have hin : w ∈ sh_ws := by
      rcases hw with rfl | rfl | rfl | rfl
      · exact L
      · exact V.1
      · exact V.2
      · exact hi
    exact ⟨hin, good_of_word (List.mem_filter.mp hin).2⟩
  · exact sh_good hc w hw
theorem sh_cwS (C : sh_Cx p s m args meth c cc nL own G A) {y : MethodName} {cy : ByteArray} {mL n idx : Nat} {ret : Option FieldType} (Y : sh_Y y cy mL ret n) (V : Cond.static y ∈ sh_ws) (L : Cond.methodLink own idx y ∈ sh_ws) (ho : y.cls = own) (hd : d' < d) : CallB (sh_rm d) s args own idx y cy mL ret (sh_wq y cy mL ret) (sh_rm d') 0 0 n ∧ (Cond.static y).before args s = true := by
  obtain ⟨hi, hc, hm, hy⟩ := Y
  refine cwS n C.2.2.2.2.1 ?_ rfl rfl rfl ⟨ho, hy⟩ (sh_rmR hd hm)
  intro w hw
  rcases List.mem_append.mp hw with hw | hw
  · simp only [List.mem_cons, List.not_mem_nil, or_false] at hw
    have hin : w ∈ sh_ws := by
      rcases hw with rfl | rfl | rfl
      · exact L
      · exact V
      · rw [← ho]; exact hi
    exact ⟨hin, good_of_word (List.mem_filter.mp hin).2⟩
  · exact sh_good hc w hw
theorem sh_cwN (C : sh_Cx p s m args meth c cc nL own G A) {y : MethodName} {cy : ByteArray} {mL n idx : Nat} {ret : Option FieldType} (Y : sh_Y y cy mL ret n) (V : Cond.static y ∈ sh_ws) {host : String} (L : Cond.methodLinkNest own idx y host ∈ sh_nest) (hd : d' < d) : va_CN (sh_rm d) s args own idx y host cy mL ret (sh_wq y cy mL ret) (sh_rm d') 0 0 n ∧ (Cond.static y).before args s = true ∧ True := by
  obtain ⟨hi, hc, hm, hy⟩ := Y
  exact ⟨va_cnB n C.2.2.2.2.1 (sh_good hc) rfl rfl rfl (C.2.2.2.2.2.2.2.2.2.2.2.2.2.2.2.2.2 _ L) (C.2.2.2.2.1 _ hi) hy (sh_rmR hd hm), C.2.2.2.2.1 _ V, trivial⟩
theorem sh_recv (C : sh_Cx p s m args meth c cc nL own G A) (h : sh_Wx G tb A s H locs S) {i ci : Nat} {ds : List (Nat × Nat)} {Cn : String} {T : u_T} {N : Nat} (ht : tb[i]? = some (.inl (ci, ds))) (hc : vwCl[ci]? = some (Cn, T, N)) : ∃ cell : Cell, H[G.2.1 i]? = some cell ∧ cell.vm.isStatics = false ∧ s.vm.findClass Cn = some cell.cls :=
  va_recv C.2.2.2.2.2.1 h.1 hc (sh_get G S ht)
/-! instance methods -/
theorem sh_Vi (C : sh_Cx p s m args meth c cc nL own G A) (h : sh_Wx G tb A s H locs S) {y : MethodName} {cy : ByteArray} {mL n idx i ci : Nat} {rt : FieldType} {vs : sh_Ev → List Value} {F : sh_St → Option (Int32 × sh_St)} (M : sh_Mi l y cy mL rt d' tb vs F) (Y : sh_Y y cy mL (some rt) n) (V : sh_YV y) (L : Cond.methodLink own idx y ∈ sh_ws)
    {f : Int32 → sh_St → Option β} (hf : sh_c (F S) f = some res) {ds : List (Nat × Nat)} {T : u_T} {N : Nat} (ht : tb[i]? = some (.inl (ci, ds))) (hc : vwCl[ci]? = some (y.cls, T, N)) {As : List Value} (hvs : vs G = .ref (G.2.1 i) :: As) (hn : As.length = n) (hst : st0 = As.reverse ++ .ref (G.2.1 i) :: rest) (hrest : (rest.map fun v => v.category).sum ≤ 8) (hd : d' < d) (hls : ls.size = nL) (hdg : decode cc pc = .ok (.invokevirtual idx, 3))
    (kk : ∀ (r : Int32) (S' : sh_St) (H1 : Heap) (locs1 : List Loc), sh_Wx G tb A s H1 locs1 S' → f r S' = some res → W p l e (sh_rm d) s m args below meth c H1 locs1 0 0 Q (F0 m (pc + 3) ls (.int r :: rest))) : W p l e (sh_rm d) s m args below meth c H locs 0 0 Q (F0 m pc ls st0) := by
  obtain ⟨r, S', hF, hf⟩ := sh_c_of hf
  have hM := M G H.size S (r, S') hF
  rw [hvs] at hM
  refine va_calli (va_runV (As := As) (rest := rest) ⟨C.1, C.2.1, C.2.2.1, C.2.2.2.1, C.2.2.2.2.1⟩ hM (sh_cwV C Y V L hd) ⟨sh_blind _ G tb _ S, sh_recv C h ht hc, fun U hU hW => ⟨rfl, sh_before C h U hU hW⟩⟩ rfl hn hls hst (lv_room hrest) hdg ⟨Nat.le_refl 0, Nat.le_refl 0⟩) h.2.2 (fun q _ hq => sh_freeA C h q hq) (sh_freeA C h) (fun r1 u t H1 locs1 ht1 hvm hw hB hz1 hk1 hS => ?_)
  cases hw
  exact kk _ _ H1 locs1 (sh_behind C h ht1 hB hS) hf
theorem sh_Vl (C : sh_Cx p s m args meth c cc nL own G A) (h : sh_Wx G tb A s H locs S) {y : MethodName} {cy : ByteArray} {mL n idx i ci : Nat} {vs : sh_Ev → List Value} {F : sh_St → Option (Int64 × sh_St)} (M : sh_Ml l y cy mL d' tb vs F) (Y : sh_Y y cy mL (some .long) n) (V : sh_YV y) (L : Cond.methodLink own idx y ∈ sh_ws)
    {f : Int64 → sh_St → Option β} (hf : sh_c (F S) f = some res) {ds : List (Nat × Nat)} {T : u_T} {N : Nat} (ht : tb[i]? = some (.inl (ci, ds))) (hc : vwCl[ci]? = some (y.cls, T, N)) {As : List Value} (hvs : vs G = .ref (G.2.1 i) :: As) (hn : As.length = n) (hst : st0 = As.reverse ++ .ref (G.2.1 i) :: rest) (hrest : (rest.map fun v => v.category).sum ≤ 8) (hd : d' < d) (hls : ls.size = nL) (hdg : decode cc pc = .ok (.invokevirtual idx, 3))
    (kk : ∀ (r : Int64) (S' : sh_St) (H1 : Heap) (locs1 : List Loc), sh_Wx G tb A s H1 locs1 S' → f r S' = some res → W p l e (sh_rm d) s m args below meth c H1 locs1 0 0 Q (F0 m (pc + 3) ls (.long r :: rest))) : W p l e (sh_rm d) s m args below meth c H locs 0 0 Q (F0 m pc ls st0) := by
  obtain ⟨r, S', hF, hf⟩ := sh_c_of hf
  have hM := M G H.size S (r, S') hF
  rw [hvs] at hM
  refine va_calll (va_runV (As := As) (rest := rest) ⟨C.1, C.2.1, C.2.2.1, C.2.2.2.1, C.2.2.2.2.1⟩ hM (sh_cwV C Y V L hd) ⟨sh_blind _ G tb _ S, sh_recv C h ht hc, fun U hU hW => ⟨rfl, sh_before C h U hU hW⟩⟩ rfl hn hls hst (lv_room hrest) hdg ⟨Nat.le_refl 0, Nat.le_refl 0⟩) h.2.2 (fun q _ hq => sh_freeA C h q hq) (sh_freeA C h) (fun r1 u t H1 locs1 ht1 hvm hw hB hz1 hk1 hS => ?_)
  cases hw
  exact kk _ _ H1 locs1 (sh_behind C h ht1 hB hS) hf
theorem sh_Vv (C : sh_Cx p s m args meth c cc nL own G A) (h : sh_Wx G tb A s H locs S) {y : MethodName} {cy : ByteArray} {mL n idx i ci : Nat} {vs : sh_Ev → List Value} {F : sh_St → Option (Unit × sh_St)} (M : sh_Mv l y cy mL d' tb vs F) (Y : sh_Y y cy mL none n) (V : sh_YV y) (L : Cond.methodLink own idx y ∈ sh_ws)
    {f : Unit → sh_St → Option β} (hf : sh_c (F S) f = some res) {ds : List (Nat × Nat)} {T : u_T} {N : Nat} (ht : tb[i]? = some (.inl (ci, ds))) (hc : vwCl[ci]? = some (y.cls, T, N)) {As : List Value} (hvs : vs G = .ref (G.2.1 i) :: As) (hn : As.length = n) (hst : st0 = As.reverse ++ .ref (G.2.1 i) :: rest) (hrest : (rest.map fun v => v.category).sum ≤ 8) (hd : d' < d) (hls : ls.size = nL) (hdg : decode cc pc = .ok (.invokevirtual idx, 3))
    (kk : ∀ (S' : sh_St) (H1 : Heap) (locs1 : List Loc), sh_Wx G tb A s H1 locs1 S' → f () S' = some res → W p l e (sh_rm d) s m args below meth c H1 locs1 0 0 Q (F0 m (pc + 3) ls rest)) : W p l e (sh_rm d) s m args below meth c H locs 0 0 Q (F0 m pc ls st0) := by
  obtain ⟨r, S', hF, hf⟩ := sh_c_of hf
  have hM := M G H.size S (r, S') hF
  rw [hvs] at hM
  refine va_callv (va_runV (As := As) (rest := rest) ⟨C.1, C.2.1, C.2.2.1, C.2.2.2.1, C.2.2.2.2.1⟩ hM (sh_cwV C Y V L hd) ⟨sh_blind _ G tb _ S, sh_recv C h ht hc, fun U hU hW => ⟨rfl, sh_before C h U hU hW⟩⟩ rfl hn hls hst (lv_room hrest) hdg ⟨Nat.le_refl 0, Nat.le_refl 0⟩) h.2.2 (fun q _ hq => sh_freeA C h q hq) (sh_freeA C h) (fun u t H1 locs1 ht1 hvm hw hB hz1 hk1 hS => ?_)
  cases hw
  exact kk _ H1 locs1 (sh_behind C h ht1 hB hS) hf
/-! static methods of the own class -/
theorem sh_Si (C : sh_Cx p s m args meth c cc nL own G A) (h : sh_Wx G tb A s H locs S) {y : MethodName} {cy : ByteArray} {mL n idx : Nat} {rt : FieldType} {vs : sh_Ev → List Value} {F : sh_St → Option (Int32 × sh_St)} (M : sh_Mi l y cy mL rt d' tb vs F) (Y : sh_Y y cy mL (some rt) n) (V : Cond.static y ∈ sh_ws) (L : Cond.methodLink own idx y ∈ sh_ws) (ho : y.cls = own)
    {f : Int32 → sh_St → Option β} (hf : sh_c (F S) f = some res) {As : List Value} (hvs : vs G = As) (hn : As.length = n) (hst : st0 = As.reverse ++ rest) (hrest : (rest.map fun v => v.category).sum ≤ 8) (hd : d' < d) (hls : ls.size = nL) (hdg : decode cc pc = .ok (.invokestatic idx, 3))
    (kk : ∀ (r : Int32) (S' : sh_St) (H1 : Heap) (locs1 : List Loc), sh_Wx G tb A s H1 locs1 S' → f r S' = some res → W p l e (sh_rm d) s m args below meth c H1 locs1 0 0 Q (F0 m (pc + 3) ls (.int r :: rest))) : W p l e (sh_rm d) s m args below meth c H locs 0 0 Q (F0 m pc ls st0) := by
  obtain ⟨r, S', hF, hf⟩ := sh_c_of hf
  have hM := M G H.size S (r, S') hF
  rw [hvs] at hM
  refine va_calli (va_runS (As := As) (rest := rest) ⟨C.1, C.2.1, C.2.2.1, C.2.2.2.1, C.2.2.2.2.1⟩ hM (sh_cwS C Y V L ho hd) ⟨sh_blind _ G tb _ S, fun U hU hW => ⟨rfl, sh_before C h U hU hW⟩⟩ rfl hn hls hst (lv_room hrest) hdg ⟨Nat.le_refl 0, Nat.le_refl 0⟩) h.2.2 (fun q _ hq => sh_freeA C h q hq) (sh_freeA C h) (fun r1 u t H1 locs1 ht1 hvm hw hB hz1 hk1 hS => ?_)
  cases hw
  exact kk _ _ H1 locs1 (sh_behind C h ht1 hB hS) hf
theorem sh_Sl (C : sh_Cx p s m args meth c cc nL own G A) (h : sh_Wx G tb A s H locs S) {y : MethodName} {cy : ByteArray} {mL n idx : Nat} {vs : sh_Ev → List Value} {F : sh_St → Option (Int64 × sh_St)} (M : sh_Ml l y cy mL d' tb vs F) (Y : sh_Y y cy mL (some .long) n) (V : Cond.static y ∈ sh_ws) (L : Cond.methodLink own idx y ∈ sh_ws) (ho : y.cls = own)
    {f : Int64 → sh_St → Option β} (hf : sh_c (F S) f = some res) {As : List Value} (hvs : vs G = As) (hn : As.length = n) (hst : st0 = As.reverse ++ rest) (hrest : (rest.map fun v => v.category).sum ≤ 8) (hd : d' < d) (hls : ls.size = nL) (hdg : decode cc pc = .ok (.invokestatic idx, 3))
    (kk : ∀ (r : Int64) (S' : sh_St) (H1 : Heap) (locs1 : List Loc), sh_Wx G tb A s H1 locs1 S' → f r S' = some res → W p l e (sh_rm d) s m args below meth c H1 locs1 0 0 Q (F0 m (pc + 3) ls (.long r :: rest))) : W p l e (sh_rm d) s m args below meth c H locs 0 0 Q (F0 m pc ls st0) := by
  obtain ⟨r, S', hF, hf⟩ := sh_c_of hf
  have hM := M G H.size S (r, S') hF
  rw [hvs] at hM
  refine va_calll (va_runS (As := As) (rest := rest) ⟨C.1, C.2.1, C.2.2.1, C.2.2.2.1, C.2.2.2.2.1⟩ hM (sh_cwS C Y V L ho hd) ⟨sh_blind _ G tb _ S, fun U hU hW => ⟨rfl, sh_before C h U hU hW⟩⟩ rfl hn hls hst (lv_room hrest) hdg ⟨Nat.le_refl 0, Nat.le_refl 0⟩) h.2.2 (fun q _ hq => sh_freeA C h q hq) (sh_freeA C h) (fun r1 u t H1 locs1 ht1 hvm hw hB hz1 hk1 hS => ?_)
  cases hw
  exact kk _ _ H1 locs1 (sh_behind C h ht1 hB hS) hf
/-! private static methods of a nest mate -/
theorem sh_Ni (C : sh_Cx p s m args meth c cc nL own G A) (h : sh_Wx G tb A s H locs S) {y : MethodName} {cy : ByteArray} {mL n idx : Nat} {rt : FieldType} {vs : sh_Ev → List Value} {F : sh_St → Option (Int32 × sh_St)} (M : sh_Mi l y cy mL rt d' tb vs F) (Y : sh_Y y cy mL (some rt) n) (V : Cond.static y ∈ sh_ws) {host : String} (L : Cond.methodLinkNest own idx y host ∈ sh_nest)
    {f : Int32 → sh_St → Option β} (hf : sh_c (F S) f = some res) {As : List Value} (hvs : vs G = As) (hn : As.length = n) (hst : st0 = As.reverse ++ rest) (hrest : (rest.map fun v => v.category).sum ≤ 8) (hd : d' < d) (hls : ls.size = nL) (hdg : decode cc pc = .ok (.invokestatic idx, 3))
    (kk : ∀ (r : Int32) (S' : sh_St) (H1 : Heap) (locs1 : List Loc), sh_Wx G tb A s H1 locs1 S' → f r S' = some res → W p l e (sh_rm d) s m args below meth c H1 locs1 0 0 Q (F0 m (pc + 3) ls (.int r :: rest))) : W p l e (sh_rm d) s m args below meth c H locs 0 0 Q (F0 m pc ls st0) := by
  obtain ⟨r, S', hF, hf⟩ := sh_c_of hf
  have hM := M G H.size S (r, S') hF
  rw [hvs] at hM
  refine va_calli (va_runSN (As := As) (rest := rest) ⟨C.1, C.2.1, C.2.2.1, C.2.2.2.1, C.2.2.2.2.1⟩ hM (sh_cwN C Y V L hd) ⟨sh_blind _ G tb _ S, fun U hU hW => ⟨rfl, sh_before C h U hU hW⟩⟩ rfl hn hls hst (lv_room hrest) hdg ⟨Nat.le_refl 0, Nat.le_refl 0⟩) h.2.2 (fun q _ hq => sh_freeA C h q hq) (sh_freeA C h) (fun r1 u t H1 locs1 ht1 hvm hw hB hz1 hk1 hS => ?_)
  cases hw
  exact kk _ _ H1 locs1 (sh_behind C h ht1 hB hS) hf
/-! Math.min, Math.max, System.arraycopy of whole rows -/
theorem sh_min (C : sh_Cx p s m args meth c cc nL own G A) {idx : Nat} {x y : Int32} (L : Cond.methodLink own idx Lib.Math.min.name ∈ sh_ws) (B : Cond.static Lib.Math.min.name ∈ sh_ws ∧ Cond.initialized "java/lang/Math" ∈ sh_ws ∧ Cond.code Lib.Math.min.name Lib.Math.min.code 2 (some .int) ∈ sh_ws) (hd : 0 < d) (hls : ls.size = nL) (hrest : (rest.map fun v => v.category).sum ≤ 8) (hdg : decode cc pc = .ok (.invokestatic idx, 3))
    (kk : W p l e (sh_rm d) s m args below meth c H locs 0 0 Q (F0 m (pc + 3) ls (.int (if y < x then y else x) :: rest))) : W p l e (sh_rm d) s m args below meth c H locs 0 0 Q (F0 m pc ls (.int y :: .int x :: rest)) := by
  obtain ⟨hx, hb, hml, hown, hts, hK, hA, hlocks, hSf⟩ := C
  exact va_mmin (R := sh_rm d) hx hb (hml.trans hls.symm) hown (hts _ L) (hts _ B.1) (hts _ B.2.1) (hts _ B.2.2) hd (by show _ + 13 ≤ 40 * d; omega) (Nat.le_refl 0) (Nat.le_refl 0) hdg kk
theorem sh_max (C : sh_Cx p s m args meth c cc nL own G A) {idx : Nat} {x y : Int32} (L : Cond.methodLink own idx Lib.Math.max.name ∈ sh_ws) (B : Cond.static Lib.Math.max.name ∈ sh_ws ∧ Cond.initialized "java/lang/Math" ∈ sh_ws ∧ Cond.code Lib.Math.max.name Lib.Math.max.code 2 (some .int) ∈ sh_ws) (hd : 0 < d) (hls : ls.size = nL) (hrest : (rest.map fun v => v.category).sum ≤ 8) (hdg : decode cc pc = .ok (.invokestatic idx, 3))
    (kk : W p l e (sh_rm d) s m args below meth c H locs 0 0 Q (F0 m (pc + 3) ls (.int (if x < y then y else x) :: rest))) : W p l e (sh_rm d) s m args below meth c H locs 0 0 Q (F0 m pc ls (.int y :: .int x :: rest)) := by
  obtain ⟨hx, hb, hml, hown, hts, hK, hA, hlocks, hSf⟩ := C
  exact va_mmax (R := sh_rm d) hx hb (hml.trans hls.symm) hown (hts _ L) (hts _ B.1) (hts _ B.2.1) (hts _ B.2.2) hd (by show _ + 13 ≤ 40 * d; omega) (Nat.le_refl 0) (Nat.le_refl 0) hdg kk
end ShCalls
