/-! Methods that throw: their contracts, their rows; rooms with cells -/
def sh_rx (d kc ks : Nat) : Room := { frames := d, cells := kc, slots := ks, locals := 40 * d }
theorem sh_rxR {d d' mL kc ks : Nat} (hd : d' < d) (hm : mL ≤ 21) : (sh_rm d').frames + 1 ≤ (sh_rx d kc ks).frames ∧ 8 + (mL + 11) + (sh_rm d').locals ≤ (sh_rx d kc ks).locals := by
  constructor
  · exact hd
  · show 8 + (mL + 11) + 40 * d' ≤ 40 * d
    omega
theorem sh_rxX {d d' mL kc ks kc' ks' : Nat} (hd : d' < d) (hm : mL ≤ 21) : (sh_rx d' kc' ks').frames + 1 ≤ (sh_rx d kc ks).frames ∧ 8 + (mL + 11) + (sh_rx d' kc' ks').locals ≤ (sh_rx d kc ks).locals := by
  constructor
  · exact hd
  · show 8 + (mL + 11) + 40 * d' ≤ 40 * d
    omega
section ShXCalls
variable {p : Program} {l : Launch} {e : Env} {d d' kc ks cells slots : Nat} {s : State} {m : MethodId} {args : Array Value} {below : List Frame} {meth : Method} {c : Code} {H : Heap} {locs : List Loc} {Q : State → Prop}
variable {cc : ByteArray} {nL : Nat} {own : String} {G : sh_Ev} {A : Nat → Prop} {tb : List sh_Ds} {S : sh_St} {pc : Nat} {ls : Array Slot} {rest st0 : List Value} {β : Type} {res : β}
theorem sh_xcwV (C : sh_Cx p s m args meth c cc nL own G A) {y : MethodName} {cy : ByteArray} {mL n idx : Nat} {ret : Option FieldType} (Y : sh_Y y cy mL ret n) (V : sh_YV y) (L : Cond.methodLink own idx y ∈ sh_ws) (hd : d' < d) : CallW (sh_rx d kc ks) s args own y.cls idx y cy mL ret (sh_wq y cy mL ret) (sh_rm d') 0 0 n := by
  obtain ⟨hi, hc, hm, hy⟩ := Y
  refine cwV n C.2.2.2.2.1 ?_ rfl rfl rfl ⟨rfl, hy⟩ (sh_rxR hd hm)
  intro w hw
  rcases List.mem_append.mp hw with hw | hw
  · simp only [List.mem_cons, List.not_mem_nil, or_false] at hw
    have hin : w ∈ sh_ws := by
      rcases hw with rfl | rfl | rfl | rfl
      · exact L
      · exact V.1
      · exact V.2
      · exact hi
    exact ⟨hin, good_of_word (List.mem_filter.mp hin).2⟩
  · exact sh_good hc w hw
theorem sh_xcwS (C : sh_Cx p s m args meth c cc nL own G A) {y : MethodName} {cy : ByteArray} {mL n idx : Nat} {ret : Option FieldType} (Y : sh_Y y cy mL ret n) (V : Cond.static y ∈ sh_ws) (L : Cond.methodLink own idx y ∈ sh_ws) (ho : y.cls = own) (hd : d' < d) : CallB (sh_rx d kc ks) s args own idx y cy mL ret (sh_wq y cy mL ret) (sh_rm d') 0 0 n ∧ (Cond.static y).before args s = true := by
  obtain ⟨hi, hc, hm, hy⟩ := Y
  refine cwS n C.2.2.2.2.1 ?_ rfl rfl rfl ⟨ho, hy⟩ (sh_rxR hd hm)
  intro w hw
  rcases List.mem_append.mp hw with hw | hw
  · simp only [List.mem_cons, List.not_mem_nil, or_false] at hw
    have hin : w ∈ sh_ws := by
      rcases hw with rfl | rfl | rfl
      · exact L
      · exact V
      · rw [← ho]; exact hi
    exact ⟨hin, good_of_word (List.mem_filter.mp hin).2⟩
  · exact sh_good hc w hw
theorem sh_xcwN (C : sh_Cx p s m args meth c cc nL own G A) {y : MethodName} {cy : ByteArray} {mL n idx : Nat} {ret : Option FieldType} (Y : sh_Y y cy mL ret n) (V : Cond.static y ∈ sh_ws) {host : String} (L : Cond.methodLinkNest own idx y host ∈ sh_nest) (hd : d' < d) : va_CN (sh_rx d kc ks) s args own idx y host cy mL ret (sh_wq y cy mL ret) (sh_rm d') 0 0 n ∧ (Cond.static y).before args s = true ∧ True := by
  obtain ⟨hi, hc, hm, hy⟩ := Y
  exact ⟨va_cnB n C.2.2.2.2.1 (sh_good hc) rfl rfl rfl (C.2.2.2.2.2.2.2.2.2.2.2.2.2.2.2.2.2 _ L) (C.2.2.2.2.1 _ hi) hy (sh_rxR hd hm), C.2.2.2.2.1 _ V, trivial⟩
theorem sh_xVi (C : sh_Cx p s m args meth c cc nL own G A) (h : sh_Wx G tb A s H locs S) {y : MethodName} {cy : ByteArray} {mL n idx i ci : Nat} {rt : FieldType} {vs : sh_Ev → List Value} {F : sh_St → Option (Int32 × sh_St)} (M : sh_Mi l y cy mL rt d' tb vs F) (Y : sh_Y y cy mL (some rt) n) (V : sh_YV y) (L : Cond.methodLink own idx y ∈ sh_ws)
    {f : Int32 → sh_St → Option β} (hf : sh_c (F S) f = some res) {ds : List (Nat × Nat)} {T : u_T} {N : Nat} (ht : tb[i]? = some (.inl (ci, ds))) (hc : vwCl[ci]? = some (y.cls, T, N)) {As : List Value} (hvs : vs G = .ref (G.2.1 i) :: As) (hn : As.length = n) (hst : st0 = As.reverse ++ .ref (G.2.1 i) :: rest) (hrest : (rest.map fun v => v.category).sum ≤ 8) (hd : d' < d) (hkc : cells ≤ kc) (hks : slots ≤ ks) (hls : ls.size = nL) (hdg : decode cc pc = .ok (.invokevirtual idx, 3))
    (kk : ∀ (r : Int32) (S' : sh_St) (H1 : Heap) (locs1 : List Loc), sh_Wx G tb A s H1 locs1 S' → f r S' = some res → W p l e (sh_rx d kc ks) s m args below meth c H1 locs1 cells slots Q (F0 m (pc + 3) ls (.int r :: rest))) : W p l e (sh_rx d kc ks) s m args below meth c H locs cells slots Q (F0 m pc ls st0) := by
  obtain ⟨r, S', hF, hf⟩ := sh_c_of hf
  have hM := M G H.size S (r, S') hF
  rw [hvs] at hM
  refine va_calli (va_runV (As := As) (rest := rest) ⟨C.1, C.2.1, C.2.2.1, C.2.2.2.1, C.2.2.2.2.1⟩ hM (sh_xcwV C Y V L hd) ⟨sh_blind _ G tb _ S, sh_recv C h ht hc, fun U hU hW => ⟨rfl, sh_before C h U hU hW⟩⟩ rfl hn hls hst (lv_room hrest) hdg ⟨hkc, hks⟩) h.2.2 (fun q _ hq => sh_freeA C h q hq) (sh_freeA C h) (fun r1 u t H1 locs1 ht1 hvm hw hB hz1 hk1 hS => ?_)
  cases hw
  exact kk _ _ H1 locs1 (sh_behind C h ht1 hB hS) hf
theorem sh_xVl (C : sh_Cx p s m args meth c cc nL own G A) (h : sh_Wx G tb A s H locs S) {y : MethodName} {cy : ByteArray} {mL n idx i ci : Nat} {vs : sh_Ev → List Value} {F : sh_St → Option (Int64 × sh_St)} (M : sh_Ml l y cy mL d' tb vs F) (Y : sh_Y y cy mL (some .long) n) (V : sh_YV y) (L : Cond.methodLink own idx y ∈ sh_ws)
    {f : Int64 → sh_St → Option β} (hf : sh_c (F S) f = some res) {ds : List (Nat × Nat)} {T : u_T} {N : Nat} (ht : tb[i]? = some (.inl (ci, ds))) (hc : vwCl[ci]? = some (y.cls, T, N)) {As : List Value} (hvs : vs G = .ref (G.2.1 i) :: As) (hn : As.length = n) (hst : st0 = As.reverse ++ .ref (G.2.1 i) :: rest) (hrest : (rest.map fun v => v.category).sum ≤ 8) (hd : d' < d) (hkc : cells ≤ kc) (hks : slots ≤ ks) (hls : ls.size = nL) (hdg : decode cc pc = .ok (.invokevirtual idx, 3))
    (kk : ∀ (r : Int64) (S' : sh_St) (H1 : Heap) (locs1 : List Loc), sh_Wx G tb A s H1 locs1 S' → f r S' = some res → W p l e (sh_rx d kc ks) s m args below meth c H1 locs1 cells slots Q (F0 m (pc + 3) ls (.long r :: rest))) : W p l e (sh_rx d kc ks) s m args below meth c H locs cells slots Q (F0 m pc ls st0) := by
  obtain ⟨r, S', hF, hf⟩ := sh_c_of hf
  have hM := M G H.size S (r, S') hF
  rw [hvs] at hM
  refine va_calll (va_runV (As := As) (rest := rest) ⟨C.1, C.2.1, C.2.2.1, C.2.2.2.1, C.2.2.2.2.1⟩ hM (sh_xcwV C Y V L hd) ⟨sh_blind _ G tb _ S, sh_recv C h ht hc, fun U hU hW => ⟨rfl, sh_before C h U hU hW⟩⟩ rfl hn hls hst (lv_room hrest) hdg ⟨hkc, hks⟩) h.2.2 (fun q _ hq => sh_freeA C h q hq) (sh_freeA C h) (fun r1 u t H1 locs1 ht1 hvm hw hB hz1 hk1 hS => ?_)
  cases hw
  exact kk _ _ H1 locs1 (sh_behind C h ht1 hB hS) hf
theorem sh_xVv (C : sh_Cx p s m args meth c cc nL own G A) (h : sh_Wx G tb A s H locs S) {y : MethodName} {cy : ByteArray} {mL n idx i ci : Nat} {vs : sh_Ev → List Value} {F : sh_St → Option (Unit × sh_St)} (M : sh_Mv l y cy mL d' tb vs F) (Y : sh_Y y cy mL none n) (V : sh_YV y) (L : Cond.methodLink own idx y ∈ sh_ws)
    {f : Unit → sh_St → Option β} (hf : sh_c (F S) f = some res) {ds : List (Nat × Nat)} {T : u_T} {N : Nat} (ht : tb[i]? = some (.inl (ci, ds))) (hc : vwCl[ci]? = some (y.cls, T, N)) {As : List Value} (hvs : vs G = .ref (G.2.1 i) :: As) (hn : As.length = n) (hst : st0 = As.reverse ++ .ref (G.2.1 i) :: rest) (hrest : (rest.map fun v => v.category).sum ≤ 8) (hd : d' < d) (hkc : cells ≤ kc) (hks : slots ≤ ks) (hls : ls.size = nL) (hdg : decode cc pc = .ok (.invokevirtual idx, 3))
    (kk : ∀ (S' : sh_St) (H1 : Heap) (locs1 : List Loc), sh_Wx G tb A s H1 locs1 S' → f () S' = some res → W p l e (sh_rx d kc ks) s m args below meth c H1 locs1 cells slots Q (F0 m (pc + 3) ls rest)) : W p l e (sh_rx d kc ks) s m args below meth c H locs cells slots Q (F0 m pc ls st0) := by
  obtain ⟨r, S', hF, hf⟩ := sh_c_of hf
  have hM := M G H.size S (r, S') hF
  rw [hvs] at hM
  refine va_callv (va_runV (As := As) (rest := rest) ⟨C.1, C.2.1, C.2.2.1, C.2.2.2.1, C.2.2.2.2.1⟩ hM (sh_xcwV C Y V L hd) ⟨sh_blind _ G tb _ S, sh_recv C h ht hc, fun U hU hW => ⟨rfl, sh_before C h U hU hW⟩⟩ rfl hn hls hst (lv_room hrest) hdg ⟨hkc, hks⟩) h.2.2 (fun q _ hq => sh_freeA C h q hq) (sh_freeA C h) (fun u t H1 locs1 ht1 hvm hw hB hz1 hk1 hS => ?_)
  cases hw
  exact kk _ H1 locs1 (sh_behind C h ht1 hB hS) hf
theorem sh_xSi (C : sh_Cx p s m args meth c cc nL own G A) (h : sh_Wx G tb A s H locs S) {y : MethodName} {cy : ByteArray} {mL n idx : Nat} {rt : FieldType} {vs : sh_Ev → List Value} {F : sh_St → Option (Int32 × sh_St)} (M : sh_Mi l y cy mL rt d' tb vs F) (Y : sh_Y y cy mL (some rt) n) (V : Cond.static y ∈ sh_ws) (L : Cond.methodLink own idx y ∈ sh_ws) (ho : y.cls = own)
    {f : Int32 → sh_St → Option β} (hf : sh_c (F S) f = some res) {As : List Value} (hvs : vs G = As) (hn : As.length = n) (hst : st0 = As.reverse ++ rest) (hrest : (rest.map fun v => v.category).sum ≤ 8) (hd : d' < d) (hkc : cells ≤ kc) (hks : slots ≤ ks) (hls : ls.size = nL) (hdg : decode cc pc = .ok (.invokestatic idx, 3))
    (kk : ∀ (r : Int32) (S' : sh_St) (H1 : Heap) (locs1 : List Loc), sh_Wx G tb A s H1 locs1 S' → f r S' = some res → W p l e (sh_rx d kc ks) s m args below meth c H1 locs1 cells slots Q (F0 m (pc + 3) ls (.int r :: rest))) : W p l e (sh_rx d kc ks) s m args below meth c H locs cells slots Q (F0 m pc ls st0) := by
  obtain ⟨r, S', hF, hf⟩ := sh_c_of hf
  have hM := M G H.size S (r, S') hF
  rw [hvs] at hM
  refine va_calli (va_runS (As := As) (rest := rest) ⟨C.1, C.2.1, C.2.2.1, C.2.2.2.1, C.2.2.2.2.1⟩ hM (sh_xcwS C Y V L ho hd) ⟨sh_blind _ G tb _ S, fun U hU hW => ⟨rfl, sh_before C h U hU hW⟩⟩ rfl hn hls hst (lv_room hrest) hdg ⟨hkc, hks⟩) h.2.2 (fun q _ hq => sh_freeA C h q hq) (sh_freeA C h) (fun r1 u t H1 locs1 ht1 hvm hw hB hz1 hk1 hS => ?_)
  cases hw
  exact kk _ _ H1 locs1 (sh_behind C h ht1 hB hS) hf
theorem sh_xSl (C : sh_Cx p s m args meth c cc nL own G A) (h : sh_Wx G tb A s H locs S) {y : MethodName} {cy : ByteArray} {mL n idx : Nat} {vs : sh_Ev → List Value} {F : sh_St → Option (Int64 × sh_St)} (M : sh_Ml l y cy mL d' tb vs F) (Y : sh_Y y cy mL (some .long) n) (V : Cond.static y ∈ sh_ws) (L : Cond.methodLink own idx y ∈ sh_ws) (ho : y.cls = own)
    {f : Int64 → sh_St → Option β} (hf : sh_c (F S) f = some res) {As : List Value} (hvs : vs G = As) (hn : As.length = n) (hst : st0 = As.reverse ++ rest) (hrest : (rest.map fun v => v.category).sum ≤ 8) (hd : d' < d) (hkc : cells ≤ kc) (hks : slots ≤ ks) (hls : ls.size = nL) (hdg : decode cc pc = .ok (.invokestatic idx, 3))
    (kk : ∀ (r : Int64) (S' : sh_St) (H1 : Heap) (locs1 : List Loc), sh_Wx G tb A s H1 locs1 S' → f r S' = some res → W p l e (sh_rx d kc ks) s m args below meth c H1 locs1 cells slots Q (F0 m (pc + 3) ls (.long r :: rest))) : W p l e (sh_rx d kc ks) s m args below meth c H locs cells slots Q (F0 m pc ls st0) := by
  obtain ⟨r, S', hF, hf⟩ := sh_c_of hf
  have hM := M G H.size S (r, S') hF
  rw [hvs] at hM
  refine va_calll (va_runS (As := As) (rest := rest) ⟨C.1, C.2.1, C.2.2.1, C.2.2.2.1, C.2.2.2.2.1⟩ hM (sh_xcwS C Y V L ho hd) ⟨sh_blind _ G tb _ S, fun U hU hW => ⟨rfl, sh_before C h U hU hW⟩⟩ rfl hn hls hst (lv_room hrest) hdg ⟨hkc, hks⟩) h.2.2 (fun q _ hq => sh_freeA C h q hq) (sh_freeA C h) (fun r1 u t H1 locs1 ht1 hvm hw hB hz1 hk1 hS => ?_)
  cases hw
  exact kk _ _ H1 locs1 (sh_behind C h ht1 hB hS) hf
theorem sh_xNi (C : sh_Cx p s m args meth c cc nL own G A) (h : sh_Wx G tb A s H locs S) {y : MethodName} {cy : ByteArray} {mL n idx : Nat} {rt : FieldType} {vs : sh_Ev → List Value} {F : sh_St → Option (Int32 × sh_St)} (M : sh_Mi l y cy mL rt d' tb vs F) (Y : sh_Y y cy mL (some rt) n) (V : Cond.static y ∈ sh_ws) {host : String} (L : Cond.methodLinkNest own idx y host ∈ sh_nest)
    {f : Int32 → sh_St → Option β} (hf : sh_c (F S) f = some res) {As : List Value} (hvs : vs G = As) (hn : As.length = n) (hst : st0 = As.reverse ++ rest) (hrest : (rest.map fun v => v.category).sum ≤ 8) (hd : d' < d) (hkc : cells ≤ kc) (hks : slots ≤ ks) (hls : ls.size = nL) (hdg : decode cc pc = .ok (.invokestatic idx, 3))
    (kk : ∀ (r : Int32) (S' : sh_St) (H1 : Heap) (locs1 : List Loc), sh_Wx G tb A s H1 locs1 S' → f r S' = some res → W p l e (sh_rx d kc ks) s m args below meth c H1 locs1 cells slots Q (F0 m (pc + 3) ls (.int r :: rest))) : W p l e (sh_rx d kc ks) s m args below meth c H locs cells slots Q (F0 m pc ls st0) := by
  obtain ⟨r, S', hF, hf⟩ := sh_c_of hf
  have hM := M G H.size S (r, S') hF
  rw [hvs] at hM
  refine va_calli (va_runSN (As := As) (rest := rest) ⟨C.1, C.2.1, C.2.2.1, C.2.2.2.1, C.2.2.2.2.1⟩ hM (sh_xcwN C Y V L hd) ⟨sh_blind _ G tb _ S, fun U hU hW => ⟨rfl, sh_before C h U hU hW⟩⟩ rfl hn hls hst (lv_room hrest) hdg ⟨hkc, hks⟩) h.2.2 (fun q _ hq => sh_freeA C h q hq) (sh_freeA C h) (fun r1 u t H1 locs1 ht1 hvm hw hB hz1 hk1 hS => ?_)
  cases hw
  exact kk _ _ H1 locs1 (sh_behind C h ht1 hB hS) hf
theorem sh_xmin (C : sh_Cx p s m args meth c cc nL own G A) {idx : Nat} {x y : Int32} (L : Cond.methodLink own idx Lib.Math.min.name ∈ sh_ws) (B : Cond.static Lib.Math.min.name ∈ sh_ws ∧ Cond.initialized "java/lang/Math" ∈ sh_ws ∧ Cond.code Lib.Math.min.name Lib.Math.min.code 2 (some .int) ∈ sh_ws) (hd : 0 < d) (hkc : cells ≤ kc) (hks : slots ≤ ks) (hls : ls.size = nL) (hrest : (rest.map fun v => v.category).sum ≤ 8) (hdg : decode cc pc = .ok (.invokestatic idx, 3))
    (kk : W p l e (sh_rx d kc ks) s m args below meth c H locs cells slots Q (F0 m (pc + 3) ls (.int (if y < x then y else x) :: rest))) : W p l e (sh_rx d kc ks) s m args below meth c H locs cells slots Q (F0 m pc ls (.int y :: .int x :: rest)) := by
  obtain ⟨hx, hb, hml, hown, hts, hK, hA, hlocks, hSf⟩ := C
  exact va_mmin (R := sh_rx d kc ks) hx hb (hml.trans hls.symm) hown (hts _ L) (hts _ B.1) (hts _ B.2.1) (hts _ B.2.2) hd (by show _ + 13 ≤ 40 * d; omega) hkc hks hdg kk
theorem sh_xmax (C : sh_Cx p s m args meth c cc nL own G A) {idx : Nat} {x y : Int32} (L : Cond.methodLink own idx Lib.Math.max.name ∈ sh_ws) (B : Cond.static Lib.Math.max.name ∈ sh_ws ∧ Cond.initialized "java/lang/Math" ∈ sh_ws ∧ Cond.code Lib.Math.max.name Lib.Math.max.code 2 (some .int) ∈ sh_ws) (hd : 0 < d) (hkc : cells ≤ kc) (hks : slots ≤ ks) (hls : ls.size = nL) (hrest : (rest.map fun v => v.category).sum ≤ 8) (hdg : decode cc pc = .ok (.invokestatic idx, 3))
    (kk : W p l e (sh_rx d kc ks) s m args below meth c H locs cells slots Q (F0 m (pc + 3) ls (.int (if x < y then y else x) :: rest))) : W p l e (sh_rx d kc ks) s m args below meth c H locs cells slots Q (F0 m pc ls (.int y :: .int x :: rest)) := by
  obtain ⟨hx, hb, hml, hown, hts, hK, hA, hlocks, hSf⟩ := C
  exact va_mmax (R := sh_rx d kc ks) hx hb (hml.trans hls.symm) hown (hts _ L) (hts _ B.1) (hts _ B.2.1) (hts _ B.2.2) hd (by show _ + 13 ≤ 40 * d; omega) hkc hks hdg kk
/-! contracts -/
abbrev sh_XC {α : Type} (G : sh_Ev) (tb : List sh_Ds) (A : Nat → Prop) (res : (α ⊕ String) × sh_St) : String → State → State → Prop := vx_X (fun _ : sh_St => True) (fun E u t => ((Sum.inr E : α ⊕ String), u) = res ∧ sh_Bx G tb A u t) A
def sh_Ti (l : Launch) (y : MethodName) (cc : ByteArray) (mL : Nat) (rt : FieldType) (d kc ks : Nat) (tb : List sh_Ds) (vs : sh_Ev → List Value) (F : sh_St → Option ((Int32 ⊕ String) × sh_St)) : Prop :=
  ∀ (G : sh_Ev) (sz : Nat) (S : sh_St) (res : (Int32 ⊕ String) × sh_St), F S = some res → vx_Met l y (sh_wq y cc mL (some rt)) (sh_rx d kc ks) (va_Pc (vs G) (sh_Pr G tb sz S)) (va_Qi (fun r u => ((Sum.inl r : Int32 ⊕ String), u) = res) (sh_Bx G tb (va_A (sh_wz G S 0 tb) sz)) (va_A (sh_wz G S 0 tb) sz)) (sh_XC G tb (va_A (sh_wz G S 0 tb) sz) res) kc ks (va_A (sh_wz G S 0 tb) sz)
def sh_Tl (l : Launch) (y : MethodName) (cc : ByteArray) (mL : Nat) (d kc ks : Nat) (tb : List sh_Ds) (vs : sh_Ev → List Value) (F : sh_St → Option ((Int64 ⊕ String) × sh_St)) : Prop :=
  ∀ (G : sh_Ev) (sz : Nat) (S : sh_St) (res : (Int64 ⊕ String) × sh_St), F S = some res → vx_Met l y (sh_wq y cc mL (some .long)) (sh_rx d kc ks) (va_Pc (vs G) (sh_Pr G tb sz S)) (va_Ql (fun r u => ((Sum.inl r : Int64 ⊕ String), u) = res) (sh_Bx G tb (va_A (sh_wz G S 0 tb) sz)) (va_A (sh_wz G S 0 tb) sz)) (sh_XC G tb (va_A (sh_wz G S 0 tb) sz) res) kc ks (va_A (sh_wz G S 0 tb) sz)
abbrev sh_Qti (below : List Frame) (args : Array Value) (s : State) (G : sh_Ev) (tb : List sh_Ds) (A : Nat → Prop) (kc ks : Nat) (res : (Int32 ⊕ String) × sh_St) : State → Prop := vx_MQ below (va_Qi (fun r u => ((Sum.inl r : Int32 ⊕ String), u) = res) (sh_Bx G tb A) A) (sh_XC G tb A res) args s kc ks A
abbrev sh_Qtl (below : List Frame) (args : Array Value) (s : State) (G : sh_Ev) (tb : List sh_Ds) (A : Nat → Prop) (kc ks : Nat) (res : (Int64 ⊕ String) × sh_St) : State → Prop := vx_MQ below (va_Ql (fun r u => ((Sum.inl r : Int64 ⊕ String), u) = res) (sh_Bx G tb A) A) (sh_XC G tb A res) args s kc ks A
/-- a callee that may throw: what it throws goes on -/
def sh_cx {α γ : Type} (x : Option ((α ⊕ String) × sh_St)) (f : α → sh_St → Option ((γ ⊕ String) × sh_St)) : Option ((γ ⊕ String) × sh_St) := match x with
  | none => none
  | some (.inl a, S) => f a S
  | some (.inr E, S) => some (.inr E, S)
theorem sh_cx_of {α γ : Type} {x : Option ((α ⊕ String) × sh_St)} {f : α → sh_St → Option ((γ ⊕ String) × sh_St)} {r : (γ ⊕ String) × sh_St} (h : sh_cx x f = some r) : (∃ (a : α) (S : sh_St), x = some (.inl a, S) ∧ f a S = some r) ∨ ∃ (E : String) (S : sh_St), x = some (.inr E, S) ∧ r = (.inr E, S) := by
  match x, h with
  | some (.inl a, S), h => exact Or.inl ⟨a, S, rfl, h⟩
  | some (.inr E, S), h => exact Or.inr ⟨E, S, rfl, (Option.some.inj h).symm⟩
theorem sh_xtV (C : sh_Cx p s m args meth c cc nL own G A) {y : MethodName} {cy : ByteArray} {mL n idx kc' ks' : Nat} {ret : Option FieldType} (Y : sh_Y y cy mL ret n) (V : sh_YV y) (L : Cond.methodLink own idx y ∈ sh_ws) (hd : d' < d) : CallW (sh_rx d kc ks) s args own y.cls idx y cy mL ret (sh_wq y cy mL ret) (sh_rx d' kc' ks') kc' ks' n := by
  obtain ⟨hi, hc, hm, hy⟩ := Y
  refine cwV n C.2.2.2.2.1 ?_ rfl rfl rfl ⟨rfl, hy⟩ (sh_rxX hd hm)
  intro w hw
  rcases List.mem_append.mp hw with hw | hw
  · simp only [List.mem_cons, List.not_mem_nil, or_false] at hw
    have hin : w ∈ sh_ws := by
      rcases hw with rfl | rfl | rfl | rfl
      · exact L
      · exact V.1
      · exact V.2
      · exact hi
    exact ⟨hin, good_of_word (List.mem_filter.mp hin).2⟩
  · exact sh_good hc w hw
theorem sh_TVi (C : sh_Cx p s m args meth c cc nL own G A) (h : sh_Wx G tb A s H locs S) (hno : ∀ x ∈ c.exceptionTable.toList, False) {y : MethodName} {cy : ByteArray} {mL n idx i ci kc' ks' : Nat} {rt : FieldType} {vs : sh_Ev → List Value} {F : sh_St → Option ((Int32 ⊕ String) × sh_St)} (M : sh_Ti l y cy mL rt d' kc' ks' tb vs F) (Y : sh_Y y cy mL (some rt) n) (V : sh_YV y) (L : Cond.methodLink own idx y ∈ sh_ws)
    {res : (Int32 ⊕ String) × sh_St} {f : Int32 → sh_St → Option ((Int32 ⊕ String) × sh_St)} (hf : sh_cx (F S) f = some res) {ds : List (Nat × Nat)} {T : u_T} {N : Nat} (ht : tb[i]? = some (.inl (ci, ds))) (hc : vwCl[ci]? = some (y.cls, T, N)) {As : List Value} (hvs : vs G = .ref (G.2.1 i) :: As) (hn : As.length = n) (hst : st0 = As.reverse ++ .ref (G.2.1 i) :: rest) (hrest : (rest.map fun v => v.category).sum ≤ 8) (hd : d' < d) (hkc : cells + kc' ≤ kc) (hks : slots + ks' ≤ ks) (hls : ls.size = nL) (hdg : decode cc pc = .ok (.invokevirtual idx, 3))
    (kk : ∀ (r : Int32) (S' : sh_St) (H1 : Heap) (locs1 : List Loc), sh_Wx G tb A s H1 locs1 S' → f r S' = some res → W p l e (sh_rx d kc ks) s m args below meth c H1 locs1 (cells + kc') (slots + ks') (sh_Qti below args s G tb A kc ks res) (F0 m (pc + 3) ls (.int r :: rest))) : W p l e (sh_rx d kc ks) s m args below meth c H locs cells slots (sh_Qti below args s G tb A kc ks res) (F0 m pc ls st0) := by
  rcases sh_cx_of hf with ⟨r, S', hF, hf⟩ | ⟨E, S', hF, hres⟩
  · have hM := M G H.size S (.inl r, S') hF
    rw [hvs] at hM
    refine vx_calli (vx_runV (As := As) (rest := rest) ⟨C.1, C.2.1, C.2.2.1, C.2.2.2.1, C.2.2.2.2.1⟩ hM (sh_xtV C Y V L hd) ⟨sh_blind _ G tb _ S, sh_recv C h ht hc, fun U hU hW => ⟨rfl, sh_before C h U hU hW⟩⟩ rfl hn hls hst (lv_room hrest) hdg ⟨hkc, hks⟩) h.2.2 (fun q _ hq => sh_freeA C h q hq) (sh_freeA C h) (fun q _ hq => sh_freeA C h q hq) (fun E1 ce q9 u1 t H1 locs1 ht1 hvm hpx hBX hz1 hk1 hS hce hcv hcl => ?_) (fun r1 u1 t H1 locs1 ht1 hvm hw hB hz1 hk1 hS => ?_)
    · exact nomatch hBX.1
    · cases hw
      exact kk _ _ H1 locs1 (sh_behind C h ht1 hB hS) hf
  · have hM := M G H.size S (.inr E, S') hF
    rw [hvs] at hM
    refine vx_calli (vx_runV (As := As) (rest := rest) ⟨C.1, C.2.1, C.2.2.1, C.2.2.2.1, C.2.2.2.2.1⟩ hM (sh_xtV C Y V L hd) ⟨sh_blind _ G tb _ S, sh_recv C h ht hc, fun U hU hW => ⟨rfl, sh_before C h U hU hW⟩⟩ rfl hn hls hst (lv_room hrest) hdg ⟨hkc, hks⟩) h.2.2 (fun q _ hq => sh_freeA C h q hq) (sh_freeA C h) (fun q _ hq => sh_freeA C h q hq) (fun E1 ce q9 u1 t H1 locs1 ht1 hvm hpx hBX hz1 hk1 hS hce hcv hcl => ?_) (fun r1 u1 t H1 locs1 ht1 hvm hw hB hz1 hk1 hS => ?_)
    · obtain ⟨e1, hB⟩ := hBX
      cases e1
      have hW1 := sh_behind C h ht1 hB hS
      exact vx_out (fun x hx => (hno x hx).elim) C.2.2.2.2.2.2.2.1 hce hcv hcl (fun t2 h2 hv2 => ⟨S', trivial, ⟨hres.symm, by rw [h2]; exact hW1.1, va_K.moved hv2 C.2.2.2.2.2.1, hW1.2.1⟩, hW1.2.2.F h2⟩) hW1.2.2.2.2 hkc hks
    · exact nomatch hw
theorem sh_TVl (C : sh_Cx p s m args meth c cc nL own G A) (h : sh_Wx G tb A s H locs S) (hno : ∀ x ∈ c.exceptionTable.toList, False) {y : MethodName} {cy : ByteArray} {mL n idx i ci kc' ks' : Nat} {vs : sh_Ev → List Value} {F : sh_St → Option ((Int64 ⊕ String) × sh_St)} (M : sh_Tl l y cy mL d' kc' ks' tb vs F) (Y : sh_Y y cy mL (some .long) n) (V : sh_YV y) (L : Cond.methodLink own idx y ∈ sh_ws)
    {res : (Int32 ⊕ String) × sh_St} {f : Int64 → sh_St → Option ((Int32 ⊕ String) × sh_St)} (hf : sh_cx (F S) f = some res) {ds : List (Nat × Nat)} {T : u_T} {N : Nat} (ht : tb[i]? = some (.inl (ci, ds))) (hc : vwCl[ci]? = some (y.cls, T, N)) {As : List Value} (hvs : vs G = .ref (G.2.1 i) :: As) (hn : As.length = n) (hst : st0 = As.reverse ++ .ref (G.2.1 i) :: rest) (hrest : (rest.map fun v => v.category).sum ≤ 8) (hd : d' < d) (hkc : cells + kc' ≤ kc) (hks : slots + ks' ≤ ks) (hls : ls.size = nL) (hdg : decode cc pc = .ok (.invokevirtual idx, 3))
    (kk : ∀ (r : Int64) (S' : sh_St) (H1 : Heap) (locs1 : List Loc), sh_Wx G tb A s H1 locs1 S' → f r S' = some res → W p l e (sh_rx d kc ks) s m args below meth c H1 locs1 (cells + kc') (slots + ks') (sh_Qti below args s G tb A kc ks res) (F0 m (pc + 3) ls (.long r :: rest))) : W p l e (sh_rx d kc ks) s m args below meth c H locs cells slots (sh_Qti below args s G tb A kc ks res) (F0 m pc ls st0) := by
  rcases sh_cx_of hf with ⟨r, S', hF, hf⟩ | ⟨E, S', hF, hres⟩
  · have hM := M G H.size S (.inl r, S') hF
    rw [hvs] at hM
    refine vx_calll (vx_runV (As := As) (rest := rest) ⟨C.1, C.2.1, C.2.2.1, C.2.2.2.1, C.2.2.2.2.1⟩ hM (sh_xtV C Y V L hd) ⟨sh_blind _ G tb _ S, sh_recv C h ht hc, fun U hU hW => ⟨rfl, sh_before C h U hU hW⟩⟩ rfl hn hls hst (lv_room hrest) hdg ⟨hkc, hks⟩) h.2.2 (fun q _ hq => sh_freeA C h q hq) (sh_freeA C h) (fun q _ hq => sh_freeA C h q hq) (fun E1 ce q9 u1 t H1 locs1 ht1 hvm hpx hBX hz1 hk1 hS hce hcv hcl => ?_) (fun r1 u1 t H1 locs1 ht1 hvm hw hB hz1 hk1 hS => ?_)
    · exact nomatch hBX.1
    · cases hw
      exact kk _ _ H1 locs1 (sh_behind C h ht1 hB hS) hf
  · have hM := M G H.size S (.inr E, S') hF
    rw [hvs] at hM
    refine vx_calll (vx_runV (As := As) (rest := rest) ⟨C.1, C.2.1, C.2.2.1, C.2.2.2.1, C.2.2.2.2.1⟩ hM (sh_xtV C Y V L hd) ⟨sh_blind _ G tb _ S, sh_recv C h ht hc, fun U hU hW => ⟨rfl, sh_before C h U hU hW⟩⟩ rfl hn hls hst (lv_room hrest) hdg ⟨hkc, hks⟩) h.2.2 (fun q _ hq => sh_freeA C h q hq) (sh_freeA C h) (fun q _ hq => sh_freeA C h q hq) (fun E1 ce q9 u1 t H1 locs1 ht1 hvm hpx hBX hz1 hk1 hS hce hcv hcl => ?_) (fun r1 u1 t H1 locs1 ht1 hvm hw hB hz1 hk1 hS => ?_)
    · obtain ⟨e1, hB⟩ := hBX
      cases e1
      have hW1 := sh_behind C h ht1 hB hS
      exact vx_out (fun x hx => (hno x hx).elim) C.2.2.2.2.2.2.2.1 hce hcv hcl (fun t2 h2 hv2 => ⟨S', trivial, ⟨hres.symm, by rw [h2]; exact hW1.1, va_K.moved hv2 C.2.2.2.2.2.1, hW1.2.1⟩, hW1.2.2.F h2⟩) hW1.2.2.2.2 hkc hks
    · exact nomatch hw
/-! ends -/
theorem sh_tri {res : (Int32 ⊕ String) × sh_St} (C : sh_Cx p s m args meth c cc nL own G A) (h : sh_Wx G tb A s H locs S) (hr : meth.sig.returnType = some .int) {v : Int32} (hf : some ((Sum.inl v : Int32 ⊕ String), S) = some res) (hkc : cells ≤ kc) (hks : slots ≤ ks) (hdg : decode cc pc = .ok (.ireturn, 1)) : W p l e (sh_rx d kc ks) s m args below meth c H locs cells slots (sh_Qti below args s G tb A kc ks res) (F0 m pc ls [.int v]) := by
  obtain ⟨hx, hb, hml, hown, hts, hK, hA, hlocks, hSf⟩ := C
  refine W.widen (k := kc) (n := ks) hkc hks (vx_ret ?_)
  exact W.iret (v := v) hx hb hr (fun t ht hW => ⟨⟨v, S, rfl, Option.some.inj hf, by rw [ht]; exact h.1, va_K.moved hW.alike hK, h.2.1⟩, h.2.2.F ht⟩) h.2.2.2.2 hdg
theorem sh_trz {res : (Int32 ⊕ String) × sh_St} (C : sh_Cx p s m args meth c cc nL own G A) (h : sh_Wx G tb A s H locs S) (hr : meth.sig.returnType = some .boolean) {v : Int32} (hf : sh_b v (some ((Sum.inl v : Int32 ⊕ String), S)) = some res) (hkc : cells ≤ kc) (hks : slots ≤ ks) (hdg : decode cc pc = .ok (.ireturn, 1)) : W p l e (sh_rx d kc ks) s m args below meth c H locs cells slots (sh_Qti below args s G tb A kc ks res) (F0 m pc ls [.int v]) := by
  obtain ⟨hx, hb, hml, hown, hts, hK, hA, hlocks, hSf⟩ := C
  obtain ⟨hv, hf⟩ := sh_b_of hf
  refine W.widen (k := kc) (n := ks) hkc hks (vx_ret ?_)
  exact W.zret (v := v) hx hb hr (by rcases hv with rfl | rfl <;> decide) (fun t ht hW => ⟨⟨v, S, rfl, Option.some.inj hf, by rw [ht]; exact h.1, va_K.moved hW.alike hK, h.2.1⟩, h.2.2.F ht⟩) h.2.2.2.2 hdg
theorem sh_trl {res : (Int64 ⊕ String) × sh_St} (C : sh_Cx p s m args meth c cc nL own G A) (h : sh_Wx G tb A s H locs S) (hr : meth.sig.returnType = some .long) {v : Int64} (hf : some ((Sum.inl v : Int64 ⊕ String), S) = some res) (hkc : cells ≤ kc) (hks : slots ≤ ks) (hdg : decode cc pc = .ok (.lreturn, 1)) : W p l e (sh_rx d kc ks) s m args below meth c H locs cells slots (sh_Qtl below args s G tb A kc ks res) (F0 m pc ls [.long v]) := by
  obtain ⟨hx, hb, hml, hown, hts, hK, hA, hlocks, hSf⟩ := C
  refine W.widen (k := kc) (n := ks) hkc hks (vx_ret ?_)
  exact W.lret (v := v) hx hb hr (fun t ht hW => ⟨⟨v, S, rfl, Option.some.inj hf, by rw [ht]; exact h.1, va_K.moved hW.alike hK, h.2.1⟩, h.2.2.F ht⟩) h.2.2.2.2 hdg
def sh_TX (ik is ic : Nat) (cls text : String) : Prop := Bundle.fit cls = true ∧ Cond.classLink RX12 ik cls ∈ sh_ws ∧ Cond.initialized cls ∈ sh_ws ∧ (is, text) ∈ sh_msg ∧ (∀ w ∈ vx_atS RX12 ic cls ["java/lang/RuntimeException", "java/lang/Exception"], w ∈ sh_ws ∨ w ∈ sh_nest) ∧ (∀ w ∈ Cond.classLink RX12 ik cls :: Cond.initialized cls :: vx_atS RX12 ic cls ["java/lang/RuntimeException", "java/lang/Exception"], vx_ot w = true)
theorem sh_thrH {α : Type} {res : (α ⊕ String) × sh_St} (C : sh_Cx p s m args meth c cc nL RX12 G A) (h : sh_Wx G tb A s H locs S) {cls : String} (hf : some ((Sum.inr cls : α ⊕ String), S) = some res) (t : State) (hv : s.vm.Alike t.vm) (h1 : H.size ≤ t.heap.size) (h2 : ∀ q : Nat, q < H.size → t.heap[q]? = H[q]?) : sh_XC G tb A res cls s t := by
  refine ⟨S, trivial, ⟨Option.some.inj hf, h.1.kept (fun k q hk => h2 q.1 (h.1 k q hk).lt), va_K.moved hv C.2.2.2.2.2.1, h.2.1⟩, Nat.le_trans h.2.2.1 h1, fun q hq hA => ?_⟩
  rw [h2 q (Nat.lt_of_lt_of_le hq h.2.2.1)]
  exact h.2.2.2.1 q hq hA
theorem sh_words (C : sh_Cx p s m args meth c cc nL own G A) {w : Cond} (h : w ∈ sh_ws ∨ w ∈ sh_nest) : w.before args s = true := by
  rcases h with h | h
  · exact C.2.2.2.2.1 w h
  · exact va_Nw.use (sh_nest_tab w h) (C.2.2.2.2.2.2.2.2.2.2.2.2.2.2.2.2.2 w h)
theorem sh_thri {res : (Int32 ⊕ String) × sh_St} (hst : l.stackTraces = false) (C : sh_Cx p s m args meth c cc nL RX12 G A) (h : sh_Wx G tb A s H locs S) (hno : ∀ x ∈ c.exceptionTable.toList, False) {ik is ic : Nat} {cls text : String} (X : sh_TX ik is ic cls text) (hf : some ((Sum.inr cls : Int32 ⊕ String), S) = some res) (hd : 9 < d) (hkc : cells + 1 ≤ kc) (hks : slots + 6 ≤ ks) (hls : ls.size = nL) (hrest : (rest.map fun v => v.category).sum ≤ 8)
    (d0 : decode cc pc = .ok (.new ik, 3)) (d3 : decode cc (pc + 3) = .ok (.dup, 1)) (d4 : decode cc (pc + 4) = .ok (.ldc is, 2)) (d6 : decode cc (pc + 6) = .ok (.invokespecial ic, 3)) (d9 : decode cc (pc + 9) = .ok (.athrow, 1)) : W p l e (sh_rx d kc ks) s m args below meth c H locs cells slots (sh_Qti below args s G tb A kc ks res) (F0 m pc ls rest) := by
  obtain ⟨x1, x2, x3, x4, x5, x6⟩ := X
  obtain ⟨sa, hsa⟩ := C.2.2.2.2.2.2.2.2.2.2.2.2.2.2.1 _ x4
  exact vx_throwS (R := sh_rx d kc ks) C.1 C.2.1 hst C.2.2.2.1 x1 (by decide) (C.2.2.2.2.1 _ x2) (C.2.2.2.2.1 _ x3) hsa (fun w hw => sh_words C (x5 w hw)) x6 C.2.2.2.2.2.2.2.2.2.2.2.2.2.1.1 C.2.2.2.2.2.2.2.2.2.2.2.2.2.1.2 h.2.2 (hls.trans C.2.2.1.symm) d0 d3 d4 d6 d9 (fun x hx => (hno x hx).elim) (by show 2 + 3 < d; omega) (by show _ + (13 * (2 + 1) + 43) ≤ 40 * d; omega) hkc hks C.2.2.2.2.2.2.2.1 (fun t hv h1 h2 => sh_thrH C h hf t hv h1 h2) h.2.2.2.2 hkc hks
theorem sh_thrl {res : (Int64 ⊕ String) × sh_St} (hst : l.stackTraces = false) (C : sh_Cx p s m args meth c cc nL RX12 G A) (h : sh_Wx G tb A s H locs S) (hno : ∀ x ∈ c.exceptionTable.toList, False) {ik is ic : Nat} {cls text : String} (X : sh_TX ik is ic cls text) (hf : some ((Sum.inr cls : Int64 ⊕ String), S) = some res) (hd : 9 < d) (hkc : cells + 1 ≤ kc) (hks : slots + 6 ≤ ks) (hls : ls.size = nL) (hrest : (rest.map fun v => v.category).sum ≤ 8)
    (d0 : decode cc pc = .ok (.new ik, 3)) (d3 : decode cc (pc + 3) = .ok (.dup, 1)) (d4 : decode cc (pc + 4) = .ok (.ldc is, 2)) (d6 : decode cc (pc + 6) = .ok (.invokespecial ic, 3)) (d9 : decode cc (pc + 9) = .ok (.athrow, 1)) : W p l e (sh_rx d kc ks) s m args below meth c H locs cells slots (sh_Qtl below args s G tb A kc ks res) (F0 m pc ls rest) := by
  obtain ⟨x1, x2, x3, x4, x5, x6⟩ := X
  obtain ⟨sa, hsa⟩ := C.2.2.2.2.2.2.2.2.2.2.2.2.2.2.1 _ x4
  exact vx_throwS (R := sh_rx d kc ks) C.1 C.2.1 hst C.2.2.2.1 x1 (by decide) (C.2.2.2.2.1 _ x2) (C.2.2.2.2.1 _ x3) hsa (fun w hw => sh_words C (x5 w hw)) x6 C.2.2.2.2.2.2.2.2.2.2.2.2.2.1.1 C.2.2.2.2.2.2.2.2.2.2.2.2.2.1.2 h.2.2 (hls.trans C.2.2.1.symm) d0 d3 d4 d6 d9 (fun x hx => (hno x hx).elim) (by show 2 + 3 < d; omega) (by show _ + (13 * (2 + 1) + 43) ≤ 40 * d; omega) hkc hks C.2.2.2.2.2.2.2.1 (fun t hv h1 h2 => sh_thrH C h hf t hv h1 h2) h.2.2.2.2 hkc hks
theorem sh_thrWi {res : (Int32 ⊕ String) × sh_St} (hst : l.stackTraces = false) (C : sh_Cx p s m args meth c cc nL RX12 G A) (h : sh_Wx G tb A s H locs S) (hno : ∀ x ∈ c.exceptionTable.toList, False) {ik is ic : Nat} {cls text : String} (X : sh_TX ik is ic cls text) (hf : some ((Sum.inr cls : Int32 ⊕ String), S) = some res) (hd : 9 < d) (hkc : cells + 1 ≤ kc) (hks : slots + 6 ≤ ks) (hls : ls.size = nL) (hrest : (rest.map fun v => v.category).sum ≤ 8)
    (d0 : decode cc pc = .ok (.new ik, 3)) (d3 : decode cc (pc + 3) = .ok (.dup, 1)) (d4 : decode cc (pc + 4) = .ok (.ldc_w is, 3)) (d6 : decode cc (pc + 7) = .ok (.invokespecial ic, 3)) (d9 : decode cc (pc + 10) = .ok (.athrow, 1)) : W p l e (sh_rx d kc ks) s m args below meth c H locs cells slots (sh_Qti below args s G tb A kc ks res) (F0 m pc ls rest) := by
  obtain ⟨x1, x2, x3, x4, x5, x6⟩ := X
  obtain ⟨sa, hsa⟩ := C.2.2.2.2.2.2.2.2.2.2.2.2.2.2.1 _ x4
  exact vx_throwSW (R := sh_rx d kc ks) C.1 C.2.1 hst C.2.2.2.1 x1 (by decide) (C.2.2.2.2.1 _ x2) (C.2.2.2.2.1 _ x3) hsa (fun w hw => sh_words C (x5 w hw)) x6 C.2.2.2.2.2.2.2.2.2.2.2.2.2.1.1 C.2.2.2.2.2.2.2.2.2.2.2.2.2.1.2 h.2.2 (hls.trans C.2.2.1.symm) d0 d3 d4 d6 d9 (fun x hx => (hno x hx).elim) (by show 2 + 3 < d; omega) (by show _ + (13 * (2 + 1) + 43) ≤ 40 * d; omega) hkc hks C.2.2.2.2.2.2.2.1 (fun t hv h1 h2 => sh_thrH C h hf t hv h1 h2) h.2.2.2.2 hkc hks
theorem sh_thrWl {res : (Int64 ⊕ String) × sh_St} (hst : l.stackTraces = false) (C : sh_Cx p s m args meth c cc nL RX12 G A) (h : sh_Wx G tb A s H locs S) (hno : ∀ x ∈ c.exceptionTable.toList, False) {ik is ic : Nat} {cls text : String} (X : sh_TX ik is ic cls text) (hf : some ((Sum.inr cls : Int64 ⊕ String), S) = some res) (hd : 9 < d) (hkc : cells + 1 ≤ kc) (hks : slots + 6 ≤ ks) (hls : ls.size = nL) (hrest : (rest.map fun v => v.category).sum ≤ 8)
    (d0 : decode cc pc = .ok (.new ik, 3)) (d3 : decode cc (pc + 3) = .ok (.dup, 1)) (d4 : decode cc (pc + 4) = .ok (.ldc_w is, 3)) (d6 : decode cc (pc + 7) = .ok (.invokespecial ic, 3)) (d9 : decode cc (pc + 10) = .ok (.athrow, 1)) : W p l e (sh_rx d kc ks) s m args below meth c H locs cells slots (sh_Qtl below args s G tb A kc ks res) (F0 m pc ls rest) := by
  obtain ⟨x1, x2, x3, x4, x5, x6⟩ := X
  obtain ⟨sa, hsa⟩ := C.2.2.2.2.2.2.2.2.2.2.2.2.2.2.1 _ x4
  exact vx_throwSW (R := sh_rx d kc ks) C.1 C.2.1 hst C.2.2.2.1 x1 (by decide) (C.2.2.2.2.1 _ x2) (C.2.2.2.2.1 _ x3) hsa (fun w hw => sh_words C (x5 w hw)) x6 C.2.2.2.2.2.2.2.2.2.2.2.2.2.1.1 C.2.2.2.2.2.2.2.2.2.2.2.2.2.1.2 h.2.2 (hls.trans C.2.2.1.symm) d0 d3 d4 d6 d9 (fun x hx => (hno x hx).elim) (by show 2 + 3 < d; omega) (by show _ + (13 * (2 + 1) + 43) ≤ 40 * d; omega) hkc hks C.2.2.2.2.2.2.2.1 (fun t hv h1 h2 => sh_thrH C h hf t hv h1 h2) h.2.2.2.2 hkc hks
end ShXCalls
theorem sh_mkti {l : Launch} {y : MethodName} {cc : ByteArray} {mL : Nat} {rt : FieldType} {d kc ks : Nat} {tb : List sh_Ds} {vs : sh_Ev → List Value} {F : sh_St → Option ((Int32 ⊕ String) × sh_St)} (hy : plainName y.cls = true) (hvs : ∀ G, (lg_sl (vs G)).length ≤ mL)
    (body : ∀ (p : Program) (e : Env) (s : State) (m : MethodId) (args : Array Value) (below : List Frame) (meth : Method) (c : Code) (G : sh_Ev) (A : Nat → Prop) (S : sh_St) (res : (Int32 ⊕ String) × sh_St) (ls : Array Slot), F S = some res → sh_Cx p s m args meth c cc mL y.cls G A → meth.sig.returnType = some rt → (∀ x ∈ c.exceptionTable.toList, False) → sh_Wx G tb A s s.heap [] S → lv_has ls mL (lv_args 0 (vs G)) → W p l e (sh_rx d kc ks) s m args below meth c s.heap [] 0 0 (sh_Qti below args s G tb A kc ks res) (F0 m 0 ls [])) : sh_Ti l y cc mL rt d kc ks tb vs F := by
  intro G sz S res hF
  refine vx_ofW (cc := cc) (maxL := mL) (ret := some rt) hy rfl ?_
  intro p e s m args below meth c s₁ B hml hno hv
  obtain ⟨rfl, hsz, hP, hK, hD0, hSf⟩ := hv
  have hts := atoms_spec (ws := sh_wq y cc mL (some rt)) B.pre
  have hown : s.vm.findClass y.cls = some m.cls := findClass_of_methodNamed B.named
  subst hsz
  have hl := lv_entry (vs G) (n := mL) (hvs G)
  rw [lg_entry_eq]
  exact body p e s m _ below meth c G _ S res _ hF ⟨B.exec, B.bytes, hml, hown, fun w hw => hts w (List.mem_cons_of_mem _ hw), hK, fun q h => Or.inr h, B.notSynchronized, hSf⟩ B.returns hno ⟨hP, hD0.self, va_S.rf⟩ hl
theorem sh_mktl {l : Launch} {y : MethodName} {cc : ByteArray} {mL : Nat} {d kc ks : Nat} {tb : List sh_Ds} {vs : sh_Ev → List Value} {F : sh_St → Option ((Int64 ⊕ String) × sh_St)} (hy : plainName y.cls = true) (hvs : ∀ G, (lg_sl (vs G)).length ≤ mL)
    (body : ∀ (p : Program) (e : Env) (s : State) (m : MethodId) (args : Array Value) (below : List Frame) (meth : Method) (c : Code) (G : sh_Ev) (A : Nat → Prop) (S : sh_St) (res : (Int64 ⊕ String) × sh_St) (ls : Array Slot), F S = some res → sh_Cx p s m args meth c cc mL y.cls G A → meth.sig.returnType = some .long → (∀ x ∈ c.exceptionTable.toList, False) → sh_Wx G tb A s s.heap [] S → lv_has ls mL (lv_args 0 (vs G)) → W p l e (sh_rx d kc ks) s m args below meth c s.heap [] 0 0 (sh_Qtl below args s G tb A kc ks res) (F0 m 0 ls [])) : sh_Tl l y cc mL d kc ks tb vs F := by
  intro G sz S res hF
  refine vx_ofW (cc := cc) (maxL := mL) (ret := some .long) hy rfl ?_
  intro p e s m args below meth c s₁ B hml hno hv
  obtain ⟨rfl, hsz, hP, hK, hD0, hSf⟩ := hv
  have hts := atoms_spec (ws := sh_wq y cc mL (some .long)) B.pre
  have hown : s.vm.findClass y.cls = some m.cls := findClass_of_methodNamed B.named
  subst hsz
  have hl := lv_entry (vs G) (n := mL) (hvs G)
  rw [lg_entry_eq]
  exact body p e s m _ below meth c G _ S res _ hF ⟨B.exec, B.bytes, hml, hown, fun w hw => hts w (List.mem_cons_of_mem _ hw), hK, fun q h => Or.inr h, B.notSynchronized, hSf⟩ B.returns hno ⟨hP, hD0.self, va_S.rf⟩ hl
def sh_EIA : String := "java/lang/IllegalArgumentException"
theorem tw_IA : (vx_atS RX12 102 "java/lang/IllegalArgumentException" ["java/lang/RuntimeException", "java/lang/Exception"]).all (fun w => (decide (w ∈ lw_tbl) && goodWord w) || decide (w ∈ sh_nest)) = true := by decide +kernel
theorem tg_IA : (Cond.classLink RX12 98 "java/lang/IllegalArgumentException" :: Cond.initialized "java/lang/IllegalArgumentException" :: vx_atS RX12 102 "java/lang/IllegalArgumentException" ["java/lang/RuntimeException", "java/lang/Exception"]).all vx_ot = true := by decide +kernel
theorem tx_IA {is : Nat} {text : String} (h : (is, text) ∈ sh_msg) : sh_TX 98 is 102 "java/lang/IllegalArgumentException" text := by
  refine ⟨by decide, sh_t4 (i := 92) (by decide +kernel) (by decide +kernel), sh_t1 (i := 25) (by decide +kernel) (by decide +kernel), h, fun w hw => ?_, fun w hw => List.all_eq_true.mp tg_IA w hw⟩
  have h1 := List.all_eq_true.mp tw_IA w hw
  simp only [Bool.or_eq_true, Bool.and_eq_true, decide_eq_true_eq] at h1
  rcases h1 with h1 | h1
  · exact Or.inl (sh_in h1.1 h1.2)
  · exact Or.inr h1
def sh_EIS : String := "java/lang/IllegalStateException"
theorem tw_IS : (vx_atS RX12 193 "java/lang/IllegalStateException" ["java/lang/RuntimeException", "java/lang/Exception"]).all (fun w => (decide (w ∈ lw_tbl) && goodWord w) || decide (w ∈ sh_nest)) = true := by decide +kernel
theorem tg_IS : (Cond.classLink RX12 189 "java/lang/IllegalStateException" :: Cond.initialized "java/lang/IllegalStateException" :: vx_atS RX12 193 "java/lang/IllegalStateException" ["java/lang/RuntimeException", "java/lang/Exception"]).all vx_ot = true := by decide +kernel
theorem tx_IS {is : Nat} {text : String} (h : (is, text) ∈ sh_msg) : sh_TX 189 is 193 "java/lang/IllegalStateException" text := by
  refine ⟨by decide, sh_t4 (i := 181) (by decide +kernel) (by decide +kernel), sh_t1 (i := 26) (by decide +kernel) (by decide +kernel), h, fun w hw => ?_, fun w hw => List.all_eq_true.mp tg_IS w hw⟩
  have h1 := List.all_eq_true.mp tw_IS w hw
  simp only [Bool.or_eq_true, Bool.and_eq_true, decide_eq_true_eq] at h1
  rcases h1 with h1 | h1
  · exact Or.inl (sh_in h1.1 h1.2)
  · exact Or.inr h1
def sh_EIO : String := "java/lang/IndexOutOfBoundsException"
theorem tw_IO : (vx_atS RX12 182 "java/lang/IndexOutOfBoundsException" ["java/lang/RuntimeException", "java/lang/Exception"]).all (fun w => (decide (w ∈ lw_tbl) && goodWord w) || decide (w ∈ sh_nest)) = true := by decide +kernel
theorem tg_IO : (Cond.classLink RX12 178 "java/lang/IndexOutOfBoundsException" :: Cond.initialized "java/lang/IndexOutOfBoundsException" :: vx_atS RX12 182 "java/lang/IndexOutOfBoundsException" ["java/lang/RuntimeException", "java/lang/Exception"]).all vx_ot = true := by decide +kernel
theorem tx_IO {is : Nat} {text : String} (h : (is, text) ∈ sh_msg) : sh_TX 178 is 182 "java/lang/IndexOutOfBoundsException" text := by
  refine ⟨by decide, sh_t5 (i := 32) (by decide +kernel) (by decide +kernel), sh_t1 (i := 28) (by decide +kernel) (by decide +kernel), h, fun w hw => ?_, fun w hw => List.all_eq_true.mp tg_IO w hw⟩
  have h1 := List.all_eq_true.mp tw_IO w hw
  simp only [Bool.or_eq_true, Bool.and_eq_true, decide_eq_true_eq] at h1
  rcases h1 with h1 | h1
  · exact Or.inl (sh_in h1.1 h1.2)
  · exact Or.inr h1
