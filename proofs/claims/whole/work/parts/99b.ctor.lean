/-! constructors: a contract, how one begins, how one is called -/
def sh_Ao (U : State) : Prop := va_AO "SteadyShelf$Store" U ∧ va_AO "SteadyShelf$Cursor" U
theorem sh_Ao_moved {u U : State} (hvm : u.vm.Alike U.vm) (h : sh_Ao u) : sh_Ao U := ⟨va_AO.moved hvm h.1, va_AO.moved hvm h.2⟩
def sh_Pn (G : sh_Ev) (w0 : va_W) (sz : Nat) (U : State) : Prop := U.heap.size = sz ∧ va_P G.1 vwCl w0 U.heap ∧ va_K G.1 vwCl (sh_ty G) U ∧ va_D (fun _ => True) w0 ∧ sh_Sf G (va_A w0 sz) U U.heap ∧ sh_Ao U
def sh_Nt (l : Launch) (y : MethodName) (cc : ByteArray) (mL d kc ks : Nat) (G : sh_Ev) (vs : List Value) (w0 : va_W) (w1 : (Nat → Nat) → va_W) : Prop :=
  ∀ sz : Nat, Met l y (sh_wq y cc mL none) (sh_rx d kc ks) (va_Pc vs (sh_Pn G w0 sz)) (va_Qv (fun _ : Nat → Nat => True) (fun a t => va_P G.1 vwCl (w1 a) t.heap ∧ va_D (va_A w0 sz) (w1 a)) (va_A w0 sz)) kc ks (va_A w0 sz)
abbrev sh_Qn (below : List Frame) (args : Array Value) (s : State) (G : sh_Ev) (w1 : (Nat → Nat) → va_W) (A : Nat → Prop) (kc ks : Nat) : State → Prop := MQ below (va_Qv (fun _ : Nat → Nat => True) (fun a t => va_P G.1 vwCl (w1 a) t.heap ∧ va_D A (w1 a)) A) args s kc ks A
theorem sh_blindN (vs : List Value) (G : sh_Ev) (w0 : va_W) (sz : Nat) : FrameBlind (va_Pc vs (sh_Pn G w0 sz)) := by
  intro a U g mk h
  obtain ⟨h0, h1, h2, h3, h4, h5, h6⟩ := h
  exact ⟨h0, h1, h2, va_K.moved (u := U) (U := U.calling g mk a) (Vm.Alike.refl U.vm) h3, h4, sh_Sf_same (s := U) (U := U.calling g mk a) rfl h5, sh_Ao_moved (u := U) (U := U.calling g mk a) (Vm.Alike.refl U.vm) h6⟩
theorem sh_mkN {l : Launch} {y : MethodName} {cc : ByteArray} {mL d kc ks : Nat} {G : sh_Ev} {vs : List Value} {w0 : va_W} {w1 : (Nat → Nat) → va_W} (hy : plainName y.cls = true) (hn : y.name = "<init>") (hvs : (lg_sl vs).length ≤ mL)
    (body : ∀ (p : Program) (e : Env) (s : State) (m : MethodId) (args : Array Value) (below : List Frame) (meth : Method) (c : Code) (A : Nat → Prop) (ls : Array Slot), sh_Cx p s m args meth c cc mL y.cls G A → sh_Ao s → meth.name = "<init>" → meth.sig.returnType = none → va_P G.1 vwCl w0 s.heap → va_D A w0 → va_S A s.heap s.heap [] → lv_has ls mL (lv_args 0 vs) → W p l e (sh_rx d kc ks) s m args below meth c s.heap [] 0 0 (sh_Qn below args s G w1 A kc ks) (F0 m 0 ls [])) : sh_Nt l y cc mL d kc ks G vs w0 w1 := by
  intro sz
  refine Met.ofW (cc := cc) (maxL := mL) (ret := none) hy rfl ?_
  intro p e s m args below meth c s₁ B hml hv
  obtain ⟨rfl, hsz, hP, hK, hD0, hSf, hAo⟩ := hv
  have hts := atoms_spec (ws := sh_wq y cc mL none) B.pre
  have hown : s.vm.findClass y.cls = some m.cls := findClass_of_methodNamed B.named
  have hin : meth.name = y.name := (name_of_methodNamed B.named B.method).1
  subst hsz
  have hl := lv_entry vs (n := mL) hvs
  rw [lg_entry_eq]
  exact body p e s m _ below meth c _ _ ⟨B.exec, B.bytes, hml, hown, fun w hw => hts w (List.mem_cons_of_mem _ hw), hK, fun q h => Or.inr h, B.notSynchronized, hSf⟩ hAo (hin.trans hn) B.returns hP hD0.self va_S.rf hl
section ShCt
variable {p : Program} {l : Launch} {e : Env} {R : Room} {s : State} {m : MethodId} {args : Array Value} {below : List Frame} {meth : Method} {c : Code} {H : Heap} {locs : List Loc} {cells slots : Nat} {Q : State → Prop}
variable {cc : ByteArray} {nL : Nat} {own : String} {G : sh_Ev} {A : Nat → Prop} {pc : Nat} {ls : Array Slot} {rest st0 : List Value} {w wn ws : va_W}
theorem sh_beforeN (C : sh_Cx p s m args meth c cc nL own G A) (hAo : sh_Ao s) (hP : va_P G.1 vwCl (w ++ wn) H) (hD : va_D A (w ++ wn)) (hS : va_S A s.heap H locs) (U : State) (hU : U.heap = H) (hW : s.WarmedH U.vm) : sh_Pn G wn H.size U := by
  refine ⟨by rw [hU], by rw [hU]; exact sh_PR hP, va_K.moved hW.alike C.2.2.2.2.2.1, (sh_DR hD).weaken (fun _ _ _ _ => trivial), ?_, sh_Ao_moved hW.alike hAo⟩
  rw [hU]
  exact sh_Sf_warm hW (sh_Sf_narrow (sh_Sf_kept C.2.2.2.2.2.2.2.2 hS.2.1) (sh_freeR hD hS C.2.2.2.2.2.2.1))
/-- a constructor's call -/
theorem sh_cI (C : sh_Cx p s m args meth c cc nL own G A) (hAo : sh_Ao s) (hP : va_P G.1 vwCl (w ++ wn) H) (hD : va_D A (w ++ wn)) (hS : va_S A s.heap H locs) {y : MethodName} {cy : ByteArray} {mL n idx d' kc' ks' : Nat} {w1 : (Nat → Nat) → va_W} {q : Nat} {As : List Value} (M : sh_Nt l y cy mL d' kc' ks' G (.ref q :: As) wn w1) (Y : sh_Y y cy mL none n) (hy1 : y.name = "<init>") (hI : Cond.instanceMethod y ∈ sh_ws) (L : Cond.methodLink own idx y ∈ sh_ws) (hn : As.length = n) (hst : st0 = As.reverse ++ .ref q :: rest) (hrest : (rest.map fun v => v.category).sum ≤ 8) (hR : d' + 1 ≤ R.frames ∧ 40 + 40 * d' ≤ R.locals) (hkc : cells + kc' ≤ R.cells) (hks : slots + ks' ≤ R.slots) (hls : ls.size = nL) (hdg : decode cc pc = .ok (.invokespecial idx, 3))
    (kk : ∀ (a : Nat → Nat) (H1 : Heap) (locs1 : List Loc), va_P G.1 vwCl (w ++ w1 a) H1 → va_D A (w ++ w1 a) → va_S A s.heap H1 locs1 → W p l e R s m args below meth c H1 locs1 (cells + kc') (slots + ks') Q (F0 m (pc + 3) ls rest)) : W p l e R s m args below meth c H locs cells slots Q (F0 m pc ls st0) := by
  have hF := sh_freeR hD hS C.2.2.2.2.2.2.1
  have hm := Y.2.2.1
  refine va_callv (va_runI (As := As) (rest := rest) ⟨C.1, C.2.1, C.2.2.1, C.2.2.2.1, C.2.2.2.2.1⟩ (M H.size) (cwI n C.2.2.2.2.1 (sh_good Y.2.1) rfl rfl rfl (C.2.2.2.2.1 _ Y.1) (C.2.2.2.2.1 _ L) (C.2.2.2.2.1 _ hI) hy1 Y.2.2.2 ⟨hR.1, by show 8 + (mL + 11) + 40 * d' ≤ R.locals; omega⟩) ⟨sh_blindN _ G wn _, fun U hU hW => ⟨rfl, sh_beforeN C hAo hP hD hS U hU hW⟩⟩ rfl hn hls hst (lv_room hrest) hdg ⟨hkc, hks⟩) hS (fun q _ h => hF q h) hF (fun a t H1 locs1 ht hvm hw hB hz1 hk1 hS1 => ?_)
  obtain ⟨hP1, hD1⟩ := hB
  rw [ht] at hP1
  obtain ⟨hP2, hD2⟩ := sh_joinA hP hD hk1 hF hP1 hD1
  exact kk a H1 locs1 hP2 hD2 hS1
/-- a nest mate's private constructor's call -/
theorem sh_cN (C : sh_Cx p s m args meth c cc nL own G A) (hAo : sh_Ao s) (hP : va_P G.1 vwCl (w ++ wn) H) (hD : va_D A (w ++ wn)) (hS : va_S A s.heap H locs) {y : MethodName} {cy : ByteArray} {mL n idx d' kc' ks' : Nat} {w1 : (Nat → Nat) → va_W} {q : Nat} {As : List Value} (M : sh_Nt l y cy mL d' kc' ks' G (.ref q :: As) wn w1) (Y : sh_Y y cy mL none n) (hy1 : y.name = "<init>") (hI : Cond.instanceMethod y ∈ sh_ws) {host : String} (L : Cond.methodLinkNest own idx y host ∈ sh_nest) (hn : As.length = n) (hst : st0 = As.reverse ++ .ref q :: rest) (hrest : (rest.map fun v => v.category).sum ≤ 8) (hR : d' + 1 ≤ R.frames ∧ 40 + 40 * d' ≤ R.locals) (hkc : cells + kc' ≤ R.cells) (hks : slots + ks' ≤ R.slots) (hls : ls.size = nL) (hdg : decode cc pc = .ok (.invokespecial idx, 3))
    (kk : ∀ (a : Nat → Nat) (H1 : Heap) (locs1 : List Loc), va_P G.1 vwCl (w ++ w1 a) H1 → va_D A (w ++ w1 a) → va_S A s.heap H1 locs1 → W p l e R s m args below meth c H1 locs1 (cells + kc') (slots + ks') Q (F0 m (pc + 3) ls rest)) : W p l e R s m args below meth c H locs cells slots Q (F0 m pc ls st0) := by
  have hF := sh_freeR hD hS C.2.2.2.2.2.2.1
  have hm := Y.2.2.1
  refine va_callv (va_runIN (As := As) (rest := rest) ⟨C.1, C.2.1, C.2.2.1, C.2.2.2.1, C.2.2.2.2.1⟩ (M H.size) ⟨va_cnB n C.2.2.2.2.1 (sh_good Y.2.1) rfl rfl rfl (C.2.2.2.2.2.2.2.2.2.2.2.2.2.2.2.2.2 _ L) (C.2.2.2.2.1 _ Y.1) Y.2.2.2 ⟨hR.1, by show 8 + (mL + 11) + 40 * d' ≤ R.locals; omega⟩, hy1, C.2.2.2.2.1 _ hI⟩ ⟨sh_blindN _ G wn _, fun U hU hW => ⟨rfl, sh_beforeN C hAo hP hD hS U hU hW⟩⟩ rfl hn hls hst (lv_room hrest) hdg ⟨hkc, hks⟩) hS (fun q _ h => hF q h) hF (fun a t H1 locs1 ht hvm hw hB hz1 hk1 hS1 => ?_)
  obtain ⟨hP1, hD1⟩ := hB
  rw [ht] at hP1
  obtain ⟨hP2, hD2⟩ := sh_joinA hP hD hk1 hF hP1 hD1
  exact kk a H1 locs1 hP2 hD2 hS1
theorem sh_cAS {cA : ClassId} (hK : va_K G.1 vwCl (sh_ty G ++ [(cA, .object "SteadyShelf$Store")]) s) : cA = G.2.2.2.1 3 := by
  obtain ⟨_, _, _, _, _, a⟩ := (hK.2 3 (G.2.2.2.1 3, .object "SteadyShelf$Store") rfl).2
  obtain ⟨_, _, _, _, _, b⟩ := (hK.2 5 (cA, .object "SteadyShelf$Store") rfl).2
  exact Option.some.inj (b.symm.trans a)
theorem sh_cAC {cA : ClassId} (hK : va_K G.1 vwCl (sh_ty G ++ [(cA, .object "SteadyShelf$Cursor")]) s) : cA = G.2.2.2.1 4 := by
  obtain ⟨_, _, _, _, _, a⟩ := (hK.2 4 (G.2.2.2.1 4, .object "SteadyShelf$Cursor") rfl).2
  obtain ⟨_, _, _, _, _, b⟩ := (hK.2 5 (cA, .object "SteadyShelf$Cursor") rfl).2
  exact Option.some.inj (b.symm.trans a)
theorem sh_newS (C : sh_Cx p s m args meth c cc nL own G A) (hAo : sh_Ao s) (hP : va_P G.1 vwCl ws H) (hD : va_D A ws) (hS : va_S A s.heap H locs) {idx N : Nat} (L : Cond.classLink own idx "SteadyShelf$Store" ∈ sh_ws) (hN : N < 100000) (hcells : cells + 1 ≤ R.cells) (hslots : slots + N ≤ R.slots) (hdg : decode cc pc = .ok (.anewarray idx, 3))
    (kk : ∀ (q : Nat) (H1 : Heap), va_P G.1 vwCl (ws ++ [(q, .inl (G.2.2.2.1 3, N, .inr (.inr (.inr (.inr (fun _ => none))))))]) H1 → va_D A (ws ++ [(q, .inl (G.2.2.2.1 3, N, .inr (.inr (.inr (.inr (fun _ => none))))))]) → va_S A s.heap H1 locs → W p l e R s m args below meth c H1 locs (cells + 1) (slots + N) Q (F0 m (pc + 3) ls (.ref q :: rest))) : W p l e R s m args below meth c H locs cells slots Q (F0 m pc ls (.int (nI N) :: rest)) := by
  refine va_newq C.1 C.2.1 C.2.2.2.1 (C.2.2.2.2.1 _ L) hAo.1 C.2.2.2.2.2.1 hP hD hS C.2.2.2.2.2.2.1 (fun w => ?_) (nI_clamp (by omega)) (by omega) hcells hslots hdg (fun q cA H1 hK1 hP1 hD1 hS1 => ?_)
  · have := zq_ltF (a := N) (b := 0) (by omega) (by omega)
    exact absurd w (by rw [show (0 : Int32) = nI 0 from rfl, this]; exact id)
  · rw [sh_cAS hK1] at hP1 hD1
    exact kk q H1 hP1 hD1 hS1
theorem sh_newC (C : sh_Cx p s m args meth c cc nL own G A) (hAo : sh_Ao s) (hP : va_P G.1 vwCl ws H) (hD : va_D A ws) (hS : va_S A s.heap H locs) {idx N : Nat} (L : Cond.classLink own idx "SteadyShelf$Cursor" ∈ sh_ws) (hN : N < 100000) (hcells : cells + 1 ≤ R.cells) (hslots : slots + N ≤ R.slots) (hdg : decode cc pc = .ok (.anewarray idx, 3))
    (kk : ∀ (q : Nat) (H1 : Heap), va_P G.1 vwCl (ws ++ [(q, .inl (G.2.2.2.1 4, N, .inr (.inr (.inr (.inr (fun _ => none))))))]) H1 → va_D A (ws ++ [(q, .inl (G.2.2.2.1 4, N, .inr (.inr (.inr (.inr (fun _ => none))))))]) → va_S A s.heap H1 locs → W p l e R s m args below meth c H1 locs (cells + 1) (slots + N) Q (F0 m (pc + 3) ls (.ref q :: rest))) : W p l e R s m args below meth c H locs cells slots Q (F0 m pc ls (.int (nI N) :: rest)) := by
  refine va_newq C.1 C.2.1 C.2.2.2.1 (C.2.2.2.2.1 _ L) hAo.2 C.2.2.2.2.2.1 hP hD hS C.2.2.2.2.2.2.1 (fun w => ?_) (nI_clamp (by omega)) (by omega) hcells hslots hdg (fun q cA H1 hK1 hP1 hD1 hS1 => ?_)
  · have := zq_ltF (a := N) (b := 0) (by omega) (by omega)
    exact absurd w (by rw [show (0 : Int32) = nI 0 from rfl, this]; exact id)
  · rw [sh_cAC hK1] at hP1 hD1
    exact kk q H1 hP1 hD1 hS1
end ShCt
/-! a world in another order, and an array of references told otherwise behind its end -/
theorem sh_Pp {D : va_G} {cl : List vw_C} {w w' : va_W} {H : Heap} (h : va_P D cl w H) (hw : ∀ q, q ∈ w' → q ∈ w) : va_P D cl w' H := fun k q hk => by
  obtain ⟨k', hk'⟩ := List.getElem?_of_mem (hw q (List.mem_of_getElem? hk))
  exact h k' q hk'
theorem sh_Dn {A : Nat → Prop} {w : va_W} : va_D A w ↔ (w.map Prod.fst).Nodup ∧ ∀ q ∈ w, A q.1 := by
  constructor
  · intro h
    refine ⟨List.pairwise_iff_getElem.mpr (fun i j hi hj hij => ?_), fun q hq => ?_⟩
    · rw [List.length_map] at hi hj
      rw [List.getElem_map, List.getElem_map]
      intro e
      have := h.1 i j _ _ (List.getElem?_eq_getElem hi) (List.getElem?_eq_getElem hj) e
      omega
    · obtain ⟨k, hk⟩ := List.getElem?_of_mem hq
      exact h.2 k q hk
  · intro h
    refine ⟨fun i j p q hi hj e => ?_, fun k q hk => h.2 q (List.mem_of_getElem? hk)⟩
    obtain ⟨hi', ei⟩ := List.getElem?_eq_some_iff.mp hi
    obtain ⟨hj', ej⟩ := List.getElem?_eq_some_iff.mp hj
    have hN := List.pairwise_iff_getElem.mp h.1
    have li : i < (w.map Prod.fst).length := by rw [List.length_map]; exact hi'
    have lj : j < (w.map Prod.fst).length := by rw [List.length_map]; exact hj'
    rcases Nat.lt_trichotomy i j with c | c | c
    · exact absurd (by rw [List.getElem_map, List.getElem_map, ei, ej, e]) (hN i j li lj c)
    · exact c
    · exact absurd (by rw [List.getElem_map, List.getElem_map, ei, ej, e]) (hN j i lj li c)
theorem sh_Dp {A : Nat → Prop} {w w' : va_W} (h : va_D A w) (hw : w.Perm w') : va_D A w' := by
  rw [sh_Dn] at h ⊢
  exact ⟨((hw.map Prod.fst).nodup_iff).mp h.1, fun q hq => h.2 q (hw.mem_iff.mpr hq)⟩
theorem sh_rq {D : va_G} {cl : List vw_C} {H : Heap} {q n : Nat} {cA : ClassId} {f g : Nat → Option Nat} (h : va_at D cl (q, .inl (cA, n, .inr (.inr (.inr (.inr f))))) H) (e : ∀ j, j < n → f j = g j) : va_at D cl (q, .inl (cA, n, .inr (.inr (.inr (.inr g))))) H := by
  have h : H[q]? = some (arrV cA n (fun j => va_rf (f j))) := h
  show H[q]? = some (arrV cA n (fun j => va_rf (g j)))
  rw [h]
  unfold arrV
  have : (fun j : Fin n => va_rf (f j.val)) = (fun j : Fin n => va_rf (g j.val)) := funext (fun j => by rw [e j.val j.isLt])
  rw [this]
theorem sh_Pq {D : va_G} {cl : List vw_C} {H : Heap} {x : Nat × va_E} {w : va_W} {q n : Nat} {cA : ClassId} {f g : Nat → Option Nat} (h : va_P D cl (x :: (q, .inl (cA, n, .inr (.inr (.inr (.inr f))))) :: w) H) (e : ∀ j, j < n → f j = g j) : va_P D cl (x :: (q, .inl (cA, n, .inr (.inr (.inr (.inr g))))) :: w) H := by
  intro k y hk
  match k, hk with
  | 0, hk => exact h 0 y hk
  | 1, hk =>
    have : y = (q, .inl (cA, n, .inr (.inr (.inr (.inr g))))) := (Option.some.inj hk).symm
    subst this
    exact sh_rq (h 1 _ rfl) e
  | k + 2, hk => exact h (k + 2) y hk
theorem sh_Dq {A : Nat → Prop} {x : Nat × va_E} {w : va_W} {q : Nat} {e1 e2 : va_E} (h : va_D A (x :: (q, e1) :: w)) : va_D A (x :: (q, e2) :: w) := by
  rw [sh_Dn] at h ⊢
  refine ⟨h.1, fun y hy => ?_⟩
  rcases List.mem_cons.mp hy with rfl | hy
  · exact h.2 _ List.mem_cons_self
  · rcases List.mem_cons.mp hy with rfl | hy
    · exact h.2 (q, e1) (List.mem_cons_of_mem _ List.mem_cons_self)
    · exact h.2 _ (List.mem_cons_of_mem _ (List.mem_cons_of_mem _ hy))
/-- the last cell moved to the second place -/
theorem sh_mvP {D : va_G} {cl : List vw_C} {H : Heap} {x y : Nat × va_E} {w : va_W} (h : va_P D cl (x :: (w ++ [y])) H) : va_P D cl (x :: y :: w) H := sh_Pp h (fun q hq => by
  rcases List.mem_cons.mp hq with rfl | hq
  · exact List.mem_cons_self
  · rcases List.mem_cons.mp hq with rfl | hq
    · exact List.mem_cons_of_mem _ (List.mem_append_right _ List.mem_cons_self)
    · exact List.mem_cons_of_mem _ (List.mem_append_left _ hq))
theorem sh_mvD {A : Nat → Prop} {x y : Nat × va_E} {w : va_W} (h : va_D A (x :: (w ++ [y]))) : va_D A (x :: y :: w) := sh_Dp h ((List.perm_append_comm (l₁ := w) (l₂ := [y])).cons x)
theorem sh_mbP {D : va_G} {cl : List vw_C} {H : Heap} {x y : Nat × va_E} {w v : va_W} (h : va_P D cl (x :: y :: (w ++ v)) H) : va_P D cl (x :: (w ++ y :: v)) H := sh_Pp h (fun q hq => by
  rcases List.mem_cons.mp hq with rfl | hq
  · exact List.mem_cons_self
  · rcases List.mem_append.mp hq with hq | hq
    · exact List.mem_cons_of_mem _ (List.mem_cons_of_mem _ (List.mem_append_left _ hq))
    · rcases List.mem_cons.mp hq with rfl | hq
      · exact List.mem_cons_of_mem _ List.mem_cons_self
      · exact List.mem_cons_of_mem _ (List.mem_cons_of_mem _ (List.mem_append_right _ hq)))
theorem sh_mbD {A : Nat → Prop} {x y : Nat × va_E} {w v : va_W} (h : va_D A (x :: y :: (w ++ v))) : va_D A (x :: (w ++ y :: v)) := sh_Dp h ((List.perm_middle (a := y) (l₁ := w) (l₂ := v)).symm.cons x)
