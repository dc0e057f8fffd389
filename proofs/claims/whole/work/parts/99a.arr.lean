/-! the class of a new array is the one that is known -/
theorem sh_cAi {G : sh_Ev} {s : State} {cA : ClassId} (hK : va_K G.1 vwCl (sh_ty G ++ [(cA, .int)]) s) : cA = G.2.2.2.1 0 := by
  have a : s.vm.findClass ("[" ++ (FieldType.int).toString) = some (G.2.2.2.1 0) := (hK.2 0 (G.2.2.2.1 0, .int) rfl).2
  have b : s.vm.findClass ("[" ++ (FieldType.int).toString) = some cA := (hK.2 5 (cA, .int) rfl).2
  exact Option.some.inj (b.symm.trans a)
theorem sh_cAl {G : sh_Ev} {s : State} {cA : ClassId} (hK : va_K G.1 vwCl (sh_ty G ++ [(cA, .long)]) s) : cA = G.2.2.2.1 1 := by
  have a : s.vm.findClass ("[" ++ (FieldType.long).toString) = some (G.2.2.2.1 1) := (hK.2 1 (G.2.2.2.1 1, .long) rfl).2
  have b : s.vm.findClass ("[" ++ (FieldType.long).toString) = some cA := (hK.2 5 (cA, .long) rfl).2
  exact Option.some.inj (b.symm.trans a)
theorem sh_cAz {G : sh_Ev} {s : State} {cA : ClassId} (hK : va_K G.1 vwCl (sh_ty G ++ [(cA, .boolean)]) s) : cA = G.2.2.2.1 2 := by
  have a : s.vm.findClass ("[" ++ (FieldType.boolean).toString) = some (G.2.2.2.1 2) := (hK.2 2 (G.2.2.2.1 2, .boolean) rfl).2
  have b : s.vm.findClass ("[" ++ (FieldType.boolean).toString) = some cA := (hK.2 5 (cA, .boolean) rfl).2
  exact Option.some.inj (b.symm.trans a)
section ShArr
variable {p : Program} {l : Launch} {e : Env} {R : Room} {s : State} {m : MethodId} {args : Array Value} {below : List Frame} {meth : Method} {c : Code} {H : Heap} {locs : List Loc} {cells slots : Nat} {Q : State → Prop} {cc : ByteArray} {G : sh_Ev} {A : Nat → Prop} {ws : va_W} {pc : Nat} {ls : Array Slot} {rest : List Value}
theorem sh_newi (hx : p.tables.exec = Jvm.exec) (hb : c.code = cc) (harr : (Cond.arrayClass .int).before args s = true) (hK : va_K G.1 vwCl (sh_ty G) s) (hP : va_P G.1 vwCl ws H) (hD : va_D A ws) (hS : va_S A s.heap H locs) (hA : ∀ q, s.heap.size ≤ q → A q) {N : Nat} (hN : N < 100000) (hcells : cells + 1 ≤ R.cells) (hslots : slots + N ≤ R.slots) (hdg : decode cc pc = .ok (.newarray .int, 2))
    (kk : ∀ (q : Nat) (H1 : Heap), va_P G.1 vwCl (ws ++ [(q, .inl (G.2.2.2.1 0, N, .inl (fun _ => nI 0)))]) H1 → va_D A (ws ++ [(q, .inl (G.2.2.2.1 0, N, .inl (fun _ => nI 0)))]) → va_S A s.heap H1 locs → W p l e R s m args below meth c H1 locs (cells + 1) (slots + N) Q (F0 m (pc + 2) ls (.ref q :: rest))) : W p l e R s m args below meth c H locs cells slots Q (F0 m pc ls (.int (nI N) :: rest)) := by
  refine va_newa (atype := .int) (ty := .int) (a0 := (N, .inl (fun _ => nI 0))) hx hb harr rfl hK hP hD hS hA (fun cA => rfl) (fun w => ?_) (nI_clamp (by omega)) (by show N * 4 ≤ 536870912; omega) hcells hslots hdg (fun q cA H1 hK1 hP1 hD1 hS1 => ?_)
  · have := zq_ltF (a := N) (b := 0) (by omega) (by omega)
    exact absurd w (by rw [show (0 : Int32) = nI 0 from rfl, this]; exact id)
  · rw [sh_cAi hK1] at hP1 hD1
    exact kk q H1 hP1 hD1 hS1
theorem sh_newl (hx : p.tables.exec = Jvm.exec) (hb : c.code = cc) (harr : (Cond.arrayClass .long).before args s = true) (hK : va_K G.1 vwCl (sh_ty G) s) (hP : va_P G.1 vwCl ws H) (hD : va_D A ws) (hS : va_S A s.heap H locs) (hA : ∀ q, s.heap.size ≤ q → A q) {N : Nat} (hN : N < 100000) (hcells : cells + 1 ≤ R.cells) (hslots : slots + N ≤ R.slots) (hdg : decode cc pc = .ok (.newarray .long, 2))
    (kk : ∀ (q : Nat) (H1 : Heap), va_P G.1 vwCl (ws ++ [(q, .inl (G.2.2.2.1 1, N, .inr (.inl (fun _ => 0))))]) H1 → va_D A (ws ++ [(q, .inl (G.2.2.2.1 1, N, .inr (.inl (fun _ => 0))))]) → va_S A s.heap H1 locs → W p l e R s m args below meth c H1 locs (cells + 1) (slots + N) Q (F0 m (pc + 2) ls (.ref q :: rest))) : W p l e R s m args below meth c H locs cells slots Q (F0 m pc ls (.int (nI N) :: rest)) := by
  refine va_newa (atype := .long) (ty := .long) (a0 := (N, .inr (.inl (fun _ => 0)))) hx hb harr rfl hK hP hD hS hA (fun cA => rfl) (fun w => ?_) (nI_clamp (by omega)) (by show N * 8 ≤ 536870912; omega) hcells hslots hdg (fun q cA H1 hK1 hP1 hD1 hS1 => ?_)
  · have := zq_ltF (a := N) (b := 0) (by omega) (by omega)
    exact absurd w (by rw [show (0 : Int32) = nI 0 from rfl, this]; exact id)
  · rw [sh_cAl hK1] at hP1 hD1
    exact kk q H1 hP1 hD1 hS1
theorem sh_newz (hx : p.tables.exec = Jvm.exec) (hb : c.code = cc) (harr : (Cond.arrayClass .boolean).before args s = true) (hK : va_K G.1 vwCl (sh_ty G) s) (hP : va_P G.1 vwCl ws H) (hD : va_D A ws) (hS : va_S A s.heap H locs) (hA : ∀ q, s.heap.size ≤ q → A q) {N : Nat} (hN : N < 100000) (hcells : cells + 1 ≤ R.cells) (hslots : slots + N ≤ R.slots) (hdg : decode cc pc = .ok (.newarray .boolean, 2))
    (kk : ∀ (q : Nat) (H1 : Heap), va_P G.1 vwCl (ws ++ [(q, .inl (G.2.2.2.1 2, N, .inl (fun _ => nI 0)))]) H1 → va_D A (ws ++ [(q, .inl (G.2.2.2.1 2, N, .inl (fun _ => nI 0)))]) → va_S A s.heap H1 locs → W p l e R s m args below meth c H1 locs (cells + 1) (slots + N) Q (F0 m (pc + 2) ls (.ref q :: rest))) : W p l e R s m args below meth c H locs cells slots Q (F0 m pc ls (.int (nI N) :: rest)) := by
  refine va_newa (atype := .boolean) (ty := .boolean) (a0 := (N, .inl (fun _ => nI 0))) hx hb harr rfl hK hP hD hS hA (fun cA => rfl) (fun w => ?_) (nI_clamp (by omega)) (by show N * 1 ≤ 536870912; omega) hcells hslots hdg (fun q cA H1 hK1 hP1 hD1 hS1 => ?_)
  · have := zq_ltF (a := N) (b := 0) (by omega) (by omega)
    exact absurd w (by rw [show (0 : Int32) = nI 0 from rfl, this]; exact id)
  · rw [sh_cAz hK1] at hP1 hD1
    exact kk q H1 hP1 hD1 hS1
end ShArr
