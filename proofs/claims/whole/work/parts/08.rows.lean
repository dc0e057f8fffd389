section ShRows2
variable {p : Program} {l : Launch} {e : Env} {R : Room} {s : State} {m : MethodId} {args : Array Value} {below : List Frame} {meth : Method} {c : Code} {H : Heap} {locs : List Loc} {cells slots : Nat} {Q : State → Prop}
variable {cc : ByteArray} {nL : Nat} {own : String} {G : sh_Ev} {A : Nat → Prop} {tb : List sh_Ds} {S : sh_St} {pc : Nat} {ls : Array Slot} {rest : List Value} {β : Type} {res : β}
theorem sh_zast (C : sh_Cx p s m args meth c cc nL own G A) (h : sh_Wx G tb A s H locs S) {i n b st : Nat} {j v : Int32} {f : sh_St → Option β} (hf : sh_g j n (sh_b v (sh_t (sh_I S i j.toNatClampNeg v) f)) = some res) (ht : tb[i]? = some (.inr (2, n, b, st))) (hdg : decode cc pc = .ok (.bastore, 1))
    (kk : ∀ (S' : sh_St) (H1 : Heap) (locs1 : List Loc), sh_Wx G tb A s H1 locs1 S' → f S' = some res → W p l e R s m args below meth c H1 locs1 cells slots Q (F0 m (pc + 1) ls rest)) : W p l e R s m args below meth c H locs cells slots Q (F0 m pc ls (.int v :: .int j :: .ref (G.2.1 i) :: rest)) := by
  obtain ⟨hx, hb, hml, hown, hts, hK, hA, hlocks, hSf⟩ := C
  obtain ⟨hin, hf⟩ := sh_g_of hf
  obtain ⟨hv, hf⟩ := sh_b_of hf
  refine va_zast hx hb hK h.1 h.2.1 h.2.2 i 2 (sh_get G S ht) rfl hin hdg (fun H1 locs1 hP hD hS => ?_)
  have e0 : vp_nar .boolean v = v := by rcases hv with rfl | rfl <;> decide
  rw [e0] at hP hD
  have e1 := sh_set G S (sh_I S i j.toNatClampNeg v) ht (fun q hq => sh_I_ne S i _ v q hq)
  rw [sh_I_at] at e1
  refine kk (sh_I S i j.toNatClampNeg v) H1 locs1 ⟨?_, ?_, hS⟩ hf
  · rw [e1]; exact hP
  · rw [e1]; exact hD
/-! branches -/
theorem sh_if {cond : Prop} [Decidable cond] {k1 k2 : Option β} (hf : (if cond then k1 else k2) = some res) : (cond → k1 = some res) ∧ (¬ cond → k2 = some res) := by
  constructor
  · intro h; rw [if_pos h] at hf; exact hf
  · intro h; rw [if_neg h] at hf; exact hf
theorem sh_icmp_eq (C : sh_Cx p s m args meth c cc nL own G A) {x y : Int32} {off : Int} {tgt : Nat} {k1 k2 : Option β} (hf : (if x = y then k1 else k2) = some res) (hdg : decode cc pc = .ok (.if_icmp .eq off, 3)) (ht : (pc : Int) + off = (tgt : Int))
    (kt : k1 = some res → W p l e R s m args below meth c H locs cells slots Q (F0 m tgt ls rest)) (kf : k2 = some res → W p l e R s m args below meth c H locs cells slots Q (F0 m (pc + 3) ls rest)) : W p l e R s m args below meth c H locs cells slots Q (F0 m pc ls (.int y :: .int x :: rest)) :=
  lv_icmp_eq C.1 C.2.1 hdg ht (fun h => kt ((sh_if hf).1 h)) (fun h => kf ((sh_if hf).2 h))
theorem sh_icmp_ne (C : sh_Cx p s m args meth c cc nL own G A) {x y : Int32} {off : Int} {tgt : Nat} {k1 k2 : Option β} (hf : (if x = y then k2 else k1) = some res) (hdg : decode cc pc = .ok (.if_icmp .ne off, 3)) (ht : (pc : Int) + off = (tgt : Int))
    (kt : k1 = some res → W p l e R s m args below meth c H locs cells slots Q (F0 m tgt ls rest)) (kf : k2 = some res → W p l e R s m args below meth c H locs cells slots Q (F0 m (pc + 3) ls rest)) : W p l e R s m args below meth c H locs cells slots Q (F0 m pc ls (.int y :: .int x :: rest)) :=
  lv_icmp_ne C.1 C.2.1 hdg ht (fun h => kt ((sh_if hf).2 (by simpa using h))) (fun h => kf ((sh_if hf).1 (by simpa using h)))
theorem sh_icmp_lt (C : sh_Cx p s m args meth c cc nL own G A) {x y : Int32} {off : Int} {tgt : Nat} {k1 k2 : Option β} (hf : (if x < y then k1 else k2) = some res) (hdg : decode cc pc = .ok (.if_icmp .lt off, 3)) (ht : (pc : Int) + off = (tgt : Int))
    (kt : k1 = some res → W p l e R s m args below meth c H locs cells slots Q (F0 m tgt ls rest)) (kf : k2 = some res → W p l e R s m args below meth c H locs cells slots Q (F0 m (pc + 3) ls rest)) : W p l e R s m args below meth c H locs cells slots Q (F0 m pc ls (.int y :: .int x :: rest)) :=
  lv_icmp_lt C.1 C.2.1 hdg ht (fun h => kt ((sh_if hf).1 h)) (fun h => kf ((sh_if hf).2 h))
theorem sh_icmp_ge (C : sh_Cx p s m args meth c cc nL own G A) {x y : Int32} {off : Int} {tgt : Nat} {k1 k2 : Option β} (hf : (if y ≤ x then k1 else k2) = some res) (hdg : decode cc pc = .ok (.if_icmp .ge off, 3)) (ht : (pc : Int) + off = (tgt : Int))
    (kt : k1 = some res → W p l e R s m args below meth c H locs cells slots Q (F0 m tgt ls rest)) (kf : k2 = some res → W p l e R s m args below meth c H locs cells slots Q (F0 m (pc + 3) ls rest)) : W p l e R s m args below meth c H locs cells slots Q (F0 m pc ls (.int y :: .int x :: rest)) :=
  lv_icmp_ge C.1 C.2.1 hdg ht (fun h => kt ((sh_if hf).1 h)) (fun h => kf ((sh_if hf).2 h))
theorem sh_icmp_gt (C : sh_Cx p s m args meth c cc nL own G A) {x y : Int32} {off : Int} {tgt : Nat} {k1 k2 : Option β} (hf : (if y < x then k1 else k2) = some res) (hdg : decode cc pc = .ok (.if_icmp .gt off, 3)) (ht : (pc : Int) + off = (tgt : Int))
    (kt : k1 = some res → W p l e R s m args below meth c H locs cells slots Q (F0 m tgt ls rest)) (kf : k2 = some res → W p l e R s m args below meth c H locs cells slots Q (F0 m (pc + 3) ls rest)) : W p l e R s m args below meth c H locs cells slots Q (F0 m pc ls (.int y :: .int x :: rest)) :=
  lv_icmp_gt C.1 C.2.1 hdg ht (fun h => kt ((sh_if hf).1 h)) (fun h => kf ((sh_if hf).2 h))
theorem sh_icmp_le (C : sh_Cx p s m args meth c cc nL own G A) {x y : Int32} {off : Int} {tgt : Nat} {k1 k2 : Option β} (hf : (if x ≤ y then k1 else k2) = some res) (hdg : decode cc pc = .ok (.if_icmp .le off, 3)) (ht : (pc : Int) + off = (tgt : Int))
    (kt : k1 = some res → W p l e R s m args below meth c H locs cells slots Q (F0 m tgt ls rest)) (kf : k2 = some res → W p l e R s m args below meth c H locs cells slots Q (F0 m (pc + 3) ls rest)) : W p l e R s m args below meth c H locs cells slots Q (F0 m pc ls (.int y :: .int x :: rest)) :=
  lv_icmp_le C.1 C.2.1 hdg ht (fun h => kt ((sh_if hf).1 h)) (fun h => kf ((sh_if hf).2 h))
theorem sh_if_eq (C : sh_Cx p s m args meth c cc nL own G A) {x : Int32} {off : Int} {tgt : Nat} {k1 k2 : Option β} (hf : (if x = 0 then k1 else k2) = some res) (hdg : decode cc pc = .ok (.ifCond .eq off, 3)) (ht : (pc : Int) + off = (tgt : Int))
    (kt : k1 = some res → W p l e R s m args below meth c H locs cells slots Q (F0 m tgt ls rest)) (kf : k2 = some res → W p l e R s m args below meth c H locs cells slots Q (F0 m (pc + 3) ls rest)) : W p l e R s m args below meth c H locs cells slots Q (F0 m pc ls (.int x :: rest)) :=
  lv_if_eq C.1 C.2.1 hdg ht (fun h => kt ((sh_if hf).1 h)) (fun h => kf ((sh_if hf).2 h))
theorem sh_if_ne (C : sh_Cx p s m args meth c cc nL own G A) {x : Int32} {off : Int} {tgt : Nat} {k1 k2 : Option β} (hf : (if x = 0 then k2 else k1) = some res) (hdg : decode cc pc = .ok (.ifCond .ne off, 3)) (ht : (pc : Int) + off = (tgt : Int))
    (kt : k1 = some res → W p l e R s m args below meth c H locs cells slots Q (F0 m tgt ls rest)) (kf : k2 = some res → W p l e R s m args below meth c H locs cells slots Q (F0 m (pc + 3) ls rest)) : W p l e R s m args below meth c H locs cells slots Q (F0 m pc ls (.int x :: rest)) :=
  lv_if_ne C.1 C.2.1 hdg ht (fun h => kt ((sh_if hf).2 (by simpa using h))) (fun h => kf ((sh_if hf).1 (by simpa using h)))
theorem sh_if_lt (C : sh_Cx p s m args meth c cc nL own G A) {x : Int32} {off : Int} {tgt : Nat} {k1 k2 : Option β} (hf : (if x < 0 then k1 else k2) = some res) (hdg : decode cc pc = .ok (.ifCond .lt off, 3)) (ht : (pc : Int) + off = (tgt : Int))
    (kt : k1 = some res → W p l e R s m args below meth c H locs cells slots Q (F0 m tgt ls rest)) (kf : k2 = some res → W p l e R s m args below meth c H locs cells slots Q (F0 m (pc + 3) ls rest)) : W p l e R s m args below meth c H locs cells slots Q (F0 m pc ls (.int x :: rest)) :=
  lv_if_lt C.1 C.2.1 hdg ht (fun h => kt ((sh_if hf).1 h)) (fun h => kf ((sh_if hf).2 h))
theorem sh_if_ge (C : sh_Cx p s m args meth c cc nL own G A) {x : Int32} {off : Int} {tgt : Nat} {k1 k2 : Option β} (hf : (if 0 ≤ x then k1 else k2) = some res) (hdg : decode cc pc = .ok (.ifCond .ge off, 3)) (ht : (pc : Int) + off = (tgt : Int))
    (kt : k1 = some res → W p l e R s m args below meth c H locs cells slots Q (F0 m tgt ls rest)) (kf : k2 = some res → W p l e R s m args below meth c H locs cells slots Q (F0 m (pc + 3) ls rest)) : W p l e R s m args below meth c H locs cells slots Q (F0 m pc ls (.int x :: rest)) :=
  lv_if_ge C.1 C.2.1 hdg ht (fun h => kt ((sh_if hf).1 h)) (fun h => kf ((sh_if hf).2 h))
theorem sh_if_gt (C : sh_Cx p s m args meth c cc nL own G A) {x : Int32} {off : Int} {tgt : Nat} {k1 k2 : Option β} (hf : (if 0 < x then k1 else k2) = some res) (hdg : decode cc pc = .ok (.ifCond .gt off, 3)) (ht : (pc : Int) + off = (tgt : Int))
    (kt : k1 = some res → W p l e R s m args below meth c H locs cells slots Q (F0 m tgt ls rest)) (kf : k2 = some res → W p l e R s m args below meth c H locs cells slots Q (F0 m (pc + 3) ls rest)) : W p l e R s m args below meth c H locs cells slots Q (F0 m pc ls (.int x :: rest)) :=
  lv_if_gt C.1 C.2.1 hdg ht (fun h => kt ((sh_if hf).1 h)) (fun h => kf ((sh_if hf).2 h))
theorem sh_if_le (C : sh_Cx p s m args meth c cc nL own G A) {x : Int32} {off : Int} {tgt : Nat} {k1 k2 : Option β} (hf : (if x ≤ 0 then k1 else k2) = some res) (hdg : decode cc pc = .ok (.ifCond .le off, 3)) (ht : (pc : Int) + off = (tgt : Int))
    (kt : k1 = some res → W p l e R s m args below meth c H locs cells slots Q (F0 m tgt ls rest)) (kf : k2 = some res → W p l e R s m args below meth c H locs cells slots Q (F0 m (pc + 3) ls rest)) : W p l e R s m args below meth c H locs cells slots Q (F0 m pc ls (.int x :: rest)) :=
  lv_if_le C.1 C.2.1 hdg ht (fun h => kt ((sh_if hf).1 h)) (fun h => kf ((sh_if hf).2 h))
/-! longs compared: lcmp and the branch behind it -/
theorem sh_lcmp_eq (C : sh_Cx p s m args meth c cc nL own G A) {x y : Int64} {off : Int} {tgt : Nat} {k1 k2 : Option β} (hf : (if x = y then k1 else k2) = some res) (hd0 : decode cc pc = .ok (.lcmp, 1)) (hdg : decode cc (pc + 1) = .ok (.ifCond .eq off, 3)) (ht : ((pc + 1 : Nat) : Int) + off = (tgt : Int))
    (kt : k1 = some res → W p l e R s m args below meth c H locs cells slots Q (F0 m tgt ls rest)) (kf : k2 = some res → W p l e R s m args below meth c H locs cells slots Q (F0 m (pc + 1 + 3) ls rest)) : W p l e R s m args below meth c H locs cells slots Q (F0 m pc ls (.long y :: .long x :: rest)) := by
  refine W.lcmp C.1 C.2.1 hd0 ?_
  have e0 : lg_cmp x y = 0 ↔ x = y := by
    unfold lg_cmp
    by_cases h : x = y
    · subst h; simp
    · by_cases h2 : x > y
      · rw [if_pos h2]; exact ⟨fun q => absurd q (by decide), fun q => absurd q h⟩
      · rw [if_neg h2, if_neg h]; exact ⟨fun q => absurd q (by decide), fun q => absurd q h⟩
  exact lv_if_eq C.1 C.2.1 hdg ht (fun h => kt ((sh_if hf).1 (e0.mp h))) (fun h => kf ((sh_if hf).2 (fun q => h (e0.mpr q))))
theorem sh_lcmp_ne (C : sh_Cx p s m args meth c cc nL own G A) {x y : Int64} {off : Int} {tgt : Nat} {k1 k2 : Option β} (hf : (if x = y then k2 else k1) = some res) (hd0 : decode cc pc = .ok (.lcmp, 1)) (hdg : decode cc (pc + 1) = .ok (.ifCond .ne off, 3)) (ht : ((pc + 1 : Nat) : Int) + off = (tgt : Int))
    (kt : k1 = some res → W p l e R s m args below meth c H locs cells slots Q (F0 m tgt ls rest)) (kf : k2 = some res → W p l e R s m args below meth c H locs cells slots Q (F0 m (pc + 1 + 3) ls rest)) : W p l e R s m args below meth c H locs cells slots Q (F0 m pc ls (.long y :: .long x :: rest)) := by
  refine W.lcmp C.1 C.2.1 hd0 ?_
  have e0 : lg_cmp x y = 0 ↔ x = y := by
    unfold lg_cmp
    by_cases h : x = y
    · subst h; simp
    · by_cases h2 : x > y
      · rw [if_pos h2]; exact ⟨fun q => absurd q (by decide), fun q => absurd q h⟩
      · rw [if_neg h2, if_neg h]; exact ⟨fun q => absurd q (by decide), fun q => absurd q h⟩
  exact lv_if_ne C.1 C.2.1 hdg ht (fun h => kt ((sh_if hf).2 (fun q => (by simpa using h : ¬ lg_cmp x y = 0) (e0.mpr q)))) (fun h => kf ((sh_if hf).1 (e0.mp (by simpa using h))))
theorem sh_lcmp_ge (C : sh_Cx p s m args meth c cc nL own G A) {x y : Int64} {off : Int} {tgt : Nat} {k1 k2 : Option β} (hf : (if y ≤ x then k1 else k2) = some res) (hd0 : decode cc pc = .ok (.lcmp, 1)) (hdg : decode cc (pc + 1) = .ok (.ifCond .ge off, 3)) (ht : ((pc + 1 : Nat) : Int) + off = (tgt : Int))
    (kt : k1 = some res → W p l e R s m args below meth c H locs cells slots Q (F0 m tgt ls rest)) (kf : k2 = some res → W p l e R s m args below meth c H locs cells slots Q (F0 m (pc + 1 + 3) ls rest)) : W p l e R s m args below meth c H locs cells slots Q (F0 m pc ls (.long y :: .long x :: rest)) := by
  refine W.lcmp C.1 C.2.1 hd0 ?_
  exact lv_if_ge C.1 C.2.1 hdg ht (fun h => kt ((sh_if hf).1 ((lg_cmp_ge x y).mp h))) (fun h => kf ((sh_if hf).2 (fun q => h ((lg_cmp_ge x y).mpr q))))
theorem sh_lcmp_le (C : sh_Cx p s m args meth c cc nL own G A) {x y : Int64} {off : Int} {tgt : Nat} {k1 k2 : Option β} (hf : (if x ≤ y then k1 else k2) = some res) (hd0 : decode cc pc = .ok (.lcmp, 1)) (hdg : decode cc (pc + 1) = .ok (.ifCond .le off, 3)) (ht : ((pc + 1 : Nat) : Int) + off = (tgt : Int))
    (kt : k1 = some res → W p l e R s m args below meth c H locs cells slots Q (F0 m tgt ls rest)) (kf : k2 = some res → W p l e R s m args below meth c H locs cells slots Q (F0 m (pc + 1 + 3) ls rest)) : W p l e R s m args below meth c H locs cells slots Q (F0 m pc ls (.long y :: .long x :: rest)) := by
  refine W.lcmp C.1 C.2.1 hd0 ?_
  have e0 : lg_cmp x y ≤ 0 ↔ x ≤ y := by
    unfold lg_cmp
    simp only [gt_iff_lt, Int64.lt_iff_toInt_lt, Int64.le_iff_toInt_le, ← Int64.toInt_inj]
    by_cases h2 : y.toInt < x.toInt
    · rw [if_pos h2]; exact ⟨fun q => absurd q (by decide), fun q => by omega⟩
    · rw [if_neg h2]
      by_cases h3 : x.toInt = y.toInt
      · rw [if_pos h3]; exact ⟨fun _ => by omega, fun _ => by decide⟩
      · rw [if_neg h3]; exact ⟨fun _ => by omega, fun _ => by decide⟩
  exact lv_if_le C.1 C.2.1 hdg ht (fun h => kt ((sh_if hf).1 (e0.mp h))) (fun h => kf ((sh_if hf).2 (fun q => h (e0.mpr q))))
/-! a value gets a name -/
theorem sh_ni {x : Int32} {f : Int32 → Option β} (hf : sh_t x f = some res) (kk : ∀ y : Int32, f y = some res → W p l e R s m args below meth c H locs cells slots Q (F0 m pc ls (.int y :: rest))) : W p l e R s m args below meth c H locs cells slots Q (F0 m pc ls (.int x :: rest)) := kk x hf
theorem sh_nl {x : Int64} {f : Int64 → Option β} (hf : sh_t x f = some res) (kk : ∀ y : Int64, f y = some res → W p l e R s m args below meth c H locs cells slots Q (F0 m pc ls (.long y :: rest))) : W p l e R s m args below meth c H locs cells slots Q (F0 m pc ls (.long x :: rest)) := kk x hf
/-! ends -/
theorem sh_ri {res : Int32 × sh_St} (C : sh_Cx p s m args meth c cc nL own G A) (h : sh_Wx G tb A s H locs S) (hr : meth.sig.returnType = some .int) {v : Int32} (hf : some (v, S) = some res) (hdg : decode cc pc = .ok (.ireturn, 1)) : W p l e R s m args below meth c H locs 0 0 (sh_Qi below args s G tb A res) (F0 m pc ls [.int v]) := by
  obtain ⟨hx, hb, hml, hown, hts, hK, hA, hlocks, hSf⟩ := C
  exact W.iret (v := v) hx hb hr (fun t ht hW => ⟨⟨v, S, rfl, Option.some.inj hf, by rw [ht]; exact h.1, va_K.moved hW.alike hK, h.2.1⟩, h.2.2.F ht⟩) h.2.2.2.2 hdg
theorem sh_rz {res : Int32 × sh_St} (C : sh_Cx p s m args meth c cc nL own G A) (h : sh_Wx G tb A s H locs S) (hr : meth.sig.returnType = some .boolean) {v : Int32} (hf : sh_b v (some (v, S)) = some res) (hdg : decode cc pc = .ok (.ireturn, 1)) : W p l e R s m args below meth c H locs 0 0 (sh_Qi below args s G tb A res) (F0 m pc ls [.int v]) := by
  obtain ⟨hx, hb, hml, hown, hts, hK, hA, hlocks, hSf⟩ := C
  obtain ⟨hv, hf⟩ := sh_b_of hf
  exact W.zret (v := v) hx hb hr (by rcases hv with rfl | rfl <;> decide) (fun t ht hW => ⟨⟨v, S, rfl, Option.some.inj hf, by rw [ht]; exact h.1, va_K.moved hW.alike hK, h.2.1⟩, h.2.2.F ht⟩) h.2.2.2.2 hdg
theorem sh_rl {res : Int64 × sh_St} (C : sh_Cx p s m args meth c cc nL own G A) (h : sh_Wx G tb A s H locs S) (hr : meth.sig.returnType = some .long) {v : Int64} (hf : some (v, S) = some res) (hdg : decode cc pc = .ok (.lreturn, 1)) : W p l e R s m args below meth c H locs 0 0 (sh_Ql below args s G tb A res) (F0 m pc ls [.long v]) := by
  obtain ⟨hx, hb, hml, hown, hts, hK, hA, hlocks, hSf⟩ := C
  exact W.lret (v := v) hx hb hr (fun t ht hW => ⟨⟨v, S, rfl, Option.some.inj hf, by rw [ht]; exact h.1, va_K.moved hW.alike hK, h.2.1⟩, h.2.2.F ht⟩) h.2.2.2.2 hdg
theorem sh_rv {res : Unit × sh_St} (C : sh_Cx p s m args meth c cc nL own G A) (h : sh_Wx G tb A s H locs S) (hr : meth.sig.returnType = none) (hf : some ((), S) = some res) (hdg : decode cc pc = .ok (.return_, 1)) : W p l e R s m args below meth c H locs 0 0 (sh_Qv below args s G tb A res) (F0 m pc ls []) := by
  obtain ⟨hx, hb, hml, hown, hts, hK, hA, hlocks, hSf⟩ := C
  exact W.vret hx hb hr (fun t ht hW => ⟨⟨S, rfl, Option.some.inj hf, by rw [ht]; exact h.1, va_K.moved hW.alike hK, h.2.1⟩, h.2.2.F ht⟩) h.2.2.2.2 hdg
/-! a contract out of its walk -/
theorem sh_ent {y : MethodName} {mL d : Nat} {ret : Option FieldType} {sz : Nat} {vs : List Value} {s₁ : State} (hvs : (lg_sl vs).length ≤ mL) (B : BodyLoose p l y (headSpec (sh_wq y cc mL ret) (sh_rm d)) cc mL ret e s m args below meth c s₁) (hml : c.maxLocals = mL) (hv : va_Pc vs (sh_Pr G tb sz S) args s)
    (kk : ∀ ls : Array Slot, args = vs.toArray → sh_Cx p s m args meth c cc mL y.cls G (va_A (sh_wz G S 0 tb) sz) → meth.sig.returnType = ret → sh_Wx G tb (va_A (sh_wz G S 0 tb) sz) s s.heap [] S → lv_has ls mL (lv_args 0 vs) → W p l e (sh_rm d) s m args below meth c s.heap [] 0 0 Q (F0 m 0 ls [])) : W p l e (headSpec (sh_wq y cc mL ret) (sh_rm d)).room s m args below meth c s.heap [] 0 0 Q (entryFrame m args mL) := by
  obtain ⟨rfl, hsz, hP, hK, hD0, hSf⟩ := hv
  have hts := atoms_spec (ws := sh_wq y cc mL ret) B.pre
  have hown : s.vm.findClass y.cls = some m.cls := findClass_of_methodNamed B.named
  subst hsz
  have hl := lv_entry vs (n := mL) hvs
  rw [lg_entry_eq]
  exact kk _ rfl ⟨B.exec, B.bytes, hml, hown, fun w hw => hts w (List.mem_cons_of_mem _ hw), hK, fun q h => Or.inr h, B.notSynchronized, hSf⟩ B.returns ⟨hP, hD0.self, va_S.rf⟩ hl
end ShRows2
theorem sh_mki {l : Launch} {y : MethodName} {cc : ByteArray} {mL : Nat} {rt : FieldType} {d : Nat} {tb : List sh_Ds} {vs : sh_Ev → List Value} {F : sh_St → Option (Int32 × sh_St)} (hy : plainName y.cls = true) (hvs : ∀ G, (lg_sl (vs G)).length ≤ mL)
    (body : ∀ (p : Program) (e : Env) (s : State) (m : MethodId) (args : Array Value) (below : List Frame) (meth : Method) (c : Code) (G : sh_Ev) (A : Nat → Prop) (S : sh_St) (res : Int32 × sh_St) (ls : Array Slot), F S = some res → sh_Cx p s m args meth c cc mL y.cls G A → meth.sig.returnType = some rt → sh_Wx G tb A s s.heap [] S → lv_has ls mL (lv_args 0 (vs G)) → W p l e (sh_rm d) s m args below meth c s.heap [] 0 0 (sh_Qi below args s G tb A res) (F0 m 0 ls [])) : sh_Mi l y cc mL rt d tb vs F := by
  intro G sz S res hF
  refine Met.ofW (cc := cc) (maxL := mL) (ret := some rt) hy rfl ?_
  intro p e s m args below meth c s₁ B hml hv
  exact sh_ent (hvs G) B hml hv (fun ls _ C hr hW hl => body p e s m args below meth c G _ S res ls hF C hr hW hl)
theorem sh_mkl {l : Launch} {y : MethodName} {cc : ByteArray} {mL : Nat} {d : Nat} {tb : List sh_Ds} {vs : sh_Ev → List Value} {F : sh_St → Option (Int64 × sh_St)} (hy : plainName y.cls = true) (hvs : ∀ G, (lg_sl (vs G)).length ≤ mL)
    (body : ∀ (p : Program) (e : Env) (s : State) (m : MethodId) (args : Array Value) (below : List Frame) (meth : Method) (c : Code) (G : sh_Ev) (A : Nat → Prop) (S : sh_St) (res : Int64 × sh_St) (ls : Array Slot), F S = some res → sh_Cx p s m args meth c cc mL y.cls G A → meth.sig.returnType = some .long → sh_Wx G tb A s s.heap [] S → lv_has ls mL (lv_args 0 (vs G)) → W p l e (sh_rm d) s m args below meth c s.heap [] 0 0 (sh_Ql below args s G tb A res) (F0 m 0 ls [])) : sh_Ml l y cc mL d tb vs F := by
  intro G sz S res hF
  refine Met.ofW (cc := cc) (maxL := mL) (ret := some .long) hy rfl ?_
  intro p e s m args below meth c s₁ B hml hv
  exact sh_ent (hvs G) B hml hv (fun ls _ C hr hW hl => body p e s m args below meth c G _ S res ls hF C hr hW hl)
theorem sh_mkv {l : Launch} {y : MethodName} {cc : ByteArray} {mL : Nat} {d : Nat} {tb : List sh_Ds} {vs : sh_Ev → List Value} {F : sh_St → Option (Unit × sh_St)} (hy : plainName y.cls = true) (hvs : ∀ G, (lg_sl (vs G)).length ≤ mL)
    (body : ∀ (p : Program) (e : Env) (s : State) (m : MethodId) (args : Array Value) (below : List Frame) (meth : Method) (c : Code) (G : sh_Ev) (A : Nat → Prop) (S : sh_St) (res : Unit × sh_St) (ls : Array Slot), F S = some res → sh_Cx p s m args meth c cc mL y.cls G A → meth.sig.returnType = none → sh_Wx G tb A s s.heap [] S → lv_has ls mL (lv_args 0 (vs G)) → W p l e (sh_rm d) s m args below meth c s.heap [] 0 0 (sh_Qv below args s G tb A res) (F0 m 0 ls [])) : sh_Mv l y cc mL d tb vs F := by
  intro G sz S res hF
  refine Met.ofW (cc := cc) (maxL := mL) (ret := none) hy rfl ?_
  intro p e s m args below meth c s₁ B hml hv
  exact sh_ent (hvs G) B hml hv (fun ls _ C hr hW hl => body p e s m args below meth c G _ S res ls hF C hr hW hl)
