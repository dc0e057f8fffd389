/-! switches, by the number that is told -/
theorem sh_neI {x k : Int32} {z : Int} (h : ¬ x = k) (hz : k.toInt = z) : x.toInt ≠ z := fun q => h (Int32.toInt_inj.mp (q.trans hz.symm))
section ShSw
variable {p : Program} {l : Launch} {e : Env} {R : Room} {s : State} {m : MethodId} {args : Array Value} {below : List Frame} {meth : Method} {c : Code} {H : Heap} {locs : List Loc} {cells slots : Nat} {Q : State → Prop}
variable {cc : ByteArray} {nL : Nat} {own : String} {G : sh_Ev} {A : Nat → Prop} {pc : Nat} {ls : Array Slot} {rest : List Value} {β : Type} {res : β}
theorem sh_swIn (C : sh_Cx p s m args meth c cc nL own G A) {dflt lo hi : Int} {offs : Array Int} {len : Nat} {x k : Int32} {off : Int} {tgt : Nat} (hk : x = k) (hdg : decode cc pc = .ok (.tableswitch dflt lo hi offs, len)) (h1 : ¬ k.toInt < lo) (h2 : ¬ hi < k.toInt) (ho : offs[(k.toInt - lo).toNat]? = some off) (ht : (pc : Int) + off = (tgt : Int))
    (kk : W p l e R s m args below meth c H locs cells slots Q (F0 m tgt ls rest)) : W p l e R s m args below meth c H locs cells slots Q (F0 m pc ls (.int x :: rest)) := by
  subst hk
  exact lv_tableIn C.1 C.2.1 hdg h1 h2 ho ht kk
theorem sh_swOut (C : sh_Cx p s m args meth c cc nL own G A) {dflt lo hi : Int} {offs : Array Int} {len : Nat} {x : Int32} {tgt : Nat} (h : x.toInt < lo ∨ hi < x.toInt) (hdg : decode cc pc = .ok (.tableswitch dflt lo hi offs, len)) (ht : (pc : Int) + dflt = (tgt : Int))
    (kk : W p l e R s m args below meth c H locs cells slots Q (F0 m tgt ls rest)) : W p l e R s m args below meth c H locs cells slots Q (F0 m pc ls (.int x :: rest)) := lv_tableOut C.1 C.2.1 hdg h ht kk
theorem sh_lkIn (C : sh_Cx p s m args meth c cc nL own G A) {dflt : Int} {ps : Array (Int × Int)} {len : Nat} {x k : Int32} {off : Int} {tgt : Nat} (hk : x = k) (hdg : decode cc pc = .ok (.lookupswitch dflt ps, len)) (hp : (ps.toList.zip (ps.toList.drop 1)).all (fun (a, next) => a.1 < next.1) = true) (ho : Op.lookupswitch.offset ps.toList dflt k.toInt = off) (ht : (pc : Int) + off = (tgt : Int))
    (kk : W p l e R s m args below meth c H locs cells slots Q (F0 m tgt ls rest)) : W p l e R s m args below meth c H locs cells slots Q (F0 m pc ls (.int x :: rest)) := by
  subst hk
  exact lv_lookup C.1 C.2.1 hdg hp ho ht kk
theorem sh_lkOut (C : sh_Cx p s m args meth c cc nL own G A) {dflt : Int} {ps : Array (Int × Int)} {len : Nat} {x : Int32} {tgt : Nat} (hdg : decode cc pc = .ok (.lookupswitch dflt ps, len)) (hp : (ps.toList.zip (ps.toList.drop 1)).all (fun (a, next) => a.1 < next.1) = true) (ho : Op.lookupswitch.offset ps.toList dflt x.toInt = dflt) (ht : (pc : Int) + dflt = (tgt : Int))
    (kk : W p l e R s m args below meth c H locs cells slots Q (F0 m tgt ls rest)) : W p l e R s m args below meth c H locs cells slots Q (F0 m pc ls (.int x :: rest)) := lv_lookup C.1 C.2.1 hdg hp ho ht kk
end ShSw
theorem sh_off2 {a b d x : Int} {u v : Int} (h1 : x ≠ a) (h2 : x ≠ b) : Op.lookupswitch.offset [(a, u), (b, v)] d x = d := by
  simp [Op.lookupswitch.offset, Ne.symm h1, Ne.symm h2]
/-! the enum's constants -/
section ShAct
variable {p : Program} {l : Launch} {e : Env} {R : Room} {s : State} {m : MethodId} {args : Array Value} {below : List Frame} {meth : Method} {c : Code} {H : Heap} {locs : List Loc} {cells slots : Nat} {Q : State → Prop}
variable {cc : ByteArray} {nL : Nat} {own : String} {G : sh_Ev} {A : Nat → Prop} {tb : List sh_Ds} {S : sh_St} {pc : Nat} {ls : Array Slot} {rest : List Value} {β : Type} {res : β}
theorem sh_En (C : sh_Cx p s m args meth c cc nL own G A) : va_En "SteadyShelf$Act" "LSteadyShelf$Act;" sh_acn sh_acF G.2.2.1 A s s.heap := C.2.2.2.2.2.2.2.2.1
theorem sh_acLt {j : Int32} (h : vp_in j 9) : j.toNatClampNeg < sh_acn.length := Nat.not_le.mp fun q => h (Or.inr q)
/-- a constant, by its number -/
theorem sh_gets (C : sh_Cx p s m args meth c cc nL own G A) (h : sh_Wx G tb A s H locs S) {idx k : Nat} {z : Int32} (hk : k < sh_acn.length) (hz : z.toNatClampNeg = k) (L : Cond.fieldLink own idx "SteadyShelf$Act" (sh_acn.getD k "") "LSteadyShelf$Act;" ∈ sh_ws) (hdg : decode cc pc = .ok (.getstatic idx, 3))
    (kk : W p l e R s m args below meth c H locs cells slots Q (F0 m (pc + 3) ls (.ref (G.2.2.1 z.toNatClampNeg) :: rest))) : W p l e R s m args below meth c H locs cells slots Q (F0 m pc ls rest) := by
  rw [hz] at kk
  exact va_gets C.1 C.2.1 ((sh_En C).1 k hk).1 h.2.2 C.2.2.2.1 (C.2.2.2.2.1 _ L) (fun _ h9 => h9) hdg kk
/-- a field of a constant -/
theorem sh_getF (C : sh_Cx p s m args meth c cc nL own G A) (h : sh_Wx G tb A s H locs S) {idx : Nat} {j : Int32} {k : Option β} (q : String × String × String × List Int32) (hq : q ∈ sh_acF) (hf : sh_g j 9 k = some res) (L : Cond.fieldLink own idx q.1 q.2.1 q.2.2.1 ∈ sh_ws) (hdg : decode cc pc = .ok (.getfield idx, 3))
    (kk : k = some res → W p l e R s m args below meth c H locs cells slots Q (F0 m (pc + 3) ls (.int (q.2.2.2.getD j.toNatClampNeg 0) :: rest))) : W p l e R s m args below meth c H locs cells slots Q (F0 m pc ls (.ref (G.2.2.1 j.toNatClampNeg) :: rest)) := by
  obtain ⟨hin, hf⟩ := sh_g_of hf
  exact va_getE C.1 C.2.1 (sh_En C) (sh_acLt hin) h.2.2 C.2.2.2.1 hq (C.2.2.2.2.1 _ L) (fun _ h9 => h9) hdg (kk hf)
/-- two constants are one just when their numbers are -/
theorem sh_acmp_ne (C : sh_Cx p s m args meth c cc nL own G A) {x y : Int32} {off : Int} {tgt : Nat} {k1 k2 : Option β} (hy : vp_in y 9) (hf : sh_g x 9 (if x = y then k2 else k1) = some res) (hdg : decode cc pc = .ok (.if_acmp .ne off, 3)) (ht : (pc : Int) + off = (tgt : Int))
    (kt : k1 = some res → W p l e R s m args below meth c H locs cells slots Q (F0 m tgt ls rest)) (kf : k2 = some res → W p l e R s m args below meth c H locs cells slots Q (F0 m (pc + 3) ls rest)) : W p l e R s m args below meth c H locs cells slots Q (F0 m pc ls (.ref (G.2.2.1 y.toNatClampNeg) :: .ref (G.2.2.1 x.toNatClampNeg) :: rest)) := by
  obtain ⟨hx, hf⟩ := sh_g_of hf
  have key : (some (G.2.2.1 x.toNatClampNeg) : Option Nat) = some (G.2.2.1 y.toNatClampNeg) ↔ x = y := by
    constructor
    · intro h
      have e1 := (sh_En C).2 _ _ (sh_acLt hx) (sh_acLt hy) (Option.some.inj h)
      obtain ⟨a, ha, rfl⟩ := vp_in_of hx (by decide)
      obtain ⟨b, hb, rfl⟩ := vp_in_of hy (by decide)
      rw [nI_clamp (by omega), nI_clamp (by omega)] at e1
      rw [e1]
    · intro h; rw [h]
  exact lv_acmp_ne (rx := some (G.2.2.1 x.toNatClampNeg)) (ry := some (G.2.2.1 y.toNatClampNeg)) C.1 C.2.1 hdg ht (fun h => kt ((sh_if hf).2 (fun q => (by simpa using h : ¬ (some (G.2.2.1 x.toNatClampNeg) : Option Nat) = some (G.2.2.1 y.toNatClampNeg)) (key.mpr q)))) (fun h => kf ((sh_if hf).1 (key.mp (by simpa using h))))
end ShAct
