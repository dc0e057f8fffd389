/-! a world that grows at its end -/
theorem sh_inL {w0 w1 : va_W} {k : Nat} {q : Nat × va_E} (h : w0[k]? = some q) : (w0 ++ w1)[k]? = some q := by
  rw [List.getElem?_append_left (List.getElem?_eq_some_iff.mp h).1]
  exact h
theorem sh_inR {w0 w1 : va_W} {k : Nat} {q : Nat × va_E} (h : w1[k]? = some q) : (w0 ++ w1)[w0.length + k]? = some q := by
  rw [List.getElem?_append_right (by omega), Nat.add_sub_cancel_left]
  exact h
theorem sh_PL {D : va_G} {cl : List vw_C} {w0 w1 : va_W} {H : Heap} (h : va_P D cl (w0 ++ w1) H) : va_P D cl w0 H := fun k q hk => h k q (sh_inL hk)
theorem sh_PR {D : va_G} {cl : List vw_C} {w0 w1 : va_W} {H : Heap} (h : va_P D cl (w0 ++ w1) H) : va_P D cl w1 H := fun k q hk => h (w0.length + k) q (sh_inR hk)
theorem sh_DL {A : Nat → Prop} {w0 w1 : va_W} (h : va_D A (w0 ++ w1)) : va_D A w0 := ⟨fun i j p q hi hj e => h.1 i j p q (sh_inL hi) (sh_inL hj) e, fun k q hk => h.2 k q (sh_inL hk)⟩
theorem sh_DR {A : Nat → Prop} {w0 w1 : va_W} (h : va_D A (w0 ++ w1)) : va_D A w1 := ⟨fun i j p q hi hj e => by
  have := h.1 _ _ p q (sh_inR hi) (sh_inR hj) e
  omega, fun k q hk => h.2 _ q (sh_inR hk)⟩
theorem sh_freeR {A : Nat → Prop} {w0 wc : va_W} {s : State} {H : Heap} {locs : List Loc} (hD : va_D A (w0 ++ wc)) (hS : va_S A s.heap H locs) (hA : ∀ q, s.heap.size ≤ q → A q) : ∀ q, va_A wc H.size q → A q := fun q hq => by
  rcases hq with ⟨k, e, hk⟩ | hq
  · exact hD.2 _ (q, e) (sh_inR hk)
  · exact hA q (Nat.le_trans hS.1 hq)
/-- behind a call that had the last cells: the others are as they were -/
theorem sh_joinA {A0 : Nat → Prop} {D : va_G} {cl : List vw_C} {w0 wc w1 : va_W} {H H1 : Heap} (hP : va_P D cl (w0 ++ wc) H) (hD : va_D A0 (w0 ++ wc)) (hk : ∀ q : Nat, q < H.size → ¬ va_A wc H.size q → H1[q]? = H[q]?) (hF : ∀ q, va_A wc H.size q → A0 q) (hP1 : va_P D cl w1 H1) (hD1 : va_D (va_A wc H.size) w1) : va_P D cl (w0 ++ w1) H1 ∧ va_D A0 (w0 ++ w1) := by
  have hno : ∀ (k : Nat) (q : Nat × va_E), w0[k]? = some q → ¬ va_A wc H.size q.1 := fun k q h0 w => by
    have hlt := (List.getElem?_eq_some_iff.mp h0).1
    rcases w with ⟨j, e, hj⟩ | w
    · have := hD.1 _ _ _ _ (sh_inL h0) (sh_inR hj) rfl
      omega
    · have := (hP k q (sh_inL h0)).lt
      omega
  refine ⟨((sh_PL hP).kept (fun k q h0 => hk q.1 ((hP k q (sh_inL h0)).lt) (hno k q h0))).app hP1, (sh_DL hD).app (hD1.weaken (fun _ q _ h => hF q.1 h)) (fun i j p q hi hj e => ?_)⟩
  exact hno i p hi (by rw [e]; exact hD1.2 j q hj)
