/-! entries by hash, then by name -/
abbrev zE : Type := Nat × Int64 × Nat
def zgt (x e : zE) : Bool := decide (e.1 < x.1) || (decide (e.1 = x.1) && !decide (x.2.1 ≤ e.2.1))
/-- e goes in between what is ahead (the last one first) and what is behind -/
def zinr (e : zE) : List zE → List zE → List zE
  | [], B => e :: B
  | x :: A, B => if zgt x e = true then zinr e A (x :: B) else (x :: A).reverse ++ e :: B
def zins (P : List zE) (e : zE) : List zE := zinr e P.reverse []
def zpr (k : Nat) : Int32 := if k = 0 then -nI 1 else nI (k - 1)
theorem zpr_0 : zpr 0 = -nI 1 := rfl
theorem zpr_s (k : Nat) : zpr (k + 1) = nI k := by unfold zpr; rw [if_neg (by omega)]; rfl
theorem zpr_a (k : Nat) : nI k + -nI 1 = zpr k := by
  cases k with
  | zero => decide
  | succ k => rw [zpr_s, zq_pm (by omega)]; rfl
theorem zpr_m (k : Nat) : nI k - nI 1 = zpr k := by
  cases k with
  | zero => decide
  | succ k => rw [zpr_s, pk_sub (by omega)]; rfl
def zatX (S : sh_St) (k : Nat) (e : zE) : Prop := S.1 127 k = nI e.1 ∧ S.2 125 k = e.2.1 ∧ S.1 126 k = nI e.2.2
def zatM (S : sh_St) (k : Nat) (e : zE) : Prop := S.1 20 k = nI e.1 ∧ S.2 18 k = e.2.1 ∧ S.1 19 k = nI e.2.2
def zPX (S : sh_St) (P : List zE) : Prop := S.1 124 3 = nI P.length ∧ ∀ k e, P[k]? = some e → zatX S k e
def zPM (S : sh_St) (P : List zE) : Prop := S.1 0 36 = nI P.length ∧ ∀ k e, P[k]? = some e → zatM S k e
theorem zmid {α : Type} {A B : List α} {e y : α} {i : Nat} (h : (A ++ e :: B)[i]? = some y) : (i < A.length ∧ A[i]? = some y) ∨ (i = A.length ∧ y = e) ∨ (∃ j, i = A.length + 1 + j ∧ B[j]? = some y) := by
  by_cases h1 : i < A.length
  · left
    rw [List.getElem?_append_left h1] at h
    exact ⟨h1, h⟩
  · right
    rw [List.getElem?_append_right (by omega)] at h
    by_cases h2 : i = A.length
    · left
      subst h2
      rw [Nat.sub_self] at h
      simp at h
      exact ⟨rfl, h.symm⟩
    · right
      obtain ⟨j, hj⟩ : ∃ j, i - A.length = j + 1 := ⟨i - A.length - 1, by omega⟩
      rw [hj, List.getElem?_cons_succ] at h
      exact ⟨j, by omega, h⟩
theorem zq_nle {a b : Int64} (h : ¬ a ≤ b) : (a ≤ b) = False := eq_false h
theorem zx_isAhead {S : sh_St} {k hs : Nat} {nm : Int64} {x : zE} (nd : Nat) (hk : k < 240) (hx : zatX S k x) (h1 : x.1 < 4096) (h2 : hs < 4096) : fX6_isAhead S (nI hs) nm (nI k) = some (nI (if zgt x (hs, nm, nd) = true then 1 else 0), S) := by
  rw [fX6_isAhead]
  unfold zgt fX6_isAhead_34
  by_cases c1 : hs < x.1
  · rw [show (if (decide (hs < x.1) || (decide (hs = x.1) && !decide (x.2.1 ≤ nm))) = true then 1 else 0 : Nat) = 1 from if_pos (by simp [c1])]
    simp (disch := omega) only [zq_l2, pk_mul, nI_add, zq_t, zq_c, zq_bz, zq_bo, zq_g, zq_cl, zq_leT, zq_leF, zq_ltT, zq_ltF, zq_eqT, zq_eqF, zq_em, zq_me, zq_pm, zq_mm, zq_gm, pk_sub, zI_s, zI_k, zI_c, zI_2, zL_s, zL_k, zL_c, zL_1, if_true, if_false, eq_self, Nat.zero_add, Nat.add_zero, hx.1]
  · by_cases c2 : hs = x.1
    · by_cases c3 : x.2.1 ≤ nm
      · rw [show (if (decide (hs < x.1) || (decide (hs = x.1) && !decide (x.2.1 ≤ nm))) = true then 1 else 0 : Nat) = 0 from if_neg (by simp [c1, c3])]
        simp (disch := omega) only [zq_l2, pk_mul, nI_add, zq_t, zq_c, zq_bz, zq_bo, zq_g, zq_cl, zq_leT, zq_leF, zq_ltT, zq_ltF, zq_eqT, zq_eqF, zq_em, zq_me, zq_pm, zq_mm, zq_gm, pk_sub, zI_s, zI_k, zI_c, zI_2, zL_s, zL_k, zL_c, zL_1, if_true, if_false, eq_self, Nat.zero_add, Nat.add_zero, hx.1, hx.2.1, c3]
      · rw [show (if (decide (hs < x.1) || (decide (hs = x.1) && !decide (x.2.1 ≤ nm))) = true then 1 else 0 : Nat) = 1 from if_pos (by rw [decide_eq_true c2, decide_eq_false c3]; simp)]
        simp (disch := omega) only [zq_l2, pk_mul, nI_add, zq_t, zq_c, zq_bz, zq_bo, zq_g, zq_cl, zq_leT, zq_leF, zq_ltT, zq_ltF, zq_eqT, zq_eqF, zq_em, zq_me, zq_pm, zq_mm, zq_gm, pk_sub, zI_s, zI_k, zI_c, zI_2, zL_s, zL_k, zL_c, zL_1, if_true, if_false, eq_self, Nat.zero_add, Nat.add_zero, hx.1, hx.2.1, c3]
    · rw [show (if (decide (hs < x.1) || (decide (hs = x.1) && !decide (x.2.1 ≤ nm))) = true then 1 else 0 : Nat) = 0 from if_neg (by simp [c1, c2])]
      simp (disch := omega) only [zq_l2, pk_mul, nI_add, zq_t, zq_c, zq_bz, zq_bo, zq_g, zq_cl, zq_leT, zq_leF, zq_ltT, zq_ltF, zq_eqT, zq_eqF, zq_em, zq_me, zq_pm, zq_mm, zq_gm, pk_sub, zI_s, zI_k, zI_c, zI_2, zL_s, zL_k, zL_c, zL_1, if_true, if_false, eq_self, Nat.zero_add, Nat.add_zero, hx.1]
theorem zx_add_l (hs : Nat) (nm : Int64) (nd : Nat) (h2 : hs < 4096) : ∀ (m : Nat) (A B : List zE) (S : sh_St), A.length < m → A.length + B.length < 240 → (∀ x, x ∈ A → x.1 < 4096) → S.1 124 3 = nI (A.length + B.length) →
    (∀ i x, A.reverse[i]? = some x → zatX S i x) → (∀ i x, B[i]? = some x → zatX S (A.length + 1 + i) x) →
    ∃ S', fX6_add_25 m S nm (nI nd) (nI hs) (nI A.length) (zpr A.length) = some ((), S') ∧ zPX S' (zinr (hs, nm, nd) A B) ∧ zFr 124 127 S S' := by
  intro m
  induction m with
  | zero => intro A B S h1; omega
  | succ m ih =>
    intro A B S h1 h3 h4 h5 h6 h7
    have fin : ∀ C : List zE, C.length = A.length → (∀ i x, C[i]? = some x → zatX S i x) → zPX (sh_I (sh_I (sh_I (sh_L S 125 A.length nm) 126 A.length (nI nd)) 127 A.length (nI hs)) 124 3 (nI (A.length + B.length + 1))) (C ++ (hs, nm, nd) :: B) := by
      intro C hC h6
      refine ⟨?_, ?_⟩
      · rw [zI_s, List.length_append, List.length_cons, hC]; rfl
      · intro k e he
        unfold zatX
        rcases zmid he with ⟨hk, hk'⟩ | ⟨hk, hk'⟩ | ⟨j, hk, hk'⟩
        · obtain ⟨a1, a2, a3⟩ := h6 k e hk'
          have hne : k ≠ A.length := by omega
          simp (disch := omega) only [zq_l2, pk_mul, nI_add, zq_t, zq_c, zq_bz, zq_bo, zq_g, zq_cl, zq_leT, zq_leF, zq_ltT, zq_ltF, zq_eqT, zq_eqF, zq_em, zq_me, zq_pm, zq_mm, zq_gm, pk_sub, zI_s, zI_k, zI_c, zI_2, zL_s, zL_k, zL_c, zL_1, if_true, if_false, eq_self, Nat.zero_add, Nat.add_zero, a1, a2, a3]
          exact ⟨trivial, trivial, trivial⟩
        · subst hk'
          rw [hC] at hk
          subst hk
          simp (disch := omega) only [zq_l2, pk_mul, nI_add, zq_t, zq_c, zq_bz, zq_bo, zq_g, zq_cl, zq_leT, zq_leF, zq_ltT, zq_ltF, zq_eqT, zq_eqF, zq_em, zq_me, zq_pm, zq_mm, zq_gm, pk_sub, zI_s, zI_k, zI_c, zI_2, zL_s, zL_k, zL_c, zL_1, if_true, if_false, eq_self, Nat.zero_add, Nat.add_zero]
          exact ⟨trivial, trivial, trivial⟩
        · rw [hC] at hk
          subst hk
          obtain ⟨a1, a2, a3⟩ := h7 j e hk'
          simp (disch := omega) only [zq_l2, pk_mul, nI_add, zq_t, zq_c, zq_bz, zq_bo, zq_g, zq_cl, zq_leT, zq_leF, zq_ltT, zq_ltF, zq_eqT, zq_eqF, zq_em, zq_me, zq_pm, zq_mm, zq_gm, pk_sub, zI_s, zI_k, zI_c, zI_2, zL_s, zL_k, zL_c, zL_1, if_true, if_false, eq_self, Nat.zero_add, Nat.add_zero, a1, a2, a3]
          exact ⟨trivial, trivial, trivial⟩
    have hfr : zFr 124 127 S (sh_I (sh_I (sh_I (sh_L S 125 A.length nm) 126 A.length (nI nd)) 127 A.length (nI hs)) 124 3 (nI (A.length + B.length + 1))) := zFr_tr (zFr_tr (zFr_tr (zFr_L S _ _ (by omega) (by omega)) (zFr_I _ _ _ (by omega) (by omega))) (zFr_I _ _ _ (by omega) (by omega))) (zFr_I _ _ _ (by omega) (by omega))
    rw [fX6_add_25]
    cases A with
    | nil =>
      refine ⟨_, ?_, fin [] rfl (fun i x h => by simp at h), hfr⟩
      simp (disch := omega) only [zq_l2, pk_mul, nI_add, zq_t, zq_c, zq_bz, zq_bo, zq_g, zq_cl, zq_leT, zq_leF, zq_ltT, zq_ltF, zq_eqT, zq_eqF, zq_em, zq_me, zq_pm, zq_mm, zq_gm, pk_sub, zI_s, zI_k, zI_c, zI_2, zL_s, zL_k, zL_c, zL_1, if_true, if_false, eq_self, Nat.zero_add, Nat.add_zero, List.length_nil, zpr_0, fX6_add_100]
      rw [List.length_nil, Nat.zero_add] at h5
      simp (disch := omega) only [zq_l2, pk_mul, nI_add, zq_t, zq_c, zq_bz, zq_bo, zq_g, zq_cl, zq_leT, zq_leF, zq_ltT, zq_ltF, zq_eqT, zq_eqF, zq_em, zq_me, zq_pm, zq_mm, zq_gm, pk_sub, zI_s, zI_k, zI_c, zI_2, zL_s, zL_k, zL_c, zL_1, if_true, if_false, eq_self, Nat.zero_add, Nat.add_zero, h5]
    | cons x A =>
      have hlen : (x :: A).length = A.length + 1 := List.length_cons
      rw [hlen] at h1 h3 h5 h7 fin hfr
      have hx : zatX S A.length x := h6 A.length x (by rw [List.reverse_cons, List.getElem?_append_right (by rw [List.length_reverse]; omega), List.length_reverse, Nat.sub_self]; rfl)
      have hx1 := h4 x (List.mem_cons_self)
      have hah := zx_isAhead nd (show A.length < 240 by omega) hx hx1 h2 (nm := nm)
      unfold zinr
      rw [hlen, zpr_s]
      by_cases c : zgt x (hs, nm, nd) = true
      · rw [if_pos c] at hah ⊢
        have hf2 : zFr 124 127 S (sh_I (sh_I (sh_L S 125 (A.length + 1) x.2.1) 126 (A.length + 1) (nI x.2.2)) 127 (A.length + 1) (nI x.1)) := zFr_tr (zFr_tr (zFr_L S _ _ (by omega) (by omega)) (zFr_I _ _ _ (by omega) (by omega))) (zFr_I _ _ _ (by omega) (by omega))
        obtain ⟨S', f1, f2, f3⟩ := ih A (x :: B) (sh_I (sh_I (sh_L S 125 (A.length + 1) x.2.1) 126 (A.length + 1) (nI x.2.2)) 127 (A.length + 1) (nI x.1)) (by omega) (by rw [List.length_cons]; omega) (fun y hy => h4 y (List.mem_cons_of_mem x hy))
          (by simp (disch := omega) only [zq_l2, pk_mul, nI_add, zq_t, zq_c, zq_bz, zq_bo, zq_g, zq_cl, zq_leT, zq_leF, zq_ltT, zq_ltF, zq_eqT, zq_eqF, zq_em, zq_me, zq_pm, zq_mm, zq_gm, pk_sub, zI_s, zI_k, zI_c, zI_2, zL_s, zL_k, zL_c, zL_1, if_true, if_false, eq_self, Nat.zero_add, Nat.add_zero, h5]; rw [List.length_cons]; simp (disch := omega) only [zq_l2, pk_mul, nI_add, zq_t, zq_c, zq_bz, zq_bo, zq_g, zq_cl, zq_leT, zq_leF, zq_ltT, zq_ltF, zq_eqT, zq_eqF, zq_em, zq_me, zq_pm, zq_mm, zq_gm, pk_sub, zI_s, zI_k, zI_c, zI_2, zL_s, zL_k, zL_c, zL_1, if_true, if_false, eq_self, Nat.zero_add, Nat.add_zero])
          (by intro i y hy
              have hi : i < A.length := by
                have := (List.getElem?_eq_some_iff.mp hy).1
                rw [List.length_reverse] at this
                exact this
              obtain ⟨a1, a2, a3⟩ := h6 i y (by rw [List.reverse_cons, List.getElem?_append_left (by rw [List.length_reverse]; exact hi)]; exact hy)
              unfold zatX
              simp (disch := omega) only [zq_l2, pk_mul, nI_add, zq_t, zq_c, zq_bz, zq_bo, zq_g, zq_cl, zq_leT, zq_leF, zq_ltT, zq_ltF, zq_eqT, zq_eqF, zq_em, zq_me, zq_pm, zq_mm, zq_gm, pk_sub, zI_s, zI_k, zI_c, zI_2, zL_s, zL_k, zL_c, zL_1, if_true, if_false, eq_self, Nat.zero_add, Nat.add_zero, a1, a2, a3]
              exact ⟨trivial, trivial, trivial⟩)
          (by intro i y hy
              unfold zatX
              cases i with
              | zero =>
                rw [List.getElem?_cons_zero] at hy
                have hy' := Option.some.inj hy
                subst hy'
                simp (disch := omega) only [zq_l2, pk_mul, nI_add, zq_t, zq_c, zq_bz, zq_bo, zq_g, zq_cl, zq_leT, zq_leF, zq_ltT, zq_ltF, zq_eqT, zq_eqF, zq_em, zq_me, zq_pm, zq_mm, zq_gm, pk_sub, zI_s, zI_k, zI_c, zI_2, zL_s, zL_k, zL_c, zL_1, if_true, if_false, eq_self, Nat.zero_add, Nat.add_zero]
                exact ⟨trivial, trivial, trivial⟩
              | succ i =>
                rw [List.getElem?_cons_succ] at hy
                obtain ⟨a1, a2, a3⟩ := h7 i y hy
                rw [show A.length + 1 + 1 + i = A.length + 1 + (i + 1) by omega] at a1 a2 a3
                simp (disch := omega) only [zq_l2, pk_mul, nI_add, zq_t, zq_c, zq_bz, zq_bo, zq_g, zq_cl, zq_leT, zq_leF, zq_ltT, zq_ltF, zq_eqT, zq_eqF, zq_em, zq_me, zq_pm, zq_mm, zq_gm, pk_sub, zI_s, zI_k, zI_c, zI_2, zL_s, zL_k, zL_c, zL_1, if_true, if_false, eq_self, Nat.zero_add, Nat.add_zero, a1, a2, a3]
                exact ⟨trivial, trivial, trivial⟩)
        refine ⟨S', ?_, f2, zFr_tr hf2 f3⟩
        simp (disch := omega) only [zq_l2, pk_mul, nI_add, zq_t, zq_c, zq_bz, zq_bo, zq_g, zq_cl, zq_leT, zq_leF, zq_ltT, zq_ltF, zq_eqT, zq_eqF, zq_em, zq_me, zq_pm, zq_mm, zq_gm, pk_sub, zI_s, zI_k, zI_c, zI_2, zL_s, zL_k, zL_c, zL_1, if_true, if_false, eq_self, Nat.zero_add, Nat.add_zero, hah, hx.1, hx.2.1, hx.2.2]
        rw [zpr_a]
        exact f1
      · rw [if_neg c] at hah ⊢
        refine ⟨_, ?_, fin (x :: A).reverse (by rw [List.length_reverse]; rfl) h6, hfr⟩
        simp (disch := omega) only [zq_l2, pk_mul, nI_add, zq_t, zq_c, zq_bz, zq_bo, zq_g, zq_cl, zq_leT, zq_leF, zq_ltT, zq_ltF, zq_eqT, zq_eqF, zq_em, zq_me, zq_pm, zq_mm, zq_gm, pk_sub, zI_s, zI_k, zI_c, zI_2, zL_s, zL_k, zL_c, zL_1, if_true, if_false, eq_self, Nat.zero_add, Nat.add_zero, hah, fX6_add_100, h5]
theorem zx_add {S : sh_St} {P : List zE} (hP : zPX S P) (h4 : ∀ x, x ∈ P → x.1 < 4096) (hl : P.length < 240) {hs : Nat} (h2 : hs < 4096) (nm : Int64) (nd : Nat) : ∃ S', fX6_add S nm (nI nd) (nI hs) = some ((), S') ∧ zPX S' (zins P (hs, nm, nd)) ∧ zFr 124 127 S S' := by
  obtain ⟨S', f1, f2, f3⟩ := zx_add_l hs nm nd h2 sh_FU P.reverse [] S (by rw [List.length_reverse]; have : sh_FU = 100000 := rfl; omega) (by rw [List.length_reverse, List.length_nil]; omega) (fun x hx => h4 x (List.mem_reverse.mp hx)) (by rw [List.length_reverse]; exact hP.1) (by rw [List.reverse_reverse]; exact hP.2) (fun i x h => by simp at h)
  refine ⟨S', ?_, f2, f3⟩
  rw [List.length_reverse] at f1
  rw [fX6_add]
  simp (disch := omega) only [zq_l2, pk_mul, nI_add, zq_t, zq_c, zq_bz, zq_bo, zq_g, zq_cl, zq_leT, zq_leF, zq_ltT, zq_ltF, zq_eqT, zq_eqF, zq_em, zq_me, zq_pm, zq_mm, zq_gm, pk_sub, zI_s, zI_k, zI_c, zI_2, zL_s, zL_k, zL_c, zL_1, if_true, if_false, eq_self, Nat.zero_add, Nat.add_zero, hP.1, zpr_m]
  exact f1
/-! the same by the reference -/
def zFs (S S' : sh_St) : Prop := (∀ k, k ≠ 36 → S'.1 0 k = S.1 0 k) ∧ S'.2 0 = S.2 0 ∧ (∀ i, i ≠ 0 → (i < 18 ∨ 20 < i) → S'.1 i = S.1 i ∧ S'.2 i = S.2 i)
theorem zFs_rf (S : sh_St) : zFs S S := ⟨fun _ _ => rfl, rfl, fun _ _ _ => ⟨rfl, rfl⟩⟩
theorem zFs_tr {S S1 S2 : sh_St} (h1 : zFs S S1) (h2 : zFs S1 S2) : zFs S S2 := ⟨fun k hk => (h2.1 k hk).trans (h1.1 k hk), h2.2.1.trans h1.2.1, fun i h0 hi => ⟨(h2.2.2 i h0 hi).1.trans (h1.2.2 i h0 hi).1, (h2.2.2 i h0 hi).2.trans (h1.2.2 i h0 hi).2⟩⟩
theorem zFs_0 (S : sh_St) (v : Int32) : zFs S (sh_I S 0 36 v) := ⟨fun j hj => zI_k S 0 36 v (by omega), rfl, fun i h0 _ => sh_I_ne S 0 36 v i h0⟩
theorem zFs_I (S : sh_St) {c : Nat} (k : Nat) (v : Int32) (h1 : 18 ≤ c) (h2 : c ≤ 20) : zFs S (sh_I S c k v) := ⟨fun j _ => by rw [zI_c S c k v (by omega)], rfl, fun i _ hi => sh_I_ne S c k v i (by omega)⟩
theorem zFs_L (S : sh_St) {c : Nat} (k : Nat) (v : Int64) (h1 : 18 ≤ c) (h2 : c ≤ 20) : zFs S (sh_L S c k v) := ⟨fun j _ => rfl, zL_c S c k v (by omega), fun i _ hi => sh_L_ne S c k v i (by omega)⟩
theorem zFs_m {S S' : sh_St} (h : zFs S S') : zFm S S' := ⟨fun k hk => h.1 k (by omega), h.2.1, fun i h0 hi => h.2.2 i h0 (by omega)⟩
theorem zVN_fs {S S' : sh_St} {T : zT} (h : zFs S S') (hv : zVN S T) : zVN S' T := zVN_fm (zFs_m h) hv
theorem zm_sorts_l (hs : Nat) (nm : Int64) (nd : Nat) (h2 : hs < 4096) : ∀ (m : Nat) (A B : List zE) (S : sh_St), A.length < m → A.length + B.length < 240 → (∀ x, x ∈ A → x.1 < 4096) → S.1 0 36 = nI (A.length + B.length) →
    (∀ i x, A.reverse[i]? = some x → zatM S i x) → (∀ i x, B[i]? = some x → zatM S (A.length + 1 + i) x) →
    ∃ S', fX13_sorts_6 m S nm (nI nd) (nI hs) (nI A.length) = some ((), S') ∧ zPM S' (zinr (hs, nm, nd) A B) ∧ zFs S S' := by
  intro m
  induction m with
  | zero => intro A B S h1; omega
  | succ m ih =>
    intro A B S h1 h3 h4 h5 h6 h7
    have fin : ∀ C : List zE, C.length = A.length → (∀ i x, C[i]? = some x → zatM S i x) → zPM (sh_I (sh_I (sh_L (sh_I S 20 A.length (nI hs)) 18 A.length nm) 19 A.length (nI nd)) 0 36 (nI (A.length + B.length + 1))) (C ++ (hs, nm, nd) :: B) := by
      intro C hC h6
      refine ⟨?_, ?_⟩
      · rw [zI_s, List.length_append, List.length_cons, hC]; rfl
      · intro k e he
        unfold zatM
        rcases zmid he with ⟨hk, hk'⟩ | ⟨hk, hk'⟩ | ⟨j, hk, hk'⟩
        · obtain ⟨a1, a2, a3⟩ := h6 k e hk'
          have hne : k ≠ A.length := by omega
          simp (disch := omega) only [zq_l2, pk_mul, nI_add, zq_t, zq_c, zq_bz, zq_bo, zq_g, zq_cl, zq_leT, zq_leF, zq_ltT, zq_ltF, zq_eqT, zq_eqF, zq_em, zq_me, zq_pm, zq_mm, zq_gm, pk_sub, zI_s, zI_k, zI_c, zI_2, zL_s, zL_k, zL_c, zL_1, if_true, if_false, eq_self, Nat.zero_add, Nat.add_zero, a1, a2, a3]
          exact ⟨trivial, trivial, trivial⟩
        · subst hk'
          rw [hC] at hk
          subst hk
          simp (disch := omega) only [zq_l2, pk_mul, nI_add, zq_t, zq_c, zq_bz, zq_bo, zq_g, zq_cl, zq_leT, zq_leF, zq_ltT, zq_ltF, zq_eqT, zq_eqF, zq_em, zq_me, zq_pm, zq_mm, zq_gm, pk_sub, zI_s, zI_k, zI_c, zI_2, zL_s, zL_k, zL_c, zL_1, if_true, if_false, eq_self, Nat.zero_add, Nat.add_zero]
          exact ⟨trivial, trivial, trivial⟩
        · rw [hC] at hk
          subst hk
          obtain ⟨a1, a2, a3⟩ := h7 j e hk'
          simp (disch := omega) only [zq_l2, pk_mul, nI_add, zq_t, zq_c, zq_bz, zq_bo, zq_g, zq_cl, zq_leT, zq_leF, zq_ltT, zq_ltF, zq_eqT, zq_eqF, zq_em, zq_me, zq_pm, zq_mm, zq_gm, pk_sub, zI_s, zI_k, zI_c, zI_2, zL_s, zL_k, zL_c, zL_1, if_true, if_false, eq_self, Nat.zero_add, Nat.add_zero, a1, a2, a3]
          exact ⟨trivial, trivial, trivial⟩
    have hfr : zFs S (sh_I (sh_I (sh_L (sh_I S 20 A.length (nI hs)) 18 A.length nm) 19 A.length (nI nd)) 0 36 (nI (A.length + B.length + 1))) := zFs_tr (zFs_tr (zFs_tr (zFs_I S _ _ (by omega) (by omega)) (zFs_L _ _ _ (by omega) (by omega))) (zFs_I _ _ _ (by omega) (by omega))) (zFs_0 _ _)
    rw [fX13_sorts_6]
    cases A with
    | nil =>
      refine ⟨_, ?_, fin [] rfl (fun i x h => by simp at h), hfr⟩
      rw [List.length_nil, Nat.zero_add] at h5
      simp (disch := omega) only [zq_l2, pk_mul, nI_add, zq_t, zq_c, zq_bz, zq_bo, zq_g, zq_cl, zq_leT, zq_leF, zq_ltT, zq_ltF, zq_eqT, zq_eqF, zq_em, zq_me, zq_pm, zq_mm, zq_gm, pk_sub, zI_s, zI_k, zI_c, zI_2, zL_s, zL_k, zL_c, zL_1, if_true, if_false, eq_self, Nat.zero_add, Nat.add_zero, List.length_nil, fX13_sorts_107, h5]
    | cons x A =>
      have hlen : (x :: A).length = A.length + 1 := List.length_cons
      rw [hlen] at h1 h3 h5 h7 fin hfr
      have hx : zatM S A.length x := h6 A.length x (by rw [List.reverse_cons, List.getElem?_append_right (by rw [List.length_reverse]; omega), List.length_reverse, Nat.sub_self]; rfl)
      have hx1 := h4 x (List.mem_cons_self)
      have ep : A.length + 1 - 1 = A.length := by omega
      unfold zinr
      rw [hlen]
      by_cases c : zgt x (hs, nm, nd) = true
      · rw [if_pos c]
        have hf2 : zFs S (sh_I (sh_L (sh_I S 20 (A.length + 1) (nI x.1)) 18 (A.length + 1) x.2.1) 19 (A.length + 1) (nI x.2.2)) := zFs_tr (zFs_tr (zFs_I S _ _ (by omega) (by omega)) (zFs_L _ _ _ (by omega) (by omega))) (zFs_I _ _ _ (by omega) (by omega))
        obtain ⟨S', f1, f2, f3⟩ := ih A (x :: B) (sh_I (sh_L (sh_I S 20 (A.length + 1) (nI x.1)) 18 (A.length + 1) x.2.1) 19 (A.length + 1) (nI x.2.2)) (by omega) (by rw [List.length_cons]; omega) (fun y hy => h4 y (List.mem_cons_of_mem x hy))
          (by simp (disch := omega) only [zq_l2, pk_mul, nI_add, zq_t, zq_c, zq_bz, zq_bo, zq_g, zq_cl, zq_leT, zq_leF, zq_ltT, zq_ltF, zq_eqT, zq_eqF, zq_em, zq_me, zq_pm, zq_mm, zq_gm, pk_sub, zI_s, zI_k, zI_c, zI_2, zL_s, zL_k, zL_c, zL_1, if_true, if_false, eq_self, Nat.zero_add, Nat.add_zero, h5]; rw [List.length_cons]; simp (disch := omega) only [zq_l2, pk_mul, nI_add, zq_t, zq_c, zq_bz, zq_bo, zq_g, zq_cl, zq_leT, zq_leF, zq_ltT, zq_ltF, zq_eqT, zq_eqF, zq_em, zq_me, zq_pm, zq_mm, zq_gm, pk_sub, zI_s, zI_k, zI_c, zI_2, zL_s, zL_k, zL_c, zL_1, if_true, if_false, eq_self, Nat.zero_add, Nat.add_zero])
          (by intro i y hy
              have hi : i < A.length := by
                have := (List.getElem?_eq_some_iff.mp hy).1
                rw [List.length_reverse] at this
                exact this
              obtain ⟨a1, a2, a3⟩ := h6 i y (by rw [List.reverse_cons, List.getElem?_append_left (by rw [List.length_reverse]; exact hi)]; exact hy)
              unfold zatM
              simp (disch := omega) only [zq_l2, pk_mul, nI_add, zq_t, zq_c, zq_bz, zq_bo, zq_g, zq_cl, zq_leT, zq_leF, zq_ltT, zq_ltF, zq_eqT, zq_eqF, zq_em, zq_me, zq_pm, zq_mm, zq_gm, pk_sub, zI_s, zI_k, zI_c, zI_2, zL_s, zL_k, zL_c, zL_1, if_true, if_false, eq_self, Nat.zero_add, Nat.add_zero, a1, a2, a3]
              exact ⟨trivial, trivial, trivial⟩)
          (by intro i y hy
              unfold zatM
              cases i with
              | zero =>
                rw [List.getElem?_cons_zero] at hy
                have hy' := Option.some.inj hy
                subst hy'
                simp (disch := omega) only [zq_l2, pk_mul, nI_add, zq_t, zq_c, zq_bz, zq_bo, zq_g, zq_cl, zq_leT, zq_leF, zq_ltT, zq_ltF, zq_eqT, zq_eqF, zq_em, zq_me, zq_pm, zq_mm, zq_gm, pk_sub, zI_s, zI_k, zI_c, zI_2, zL_s, zL_k, zL_c, zL_1, if_true, if_false, eq_self, Nat.zero_add, Nat.add_zero]
                exact ⟨trivial, trivial, trivial⟩
              | succ i =>
                rw [List.getElem?_cons_succ] at hy
                obtain ⟨a1, a2, a3⟩ := h7 i y hy
                rw [show A.length + 1 + 1 + i = A.length + 1 + (i + 1) by omega] at a1 a2 a3
                simp (disch := omega) only [zq_l2, pk_mul, nI_add, zq_t, zq_c, zq_bz, zq_bo, zq_g, zq_cl, zq_leT, zq_leF, zq_ltT, zq_ltF, zq_eqT, zq_eqF, zq_em, zq_me, zq_pm, zq_mm, zq_gm, pk_sub, zI_s, zI_k, zI_c, zI_2, zL_s, zL_k, zL_c, zL_1, if_true, if_false, eq_self, Nat.zero_add, Nat.add_zero, a1, a2, a3]
                exact ⟨trivial, trivial, trivial⟩)
        refine ⟨S', ?_, f2, zFs_tr hf2 f3⟩
        by_cases c1 : hs < x.1
        · simp (disch := omega) only [zq_l2, pk_mul, nI_add, zq_t, zq_c, zq_bz, zq_bo, zq_g, zq_cl, zq_leT, zq_leF, zq_ltT, zq_ltF, zq_eqT, zq_eqF, zq_em, zq_me, zq_pm, zq_mm, zq_gm, pk_sub, zI_s, zI_k, zI_c, zI_2, zL_s, zL_k, zL_c, zL_1, if_true, if_false, eq_self, Nat.zero_add, Nat.add_zero, ep, hx.1, hx.2.1, hx.2.2, fX13_sorts_53]
          exact f1
        · unfold zgt at c
          simp [c1] at c
          have c2 : hs = x.1 := c.1
          have c3 : ¬ x.2.1 ≤ nm := by
            intro q
            have := c.2
            first
              | exact this q
              | exact absurd q (by simpa using this)
          simp (disch := omega) only [zq_l2, pk_mul, nI_add, zq_t, zq_c, zq_bz, zq_bo, zq_g, zq_cl, zq_leT, zq_leF, zq_ltT, zq_ltF, zq_eqT, zq_eqF, zq_em, zq_me, zq_pm, zq_mm, zq_gm, pk_sub, zI_s, zI_k, zI_c, zI_2, zL_s, zL_k, zL_c, zL_1, if_true, if_false, eq_self, Nat.zero_add, Nat.add_zero, ep, hx.1, hx.2.1, hx.2.2, c3, fX13_sorts_53]
          exact f1
      · rw [if_neg c]
        refine ⟨_, ?_, fin (x :: A).reverse (by rw [List.length_reverse]; rfl) h6, hfr⟩
        have c1 : ¬ hs < x.1 := fun q => c (by unfold zgt; simp [q])
        by_cases c2 : hs = x.1
        · have c3 : x.2.1 ≤ nm := Decidable.byContradiction (fun q => c (by unfold zgt; rw [decide_eq_true c2, decide_eq_false q]; simp))
          simp (disch := omega) only [zq_l2, pk_mul, nI_add, zq_t, zq_c, zq_bz, zq_bo, zq_g, zq_cl, zq_leT, zq_leF, zq_ltT, zq_ltF, zq_eqT, zq_eqF, zq_em, zq_me, zq_pm, zq_mm, zq_gm, pk_sub, zI_s, zI_k, zI_c, zI_2, zL_s, zL_k, zL_c, zL_1, if_true, if_false, eq_self, Nat.zero_add, Nat.add_zero, ep, hx.1, hx.2.1, hx.2.2, c3, fX13_sorts_107, h5]
        · simp (disch := omega) only [zq_l2, pk_mul, nI_add, zq_t, zq_c, zq_bz, zq_bo, zq_g, zq_cl, zq_leT, zq_leF, zq_ltT, zq_ltF, zq_eqT, zq_eqF, zq_em, zq_me, zq_pm, zq_mm, zq_gm, pk_sub, zI_s, zI_k, zI_c, zI_2, zL_s, zL_k, zL_c, zL_1, if_true, if_false, eq_self, Nat.zero_add, Nat.add_zero, ep, hx.1, hx.2.1, hx.2.2, fX13_sorts_107, h5]
theorem zm_sorts {S : sh_St} {P : List zE} (hP : zPM S P) (h4 : ∀ x, x ∈ P → x.1 < 4096) (hl : P.length < 240) {hs : Nat} (h2 : hs < 4096) (nm : Int64) (nd : Nat) : ∃ S', fX13_sorts S nm (nI nd) (nI hs) = some ((), S') ∧ zPM S' (zins P (hs, nm, nd)) ∧ zFs S S' := by
  obtain ⟨S', f1, f2, f3⟩ := zm_sorts_l hs nm nd h2 sh_FU P.reverse [] S (by rw [List.length_reverse]; have : sh_FU = 100000 := rfl; omega) (by rw [List.length_reverse, List.length_nil]; omega) (fun x hx => h4 x (List.mem_reverse.mp hx)) (by rw [List.length_reverse]; exact hP.1) (by rw [List.reverse_reverse]; exact hP.2) (fun i x h => by simp at h)
  refine ⟨S', ?_, f2, f3⟩
  rw [List.length_reverse] at f1
  rw [fX13_sorts, hP.1, zq_t]
  exact f1
