/-! the reference's frame -/
def zFm (S S' : sh_St) : Prop := (∀ k, k < 27 → S'.1 0 k = S.1 0 k) ∧ S'.2 0 = S.2 0 ∧ (∀ i, i ≠ 0 → (i < 15 ∨ 20 < i) → S'.1 i = S.1 i ∧ S'.2 i = S.2 i)
theorem zFm_rf (S : sh_St) : zFm S S := ⟨fun _ _ => rfl, rfl, fun _ _ _ => ⟨rfl, rfl⟩⟩
theorem zFm_tr {S S1 S2 : sh_St} (h1 : zFm S S1) (h2 : zFm S1 S2) : zFm S S2 := ⟨fun k hk => (h2.1 k hk).trans (h1.1 k hk), h2.2.1.trans h1.2.1, fun i h0 hi => ⟨(h2.2.2 i h0 hi).1.trans (h1.2.2 i h0 hi).1, (h2.2.2 i h0 hi).2.trans (h1.2.2 i h0 hi).2⟩⟩
theorem zFm_0 (S : sh_St) {k : Nat} (v : Int32) (hk : 27 ≤ k) : zFm S (sh_I S 0 k v) := ⟨fun j hj => zI_k S 0 k v (by omega), rfl, fun i h0 _ => sh_I_ne S 0 k v i h0⟩
theorem zFm_I (S : sh_St) {c : Nat} (k : Nat) (v : Int32) (h1 : 15 ≤ c) (h2 : c ≤ 20) : zFm S (sh_I S c k v) := ⟨fun j _ => by rw [zI_c S c k v (by omega)], rfl, fun i _ hi => sh_I_ne S c k v i (by omega)⟩
theorem zFm_L (S : sh_St) {c : Nat} (k : Nat) (v : Int64) (h1 : 15 ≤ c) (h2 : c ≤ 20) : zFm S (sh_L S c k v) := ⟨fun j _ => rfl, zL_c S c k v (by omega), fun i _ hi => sh_L_ne S c k v i (by omega)⟩
theorem zVN_fm {S S' : sh_St} {T : zT} (h : zFm S S') (hv : zVN S T) : zVN S' T := by
  show zVM (S'.1 1) (S'.2 2) T
  rw [(h.2.2 1 (by decide) (by omega)).1, (h.2.2 2 (by decide) (by omega)).2]
  exact hv
/-- the same, with nothing but the line and the way's numbers changed in the object -/
def zFn (S S' : sh_St) : Prop := (∀ k, (k < 27 ∨ 29 < k) → S'.1 0 k = S.1 0 k) ∧ S'.2 0 = S.2 0 ∧ (∀ i, i ≠ 0 → (i < 15 ∨ 17 < i) → S'.1 i = S.1 i ∧ S'.2 i = S.2 i)
theorem zFn_rf (S : sh_St) : zFn S S := ⟨fun _ _ => rfl, rfl, fun _ _ _ => ⟨rfl, rfl⟩⟩
theorem zFn_tr {S S1 S2 : sh_St} (h1 : zFn S S1) (h2 : zFn S1 S2) : zFn S S2 := ⟨fun k hk => (h2.1 k hk).trans (h1.1 k hk), h2.2.1.trans h1.2.1, fun i h0 hi => ⟨(h2.2.2 i h0 hi).1.trans (h1.2.2 i h0 hi).1, (h2.2.2 i h0 hi).2.trans (h1.2.2 i h0 hi).2⟩⟩
theorem zFn_0 (S : sh_St) {k : Nat} (v : Int32) (hk : 27 ≤ k ∧ k ≤ 29) : zFn S (sh_I S 0 k v) := ⟨fun j hj => zI_k S 0 k v (by omega), rfl, fun i h0 _ => sh_I_ne S 0 k v i h0⟩
theorem zFn_I (S : sh_St) {c : Nat} (k : Nat) (v : Int32) (h1 : 15 ≤ c) (h2 : c ≤ 17) : zFn S (sh_I S c k v) := ⟨fun j _ => by rw [zI_c S c k v (by omega)], rfl, fun i _ hi => sh_I_ne S c k v i (by omega)⟩
theorem zFn_m {S S' : sh_St} (h : zFn S S') : zFm S S' := ⟨fun k hk => h.1 k (by omega), h.2.1, fun i h0 hi => h.2.2 i h0 (by omega)⟩
theorem zVN_fn {S S' : sh_St} {T : zT} (h : zFn S S') (hv : zVN S T) : zVN S' T := zVN_fm (zFn_m h) hv
theorem zVX_f4 {lo hi : Nat} {S S' : sh_St} {T : zT} (h : zFr lo hi S S') (hl : 14 ≤ lo) (hv : zVX S 4 T) : zVX S' 4 T := zVX_fr h (Or.inl (by omega)) hv
/-! the leaves in order -/
theorem zLp_s (T : zT) (b s : Nat) : zLp T b (s + 1) = zLp T b s ++ [(T.1 6 (b * 6 + s), T.1 4 (b * 6 + s), T.1 5 (b * 6 + s))] := by
  unfold zLp
  rw [List.range_succ, List.map_append]
  rfl
theorem zLp_len (T : zT) (b s : Nat) : (zLp T b s).length = s := by
  unfold zLp
  rw [List.length_map, List.length_range]
theorem zQ_s (T : zT) (s : Nat) : zQ T (s + 1) = zQ T s ++ zL1 T (T.1 6 s) := by
  unfold zQ
  rw [List.range_succ, List.flatMap_append]
  simp
theorem zInv_ch {T : zT} (hI : zInv T) {b r : Nat} (hb : b < 40) (hr : r < T.1 1 b) : T.1 6 (b * 6 + r) < 40 := (hI.2.2.2.1 b r hb hr).2.2.1
theorem zInv_c0 {T : zT} (hI : zInv T) {r : Nat} (hr : r < T.1 1 0) : T.1 6 r < 40 := by
  have := zInv_ch hI (b := 0) (by omega) hr
  rwa [Nat.zero_mul, Nat.zero_add] at this
theorem zInv_c5 {T : zT} (hI : zInv T) {b : Nat} (hb : b < 40) : T.1 1 b ≤ 5 := (hI.2.1 b hb).2.1
theorem zInv_li {T : zT} (hI : zInv T) {b r : Nat} (hb : b < 40) (hr : r < T.1 1 b) : T.1 4 (b * 6 + r) < 4096 := (hI.2.2.2.1 b r hb hr).1
theorem zInv_ma {T : zT} (hI : zInv T) {b r : Nat} (hb : b < 40) (hr : r < T.1 1 b) : T.1 5 (b * 6 + r) ≤ 1 := (hI.2.2.2.1 b r hb hr).2.1
theorem zQ_len {T : zT} (hI : zInv T) : ∀ s, s ≤ T.1 1 0 → (zQ T s).length ≤ 5 * s := by
  intro s
  induction s with
  | zero => intro _; exact Nat.le_refl 0
  | succ s ih =>
    intro h
    have h1 := ih (by omega)
    have h2 := zInv_c5 hI (zInv_c0 hI (show s < T.1 1 0 by omega))
    rw [zQ_s, List.length_append]
    unfold zL1
    rw [zLp_len]
    omega
theorem zLL_len {T : zT} (hI : zInv T) : (zLL T).length ≤ 25 := by
  have h5 := zInv_c5 hI (b := 0) (by omega)
  unfold zLL
  split
  · exact by simp
  · split
    · unfold zL1; rw [zLp_len]; omega
    · have := zQ_len hI (T.1 1 0) (Nat.le_refl _)
      omega
/-- the class's order; the reference's line -/
def zOrd (S : sh_St) (L : List (Nat × Nat × Nat)) : Prop := S.1 117 3 = nI L.length ∧ ∀ k q, L[k]? = some q → S.1 118 k = nI q.1 ∧ S.1 119 k = nI q.2.1 ∧ S.1 120 k = nI q.2.2
def zLin (S : sh_St) (L : List (Nat × Nat × Nat)) : Prop := S.1 0 27 = nI L.length ∧ ∀ k q, L[k]? = some q → S.1 15 k = nI q.1 ∧ S.1 16 k = nI q.2.1 ∧ S.1 17 k = nI q.2.2
theorem zapp_get {α : Type} {L : List α} {x q : α} {k : Nat} (h : (L ++ [x])[k]? = some q) : (k < L.length ∧ L[k]? = some q) ∨ (k = L.length ∧ q = x) := by
  by_cases hk : k < L.length
  · left
    rw [List.getElem?_append_left hk] at h
    exact ⟨hk, h⟩
  · right
    rw [List.getElem?_append_right (by omega)] at h
    by_cases h0 : k - L.length = 0
    · rw [h0] at h
      simp at h
      exact ⟨by omega, h.symm⟩
    · obtain ⟨j, hj⟩ : ∃ j, k - L.length = j + 1 := ⟨k - L.length - 1, by omega⟩
      rw [hj] at h
      simp at h
theorem zOrd_app {S : sh_St} {L : List (Nat × Nat × Nat)} (h : zOrd S L) (q : Nat × Nat × Nat) : zOrd (sh_I (sh_I (sh_I (sh_I S 118 L.length (nI q.1)) 119 L.length (nI q.2.1)) 120 L.length (nI q.2.2)) 117 3 (nI (L.length + 1))) (L ++ [q]) := by
  refine ⟨?_, ?_⟩
  · rw [zI_s, List.length_append]; rfl
  · intro k p hp
    rcases zapp_get hp with ⟨hk, h1⟩ | ⟨hk, h1⟩
    · obtain ⟨a1, a2, a3⟩ := h.2 k p h1
      simp (disch := omega) only [zq_l2, pk_mul, nI_add, zq_t, zq_c, zq_bz, zq_bo, zq_g, zq_cl, zq_leT, zq_leF, zq_ltT, zq_ltF, zq_eqT, zq_eqF, zq_em, zq_me, zq_pm, zq_mm, zq_gm, pk_sub, zI_s, zI_k, zI_c, zI_2, zL_s, zL_k, zL_c, zL_1, if_true, if_false, eq_self, Nat.zero_add, Nat.add_zero, a1, a2, a3]
      exact ⟨trivial, trivial, trivial⟩
    · subst h1; subst hk
      simp (disch := omega) only [zq_l2, pk_mul, nI_add, zq_t, zq_c, zq_bz, zq_bo, zq_g, zq_cl, zq_leT, zq_leF, zq_ltT, zq_ltF, zq_eqT, zq_eqF, zq_em, zq_me, zq_pm, zq_mm, zq_gm, pk_sub, zI_s, zI_k, zI_c, zI_2, zL_s, zL_k, zL_c, zL_1, if_true, if_false, eq_self, Nat.zero_add, Nat.add_zero]
      exact ⟨trivial, trivial, trivial⟩
theorem zLin_app {S : sh_St} {L : List (Nat × Nat × Nat)} (h : zLin S L) (q : Nat × Nat × Nat) : zLin (sh_I (sh_I (sh_I (sh_I S 15 L.length (nI q.1)) 16 L.length (nI q.2.1)) 17 L.length (nI q.2.2)) 0 27 (nI (L.length + 1))) (L ++ [q]) := by
  refine ⟨?_, ?_⟩
  · rw [zI_s, List.length_append]; rfl
  · intro k p hp
    rcases zapp_get hp with ⟨hk, h1⟩ | ⟨hk, h1⟩
    · obtain ⟨a1, a2, a3⟩ := h.2 k p h1
      simp (disch := omega) only [zq_l2, pk_mul, nI_add, zq_t, zq_c, zq_bz, zq_bo, zq_g, zq_cl, zq_leT, zq_leF, zq_ltT, zq_ltF, zq_eqT, zq_eqF, zq_em, zq_me, zq_pm, zq_mm, zq_gm, pk_sub, zI_s, zI_k, zI_c, zI_2, zL_s, zL_k, zL_c, zL_1, if_true, if_false, eq_self, Nat.zero_add, Nat.add_zero, a1, a2, a3]
      exact ⟨trivial, trivial, trivial⟩
    · subst h1; subst hk
      simp (disch := omega) only [zq_l2, pk_mul, nI_add, zq_t, zq_c, zq_bz, zq_bo, zq_g, zq_cl, zq_leT, zq_leF, zq_ltT, zq_ltF, zq_eqT, zq_eqF, zq_em, zq_me, zq_pm, zq_mm, zq_gm, pk_sub, zI_s, zI_k, zI_c, zI_2, zL_s, zL_k, zL_c, zL_1, if_true, if_false, eq_self, Nat.zero_add, Nat.add_zero]
      exact ⟨trivial, trivial, trivial⟩
theorem zx_addRows_l {T : zT} (hI : zInv T) (P : List (Nat × Nat × Nat)) {b : Nat} (hb : b < 40) (hP : P.length + T.1 1 b ≤ 40) : ∀ (n s : Nat) (S : sh_St), zVX S 4 T → s ≤ T.1 1 b → T.1 1 b - s < n → zOrd S (P ++ zLp T b s) → ∃ S', fX5_addRowsOf_2 n S (nI b) (nI s) = some ((), S') ∧ zOrd S' (P ++ zL1 T b) ∧ zFr 117 120 S S' := by
  intro n
  induction n with
  | zero => intro s S hv h1 h2; omega
  | succ n ih =>
    intro s S hv h1 h2 ho
    have h5 := zInv_c5 hI hb
    have hlen : (P ++ zLp T b s).length = P.length + s := by rw [List.length_append, zLp_len]
    rw [fX5_addRowsOf_2]
    by_cases h : s = T.1 1 b
    · simp (disch := omega) only [zq_l2, pk_mul, nI_add, zq_t, zq_c, zq_bz, zq_bo, zq_g, zq_cl, zq_leT, zq_leF, zq_ltT, zq_ltF, zq_eqT, zq_eqF, zq_em, zq_me, zq_pm, zq_mm, zq_gm, pk_sub, zI_s, zI_k, zI_c, zI_2, zL_s, zL_k, zL_c, zL_1, if_true, if_false, eq_self, Nat.zero_add, Nat.add_zero, zX_c hv]
      subst h
      exact ⟨S, rfl, ho, zFr_rf 117 120 S⟩
    · have hs : s < T.1 1 b := by omega
      have ho1 := ho.1
      rw [hlen] at ho1
      have hq := zOrd_app ho (T.1 6 (b * 6 + s), T.1 4 (b * 6 + s), T.1 5 (b * 6 + s))
      rw [List.append_assoc, ← zLp_s, hlen] at hq
      have hf : zFr 117 120 S (sh_I (sh_I (sh_I (sh_I S 118 (P.length + s) (nI (T.1 6 (b * 6 + s)))) 119 (P.length + s) (nI (T.1 4 (b * 6 + s)))) 120 (P.length + s) (nI (T.1 5 (b * 6 + s)))) 117 3 (nI (P.length + s + 1))) :=
        zFr_tr (zFr_tr (zFr_tr (zFr_I S _ _ (by omega) (by omega)) (zFr_I _ _ _ (by omega) (by omega))) (zFr_I _ _ _ (by omega) (by omega))) (zFr_I _ _ _ (by omega) (by omega))
      obtain ⟨S', e1, e2, e3⟩ := ih (s + 1) _ (zVX_f4 hf (by omega) hv) (by omega) (by omega) hq
      refine ⟨S', ?_, e2, zFr_tr hf e3⟩
      simp (disch := omega) only [zq_l2, pk_mul, nI_add, zq_t, zq_c, zq_bz, zq_bo, zq_g, zq_cl, zq_leT, zq_leF, zq_ltT, zq_ltF, zq_eqT, zq_eqF, zq_em, zq_me, zq_pm, zq_mm, zq_gm, pk_sub, zI_s, zI_k, zI_c, zI_2, zL_s, zL_k, zL_c, zL_1, if_true, if_false, eq_self, Nat.zero_add, Nat.add_zero, zX_c hv, ho1, zX_l hv hb hs, zX_m hv hb hs, zX_g hv hb hs]
      exact e1
