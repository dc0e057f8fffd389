/-! sorted lists of entries; two names that fold makes one -/
def zle2 (x y : zE) : Prop := x.1 ≤ y.1 ∧ (x.1 = y.1 → x.2.1 ≤ y.2.1)
theorem zgt_n {x e : zE} (h : ¬ zgt x e = true) : zle2 x e := by
  unfold zgt at h
  refine ⟨?_, fun q => ?_⟩
  · apply Nat.le_of_not_lt
    intro c
    exact h (by rw [decide_eq_true c]; rfl)
  · apply Classical.byContradiction
    intro c
    apply h
    rw [decide_eq_true q.symm, decide_eq_false c]
    simp
theorem zgt_y {x e : zE} (h : zgt x e = true) : zle2 e x := by
  unfold zgt at h
  rw [Bool.or_eq_true, Bool.and_eq_true, decide_eq_true_iff, decide_eq_true_iff] at h
  rcases h with h | ⟨h1, h2⟩
  · exact ⟨by omega, fun q => by omega⟩
  · refine ⟨by omega, fun _ => ?_⟩
    rw [Bool.not_eq_true', decide_eq_false_iff_not] at h2
    rcases Int64.le_total e.2.1 x.2.1 with c | c
    · exact c
    · exact absurd c h2
theorem zle2_tr {x y z : zE} (h1 : zle2 x y) (h2 : zle2 y z) : zle2 x z := by
  refine ⟨Nat.le_trans h1.1 h2.1, fun q => ?_⟩
  have a := h1.1
  have b := h2.1
  exact Int64.le_trans (h1.2 (by omega)) (h2.2 (by omega))
theorem zinr_srt (e : zE) : ∀ (A B : List zE), (A.reverse ++ B).Pairwise zle2 → (∀ b, b ∈ B → zle2 e b) → (zinr e A B).Pairwise zle2 := by
  intro A
  induction A with
  | nil =>
    intro B h1 h2
    exact List.pairwise_cons.2 ⟨h2, h1⟩
  | cons x A ih =>
    intro B h1 h2
    unfold zinr
    have e1 : (x :: A).reverse ++ B = A.reverse ++ x :: B := by simp
    by_cases c : zgt x e = true
    · rw [if_pos c]
      refine ih (x :: B) (by rw [← e1]; exact h1) (fun b hb => ?_)
      rcases List.mem_cons.1 hb with q | q
      · rw [q]; exact zgt_y c
      · exact h2 b q
    · rw [if_neg c]
      obtain ⟨p1, p2, p3⟩ := List.pairwise_append.1 h1
      refine List.pairwise_append.2 ⟨p1, List.pairwise_cons.2 ⟨h2, p2⟩, fun a ha b hb => ?_⟩
      rcases List.mem_cons.1 hb with q | q
      · rw [q]
        have p1' : (A.reverse ++ [x]).Pairwise zle2 := by rw [List.reverse_cons] at p1; exact p1
        rw [List.reverse_cons, List.mem_append] at ha
        rcases ha with ha | ha
        · exact zle2_tr ((List.pairwise_append.1 p1').2.2 a ha x (List.mem_singleton.2 rfl)) (zgt_n c)
        · rw [List.mem_singleton.1 ha]; exact zgt_n c
      · exact p3 a ha b q
theorem zins_srt {P : List zE} (h : P.Pairwise zle2) (e : zE) : (zins P e).Pairwise zle2 := by
  unfold zins
  exact zinr_srt e P.reverse [] (by rw [List.reverse_reverse, List.append_nil]; exact h) (fun b hb => by cases hb)
theorem zpc_srt (c : Nat → Bool) (e : Nat → zE) (n : Nat) : (zpc c e n).Pairwise zle2 := by
  induction n with
  | zero => exact List.Pairwise.nil
  | succ n ih =>
    unfold zpc
    by_cases q : c n = true
    · rw [if_pos q]; exact zins_srt ih _
    · rw [if_neg q]; exact ih
theorem zgetD {P : List zE} {k : Nat} (h : k < P.length) : P.getD k (0, 0, 0) = P[k] := by
  rw [List.getD_eq_getElem?_getD, List.getElem?_eq_getElem h]
  rfl
theorem zsrt_at {P : List zE} (h : P.Pairwise zle2) {i j : Nat} (hij : i < j) (hj : j < P.length) : zle2 (P.getD i (0, 0, 0)) (P.getD j (0, 0, 0)) := by
  rw [zgetD hj, zgetD (show i < P.length by omega)]
  exact List.pairwise_iff_getElem.1 h i j (by omega) hj hij
/-- no two entries are one by fold -/
def zFN (T : zT) : List Int64 := ((List.range 240).filter (znz T)).map (fun k => T.2 k ||| zSM)
def zuq (T : zT) : Prop := (zFN T).Nodup
theorem znd_at {l : List Int64} {i j : Nat} (h : l.Nodup) (hj : j < l.length) (hi : i < l.length) (hij : i < j) : l[i] ≠ l[j] := List.pairwise_iff_getElem.1 h i j hi hj hij
theorem zmap_at {P : List zE} (g : zE → Int64) {k : Nat} (hk : k < P.length) : (P.map g)[k]'(by rw [List.length_map]; exact hk) = g (P.getD k (0, 0, 0)) := by
  rw [List.getElem_map, zgetD hk]
theorem znd_iff {P : List zE} (g : zE → Int64) : (P.map g).Nodup ↔ ∀ i j, i < j → j < P.length → g (P.getD i (0, 0, 0)) ≠ g (P.getD j (0, 0, 0)) := by
  constructor
  · intro h i j hij hj
    have q := znd_at h (i := i) (j := j) (by rw [List.length_map]; exact hj) (by rw [List.length_map]; omega) hij
    rw [zmap_at g hj, zmap_at g (by omega)] at q
    exact q
  · intro h
    refine List.pairwise_iff_getElem.2 (fun i j hi hj hij => ?_)
    have hi' : i < P.length := by rw [List.length_map] at hi; exact hi
    have hj' : j < P.length := by rw [List.length_map] at hj; exact hj
    rw [zmap_at g hj', zmap_at g hi']
    exact h i j hij hj'
theorem zfold_pm (T : zT) : ((zpc (znz T) (fun k => (0, T.2 k ||| zSM, 0)) 240).map (fun x => x.2.1)).Perm (zFN T) := by
  have q := (zpc_pm (znz T) (fun k => ((0 : Nat), T.2 k ||| zSM, (0 : Nat))) 240).map (fun x => x.2.1)
  rw [List.map_map] at q
  exact q
theorem zall_pm (T : zT) (b y f : Nat) : ((zpc (znz T) (zen T b y f) 240).map (fun x => x.2.1 ||| zSM)).Perm (zFN T) := by
  have q := (zpc_pm (znz T) (zen T b y f) 240).map (fun x => x.2.1 ||| zSM)
  rw [List.map_map] at q
  exact q
/-- side by side -/
theorem zadj {Q : List zE} (hs : Q.Pairwise zle2) (hz : ∀ x, x ∈ Q → x.1 = 0) : (Q.map (fun x => x.2.1)).Nodup ↔ ∀ k, 1 ≤ k → k < Q.length → (Q.getD k (0, 0, 0)).2.1 ≠ (Q.getD (k - 1) (0, 0, 0)).2.1 := by
  rw [znd_iff]
  constructor
  · intro h k h1 h2
    exact (h (k - 1) k (by omega) h2).symm
  · intro h i j hij hj e
    have z : ∀ m, m < Q.length → (Q.getD m (0, 0, 0)).1 = 0 := fun m hm => hz _ (List.mem_of_getElem? (zP_at hm))
    have a1 := zsrt_at hs (show i < i + 1 by omega) (show i + 1 < Q.length by omega)
    have a2 := a1.2 (by rw [z i (by omega), z (i + 1) (by omega)])
    have a3 : (Q.getD (i + 1) (0, 0, 0)).2.1 ≤ (Q.getD j (0, 0, 0)).2.1 := by
      by_cases c : i + 1 = j
      · rw [c]; exact Int64.le_refl _
      · exact (zsrt_at hs (show i + 1 < j by omega) hj).2 (by rw [z j hj, z (i + 1) (by omega)])
    have e' : (Q.getD i (0, 0, 0)).2.1 = (Q.getD j (0, 0, 0)).2.1 := e
    rw [← e'] at a3
    exact h (i + 1) (by omega) (by omega) (by rw [Nat.add_sub_cancel]; exact Int64.le_antisymm a3 a2)
theorem zx_fm_0 {Q : List zE} (h4 : Q.length ≤ 240) (hq : ∀ k, 1 ≤ k → k < Q.length → (Q.getD k (0, 0, 0)).2.1 ≠ (Q.getD (k - 1) (0, 0, 0)).2.1) {S : sh_St} (hP : zPX S Q) : ∀ (n k : Nat), 1 ≤ k → k ≤ Q.length + 1 → Q.length + 1 - k < n → fX4_wouldFoldMeet_61 n S (nI k) = some (nI 0, S) := by
  intro n
  induction n with
  | zero => intro k _ _ h; omega
  | succ n ih =>
    intro k h1 h2 h3
    rw [fX4_wouldFoldMeet_61, hP.1]
    by_cases c : Q.length ≤ k
    · simp (disch := omega) only [zq_l9, pk_mul, nI_add, zq_t9, zq_c9, zq_bz9, zq_bo9, zq_g, zq_cl, zq_leT, zq_leF, zq_ltT, zq_ltF, zq_eqT, zq_eqF, zq_em, zq_me, zq_pm, zq_mm, zq_gm, pk_sub, zI_s, zI_k, zI_c, zI_2, zL_s, zL_k, zL_c, zL_1, if_true, if_false, eq_self, Nat.zero_add, Nat.add_zero]
    · have a := (hP.2 k _ (zP_at (by omega))).2.1
      have a' := (hP.2 (k - 1) _ (zP_at (by omega))).2.1
      simp (disch := omega) only [zq_l9, pk_mul, nI_add, zq_t9, zq_c9, zq_bz9, zq_bo9, zq_g, zq_cl, zq_leT, zq_leF, zq_ltT, zq_ltF, zq_eqT, zq_eqF, zq_em, zq_me, zq_pm, zq_mm, zq_gm, pk_sub, zI_s, zI_k, zI_c, zI_2, zL_s, zL_k, zL_c, zL_1, if_true, if_false, eq_self, Nat.zero_add, Nat.add_zero, a, a']
      rw [if_neg (hq k h1 (by omega))]
      exact ih (k + 1) (by omega) (by omega) (by omega)
theorem zx_fm_1 {Q : List zE} (h4 : Q.length ≤ 240) {k0 : Nat} (hk0 : 1 ≤ k0) (hk1 : k0 < Q.length) (hq : (Q.getD k0 (0, 0, 0)).2.1 = (Q.getD (k0 - 1) (0, 0, 0)).2.1) {S : sh_St} (hP : zPX S Q) : ∀ (n k : Nat), 1 ≤ k → k ≤ k0 → k0 - k < n → fX4_wouldFoldMeet_61 n S (nI k) = some (nI 1, S) := by
  intro n
  induction n with
  | zero => intro k _ _ h; omega
  | succ n ih =>
    intro k h1 h2 h3
    rw [fX4_wouldFoldMeet_61, hP.1]
    have a := (hP.2 k _ (zP_at (by omega))).2.1
    have a' := (hP.2 (k - 1) _ (zP_at (by omega))).2.1
    simp (disch := omega) only [zq_l9, pk_mul, nI_add, zq_t9, zq_c9, zq_bz9, zq_bo9, zq_g, zq_cl, zq_leT, zq_leF, zq_ltT, zq_ltF, zq_eqT, zq_eqF, zq_em, zq_me, zq_pm, zq_mm, zq_gm, pk_sub, zI_s, zI_k, zI_c, zI_2, zL_s, zL_k, zL_c, zL_1, if_true, if_false, eq_self, Nat.zero_add, Nat.add_zero, a, a']
    by_cases c : (Q.getD k (0, 0, 0)).2.1 = (Q.getD (k - 1) (0, 0, 0)).2.1
    · rw [if_pos c]
    · rw [if_neg c]
      by_cases e : k = k0
      · rw [e] at c; exact absurd hq c
      · exact ih (k + 1) (by omega) (by omega) (by omega)
theorem zx_foldMeet {S : sh_St} {T : zT} (hv : zVX S 4 T) : ∃ r S', fX4_wouldFoldMeet S = some (nI r, S') ∧ r ≤ 1 ∧ (r = 0 ↔ zuq T) ∧ zFr 124 127 S S' := by
  rw [fX4_wouldFoldMeet]
  have hP0 : zPX (sh_I S 124 3 (nI 0)) (zpc (znz T) (fun k => (0, T.2 k ||| zSM, 0)) 0) := ⟨zI_s _ _ _ _, fun k e h => by simp [zpc] at h⟩
  have hf0 : zFr 124 127 S (sh_I S 124 3 (nI 0)) := zFr_I S _ _ (by omega) (by omega)
  obtain ⟨S1, g1, g2, g3⟩ := zx_fold_c (T := T) sh_FU 0 (sh_I S 124 3 (nI 0)) (zVX_f4 hf0 (by omega) hv) (by omega) (by decide) hP0
  have hlen : (zpc (znz T) (fun k => ((0 : Nat), T.2 k ||| zSM, (0 : Nat))) 240).length ≤ 240 := by rw [zpc_len]; exact zcnt_le _ _
  have hz : ∀ x, x ∈ zpc (znz T) (fun k => ((0 : Nat), T.2 k ||| zSM, (0 : Nat))) 240 → x.1 = 0 := fun x hx => by
    obtain ⟨k, _, _, e⟩ := zpc_mem hx
    rw [e]
  have hadj := zadj (zpc_srt (znz T) (fun k => ((0 : Nat), T.2 k ||| zSM, (0 : Nat))) 240) hz
  have hnd := (zfold_pm T).nodup_iff
  have hfu : sh_FU = 100000 := rfl
  by_cases c : ∀ k, 1 ≤ k → k < (zpc (znz T) (fun k => ((0 : Nat), T.2 k ||| zSM, (0 : Nat))) 240).length → ((zpc (znz T) (fun k => ((0 : Nat), T.2 k ||| zSM, (0 : Nat))) 240).getD k (0, 0, 0)).2.1 ≠ ((zpc (znz T) (fun k => ((0 : Nat), T.2 k ||| zSM, (0 : Nat))) 240).getD (k - 1) (0, 0, 0)).2.1
  · refine ⟨0, S1, ?_, by omega, ⟨fun _ => hnd.1 (hadj.2 c), fun _ => rfl⟩, zFr_tr hf0 g3⟩
    simp (disch := omega) only [zq_l9, pk_mul, nI_add, zq_t9, zq_c9, zq_bz9, zq_bo9, zq_g, zq_cl, zq_leT, zq_leF, zq_ltT, zq_ltF, zq_eqT, zq_eqF, zq_em, zq_me, zq_pm, zq_mm, zq_gm, pk_sub, zI_s, zI_k, zI_c, zI_2, zL_s, zL_k, zL_c, zL_1, if_true, if_false, eq_self, Nat.zero_add, Nat.add_zero]
    rw [g1]
    exact zx_fm_0 hlen c g2 sh_FU 1 (by omega) (by omega) (by omega)
  · have c' : ∃ k, 1 ≤ k ∧ k < (zpc (znz T) (fun k => ((0 : Nat), T.2 k ||| zSM, (0 : Nat))) 240).length ∧ ((zpc (znz T) (fun k => ((0 : Nat), T.2 k ||| zSM, (0 : Nat))) 240).getD k (0, 0, 0)).2.1 = ((zpc (znz T) (fun k => ((0 : Nat), T.2 k ||| zSM, (0 : Nat))) 240).getD (k - 1) (0, 0, 0)).2.1 := by
      apply Classical.byContradiction
      intro q
      exact c (fun k h1 h2 h3 => q ⟨k, h1, h2, h3⟩)
    obtain ⟨k0, e1, e2, e3⟩ := c'
    refine ⟨1, S1, ?_, by omega, ⟨fun q => by omega, fun q => absurd (hadj.1 (hnd.2 q)) c⟩, zFr_tr hf0 g3⟩
    simp (disch := omega) only [zq_l9, pk_mul, nI_add, zq_t9, zq_c9, zq_bz9, zq_bo9, zq_g, zq_cl, zq_leT, zq_leF, zq_ltT, zq_ltF, zq_eqT, zq_eqF, zq_em, zq_me, zq_pm, zq_mm, zq_gm, pk_sub, zI_s, zI_k, zI_c, zI_2, zL_s, zL_k, zL_c, zL_1, if_true, if_false, eq_self, Nat.zero_add, Nat.add_zero]
    rw [g1]
    exact zx_fm_1 hlen e1 e2 e3 g2 sh_FU 1 (by omega) (by omega) (by omega)
/-! the same by the reference -/
theorem zfv_64 (n : Int64) : zfv n 8 < 2 ^ 64 := Nat.lt_of_lt_of_le (zfv_lt n 8) (by decide)
theorem zm_two_n {P : List zE} (h4 : P.length ≤ 240) {S : sh_St} (hP : zPM S P) (rk : sh_St → Int32 → Option (Int32 × sh_St)) {k : Nat} (hk : k < P.length) (hn : ∀ i, i < k → zfv (P.getD i (0, 0, 0)).2.1 8 ≠ zfv (P.getD k (0, 0, 0)).2.1 8) : ∀ (n i : Nat), i ≤ k → k - i < n → fX13_areTwoOne_12 rk n S (nI k) (nI i) = rk S (nI (k + 1)) := by
  intro n
  induction n with
  | zero => intro i _ h; omega
  | succ n ih =>
    intro i h1 h2
    rw [fX13_areTwoOne_12]
    by_cases c : i = k
    · subst c
      simp (disch := omega) only [zq_l9, pk_mul, nI_add, zq_t9, zq_c9, zq_bz9, zq_bo9, zq_g, zq_cl, zq_leT, zq_leF, zq_ltT, zq_ltF, zq_eqT, zq_eqF, zq_em, zq_me, zq_pm, zq_mm, zq_gm, pk_sub, zI_s, zI_k, zI_c, zI_2, zL_s, zL_k, zL_c, zL_1, if_true, if_false, eq_self, Nat.zero_add, Nat.add_zero]
    · have a := (hP.2 k _ (zP_at (by omega))).2.1
      have a' := (hP.2 i _ (zP_at (show i < P.length by omega))).2.1
      simp (disch := omega) only [zq_l9, pk_mul, nI_add, zq_t9, zq_c9, zq_bz9, zq_bo9, zq_g, zq_cl, zq_leT, zq_leF, zq_ltT, zq_ltF, zq_eqT, zq_eqF, zq_em, zq_me, zq_pm, zq_mm, zq_gm, pk_sub, zI_s, zI_k, zI_c, zI_2, zL_s, zL_k, zL_c, zL_1, if_true, if_false, eq_self, Nat.zero_add, Nat.add_zero, a, a', zm_folded]
      rw [if_neg (fun q => hn i (by omega) (zq_lNinj (zfv_64 _) (zfv_64 _) q).symm)]
      exact ih (i + 1) (by omega) (by omega)
theorem zm_two_y {P : List zE} (h4 : P.length ≤ 240) {S : sh_St} (hP : zPM S P) (rk : sh_St → Int32 → Option (Int32 × sh_St)) {k i0 : Nat} (hk : k < P.length) (hi0 : i0 < k) (he : zfv (P.getD i0 (0, 0, 0)).2.1 8 = zfv (P.getD k (0, 0, 0)).2.1 8) : ∀ (n i : Nat), i ≤ i0 → i0 - i < n → fX13_areTwoOne_12 rk n S (nI k) (nI i) = some (nI 1, S) := by
  intro n
  induction n with
  | zero => intro i _ h; omega
  | succ n ih =>
    intro i h1 h2
    rw [fX13_areTwoOne_12]
    have a := (hP.2 k _ (zP_at (by omega))).2.1
    have a' := (hP.2 i _ (zP_at (show i < P.length by omega))).2.1
    simp (disch := omega) only [zq_l9, pk_mul, nI_add, zq_t9, zq_c9, zq_bz9, zq_bo9, zq_g, zq_cl, zq_leT, zq_leF, zq_ltT, zq_ltF, zq_eqT, zq_eqF, zq_em, zq_me, zq_pm, zq_mm, zq_gm, pk_sub, zI_s, zI_k, zI_c, zI_2, zL_s, zL_k, zL_c, zL_1, if_true, if_false, eq_self, Nat.zero_add, Nat.add_zero, a, a', zm_folded]
    by_cases c : lN (zfv (P.getD k (0, 0, 0)).2.1 8) = lN (zfv (P.getD i (0, 0, 0)).2.1 8)
    · rw [if_pos c]
    · rw [if_neg c]
      by_cases e : i = i0
      · rw [e, he] at c; exact absurd rfl c
      · exact ih (i + 1) (by omega) (by omega)
theorem zm_two_0 {P : List zE} (h4 : P.length ≤ 240) {S : sh_St} (hP : zPM S P) (hn : ∀ i k, i < k → k < P.length → zfv (P.getD i (0, 0, 0)).2.1 8 ≠ zfv (P.getD k (0, 0, 0)).2.1 8) : ∀ (n k : Nat), k ≤ P.length → P.length - k < n → fX13_areTwoOne_2 n S (nI k) = some (nI 0, S) := by
  intro n
  induction n with
  | zero => intro k _ h; omega
  | succ n ih =>
    intro k h1 h2
    rw [fX13_areTwoOne_2, hP.1]
    have hfu : sh_FU = 100000 := rfl
    by_cases c : k = P.length
    · subst c
      simp (disch := omega) only [zq_l9, pk_mul, nI_add, zq_t9, zq_c9, zq_bz9, zq_bo9, zq_g, zq_cl, zq_leT, zq_leF, zq_ltT, zq_ltF, zq_eqT, zq_eqF, zq_em, zq_me, zq_pm, zq_mm, zq_gm, pk_sub, zI_s, zI_k, zI_c, zI_2, zL_s, zL_k, zL_c, zL_1, if_true, if_false, eq_self, Nat.zero_add, Nat.add_zero]
    · have q := zm_two_n h4 hP (fX13_areTwoOne_2 n) (k := k) (by omega) (fun i hi => hn i k hi (by omega)) sh_FU 0 (by omega) (by omega)
      simp (disch := omega) only [zq_l9, pk_mul, nI_add, zq_t9, zq_c9, zq_bz9, zq_bo9, zq_g, zq_cl, zq_leT, zq_leF, zq_ltT, zq_ltF, zq_eqT, zq_eqF, zq_em, zq_me, zq_pm, zq_mm, zq_gm, pk_sub, zI_s, zI_k, zI_c, zI_2, zL_s, zL_k, zL_c, zL_1, if_true, if_false, eq_self, Nat.zero_add, Nat.add_zero]
      rw [q]
      exact ih (k + 1) (by omega) (by omega)
theorem zm_two_1 {P : List zE} (h4 : P.length ≤ 240) {S : sh_St} (hP : zPM S P) {i0 k0 : Nat} (h0 : i0 < k0) (hk0 : k0 < P.length) (he : zfv (P.getD i0 (0, 0, 0)).2.1 8 = zfv (P.getD k0 (0, 0, 0)).2.1 8) : ∀ (n k : Nat), k ≤ k0 → k0 - k < n → fX13_areTwoOne_2 n S (nI k) = some (nI 1, S) := by
  intro n
  induction n with
  | zero => intro k _ h; omega
  | succ n ih =>
    intro k h1 h2
    rw [fX13_areTwoOne_2, hP.1]
    have hfu : sh_FU = 100000 := rfl
    by_cases c : ∀ i, i < k → zfv (P.getD i (0, 0, 0)).2.1 8 ≠ zfv (P.getD k (0, 0, 0)).2.1 8
    · have q := zm_two_n h4 hP (fX13_areTwoOne_2 n) (k := k) (by omega) c sh_FU 0 (by omega) (by omega)
      simp (disch := omega) only [zq_l9, pk_mul, nI_add, zq_t9, zq_c9, zq_bz9, zq_bo9, zq_g, zq_cl, zq_leT, zq_leF, zq_ltT, zq_ltF, zq_eqT, zq_eqF, zq_em, zq_me, zq_pm, zq_mm, zq_gm, pk_sub, zI_s, zI_k, zI_c, zI_2, zL_s, zL_k, zL_c, zL_1, if_true, if_false, eq_self, Nat.zero_add, Nat.add_zero]
      rw [q]
      by_cases e : k = k0
      · rw [e] at c
        exact absurd he (c i0 h0)
      · exact ih (k + 1) (by omega) (by omega)
    · have c' : ∃ i, i < k ∧ zfv (P.getD i (0, 0, 0)).2.1 8 = zfv (P.getD k (0, 0, 0)).2.1 8 := by
        apply Classical.byContradiction
        intro q
        exact c (fun i h3 h4 => q ⟨i, h3, h4⟩)
      obtain ⟨i1, e1, e2⟩ := c'
      have q := zm_two_y h4 hP (fX13_areTwoOne_2 n) (k := k) (by omega) e1 e2 sh_FU 0 (by omega) (by omega)
      simp (disch := omega) only [zq_l9, pk_mul, nI_add, zq_t9, zq_c9, zq_bz9, zq_bo9, zq_g, zq_cl, zq_leT, zq_leF, zq_ltT, zq_ltF, zq_eqT, zq_eqF, zq_em, zq_me, zq_pm, zq_mm, zq_gm, pk_sub, zI_s, zI_k, zI_c, zI_2, zL_s, zL_k, zL_c, zL_1, if_true, if_false, eq_self, Nat.zero_add, Nat.add_zero]
      exact q
theorem zm_twoOne {S : sh_St} {T : zT} (hI : zInv T) {b y f : Nat} (hP : zPM S (zpc (znz T) (zen T b y f) 240)) : ∃ r, fX13_areTwoOne S = some (nI r, S) ∧ r ≤ 1 ∧ (r = 0 ↔ zuq T) := by
  rw [fX13_areTwoOne]
  have hlen : (zpc (znz T) (zen T b y f) 240).length ≤ 240 := by rw [zpc_len]; exact zcnt_le _ _
  have hva : ∀ k, k < (zpc (znz T) (zen T b y f) 240).length → zval ((zpc (znz T) (zen T b y f) 240).getD k (0, 0, 0)).2.1 := fun k hk => by
    obtain ⟨j, h1, h2, e⟩ := zpc_mem (List.mem_of_getElem? (zP_at hk))
    rw [e]
    unfold znz at h2
    exact zInv_va hI h1 (of_decide_eq_true h2)
  have hfu : sh_FU = 100000 := rfl
  have hiff := ((znd_iff (P := zpc (znz T) (zen T b y f) 240) (fun x => x.2.1 ||| zSM)).symm.trans (zall_pm T b y f).nodup_iff)
  by_cases c : ∀ i k, i < k → k < (zpc (znz T) (zen T b y f) 240).length → zfv ((zpc (znz T) (zen T b y f) 240).getD i (0, 0, 0)).2.1 8 ≠ zfv ((zpc (znz T) (zen T b y f) 240).getD k (0, 0, 0)).2.1 8
  · refine ⟨0, zm_two_0 hlen hP c sh_FU 0 (by omega) (by omega), by omega, ⟨fun _ => hiff.1 (fun i j hij hj q => c i j hij hj ((zfold_iff (hva i (by omega)) (hva j hj)).2 q)), fun _ => rfl⟩⟩
  · have c' : ∃ i k, i < k ∧ k < (zpc (znz T) (zen T b y f) 240).length ∧ zfv ((zpc (znz T) (zen T b y f) 240).getD i (0, 0, 0)).2.1 8 = zfv ((zpc (znz T) (zen T b y f) 240).getD k (0, 0, 0)).2.1 8 := by
      apply Classical.byContradiction
      intro q
      exact c (fun i k h1 h2 h3 => q ⟨i, k, h1, h2, h3⟩)
    obtain ⟨i0, k0, e1, e2, e3⟩ := c'
    refine ⟨1, zm_two_1 hlen hP e1 e2 e3 sh_FU 0 (by omega) (by omega), by omega, ⟨fun q => by omega, fun q => ?_⟩⟩
    exact absurd ((zfold_iff (hva i0 (by omega)) (hva k0 e2)).1 e3) (hiff.2 q i0 k0 e1 e2)
/-- the number by which building is refused -/
noncomputable def zbco (T : zT) (f : Nat) : Nat := if 80 < zall T then 3 else if f = 1 ∧ T.1 7 3 = 0 ∧ @decide (zuq T) (Classical.propDecidable _) = false then 1 else 0
theorem zsn_PA (T : zT) (b y f : Nat) : zPA (zsn T b y f) = zpc (znz T) (zen T b y f) 240 := rfl
theorem zm_build0 {S : sh_St} {T : zT} (hv : zVN S T) (hI : zInv T) {b y f : Nat} (hb : b < 13) (hy : y < 65536) (hf : f < 2) : ∃ S', fX13_build0 S (nI b) (nI y) (nI f) = some (nI (zbco T f), S') ∧ zVN S' (if zbco T f = 0 then zbu (zsn T b y f) (zPA (zsn T b y f)) else T) ∧ zFp S S' := by
  rw [fX13_build0]
  obtain ⟨S1, g1, g2, g3⟩ := zm_sortsAll hv hI hb hy hf
  have hv1 := zVN_fs g3 hv
  have hl : (zpc (znz T) (zen T b y f) 240).length = zall T := zpc_len _ _ _
  have hle : zall T ≤ 240 := zcnt_le _ _
  have h36 : S1.1 0 36 = nI (zall T) := by rw [← hl]; exact g2.1
  have hlf := zm_leavesFor S1 (show zall T < 1000 by omega)
  have hp1 : zFp S S1 := zFp_m (zFs_m g3)
  have h1083 : S1.1 1 1083 = nI (T.1 7 3) := zM_f hv1
  have h73 : T.1 7 3 < 2 := hI.1.2.2.2.2
  have hPn : ∀ x, x ∈ zpc (znz T) (zen T b y f) 240 → x.2.1 ≠ 0 := fun x hx => by
    obtain ⟨j, h1, h2, e⟩ := zpc_mem hx
    rw [e]
    unfold znz at h2
    exact of_decide_eq_true h2
  by_cases c : 80 < zall T
  · have e : zbco T f = 3 := if_pos c
    refine ⟨S1, ?_, ?_, hp1⟩
    · rw [e]
      have : zlf (zall T) = (zall T + 3) / 4 := if_neg (by omega)
      simp (disch := omega) only [zq_l9, pk_mul, nI_add, zq_t9, zq_c9, zq_bz9, zq_bo9, zq_g, zq_cl, zq_leT, zq_leF, zq_ltT, zq_ltF, zq_eqT, zq_eqF, zq_em, zq_me, zq_pm, zq_mm, zq_gm, pk_sub, zI_s, zI_k, zI_c, zI_2, zL_s, zL_k, zL_c, zL_1, if_true, if_false, eq_self, Nat.zero_add, Nat.add_zero, g1, h36, hlf]
    · rw [e, if_neg (by omega)]
      exact hv1
  · have h20 : zlf (zall T) ≤ 20 := by
      unfold zlf zgs
      by_cases q : zall T < 5
      · rw [if_pos q]; omega
      · rw [if_neg q]; omega
    obtain ⟨S2, k1, k2, k3⟩ := zm_b50 hv1 g2 (zpc_lt hb) (by omega) hPn b y f
    rw [hl] at k1
    have hp2 : zFp S S2 := zFp_tr hp1 (zFp_k k3)
    by_cases d : f = 1 ∧ T.1 7 3 = 0
    · obtain ⟨r, r1, r2, r3⟩ := zm_twoOne hI g2
      by_cases u : zuq T
      · have e : zbco T f = 0 := by
          unfold zbco
          rw [if_neg c, if_neg (fun q => by have := q.2.2; rw [decide_eq_false_iff_not] at this; exact this u)]
        refine ⟨S2, ?_, by rw [e, if_pos rfl]; exact k2, hp2⟩
        rw [e]
        rw [d.1] at k1 g1 ⊢
        rw [r3.2 u] at r1
        simp (disch := omega) only [zq_l9, pk_mul, nI_add, zq_t9, zq_c9, zq_bz9, zq_bo9, zq_g, zq_cl, zq_leT, zq_leF, zq_ltT, zq_ltF, zq_eqT, zq_eqF, zq_em, zq_me, zq_pm, zq_mm, zq_gm, pk_sub, zI_s, zI_k, zI_c, zI_2, zL_s, zL_k, zL_c, zL_1, if_true, if_false, eq_self, Nat.zero_add, Nat.add_zero, g1, h36, hlf, h1083, d.2, r1]
        exact k1
      · have e : zbco T f = 1 := by
          unfold zbco
          rw [if_neg c, if_pos ⟨d.1, d.2, by rw [decide_eq_false_iff_not]; exact u⟩]
        have er : r = 1 := by
          have : r ≠ 0 := fun q => u (r3.1 q)
          omega
        refine ⟨S1, ?_, by rw [e, if_neg (by omega)]; exact hv1, hp1⟩
        rw [e]
        rw [d.1] at g1 ⊢
        rw [er] at r1
        simp (disch := omega) only [zq_l9, pk_mul, nI_add, zq_t9, zq_c9, zq_bz9, zq_bo9, zq_g, zq_cl, zq_leT, zq_leF, zq_ltT, zq_ltF, zq_eqT, zq_eqF, zq_em, zq_me, zq_pm, zq_mm, zq_gm, pk_sub, zI_s, zI_k, zI_c, zI_2, zL_s, zL_k, zL_c, zL_1, if_true, if_false, eq_self, Nat.zero_add, Nat.add_zero, g1, h36, hlf, h1083, d.2, r1]
    · have e : zbco T f = 0 := by
        unfold zbco
        rw [if_neg c, if_neg (fun q => d ⟨q.1, q.2.1⟩)]
      refine ⟨S2, ?_, by rw [e, if_pos rfl]; exact k2, hp2⟩
      rw [e]
      by_cases d1 : f = 1
      · have d2 : T.1 7 3 = 1 := by
          have : T.1 7 3 ≠ 0 := fun q => d ⟨d1, q⟩
          omega
        rw [d1] at k1 g1 ⊢
        simp (disch := omega) only [zq_l9, pk_mul, nI_add, zq_t9, zq_c9, zq_bz9, zq_bo9, zq_g, zq_cl, zq_leT, zq_leF, zq_ltT, zq_ltF, zq_eqT, zq_eqF, zq_em, zq_me, zq_pm, zq_mm, zq_gm, pk_sub, zI_s, zI_k, zI_c, zI_2, zL_s, zL_k, zL_c, zL_1, if_true, if_false, eq_self, Nat.zero_add, Nat.add_zero, g1, h36, hlf, h1083, d2]
        exact k1
      · simp (disch := omega) only [zq_l9, pk_mul, nI_add, zq_t9, zq_c9, zq_bz9, zq_bo9, zq_g, zq_cl, zq_leT, zq_leF, zq_ltT, zq_ltF, zq_eqT, zq_eqF, zq_em, zq_me, zq_pm, zq_mm, zq_gm, pk_sub, zI_s, zI_k, zI_c, zI_2, zL_s, zL_k, zL_c, zL_1, if_true, if_false, eq_self, Nat.zero_add, Nat.add_zero, g1, h36, hlf]
        exact k1
