/-! a name is put: the order stays -/
def zIns (T T' : zT) (p0 f' x l m : Nat) : Prop := zln T' = zln T + 1 ∧ (∀ j, j < p0 → zlq T' j = zlq T j) ∧ zlq T' p0 = (f', (zlq T p0).2) ∧ zlq T' (p0 + 1) = (x, l, m) ∧ ∀ j, p0 < j → j < zln T → zlq T' (j + 1) = zlq T j
def zSrc (T T' : zT) (P : List zE) (f f' x : Nat) : Prop := ∀ k, k < 240 → T'.2 k ≠ 0 → (k / 6 = f' ∧ k % 6 < 3 ∧ T'.2 k = (P.getD (k % 6) (0, 0, 0)).2.1) ∨ (k / 6 = x ∧ k % 6 < 4 ∧ T'.2 k = (P.getD (3 + k % 6) (0, 0, 0)).2.1) ∨ (k / 6 ≠ f ∧ k / 6 ≠ f' ∧ k / 6 ≠ x ∧ T'.2 k = T.2 k)
theorem zIns_of {T T' : zT} {A B : List (Nat × Nat × Nat)} {x l m p0 : Nat} (h1 : zLL T = A ++ B) (h2 : zLL T' = A ++ (x, l, m) :: B) (hA : A.length = p0 + 1) : zIns T T' p0 (zlq T p0).1 x l m := by
  have g : ∀ j, zlq T j = ((A ++ B)[j]?).getD (0, 0, 0) := fun j => by unfold zlq; rw [h1, List.getD_eq_getElem?_getD]
  have g' : ∀ j, zlq T' j = ((A ++ (x, l, m) :: B)[j]?).getD (0, 0, 0) := fun j => by unfold zlq; rw [h2, List.getD_eq_getElem?_getD]
  refine ⟨?_, fun j hj => ?_, ?_, ?_, fun j hj hj2 => ?_⟩
  · unfold zln
    rw [h1, h2, List.length_append, List.length_append, List.length_cons]
    omega
  · rw [g, g', List.getElem?_append_left (by omega), List.getElem?_append_left (by omega)]
  · show zlq T' p0 = zlq T p0
    rw [g, g', List.getElem?_append_left (by omega), List.getElem?_append_left (by omega)]
  · rw [g', List.getElem?_append_right (by omega), hA, Nat.sub_self]
    rfl
  · rw [g, g', List.getElem?_append_right (by omega), List.getElem?_append_right (by omega), hA, show j + 1 - (p0 + 1) = j - (p0 + 1) + 1 by omega]
    rfl
theorem zmemD {P : List zE} {i : Nat} (h : i < P.length) : P.getD i (0, 0, 0) ∈ P := List.mem_of_getElem? (zP_at h)
theorem zord_split {T T' : zT} (hI : zInv T) (hs : zSo T) (hl : zLe T) {p0 f' x : Nat} {P : List zE} (hp0 : p0 < zln T) (hin : zIns T T' p0 f' x (zlim P) (zmrk P)) (hsrc : zSrc T T' P (zlq T p0).1 f' x) (h7 : P.length = 7) (hsrt : P.Pairwise zle2) (hP : ∀ e, e ∈ P → e.1 = zha T e.2.1 ∧ (zlq T p0).2.1 ≤ e.1 ∧ zbe T p0 e.1) (hha : ∀ n, zha T' n = zha T n) : zSo T' ∧ zLe T' := by
  obtain ⟨i1, i2, i3, i4, i5⟩ := hin
  have hsame : ∀ j, j ≤ p0 → (zlq T' j).2 = (zlq T j).2 := fun j hj => by
    by_cases e : j = p0
    · subst e; rw [i3]
    · rw [i2 j (by omega)]
  have g : ∀ i j, i < j → j < 7 → (P.getD i (0, 0, 0)).1 ≤ (P.getD j (0, 0, 0)).1 := fun i j hij hj => (zsrt_at hsrt hij (by omega)).1
  have hm : ∀ i, i < 7 → P.getD i (0, 0, 0) ∈ P := fun i hi => zmemD (by omega)
  have elim : zlim P = (P.getD 3 (0, 0, 0)).1 := rfl
  have p3 := hP _ (hm 3 (by omega))
  have p2 := hP _ (hm 2 (by omega))
  have g23 := g 2 3 (by omega) (by omega)
  have emk : (P.getD 2 (0, 0, 0)).1 = zlim P → zmrk P = 1 := fun e => by
    unfold zmrk
    rw [if_pos (by rw [e, elim])]
  refine ⟨⟨?_, ?_, fun j q => ?_⟩, fun k hk hz => ?_⟩
  · rw [hsame 0 (by omega)]; exact hs.1
  · rw [hsame 0 (by omega)]; exact hs.2.1
  · rw [i1] at q
    by_cases c1 : j < p0
    · rw [hsame j (by omega), hsame (j + 1) (by omega)]
      exact hs.2.2 j (by omega)
    · by_cases c2 : j = p0
      · subst c2
        rw [hsame j (by omega), i4]
        show (zlq T j).2.1 < zlim P ∨ ((zlq T j).2.1 = zlim P ∧ zmrk P = 1)
        by_cases e : (zlq T j).2.1 = zlim P
        · exact Or.inr ⟨e, emk (by omega)⟩
        · left; omega
      · by_cases c3 : j = p0 + 1
        · subst c3
          rw [i4, i5 (p0 + 1) (by omega) (by omega)]
          exact p3.2.2 (by omega)
        · obtain ⟨j', ej⟩ : ∃ j', j = j' + 1 := ⟨j - 1, by omega⟩
          subst ej
          rw [i5 j' (by omega) (by omega), i5 (j' + 1) (by omega) (by omega)]
          exact hs.2.2 j' (by omega)
  · rw [hha]
    rcases hsrc k hk hz with ⟨a1, a2, a3⟩ | ⟨a1, a2, a3⟩ | ⟨a1, a4, a5, a3⟩
    · have pe := hP _ (hm (k % 6) (by omega))
      have g3 := g (k % 6) 3 (by omega) (by omega)
      refine ⟨p0, by omega, by rw [i3]; exact a1.symm, ?_, fun _ => ?_⟩
      · rw [hsame p0 (by omega), a3, ← pe.1]; exact pe.2.1
      · rw [i4, a3, ← pe.1]
        show _ < zlim P ∨ (_ = zlim P ∧ zmrk P = 1)
        by_cases e : (P.getD (k % 6) (0, 0, 0)).1 = zlim P
        · refine Or.inr ⟨e, emk ?_⟩
          by_cases e2 : k % 6 = 2
          · rw [e2] at e; exact e
          · have := g (k % 6) 2 (by omega) (by omega)
            omega
        · left; omega
    · have pe := hP _ (hm (3 + k % 6) (by omega))
      refine ⟨p0 + 1, by omega, by rw [i4]; exact a1.symm, ?_, fun q => ?_⟩
      · rw [i4, a3, ← pe.1]
        show zlim P ≤ _
        by_cases e2 : k % 6 = 0
        · rw [e2]; exact Nat.le_refl _
        · exact g 3 (3 + k % 6) (by omega) (by omega)
      · rw [i5 (p0 + 1) (by omega) (by omega), a3, ← pe.1]
        exact pe.2.2 (by omega)
    · rw [a3]
      rw [a3] at hz
      obtain ⟨p, q1, q2, q3, q4⟩ := hl k hk hz
      have hne : p ≠ p0 := fun e => a1 (by rw [← q2, e])
      by_cases c : p < p0
      · refine ⟨p, by omega, by rw [i2 p c]; exact q2, by rw [i2 p c]; exact q3, fun q => ?_⟩
        rw [hsame (p + 1) (by omega)]
        exact q4 (by omega)
      · refine ⟨p + 1, by omega, by rw [i5 p (by omega) q1]; exact q2, by rw [i5 p (by omega) q1]; exact q3, fun q => ?_⟩
        rw [i5 (p + 1) (by omega) (by omega)]
        exact q4 (by omega)
/-! names apart -/
def zun (T : zT) : Prop := ∀ i j, i < 240 → j < 240 → i ≠ j → T.2 i ≠ 0 → T.2 j ≠ 0 → T.2 i ||| zSM ≠ T.2 j ||| zSM
theorem zun_iff (T : zT) : zuq T ↔ zun T := by
  unfold zuq zFN
  rw [List.Nodup, List.pairwise_map]
  constructor
  · intro h i j hi hj hij zi zj e
    have hn : ∀ a b, a < b → b < 240 → T.2 a ≠ 0 → T.2 b ≠ 0 → T.2 a ||| zSM ≠ T.2 b ||| zSM := fun a b hab hb za zb => by
      rw [List.pairwise_filter, List.pairwise_iff_getElem] at h
      have h9 := h a b (by rw [List.length_range]; omega) (by rw [List.length_range]; omega) hab
      rw [List.getElem_range, List.getElem_range] at h9
      exact h9 (znz_t za) (znz_t zb)
    by_cases c : i < j
    · exact hn i j c hj zi zj e
    · exact hn j i (by omega) hi zj zi e.symm
  · intro h
    refine List.Pairwise.imp_of_mem ?_ (List.Pairwise.sublist List.filter_sublist (List.nodup_range (n := 240)))
    intro a b ha hb hne
    rw [List.mem_filter, List.mem_range] at ha hb
    exact h a b ha.1 hb.1 hne (of_decide_eq_true ha.2) (of_decide_eq_true hb.2)
/-- what is in the pool of a split -/
theorem zPP_un {T : zT} (hI : zInv T) (hu : zun T) {h : Nat} {n : Int64} {d : Nat} (hfull : zfull T (zfl T h)) (hf : zfl T h < 40) (hno : ∀ k, k < 240 → T.2 k ≠ 0 → T.2 k ||| zSM ≠ n ||| zSM) : ∀ i j, i < 7 → j < 7 → i ≠ j → ((zPP T h n d).getD i (0, 0, 0)).2.1 ||| zSM ≠ ((zPP T h n d).getD j (0, 0, 0)).2.1 ||| zSM := by
  have hl := zPP_len T h n d
  have hnd : ((zPP T h n d).map (fun x => x.2.1 ||| zSM)).Nodup := by
    have hp : ((zPP T h n d).map (fun x => x.2.1 ||| zSM)).Perm ((n ||| zSM) :: ((List.range 6).filter (fun _ => true)).map (fun s => T.2 (zfl T h * 6 + s) ||| zSM)) := by
      unfold zPP
      refine ((zins_pm _ _).map _).trans ?_
      refine List.Perm.cons _ ?_
      have := (zpc_pm (fun _ => true) (fun s => zen T (T.1 7 1) (T.1 7 2) (T.1 7 3) (zfl T h * 6 + s)) 6).map (fun x => x.2.1 ||| zSM)
      rw [List.map_map] at this
      exact this
    rw [hp.nodup_iff, List.nodup_cons]
    refine ⟨fun q => ?_, ?_⟩
    · rw [List.mem_map] at q
      obtain ⟨s, q1, q2⟩ := q
      rw [List.mem_filter, List.mem_range] at q1
      exact hno _ (by omega) (hfull s q1.1) q2
    · rw [List.Nodup, List.pairwise_map]
      refine List.Pairwise.imp_of_mem ?_ (List.Pairwise.sublist List.filter_sublist (List.nodup_range (n := 6)))
      intro a b ha hb hne
      rw [List.mem_filter, List.mem_range] at ha hb
      exact hu _ _ (by omega) (by omega) (by omega) (hfull a ha.1) (hfull b hb.1)
  rw [znd_iff] at hnd
  intro i j hi hj hij
  by_cases c : i < j
  · exact hnd i j c (by omega)
  · exact fun e => hnd j i (by omega) (by omega) e.symm
theorem zun_split {T T' : zT} (hI : zInv T) (hu : zun T) {h f' x : Nat} {n : Int64} {d : Nat} (hfull : zfull T (zfl T h)) (hf : zfl T h < 40) (hno : ∀ k, k < 240 → T.2 k ≠ 0 → T.2 k ||| zSM ≠ n ||| zSM) (hx : f' ≠ x) (hsrc : zSrc T T' (zPP T h n d) (zfl T h) f' x) : zun T' := by
  have hl := zPP_len T h n d
  have hP := zPP_un hI hu (d := d) hfull hf hno
  have hold : ∀ i k, i < 7 → k < 240 → T.2 k ≠ 0 → k / 6 ≠ zfl T h → ((zPP T h n d).getD i (0, 0, 0)).2.1 ||| zSM ≠ T.2 k ||| zSM := fun i k hi hk hz hne e => by
    rcases zPP_mem (zmemD (show i < (zPP T h n d).length by omega)) with q | ⟨s, hs, q⟩
    · rw [q] at e
      exact hno k hk hz e.symm
    · rw [q] at e
      exact hu _ _ (show zfl T h * 6 + s < 240 by omega) hk (by omega) (hfull s hs) hz e
  intro i j hi hj hij zi zj
  have di : i / 6 * 6 + i % 6 = i := by omega
  have dj : j / 6 * 6 + j % 6 = j := by omega
  rcases hsrc i hi zi with ⟨a1, a2, a3⟩ | ⟨a1, a2, a3⟩ | ⟨a1, a4, a5, a3⟩ <;> rcases hsrc j hj zj with ⟨b1, b2, b3⟩ | ⟨b1, b2, b3⟩ | ⟨b1, b4, b5, b3⟩ <;> rw [a3, b3]
  · exact hP _ _ (by omega) (by omega) (by omega)
  · exact hP _ _ (by omega) (by omega) (by omega)
  · exact hold _ _ (by omega) hj (by rw [← b3]; exact zj) b1
  · exact hP _ _ (by omega) (by omega) (by omega)
  · exact hP _ _ (by omega) (by omega) (by omega)
  · exact hold _ _ (by omega) hj (by rw [← b3]; exact zj) b1
  · exact fun e => hold _ _ (by omega) hi (by rw [← a3]; exact zi) a1 e.symm
  · exact fun e => hold _ _ (by omega) hi (by rw [← a3]; exact zi) a1 e.symm
  · exact hu i j hi hj hij (by rw [← a3]; exact zi) (by rw [← b3]; exact zj)
theorem zgr_n (T : zT) (b : Nat) (g : Nat → Int64 × Nat) (k : Nat) : ∀ s, (zgr T b g s).2 k = if b * 6 ≤ k ∧ k < b * 6 + s then (g (k - b * 6)).1 else T.2 k := by
  intro s
  induction s with
  | zero => rw [if_neg (by omega)]; rfl
  | succ s ih =>
    show (zeT (zgr T b g s) (b * 6 + s) (g s).1 (g s).2).2 k = _
    by_cases e : k = b * 6 + s
    · subst e
      rw [zeT_2s, if_pos (by omega), Nat.add_sub_cancel_left]
    · rw [zeT_2k _ _ _ _ e, ih]
      by_cases c : b * 6 ≤ k ∧ k < b * 6 + s
      · rw [if_pos c, if_pos (by omega)]
      · rw [if_neg c, if_neg (by omega)]
theorem zlg_1 (P : List zE) (f t s : Nat) : (zlg P f t s).1 = if f + s < t then (P.getD (f + s) (0, 0, 0)).2.1 else 0 := by
  unfold zlg
  split <;> rfl
