/-! worlds alike: the same cells at the same addresses, rows of references alike up to their ends -/
def sh_Qw (w w' : va_W) : Prop := w.map Prod.fst = w'.map Prod.fst ∧ ∀ (D : va_G) (cl : List vw_C) (H : Heap), va_P D cl w H → va_P D cl w' H
theorem sh_Qw_e {w w' : va_W} (e : w = w') : sh_Qw w w' := by
  subst e
  exact ⟨rfl, fun _ _ _ h => h⟩
theorem sh_Qw_app {w1 w1' w2 w2' : va_W} (h1 : sh_Qw w1 w1') (h2 : sh_Qw w2 w2') : sh_Qw (w1 ++ w2) (w1' ++ w2') := by
  refine ⟨by rw [List.map_append, List.map_append, h1.1, h2.1], fun D cl H h => ?_⟩
  exact (h1.2 D cl H (sh_PL h)).app (h2.2 D cl H (sh_PR h))
theorem sh_Qw_cons {x x' : Nat × va_E} {w w' : va_W} (e : x = x') (h : sh_Qw w w') : sh_Qw (x :: w) (x' :: w') := sh_Qw_app (w1 := [x]) (w1' := [x']) (sh_Qw_e (by rw [e])) h
theorem sh_Qw_ref {q q' n : Nat} {cA : ClassId} {f g : Nat → Option Nat} {w w' : va_W} (eq : q = q') (e : ∀ j, j < n → f j = g j) (h : sh_Qw w w') : sh_Qw ((q, .inl (cA, n, .inr (.inr (.inr (.inr f))))) :: w) ((q', .inl (cA, n, .inr (.inr (.inr (.inr g))))) :: w') := by
  subst eq
  refine sh_Qw_app (w1 := [(q, .inl (cA, n, .inr (.inr (.inr (.inr f)))))]) (w1' := [(q, .inl (cA, n, .inr (.inr (.inr (.inr g)))))]) ⟨rfl, fun D cl H hP k y hk => ?_⟩ h
  match k, hk with
  | 0, hk =>
    have : y = (q, .inl (cA, n, .inr (.inr (.inr (.inr g))))) := (Option.some.inj hk).symm
    subst this
    exact sh_rq (hP 0 _ rfl) e
theorem sh_Qw_D {A : Nat → Prop} {w w' : va_W} (h : sh_Qw w w') (hD : va_D A w) : va_D A w' := by
  rw [sh_Dn] at hD ⊢
  refine ⟨by rw [← h.1]; exact hD.1, fun q hq => ?_⟩
  have h1 : q.1 ∈ w.map Prod.fst := by rw [h.1]; exact List.mem_map_of_mem hq
  obtain ⟨p, hp, e⟩ := List.mem_map.mp h1
  rw [← e]
  exact hD.2 p hp
/-! the blocks alike -/
theorem wN_Tape_cg (G : sh_Ev) {q q' : Nat} {a b : Nat → Nat} (e0 : q = q') (e : ∀ i, 1 ≤ i → i ≤ 1 → a i = b i) : wN_Tape G q a = wN_Tape G q' b := by
  subst e0
  unfold wN_Tape
  rw [e 1 (by omega) (by omega)]
theorem wN_Cursor_cg (G : sh_Ev) {q q' : Nat} {a b : Nat → Nat} (e0 : q = q') (e : ∀ i, 1 ≤ i → i ≤ 1 → a i = b i) : wN_Cursor G q a = wN_Cursor G q' b := by
  subst e0
  unfold wN_Cursor
  rw [e 1 (by omega) (by omega)]
theorem wN_Text_cg (G : sh_Ev) {t t' q q' : Nat} {a b : Nat → Nat} (et : t = t') (e0 : q = q') : wN_Text G t q a = wN_Text G t' q' b := by
  subst e0 et
  rfl
theorem wN_Store_cg (G : sh_Ev) {q q' : Nat} {a b : Nat → Nat} (e0 : q = q') (e : ∀ i, 1 ≤ i → i ≤ 9 → a i = b i) : wN_Store G q a = wN_Store G q' b := by
  subst e0
  unfold wN_Store
  rw [e 1 (by omega) (by omega), e 2 (by omega) (by omega), e 3 (by omega) (by omega), e 4 (by omega) (by omega), e 5 (by omega) (by omega), e 6 (by omega) (by omega), e 7 (by omega) (by omega), e 8 (by omega) (by omega), e 9 (by omega) (by omega)]
theorem wN_Order_cg (G : sh_Ev) {q q' : Nat} {a b : Nat → Nat} (e0 : q = q') (e : ∀ i, 1 ≤ i → i ≤ 3 → a i = b i) : wN_Order G q a = wN_Order G q' b := by
  subst e0
  unfold wN_Order
  rw [e 1 (by omega) (by omega), e 2 (by omega) (by omega), e 3 (by omega) (by omega)]
theorem wN_Way_cg (G : sh_Ev) {q q' : Nat} {a b : Nat → Nat} (e0 : q = q') (e : ∀ i, 1 ≤ i → i ≤ 2 → a i = b i) : wN_Way G q a = wN_Way G q' b := by
  subst e0
  unfold wN_Way
  rw [e 1 (by omega) (by omega), e 2 (by omega) (by omega)]
theorem wN_Pool_cg (G : sh_Ev) {q q' : Nat} {a b : Nat → Nat} (e0 : q = q') (e : ∀ i, 1 ≤ i → i ≤ 3 → a i = b i) : wN_Pool G q a = wN_Pool G q' b := by
  subst e0
  unfold wN_Pool
  rw [e 1 (by omega) (by omega), e 2 (by omega) (by omega), e 3 (by omega) (by omega)]
theorem wN_Survey_cg (G : sh_Ev) {s s' k k' q q' : Nat} {a b : Nat → Nat} (es : s = s') (ek : k = k') (e0 : q = q') (e : ∀ i, 1 ≤ i → i ≤ 2 → a i = b i) : wN_Survey G s k q a = wN_Survey G s' k' q' b := by
  subst e0 es ek
  unfold wN_Survey
  rw [e 1 (by omega) (by omega), e 2 (by omega) (by omega)]
theorem wN_Keeper_cg (G : sh_Ev) {s s' q q' : Nat} {a b : Nat → Nat} (es : s = s') (e0 : q = q') (e : ∀ i, 1 ≤ i → i ≤ 11 → a i = b i) : wN_Keeper G s q a = wN_Keeper G s' q' b := by
  subst e0 es
  unfold wN_Keeper
  rw [wN_Order_cg G (a := fun i => a (1 + i)) (b := fun i => b (1 + i)) (e 1 (by omega) (by omega)) (fun i h1 h2 => e _ (by omega) (by omega)), wN_Way_cg G (a := fun i => a (5 + i)) (b := fun i => b (5 + i)) (e 5 (by omega) (by omega)) (fun i h1 h2 => e _ (by omega) (by omega)), wN_Pool_cg G (a := fun i => a (8 + i)) (b := fun i => b (8 + i)) (e 8 (by omega) (by omega)) (fun i h1 h2 => e _ (by omega) (by omega)), e 1 (by omega) (by omega), e 5 (by omega) (by omega), e 8 (by omega) (by omega)]
theorem wN_History_cg (G : sh_Ev) {q q' : Nat} {a b : Nat → Nat} (e0 : q = q') (e : ∀ i, 1 ≤ i → i ≤ 81 → a i = b i) : sh_Qw (wN_History G q a) (wN_History G q' b) := by
  subst e0
  unfold wN_History
  refine sh_Qw_cons (by rw [e 1 (by omega) (by omega)]) (sh_Qw_ref (e 1 (by omega) (by omega)) (fun j hj => by rw [e _ (by omega) (by omega)]) ?_)
  refine sh_Qw_app (sh_Qw_app (sh_Qw_app (sh_Qw_app (sh_Qw_app (sh_Qw_app (sh_Qw_app ?_ ?_) ?_) ?_) ?_) ?_) ?_) ?_
  all_goals exact sh_Qw_e (wN_Store_cg G (e _ (by omega) (by omega)) (fun i h1 h2 => e _ (by omega) (by omega)))
/-- the addresses of all cells, out of the blocks' -/
def sh_ax (q : Nat → Nat) (a : Nat → Nat → Nat) : Nat → Nat := fun k => if k < 3 then (if k = 1 then q 1 else a 1 (k - 1)) else if k < 4 then q 2 else if k < 14 then (if k = 4 then q 3 else a 3 (k - 4)) else if k < 24 then (if k = 14 then q 4 else a 4 (k - 14)) else if k < 34 then (if k = 24 then q 5 else a 5 (k - 24)) else if k < 116 then (if k = 34 then q 6 else a 6 (k - 34)) else if k < 128 then (if k = 116 then q 7 else a 7 (k - 116)) else if k < 131 then (if k = 128 then q 8 else a 8 (k - 128)) else if k < 132 then q 13 else if k < 134 then (if k = 132 then q 9 else a 9 (k - 132)) else if k < 136 then (if k = 134 then q 10 else a 10 (k - 134)) else if k < 138 then (if k = 136 then q 11 else a 11 (k - 136)) else if k = 138 then q 12 else a 12 (k - 138)
theorem sh_ax_3 (q : Nat → Nat) (a : Nat → Nat → Nat) (i : Nat) (h1 : 1 ≤ i) (h2 : i ≤ 9) : a 3 i = sh_ax q a (4 + i) := by
  unfold sh_ax
  rw [if_neg (by omega), if_neg (by omega), if_pos (by omega), if_neg (by omega), Nat.add_sub_cancel_left]
theorem sh_ax_4 (q : Nat → Nat) (a : Nat → Nat → Nat) (i : Nat) (h1 : 1 ≤ i) (h2 : i ≤ 9) : a 4 i = sh_ax q a (14 + i) := by
  unfold sh_ax
  rw [if_neg (by omega), if_neg (by omega), if_neg (by omega), if_pos (by omega), if_neg (by omega), Nat.add_sub_cancel_left]
theorem sh_ax_5 (q : Nat → Nat) (a : Nat → Nat → Nat) (i : Nat) (h1 : 1 ≤ i) (h2 : i ≤ 9) : a 5 i = sh_ax q a (24 + i) := by
  unfold sh_ax
  rw [if_neg (by omega), if_neg (by omega), if_neg (by omega), if_neg (by omega), if_pos (by omega), if_neg (by omega), Nat.add_sub_cancel_left]
theorem sh_ax_6 (q : Nat → Nat) (a : Nat → Nat → Nat) (i : Nat) (h1 : 1 ≤ i) (h2 : i ≤ 81) : a 6 i = sh_ax q a (34 + i) := by
  unfold sh_ax
  rw [if_neg (by omega), if_neg (by omega), if_neg (by omega), if_neg (by omega), if_neg (by omega), if_pos (by omega), if_neg (by omega), Nat.add_sub_cancel_left]
theorem sh_ax_7 (q : Nat → Nat) (a : Nat → Nat → Nat) (i : Nat) (h1 : 1 ≤ i) (h2 : i ≤ 11) : a 7 i = sh_ax q a (116 + i) := by
  unfold sh_ax
  rw [if_neg (by omega), if_neg (by omega), if_neg (by omega), if_neg (by omega), if_neg (by omega), if_neg (by omega), if_pos (by omega), if_neg (by omega), Nat.add_sub_cancel_left]
theorem sh_ax_8 (q : Nat → Nat) (a : Nat → Nat → Nat) (i : Nat) (h1 : 1 ≤ i) (h2 : i ≤ 2) : a 8 i = sh_ax q a (128 + i) := by
  unfold sh_ax
  rw [if_neg (by omega), if_neg (by omega), if_neg (by omega), if_neg (by omega), if_neg (by omega), if_neg (by omega), if_neg (by omega), if_pos (by omega), if_neg (by omega), Nat.add_sub_cancel_left]
theorem sh_one {P : Nat → Prop} (h : P 1) : ∀ i, 1 ≤ i → i ≤ 1 → P i := fun i h1 h2 => by
  have : i = 1 := by omega
  subst this
  exact h
