/-! The state of the system as two functions (ints and longs by cell and place), and the heap's picture of it -/
abbrev sh_St : Type := (Nat → Nat → Int32) × (Nat → Nat → Int64)
/-- classes' numbers, addresses of the cells, of the enum's constants, classes of the arrays, addresses of the words -/
abbrev sh_Ev : Type := va_G × (Nat → Nat) × (Nat → Nat) × (Nat → ClassId) × (Nat → Nat)
/-- a cell: an object (its class's place in vwCl, its fields: kind and target), or an array (kind, length, base, step) -/
abbrev sh_Ds : Type := (Nat × List (Nat × Nat)) ⊕ (Nat × Nat × Nat × Nat)
def sh_I (S : sh_St) (c k : Nat) (v : Int32) : sh_St := (fun i => if i = c then upd (S.1 i) k v else S.1 i, S.2)
def sh_L (S : sh_St) (c k : Nat) (v : Int64) : sh_St := (S.1, fun i => if i = c then vp_updL (S.2 i) k v else S.2 i)
def sh_RI (S : sh_St) (c : Nat) (f : Nat → Int32) : sh_St := (fun i => if i = c then f else S.1 i, S.2)
def sh_RL (S : sh_St) (c : Nat) (f : Nat → Int64) : sh_St := (S.1, fun i => if i = c then f else S.2 i)
def sh_fv (G : sh_Ev) (d : Nat × Nat) (k : Nat) (fi : Nat → Int32) (fl : Nat → Int64) : Value := match d.1 with
  | 0 => .int (fi k)
  | 1 => .long (fl k)
  | 2 => .ref (G.2.1 d.2)
  | _ => .ref (G.2.2.1 (fi k).toNatClampNeg)
def sh_fvs (G : sh_Ev) : List (Nat × Nat) → Nat → (Nat → Int32) → (Nat → Int64) → List Value
  | [], _, _, _ => []
  | d :: ds, k, fi, fl => sh_fv G d k fi fl :: sh_fvs G ds (k + 1) fi fl
def sh_arr (G : sh_Ev) (t b st : Nat) (fi : Nat → Int32) (fl : Nat → Int64) : (Nat → Int32) ⊕ (Nat → Int64) ⊕ (Nat → UInt32) ⊕ (Nat → UInt64) ⊕ (Nat → Option Nat) := match t with
  | 0 => .inl fi
  | 1 => .inr (.inl fl)
  | 2 => .inl fi
  | _ => .inr (.inr (.inr (.inr (fun j => some (G.2.1 (b + st * j))))))
def sh_cell (G : sh_Ev) (d : sh_Ds) (fi : Nat → Int32) (fl : Nat → Int64) : va_E := match d with
  | .inl q => .inr (q.1, sh_fvs G q.2 0 fi fl)
  | .inr q => .inl (G.2.2.2.1 q.1, q.2.1, sh_arr G q.1 q.2.2.1 q.2.2.2 fi fl)
def sh_wz (G : sh_Ev) (S : sh_St) : Nat → List sh_Ds → va_W
  | _, [] => []
  | i, d :: ds => (G.2.1 i, sh_cell G d (S.1 i) (S.2 i)) :: sh_wz G S (i + 1) ds
theorem sh_wz_get (G : sh_Ev) (S : sh_St) : ∀ (ds : List sh_Ds) (i k : Nat) (d : sh_Ds), ds[k]? = some d → (sh_wz G S i ds)[k]? = some (G.2.1 (i + k), sh_cell G d (S.1 (i + k)) (S.2 (i + k))) := by
  intro ds
  induction ds with
  | nil => intro i k d h; simp at h
  | cons d0 ds ih =>
    intro i k d h
    cases k with
    | zero => simp at h; subst h; rfl
    | succ k =>
      have h1 : ds[k]? = some d := by simpa using h
      have h2 := ih (i + 1) k d h1
      have e : i + 1 + k = i + (k + 1) := by omega
      rw [e] at h2
      show (sh_wz G S (i + 1) ds)[k]? = _
      exact h2
theorem sh_get (G : sh_Ev) (S : sh_St) {tb : List sh_Ds} {k : Nat} {d : sh_Ds} (h : tb[k]? = some d) : (sh_wz G S 0 tb)[k]? = some (G.2.1 k, sh_cell G d (S.1 k) (S.2 k)) := by
  have h1 := sh_wz_get G S tb 0 k d h
  rw [Nat.zero_add] at h1
  exact h1
theorem sh_wz_same (G : sh_Ev) (S S' : sh_St) : ∀ (ds : List sh_Ds) (i : Nat), (∀ j, i ≤ j → S'.1 j = S.1 j ∧ S'.2 j = S.2 j) → sh_wz G S' i ds = sh_wz G S i ds := by
  intro ds
  induction ds with
  | nil => intro i h; rfl
  | cons d ds ih =>
    intro i h
    show (_ :: _ : va_W) = _ :: _
    rw [(h i (Nat.le_refl i)).1, (h i (Nat.le_refl i)).2, ih (i + 1) (fun j hj => h j (by omega))]
theorem sh_wz_set (G : sh_Ev) (S S' : sh_St) : ∀ (ds : List sh_Ds) (i p : Nat) (d : sh_Ds), ds[p]? = some d → (∀ j, j ≠ i + p → S'.1 j = S.1 j ∧ S'.2 j = S.2 j) → sh_wz G S' i ds = (sh_wz G S i ds).set p (G.2.1 (i + p), sh_cell G d (S'.1 (i + p)) (S'.2 (i + p))) := by
  intro ds
  induction ds with
  | nil => intro i p d h; simp at h
  | cons d0 ds ih =>
    intro i p d h hj
    cases p with
    | zero =>
      simp at h
      subst h
      show (_ :: _ : va_W) = _ :: _
      rw [sh_wz_same G S S' ds (i + 1) (fun j h9 => hj j (by omega))]
      rfl
    | succ p =>
      have h1 : ds[p]? = some d := by simpa using h
      have e : i + 1 + p = i + (p + 1) := by omega
      have h2 := ih (i + 1) p d h1 (fun j h9 => hj j (by omega))
      rw [e] at h2
      show (_ :: _ : va_W) = _ :: _
      rw [h2, (hj i (by omega)).1, (hj i (by omega)).2]
theorem sh_set (G : sh_Ev) (S S' : sh_St) {tb : List sh_Ds} {p : Nat} {d : sh_Ds} (h : tb[p]? = some d) (hj : ∀ j, j ≠ p → S'.1 j = S.1 j ∧ S'.2 j = S.2 j) : sh_wz G S' 0 tb = (sh_wz G S 0 tb).set p (G.2.1 p, sh_cell G d (S'.1 p) (S'.2 p)) := by
  have h1 := sh_wz_set G S S' tb 0 p d h (fun j h9 => hj j (by omega))
  rw [Nat.zero_add] at h1
  exact h1
theorem sh_fvs_get (G : sh_Ev) (fi : Nat → Int32) (fl : Nat → Int64) : ∀ (ds : List (Nat × Nat)) (k0 k : Nat) (d : Nat × Nat), ds[k]? = some d → (sh_fvs G ds k0 fi fl)[k]? = some (sh_fv G d (k0 + k) fi fl) := by
  intro ds
  induction ds with
  | nil => intro k0 k d h; simp at h
  | cons d0 ds ih =>
    intro k0 k d h
    cases k with
    | zero => simp at h; subst h; rfl
    | succ k =>
      have h2 := ih (k0 + 1) k d (by simpa using h)
      have e : k0 + 1 + k = k0 + (k + 1) := by omega
      rw [e] at h2
      exact h2
theorem sh_fvs_len (G : sh_Ev) (fi : Nat → Int32) (fl : Nat → Int64) : ∀ (ds : List (Nat × Nat)) (k0 : Nat), (sh_fvs G ds k0 fi fl).length = ds.length := by
  intro ds
  induction ds with
  | nil => intro k0; rfl
  | cons d ds ih => intro k0; show _ + 1 = _ + 1; rw [ih]
theorem sh_fvs_same (G : sh_Ev) (fi fi' : Nat → Int32) (fl fl' : Nat → Int64) : ∀ (ds : List (Nat × Nat)) (k0 : Nat), (∀ j, k0 ≤ j → fi' j = fi j ∧ fl' j = fl j) → sh_fvs G ds k0 fi' fl' = sh_fvs G ds k0 fi fl := by
  intro ds
  induction ds with
  | nil => intro k0 h; rfl
  | cons d ds ih =>
    intro k0 h
    show (_ :: _ : List Value) = _ :: _
    rw [ih (k0 + 1) (fun j hj => h j (by omega))]
    unfold sh_fv
    rw [(h k0 (Nat.le_refl k0)).1, (h k0 (Nat.le_refl k0)).2]
theorem sh_fvs_set (G : sh_Ev) (fi fi' : Nat → Int32) (fl fl' : Nat → Int64) : ∀ (ds : List (Nat × Nat)) (k0 k : Nat) (d : Nat × Nat), ds[k]? = some d → (∀ j, j ≠ k0 + k → fi' j = fi j ∧ fl' j = fl j) → sh_fvs G ds k0 fi' fl' = (sh_fvs G ds k0 fi fl).set k (sh_fv G d (k0 + k) fi' fl') := by
  intro ds
  induction ds with
  | nil => intro k0 k d h; simp at h
  | cons d0 ds ih =>
    intro k0 k d h hj
    cases k with
    | zero =>
      simp at h
      subst h
      show (_ :: _ : List Value) = _ :: _
      rw [sh_fvs_same G fi fi' fl fl' ds (k0 + 1) (fun j h9 => hj j (by omega))]
      rfl
    | succ k =>
      have e : k0 + 1 + k = k0 + (k + 1) := by omega
      have h2 := ih (k0 + 1) k d (by simpa using h) (fun j h9 => hj j (by omega))
      rw [e] at h2
      show (_ :: _ : List Value) = _ :: _
      rw [h2]
      unfold sh_fv
      rw [(hj k0 (by omega)).1, (hj k0 (by omega)).2]
theorem sh_I_at (S : sh_St) (c k : Nat) (v : Int32) : (sh_I S c k v).1 c = upd (S.1 c) k v := by simp [sh_I]
theorem sh_I_at2 (S : sh_St) (c k : Nat) (v : Int32) (j : Nat) : (sh_I S c k v).2 j = S.2 j := rfl
theorem sh_I_ne (S : sh_St) (c k : Nat) (v : Int32) (j : Nat) (h : j ≠ c) : (sh_I S c k v).1 j = S.1 j ∧ (sh_I S c k v).2 j = S.2 j := by simp [sh_I, h]
theorem sh_L_at (S : sh_St) (c k : Nat) (v : Int64) : (sh_L S c k v).2 c = vp_updL (S.2 c) k v := by simp [sh_L]
theorem sh_L_at1 (S : sh_St) (c k : Nat) (v : Int64) (j : Nat) : (sh_L S c k v).1 j = S.1 j := rfl
theorem sh_L_ne (S : sh_St) (c k : Nat) (v : Int64) (j : Nat) (h : j ≠ c) : (sh_L S c k v).1 j = S.1 j ∧ (sh_L S c k v).2 j = S.2 j := by simp [sh_L, h]
theorem sh_RI_ne (S : sh_St) (c : Nat) (f : Nat → Int32) (j : Nat) (h : j ≠ c) : (sh_RI S c f).1 j = S.1 j ∧ (sh_RI S c f).2 j = S.2 j := by simp [sh_RI, h]
theorem sh_RL_ne (S : sh_St) (c : Nat) (f : Nat → Int64) (j : Nat) (h : j ≠ c) : (sh_RL S c f).1 j = S.1 j ∧ (sh_RL S c f).2 j = S.2 j := by simp [sh_RL, h]
/-! the words of the functions that tell what a method does: an index's check, a name for a value, a call, a boolean's check -/
def sh_g {α : Type} (j : Int32) (n : Nat) (k : Option α) : Option α := if j < 0 ∨ n ≤ j.toNatClampNeg then none else k
def sh_t {α β : Type} (x : α) (f : α → β) : β := f x
def sh_c {α β : Type} (x : Option (α × sh_St)) (f : α → sh_St → Option β) : Option β := match x with
  | none => none
  | some q => f q.1 q.2
def sh_b {α : Type} (v : Int32) (k : Option α) : Option α := if v = 0 ∨ v = 1 then k else none
theorem sh_g_of {α : Type} {j : Int32} {n : Nat} {k : Option α} {r : α} (h : sh_g j n k = some r) : vp_in j n ∧ k = some r := by
  unfold sh_g at h
  split at h
  · cases h
  · rename_i q
    exact ⟨q, h⟩
theorem sh_c_of {α β : Type} {x : Option (α × sh_St)} {f : α → sh_St → Option β} {r : β} (h : sh_c x f = some r) : ∃ (a : α) (S : sh_St), x = some (a, S) ∧ f a S = some r := by
  cases x with
  | none => cases h
  | some q => exact ⟨q.1, q.2, rfl, h⟩
theorem sh_b_of {α : Type} {v : Int32} {k : Option α} {r : α} (h : sh_b v k = some r) : (v = 0 ∨ v = 1) ∧ k = some r := by
  unfold sh_b at h
  split at h
  · rename_i q
    exact ⟨q, h⟩
  · cases h
