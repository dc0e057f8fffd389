/-! what an insertion keeps; gathering -/
theorem zinr_pm (e : zE) : ∀ (A B : List zE), (zinr e A B).Perm (e :: (A.reverse ++ B)) := by
  intro A
  induction A with
  | nil => intro B; exact List.Perm.refl _
  | cons x A ih =>
    intro B
    unfold zinr
    split
    · refine (ih (x :: B)).trans ?_
      rw [List.reverse_cons, List.append_assoc]
      exact List.Perm.refl _
    · exact List.perm_middle
theorem zins_pm (P : List zE) (e : zE) : (zins P e).Perm (e :: P) := by
  have := zinr_pm e P.reverse []
  rw [List.reverse_reverse, List.append_nil] at this
  exact this
def zpc (c : Nat → Bool) (e : Nat → zE) : Nat → List zE
  | 0 => []
  | n + 1 => if c n = true then zins (zpc c e n) (e n) else zpc c e n
theorem zpc_t {c : Nat → Bool} {e : Nat → zE} {n : Nat} (h : c n = true) : zpc c e (n + 1) = zins (zpc c e n) (e n) := if_pos h
theorem zpc_f {c : Nat → Bool} {e : Nat → zE} {n : Nat} (h : ¬ c n = true) : zpc c e (n + 1) = zpc c e n := if_neg h
theorem zpc_len (c : Nat → Bool) (e : Nat → zE) (n : Nat) : (zpc c e n).length = zcnt c n := by
  induction n with
  | zero => rfl
  | succ n ih =>
    by_cases h : c n = true
    · rw [zpc_t h, zcnt_t h, (zins_pm _ _).length_eq, List.length_cons, ih]
    · rw [zpc_f h, zcnt_f (by simpa using h), ih]
theorem zpc_mem {c : Nat → Bool} {e : Nat → zE} {x : zE} : ∀ {n : Nat}, x ∈ zpc c e n → ∃ k, k < n ∧ c k = true ∧ x = e k := by
  intro n
  induction n with
  | zero => intro h; simp [zpc] at h
  | succ n ih =>
    intro h
    by_cases hc : c n = true
    · rw [zpc_t hc, (zins_pm _ _).mem_iff, List.mem_cons] at h
      rcases h with h | h
      · exact ⟨n, by omega, hc, h⟩
      · obtain ⟨k, a, b, d⟩ := ih h
        exact ⟨k, by omega, b, d⟩
    · rw [zpc_f hc] at h
      obtain ⟨k, a, b, d⟩ := ih h
      exact ⟨k, by omega, b, d⟩
theorem zpc_ext {c : Nat → Bool} {e e' : Nat → zE} (n : Nat) (h : ∀ k, k < n → c k = true → e k = e' k) : zpc c e n = zpc c e' n := by
  induction n with
  | zero => rfl
  | succ n ih =>
    have i1 := ih (fun k hk => h k (by omega))
    by_cases hc : c n = true
    · rw [zpc_t hc, zpc_t hc, i1, h n (by omega) hc]
    · rw [zpc_f hc, zpc_f hc, i1]
theorem zpc_pm (c : Nat → Bool) (e : Nat → zE) (n : Nat) : (zpc c e n).Perm (((List.range n).filter c).map e) := by
  induction n with
  | zero => exact List.Perm.refl _
  | succ n ih =>
    rw [List.range_succ, List.filter_append, List.map_append]
    by_cases hc : c n = true
    · rw [zpc_t hc]
      have : ([n].filter c).map e = [e n] := by simp [hc]
      rw [this]
      exact (zins_pm _ _).trans ((List.Perm.cons _ ih).trans (List.perm_append_comm (l₁ := [e n]) (l₂ := ((List.range n).filter c).map e)))
    · rw [zpc_f hc]
      have : ([n].filter c).map e = [] := by simp [hc]
      rw [this, List.append_nil]
      exact ih
/-- an entry by some numbers -/
def zen (T : zT) (b y f k : Nat) : zE := (zhash (T.2 k) b y f, T.2 k, T.1 3 k)
theorem zhash_lt12 (n : Int64) {b : Nat} (hb : b < 13) (y f : Nat) : zhash n b y f < 4096 := by
  have h1 := zhash_lt n b y f
  have h2 : 2 ^ b ≤ 2 ^ 12 := Nat.pow_le_pow_right (by decide) (by omega)
  omega
theorem zpc_lt {c : Nat → Bool} {T : zT} {b y f n : Nat} (hb : b < 13) : ∀ x, x ∈ zpc c (zen T b y f) n → x.1 < 4096 := by
  intro x hx
  obtain ⟨k, _, _, rfl⟩ := zpc_mem hx
  exact zhash_lt12 _ hb _ _
/-- names, nodes and numbers as the class has them, whatever the hashes are -/
def zXw (S : sh_St) (T : zT) : Prop := (∀ k, k < 240 → S.2 8 k = T.2 k ∧ (T.2 k ≠ 0 → S.1 9 k = nI (T.1 3 k))) ∧ S.1 4 0 = nI (T.1 7 1) ∧ S.1 4 1 = nI (T.1 7 2) ∧ S.1 4 2 = nI (T.1 7 3)
theorem zXw_fr {lo hi : Nat} {S S' : sh_St} {T : zT} (h : zFr lo hi S S') (hl : 14 ≤ lo) (hv : zXw S T) : zXw S' T := by
  unfold zXw
  rw [(h 8 (by omega)).2, (h 9 (by omega)).1, (h 4 (by omega)).1]
  exact hv
theorem zx_hashW {S : sh_St} {T : zT} (hv : zXw S T) (hI : zInv T) (n : Int64) : fX7_hashOf S n = some (nI (zha T n), S) := by
  rw [fX7_hashOf, hv.2.1, hv.2.2.1, hv.2.2.2, zx_hashBy S n (by have := hI.1; omega) (by have := hI.1; omega) (by have := hI.1; omega), zq_c]
  rfl
theorem zx_lay_c {T : zT} (hI : zInv T) : ∀ (m s : Nat) (S : sh_St), zXw S T → s ≤ 240 → 240 - s < m → zPX S (zpc (znz T) (zen T (T.1 7 1) (T.1 7 2) (T.1 7 3)) s) →
    ∃ S', fX4_layAnew_10 m S (nI s) = fX4_layAnew_10 1 S' (nI 240) ∧ zPX S' (zpc (znz T) (zen T (T.1 7 1) (T.1 7 2) (T.1 7 3)) 240) ∧ zFr 124 127 S S' := by
  intro m
  induction m with
  | zero => intro s S _ h1 h2; omega
  | succ m ih =>
    intro s S hv h1 h2 hP
    have hb : T.1 7 1 < 13 := by have := hI.1; omega
    by_cases h : s = 240
    · subst h
      refine ⟨S, ?_, hP, zFr_rf _ _ S⟩
      rw [fX4_layAnew_10, fX4_layAnew_10]
      simp (disch := omega) only [zq_l2, pk_mul, nI_add, zq_t, zq_c, zq_bz, zq_bo, zq_g, zq_cl, zq_leT, zq_leF, zq_ltT, zq_ltF, zq_eqT, zq_eqF, zq_em, zq_me, zq_pm, zq_mm, zq_gm, pk_sub, zI_s, zI_k, zI_c, zI_2, zL_s, zL_k, zL_c, zL_1, if_true, if_false, eq_self, Nat.zero_add, Nat.add_zero]
    · rw [fX4_layAnew_10]
      by_cases h9 : T.2 s = 0
      · rw [← zpc_f (c := znz T) (by rw [znz_f h9]; simp)] at hP
        obtain ⟨S', f1, f2, f3⟩ := ih (s + 1) S hv (by omega) (by omega) hP
        refine ⟨S', ?_, f2, f3⟩
        simp (disch := omega) only [zq_l2, pk_mul, nI_add, zq_t, zq_c, zq_bz, zq_bo, zq_g, zq_cl, zq_leT, zq_leF, zq_ltT, zq_ltF, zq_eqT, zq_eqF, zq_em, zq_me, zq_pm, zq_mm, zq_gm, pk_sub, zI_s, zI_k, zI_c, zI_2, zL_s, zL_k, zL_c, zL_1, if_true, if_false, eq_self, Nat.zero_add, Nat.add_zero, (hv.1 s (by omega)).1, h9, fX4_layAnew_72]
        exact f1
      · have hl := zpc_len (znz T) (zen T (T.1 7 1) (T.1 7 2) (T.1 7 3)) s
        have hc := zcnt_le (znz T) s
        obtain ⟨S1, e1, e2, e3⟩ := zx_add hP (zpc_lt hb) (by omega) (zhash_lt12 (T.2 s) hb (T.1 7 2) (T.1 7 3)) (T.2 s) (T.1 3 s)
        rw [show (zhash (T.2 s) (T.1 7 1) (T.1 7 2) (T.1 7 3), T.2 s, T.1 3 s) = zen T (T.1 7 1) (T.1 7 2) (T.1 7 3) s from rfl, ← zpc_t (c := znz T) (znz_t h9)] at e2
        obtain ⟨S', f1, f2, f3⟩ := ih (s + 1) S1 (zXw_fr e3 (by omega) hv) (by omega) (by omega) e2
        refine ⟨S', ?_, f2, zFr_tr e3 f3⟩
        have e1' : fX6_add S (T.2 s) (nI (T.1 3 s)) (nI (zha T (T.2 s))) = some ((), S1) := e1
        simp (disch := omega) only [zq_l2, pk_mul, nI_add, zq_t, zq_c, zq_bz, zq_bo, zq_g, zq_cl, zq_leT, zq_leF, zq_ltT, zq_ltF, zq_eqT, zq_eqF, zq_em, zq_me, zq_pm, zq_mm, zq_gm, pk_sub, zI_s, zI_k, zI_c, zI_2, zL_s, zL_k, zL_c, zL_1, if_true, if_false, eq_self, Nat.zero_add, Nat.add_zero, (hv.1 s (by omega)).1, (hv.1 s (by omega)).2 h9, h9, zx_hashW hv hI, e1', fX4_layAnew_72]
        exact f1
theorem zx_fold_c {T : zT} : ∀ (m s : Nat) (S : sh_St), zVX S 4 T → s ≤ 240 → 240 - s < m → zPX S (zpc (znz T) (fun k => (0, T.2 k ||| zSM, 0)) s) →
    ∃ S', fX4_wouldFoldMeet_10 m S (nI s) = fX4_wouldFoldMeet_61 sh_FU S' (nI 1) ∧ zPX S' (zpc (znz T) (fun k => (0, T.2 k ||| zSM, 0)) 240) ∧ zFr 124 127 S S' := by
  intro m
  induction m with
  | zero => intro s S _ h1 h2; omega
  | succ m ih =>
    intro s S hv h1 h2 hP
    rw [fX4_wouldFoldMeet_10]
    by_cases h : s = 240
    · subst h
      refine ⟨S, ?_, hP, zFr_rf _ _ S⟩
      simp (disch := omega) only [zq_l2, pk_mul, nI_add, zq_t, zq_c, zq_bz, zq_bo, zq_g, zq_cl, zq_leT, zq_leF, zq_ltT, zq_ltF, zq_eqT, zq_eqF, zq_em, zq_me, zq_pm, zq_mm, zq_gm, pk_sub, zI_s, zI_k, zI_c, zI_2, zL_s, zL_k, zL_c, zL_1, if_true, if_false, eq_self, Nat.zero_add, Nat.add_zero]
    · by_cases h9 : T.2 s = 0
      · rw [← zpc_f (c := znz T) (by rw [znz_f h9]; simp)] at hP
        obtain ⟨S', f1, f2, f3⟩ := ih (s + 1) S hv (by omega) (by omega) hP
        refine ⟨S', ?_, f2, f3⟩
        simp (disch := omega) only [zq_l2, pk_mul, nI_add, zq_t, zq_c, zq_bz, zq_bo, zq_g, zq_cl, zq_leT, zq_leF, zq_ltT, zq_ltF, zq_eqT, zq_eqF, zq_em, zq_me, zq_pm, zq_mm, zq_gm, pk_sub, zI_s, zI_k, zI_c, zI_2, zL_s, zL_k, zL_c, zL_1, if_true, if_false, eq_self, Nat.zero_add, Nat.add_zero, zX_n hv, h9, fX4_wouldFoldMeet_53]
        exact f1
      · have hl := zpc_len (znz T) (fun k => (0, T.2 k ||| zSM, 0)) s
        have hc := zcnt_le (znz T) s
        obtain ⟨S1, e1, e2, e3⟩ := zx_add hP (by intro x hx; obtain ⟨k, _, _, rfl⟩ := zpc_mem hx; show 0 < 4096; omega) (by omega) (show 0 < 4096 by omega) (T.2 s ||| zSM) 0
        rw [← zpc_t (c := znz T) (e := fun k => (0, T.2 k ||| zSM, 0)) (znz_t h9)] at e2
        obtain ⟨S', f1, f2, f3⟩ := ih (s + 1) S1 (zVX_f4 e3 (by omega) hv) (by omega) (by omega) e2
        refine ⟨S', ?_, f2, zFr_tr e3 f3⟩
        have e1' : fX6_add S (T.2 s ||| 2314885530818453536) (nI 0) (nI 0) = some ((), S1) := e1
        simp (disch := omega) only [zq_l2, pk_mul, nI_add, zq_t, zq_c, zq_bz, zq_bo, zq_g, zq_cl, zq_leT, zq_leF, zq_ltT, zq_ltF, zq_eqT, zq_eqF, zq_em, zq_me, zq_pm, zq_mm, zq_gm, pk_sub, zI_s, zI_k, zI_c, zI_2, zL_s, zL_k, zL_c, zL_1, if_true, if_false, eq_self, Nat.zero_add, Nat.add_zero, zX_n hv, h9, e1', fX4_wouldFoldMeet_53]
        exact f1
theorem zx_hash_c {T : zT} (hI : zInv T) {g : Nat} (hg : g < 4096) : ∀ (m s : Nat) (S : sh_St), zVX S 4 T → s ≤ 240 → 240 - s < m → zPX S (zpc (zhp T g) (zen T (T.1 7 1) (T.1 7 2) (T.1 7 3)) s) →
    ∃ S', fX4_poolOfHash_10 m S (nI g) (nI s) = some ((), S') ∧ zPX S' (zpc (zhp T g) (zen T (T.1 7 1) (T.1 7 2) (T.1 7 3)) 240) ∧ zFr 124 127 S S' := by
  intro m
  induction m with
  | zero => intro s S _ h1 h2; omega
  | succ m ih =>
    intro s S hv h1 h2 hP
    have hb : T.1 7 1 < 13 := by have := hI.1; omega
    rw [fX4_poolOfHash_10]
    by_cases h : s = 240
    · subst h
      refine ⟨S, ?_, hP, zFr_rf _ _ S⟩
      simp (disch := omega) only [zq_l2, pk_mul, nI_add, zq_t, zq_c, zq_bz, zq_bo, zq_g, zq_cl, zq_leT, zq_leF, zq_ltT, zq_ltF, zq_eqT, zq_eqF, zq_em, zq_me, zq_pm, zq_mm, zq_gm, pk_sub, zI_s, zI_k, zI_c, zI_2, zL_s, zL_k, zL_c, zL_1, if_true, if_false, eq_self, Nat.zero_add, Nat.add_zero]
    · have hlt := zha_lt hI (T.2 s)
      by_cases h9 : T.2 s = 0
      · rw [← zpc_f (c := zhp T g) (by rw [zhp_0 h9]; simp)] at hP
        obtain ⟨S', f1, f2, f3⟩ := ih (s + 1) S hv (by omega) (by omega) hP
        refine ⟨S', ?_, f2, f3⟩
        simp (disch := omega) only [zq_l2, pk_mul, nI_add, zq_t, zq_c, zq_bz, zq_bo, zq_g, zq_cl, zq_leT, zq_leF, zq_ltT, zq_ltF, zq_eqT, zq_eqF, zq_em, zq_me, zq_pm, zq_mm, zq_gm, pk_sub, zI_s, zI_k, zI_c, zI_2, zL_s, zL_k, zL_c, zL_1, if_true, if_false, eq_self, Nat.zero_add, Nat.add_zero, zX_n hv, h9, fX4_poolOfHash_70]
        exact f1
      · by_cases h8 : zha T (T.2 s) = g
        · have hl := zpc_len (zhp T g) (zen T (T.1 7 1) (T.1 7 2) (T.1 7 3)) s
          have hc := zcnt_le (zhp T g) s
          obtain ⟨S1, e1, e2, e3⟩ := zx_add hP (zpc_lt hb) (by omega) (zhash_lt12 (T.2 s) hb (T.1 7 2) (T.1 7 3)) (T.2 s) (T.1 3 s)
          rw [show (zhash (T.2 s) (T.1 7 1) (T.1 7 2) (T.1 7 3), T.2 s, T.1 3 s) = zen T (T.1 7 1) (T.1 7 2) (T.1 7 3) s from rfl, ← zpc_t (c := zhp T g) (zhp_t h9 h8)] at e2
          obtain ⟨S', f1, f2, f3⟩ := ih (s + 1) S1 (zVX_f4 e3 (by omega) hv) (by omega) (by omega) e2
          refine ⟨S', ?_, f2, zFr_tr e3 f3⟩
          have e1' : fX6_add S (T.2 s) (nI (T.1 3 s)) (nI (zha T (T.2 s))) = some ((), S1) := e1
          rw [h8] at e1'
          simp (disch := omega) only [zq_l2, pk_mul, nI_add, zq_t, zq_c, zq_bz, zq_bo, zq_g, zq_cl, zq_leT, zq_leF, zq_ltT, zq_ltF, zq_eqT, zq_eqF, zq_em, zq_me, zq_pm, zq_mm, zq_gm, pk_sub, zI_s, zI_k, zI_c, zI_2, zL_s, zL_k, zL_c, zL_1, if_true, if_false, eq_self, Nat.zero_add, Nat.add_zero, zX_n hv, zX_h hv (show s < 240 by omega) h9, zX_d hv (show s < 240 by omega) h9, h9, e1', fX4_poolOfHash_70]
          exact f1
        · rw [← zpc_f (c := zhp T g) (by rw [zhp_f h8]; simp)] at hP
          obtain ⟨S', f1, f2, f3⟩ := ih (s + 1) S hv (by omega) (by omega) hP
          refine ⟨S', ?_, f2, f3⟩
          simp (disch := omega) only [zq_l2, pk_mul, nI_add, zq_t, zq_c, zq_bz, zq_bo, zq_g, zq_cl, zq_leT, zq_leF, zq_ltT, zq_ltF, zq_eqT, zq_eqF, zq_em, zq_me, zq_pm, zq_mm, zq_gm, pk_sub, zI_s, zI_k, zI_c, zI_2, zL_s, zL_k, zL_c, zL_1, if_true, if_false, eq_self, Nat.zero_add, Nat.add_zero, zX_n hv, zX_h hv (show s < 240 by omega) h9, h9, fX4_poolOfHash_70]
          exact f1
theorem zx_leaf_c {T : zT} (hI : zInv T) {b : Nat} (hb4 : b < 40) (hfull : ∀ s, s < 6 → T.2 (b * 6 + s) ≠ 0) : ∀ (m s : Nat) (S : sh_St), zVX S 4 T → s ≤ 6 → 6 - s < m → zPX S (zpc (fun _ => true) (fun s => zen T (T.1 7 1) (T.1 7 2) (T.1 7 3) (b * 6 + s)) s) →
    ∃ S', fX4_poolOfLeaf_13 m S (nI b) (nI (b * 6 + s)) = some ((), S') ∧ zPX S' (zpc (fun _ => true) (fun s => zen T (T.1 7 1) (T.1 7 2) (T.1 7 3) (b * 6 + s)) 6) ∧ zFr 124 127 S S' := by
  intro m
  induction m with
  | zero => intro s S _ h1 h2; omega
  | succ m ih =>
    intro s S hv h1 h2 hP
    have hb : T.1 7 1 < 13 := by have := hI.1; omega
    rw [fX4_poolOfLeaf_13]
    by_cases h : s = 6
    · subst h
      refine ⟨S, ?_, hP, zFr_rf _ _ S⟩
      simp (disch := omega) only [zq_l2, pk_mul, nI_add, zq_t, zq_c, zq_bz, zq_bo, zq_g, zq_cl, zq_leT, zq_leF, zq_ltT, zq_ltF, zq_eqT, zq_eqF, zq_em, zq_me, zq_pm, zq_mm, zq_gm, pk_sub, zI_s, zI_k, zI_c, zI_2, zL_s, zL_k, zL_c, zL_1, if_true, if_false, eq_self, Nat.zero_add, Nat.add_zero]
    · have h9 := hfull s (by omega)
      have hk : b * 6 + s < 240 := by omega
      have hl := zpc_len (fun _ => true) (fun s => zen T (T.1 7 1) (T.1 7 2) (T.1 7 3) (b * 6 + s)) s
      have hc := zcnt_le (fun _ => true) s
      obtain ⟨S1, e1, e2, e3⟩ := zx_add hP (by intro x hx; obtain ⟨k, _, _, rfl⟩ := zpc_mem hx; exact zhash_lt12 _ hb _ _) (by omega) (zhash_lt12 (T.2 (b * 6 + s)) hb (T.1 7 2) (T.1 7 3)) (T.2 (b * 6 + s)) (T.1 3 (b * 6 + s))
      rw [show (zhash (T.2 (b * 6 + s)) (T.1 7 1) (T.1 7 2) (T.1 7 3), T.2 (b * 6 + s), T.1 3 (b * 6 + s)) = zen T (T.1 7 1) (T.1 7 2) (T.1 7 3) (b * 6 + s) from rfl, ← zpc_t (c := fun _ => true) (e := fun s => zen T (T.1 7 1) (T.1 7 2) (T.1 7 3) (b * 6 + s)) rfl] at e2
      obtain ⟨S', f1, f2, f3⟩ := ih (s + 1) S1 (zVX_f4 e3 (by omega) hv) (by omega) (by omega) e2
      refine ⟨S', ?_, f2, zFr_tr e3 f3⟩
      have e1' : fX6_add S (T.2 (b * 6 + s)) (nI (T.1 3 (b * 6 + s))) (nI (zha T (T.2 (b * 6 + s)))) = some ((), S1) := e1
      simp (disch := omega) only [zq_l2, pk_mul, nI_add, zq_t, zq_c, zq_bz, zq_bo, zq_g, zq_cl, zq_leT, zq_leF, zq_ltT, zq_ltF, zq_eqT, zq_eqF, zq_em, zq_me, zq_pm, zq_mm, zq_gm, pk_sub, zI_s, zI_k, zI_c, zI_2, zL_s, zL_k, zL_c, zL_1, if_true, if_false, eq_self, Nat.zero_add, Nat.add_zero, zX_n hv, zX_h hv hk h9, zX_d hv hk h9, e1']
      exact f1
/-! the same by the reference -/
theorem zm_sortsAll_l {T : zT} (hI : zInv T) {b y f : Nat} (hb : b < 13) (hy : y < 65536) (hf : f < 2) : ∀ (m s : Nat) (S : sh_St), zVN S T → s ≤ 240 → 240 - s < m → zPM S (zpc (znz T) (zen T b y f) s) →
    ∃ S', fX13_sortsAll_8 m S (nI b) (nI y) (nI f) (nI s) = some ((), S') ∧ zPM S' (zpc (znz T) (zen T b y f) 240) ∧ zFs S S' := by
  intro m
  induction m with
  | zero => intro s S _ h1 h2; omega
  | succ m ih =>
    intro s S hv h1 h2 hP
    rw [fX13_sortsAll_8]
    by_cases h : s = 240
    · subst h
      refine ⟨S, ?_, hP, zFs_rf S⟩
      simp (disch := omega) only [zq_l2, pk_mul, nI_add, zq_t, zq_c, zq_bz, zq_bo, zq_g, zq_cl, zq_leT, zq_leF, zq_ltT, zq_ltF, zq_eqT, zq_eqF, zq_em, zq_me, zq_pm, zq_mm, zq_gm, pk_sub, zI_s, zI_k, zI_c, zI_2, zL_s, zL_k, zL_c, zL_1, if_true, if_false, eq_self, Nat.zero_add, Nat.add_zero]
    · by_cases h9 : T.2 s = 0
      · rw [← zpc_f (c := znz T) (by rw [znz_f h9]; simp)] at hP
        obtain ⟨S', f1, f2, f3⟩ := ih (s + 1) S hv (by omega) (by omega) hP
        refine ⟨S', ?_, f2, f3⟩
        simp (disch := omega) only [zq_l2, pk_mul, nI_add, zq_t, zq_c, zq_bz, zq_bo, zq_g, zq_cl, zq_leT, zq_leF, zq_ltT, zq_ltF, zq_eqT, zq_eqF, zq_em, zq_me, zq_pm, zq_mm, zq_gm, pk_sub, zI_s, zI_k, zI_c, zI_2, zL_s, zL_k, zL_c, zL_1, if_true, if_false, eq_self, Nat.zero_add, Nat.add_zero, zM_e hv (show s < 240 by omega) h9, fX13_sortsAll_66]
        exact f1
      · have hl := zpc_len (znz T) (zen T b y f) s
        have hc := zcnt_le (znz T) s
        have hn := zInv_nd hI (show s < 240 by omega) h9
        obtain ⟨S1, e1, e2, e3⟩ := zm_sorts hP (zpc_lt hb) (by omega) (zhash_lt12 (T.2 s) hb y f) (T.2 s) (T.1 3 s)
        rw [show (zhash (T.2 s) b y f, T.2 s, T.1 3 s) = zen T b y f s from rfl, ← zpc_t (c := znz T) (znz_t h9)] at e2
        obtain ⟨S', f1, f2, f3⟩ := ih (s + 1) S1 (zVN_fs e3 hv) (by omega) (by omega) e2
        refine ⟨S', ?_, f2, zFs_tr e3 f3⟩
        have hh := zm_hash S (zInv_va hI (show s < 240 by omega) h9) hb hy hf
        simp (disch := omega) only [zq_l2, pk_mul, nI_add, zq_t, zq_c, zq_bz, zq_bo, zq_g, zq_cl, zq_leT, zq_leF, zq_ltT, zq_ltF, zq_eqT, zq_eqF, zq_em, zq_me, zq_pm, zq_mm, zq_gm, pk_sub, zI_s, zI_k, zI_c, zI_2, zL_s, zL_k, zL_c, zL_1, if_true, if_false, eq_self, Nat.zero_add, Nat.add_zero, zM_d hv (show s < 240 by omega) h9, zM_n hv, hh, e1, fX13_sortsAll_66]
        exact f1
theorem zm_sortsAll {S : sh_St} {T : zT} (hv : zVN S T) (hI : zInv T) {b y f : Nat} (hb : b < 13) (hy : y < 65536) (hf : f < 2) : ∃ S', fX13_sortsAll S (nI b) (nI y) (nI f) = some ((), S') ∧ zPM S' (zpc (znz T) (zen T b y f) 240) ∧ zFs S S' := by
  have h1 := zFs_0 S (nI 0)
  obtain ⟨S', f1, f2, f3⟩ := zm_sortsAll_l hI hb hy hf sh_FU 0 _ (zVN_fs h1 hv) (by omega) (by decide) ⟨zI_s _ _ _ _, fun k e h => by simp [zpc] at h⟩
  refine ⟨S', ?_, f2, zFs_tr h1 f3⟩
  rw [fX13_sortsAll]
  simp (disch := omega) only [zq_l2, pk_mul, nI_add, zq_t, zq_c, zq_bz, zq_bo, zq_g, zq_cl, zq_leT, zq_leF, zq_ltT, zq_ltF, zq_eqT, zq_eqF, zq_em, zq_me, zq_pm, zq_mm, zq_gm, pk_sub, zI_s, zI_k, zI_c, zI_2, zL_s, zL_k, zL_c, zL_1, if_true, if_false, eq_self, Nat.zero_add, Nat.add_zero]
  exact f1
theorem zx_leafP {S : sh_St} {T : zT} (hv : zVX S 4 T) (hI : zInv T) {b : Nat} (hb4 : b < 40) (hfull : ∀ s, s < 6 → T.2 (b * 6 + s) ≠ 0) : ∃ S', fX4_poolOfLeaf S (nI b) = some ((), S') ∧ zPX S' (zpc (fun _ => true) (fun s => zen T (T.1 7 1) (T.1 7 2) (T.1 7 3) (b * 6 + s)) 6) ∧ zFr 124 127 S S' := by
  have h1 : zFr 124 127 S (sh_I S 124 3 (nI 0)) := zFr_I S _ _ (by omega) (by omega)
  obtain ⟨S', f1, f2, f3⟩ := zx_leaf_c hI hb4 hfull sh_FU 0 _ (zVX_f4 h1 (by omega) hv) (by omega) (by decide) ⟨zI_s _ _ _ _, fun k e h => by simp [zpc] at h⟩
  refine ⟨S', ?_, f2, zFr_tr h1 f3⟩
  rw [fX4_poolOfLeaf]
  simp (disch := omega) only [zq_l2, pk_mul, nI_add, zq_t, zq_c, zq_bz, zq_bo, zq_g, zq_cl, zq_leT, zq_leF, zq_ltT, zq_ltF, zq_eqT, zq_eqF, zq_em, zq_me, zq_pm, zq_mm, zq_gm, pk_sub, zI_s, zI_k, zI_c, zI_2, zL_s, zL_k, zL_c, zL_1, if_true, if_false, eq_self, Nat.zero_add, Nat.add_zero]
  exact f1
theorem zx_hashP {S : sh_St} {T : zT} (hv : zVX S 4 T) (hI : zInv T) {g : Nat} (hg : g < 4096) : ∃ S', fX4_poolOfHash S (nI g) = some ((), S') ∧ zPX S' (zpc (zhp T g) (zen T (T.1 7 1) (T.1 7 2) (T.1 7 3)) 240) ∧ zFr 124 127 S S' := by
  have h1 : zFr 124 127 S (sh_I S 124 3 (nI 0)) := zFr_I S _ _ (by omega) (by omega)
  obtain ⟨S', f1, f2, f3⟩ := zx_hash_c hI hg sh_FU 0 _ (zVX_f4 h1 (by omega) hv) (by omega) (by decide) ⟨zI_s _ _ _ _, fun k e h => by simp [zpc] at h⟩
  refine ⟨S', ?_, f2, zFr_tr h1 f3⟩
  rw [fX4_poolOfHash]
  simp (disch := omega) only [zq_l2, pk_mul, nI_add, zq_t, zq_c, zq_bz, zq_bo, zq_g, zq_cl, zq_leT, zq_leF, zq_ltT, zq_ltF, zq_eqT, zq_eqF, zq_em, zq_me, zq_pm, zq_mm, zq_gm, pk_sub, zI_s, zI_k, zI_c, zI_2, zL_s, zL_k, zL_c, zL_1, if_true, if_false, eq_self, Nat.zero_add, Nat.add_zero]
  exact f1
