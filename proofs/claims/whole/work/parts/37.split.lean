/-! free blocks -/
def zAv (m : Nat) (T : zT) : Prop := (∀ b, b < 40 → T.1 0 b ≤ 2 ∧ (T.1 0 b = 0 → T.1 1 b = 0 ∧ T.1 2 b = 0)) ∧ T.1 0 0 ≠ 0 ∧ m ≤ zkin T 0
theorem zfr_lt {m : Nat} {T : zT} (h : zAv (m + 1) T) : zfr T < 40 := by
  have h1 := h.2.2
  refine Decidable.byContradiction (fun hc => ?_)
  have hall : ∀ k, k < 40 → decide (T.1 0 k = 0) = false := by
    intro k hk
    have := zfi_b (fun b => decide (T.1 0 b = 0)) 40 0 k (by omega) (by unfold zfr at hc; omega)
    simpa using this
  have h0 : ∀ n, n ≤ 40 → zcnt (fun b => decide (T.1 0 b = 0)) n = 0 := by
    intro n
    induction n with
    | zero => intro _; rfl
    | succ n ih => intro hn; rw [zcnt_f (p := fun b => decide (T.1 0 b = 0)) (hall n (by omega))]; exact ih (by omega)
  have := h0 40 (by omega)
  unfold zkin at h1
  omega
theorem zfr_0 {T : zT} (h : zfr T < 40) : T.1 0 (zfr T) = 0 := of_decide_eq_true (zfi_p (fun b => decide (T.1 0 b = 0)) 40 0 (by rw [Nat.zero_add]; exact h))
theorem zcnt_upd (p : Nat → Bool) (q : Nat → Bool) {a : Nat} (hpa : p a = true) (hqa : q a = false) (hne : ∀ k, k ≠ a → q k = p k) : ∀ n, zcnt q n + (if a < n then 1 else 0) = zcnt p n := by
  intro n
  induction n with
  | zero => rfl
  | succ n ih =>
    by_cases e : n = a
    · subst e
      rw [zcnt_f hqa, zcnt_t hpa, if_pos (by omega)]
      rw [if_neg (by omega)] at ih
      omega
    · by_cases hp : p n = true
      · rw [zcnt_t hp, zcnt_t (by rw [hne n e]; exact hp)]
        by_cases c : a < n
        · rw [if_pos c] at ih; rw [if_pos (by omega)]; omega
        · rw [if_neg c] at ih; rw [if_neg (by omega)]; omega
      · rw [zcnt_f (p := q) (by rw [hne n e]; simpa using hp), zcnt_f (p := p) (by simpa using hp)]
        by_cases c : a < n
        · rw [if_pos c] at ih; rw [if_pos (by omega)]; omega
        · rw [if_neg c] at ih; rw [if_neg (by omega)]; omega
theorem zAv_take {m : Nat} {T : zT} (h : zAv (m + 1) T) {c : Nat} (hc : c ≠ 0) (hc2 : c ≤ 2) : zAv m (zwT T 0 (zfr T) c) := by
  have hl := zfr_lt h
  have hz := zfr_0 hl
  refine ⟨fun b hb => ?_, ?_, ?_⟩
  · by_cases e : b = zfr T
    · subst e; rw [zwT_s]; exact ⟨hc2, fun q => absurd q hc⟩
    · rw [zwT_k T 0 _ c e]; exact h.1 b hb
  · rw [zwT_k T 0 _ c (fun q => h.2.1 (by have hz' := hz; rw [← q] at hz'; exact hz'))]; exact h.2.1
  · have := zcnt_upd (fun b => decide (T.1 0 b = 0)) (fun b => decide ((zwT T 0 (zfr T) c).1 0 b = 0)) (a := zfr T) (decide_eq_true hz) (by show decide ((zwT T 0 (zfr T) c).1 0 (zfr T) = 0) = false; rw [zwT_s]; exact decide_eq_false hc) (fun k hk => by show decide ((zwT T 0 (zfr T) c).1 0 k = 0) = _; rw [zwT_k T 0 _ c hk]) 40
    rw [if_pos hl] at this
    have h1 := h.2.2
    unfold zkin at h1 ⊢
    omega
theorem zAv_cg {m : Nat} {T T' : zT} (h0 : T'.1 0 = T.1 0) (h1 : ∀ b, b < 40 → T.1 0 b = 0 → T'.1 1 b = T.1 1 b) (h2 : T'.1 2 = T.1 2) (h : zAv m T) : zAv m T' := by
  refine ⟨fun b hb => ?_, ?_, ?_⟩
  · rw [h0, h2]
    refine ⟨(h.1 b hb).1, fun hz => ?_⟩
    rw [h1 b hb hz]
    exact (h.1 b hb).2 hz
  · rw [h0]; exact h.2.1
  · unfold zkin; rw [h0]; exact h.2.2
theorem zAv_gr {m : Nat} {T : zT} (b : Nat) (g : Nat → Int64 × Nat) (s : Nat) (h : zAv m T) : zAv m (zgr T b g s) := zAv_cg (zgr_i T b g s (by omega)) (fun _ _ _ => by rw [zgr_i T b g s (by omega)]) (zgr_i T b g s (by omega)) h
theorem zAv_In {m : Nat} {T : zT} {b : Nat} (p l k t : Nat) (hk : T.1 0 b ≠ 0) (h : zAv m T) : zAv m (zIn T b p l k t) := zAv_cg (zIn_i T b p l k t (by omega) (by omega)) (fun b' _ hz => zIn_d T b p l k t (fun e => hk (by rw [← e]; exact hz))) (zIn_i T b p l k t (by omega) (by omega)) h
theorem zcp_i (a c f : Nat) {i : Nat} (h : i < 4 ∨ 6 < i) (k : Nat) (T : zT) : (zcp a c f k T).1 i = T.1 i := by
  induction k with
  | zero => rfl
  | succ k ih =>
    unfold zcp zcR zrw
    rw [zwT_i _ _ _ _ (by omega), zwT_i _ _ _ _ (by omega), zwT_i _ _ _ _ (by omega), ih]
theorem zCp_i (T : zT) (a c f : Nat) {i : Nat} (h : i < 4 ∨ 6 < i) (h1 : i ≠ 1) : (zCp T a c f).1 i = T.1 i := by
  unfold zCp
  rw [zwT_i _ _ _ _ h1, zcp_i a c f h]
theorem zCp_d (T : zT) (a c f : Nat) {b : Nat} (h : b ≠ c) : (zCp T a c f).1 1 b = T.1 1 b := by
  unfold zCp
  rw [zwT_k _ _ _ _ h, zcp_i a c f (by omega)]
theorem zCp_c (T : zT) (a c f : Nat) : (zCp T a c f).1 1 c = 3 := zwT_s _ _ _ _
theorem zCp_2 (T : zT) (a c f : Nat) : (zCp T a c f).2 = T.2 := by
  have : ∀ k, (zcp a c f k T).2 = T.2 := by
    intro k
    induction k with
    | zero => rfl
    | succ k ih => exact ih
  exact this 3
theorem zAv_Cp {m : Nat} {T : zT} (a : Nat) {c : Nat} (f : Nat) (hk : T.1 0 c ≠ 0) (h : zAv m T) : zAv m (zCp T a c f) := zAv_cg (zCp_i T a c f (by omega) (by omega)) (fun b' _ hz => zCp_d T a c f (fun e => hk (by rw [← e]; exact hz))) (zCp_i T a c f (by omega) (by omega)) h
theorem zAv_w1 {m : Nat} {T : zT} {b : Nat} (v : Nat) (hk : T.1 0 b ≠ 0) (h : zAv m T) : zAv m (zwT T 1 b v) := zAv_cg (zwT_i T 1 b v (by omega)) (fun b' _ hz => zwT_k T 1 b v (fun e => hk (by rw [← e]; exact hz))) (zwT_i T 1 b v (by omega)) h
theorem zwT_id {T : zT} {i k : Nat} : zwT T i k (T.1 i k) = T := by
  unfold zwT
  refine Prod.ext (funext fun i' => ?_) rfl
  show (if i' = i then _ else _) = _
  by_cases e : i' = i
  · rw [if_pos e]
    refine funext fun k' => ?_
    by_cases e2 : k' = k
    · rw [if_pos e2, e2, e]
    · rw [if_neg e2]
  · rw [if_neg e]
theorem zLf_eq {T : zT} {b : Nat} (g : Nat → Int64 × Nat) (h : T.1 0 b = 1) : zLf T b g = zgr T b g 6 := by
  unfold zLf
  have : zwT T 0 b 1 = T := by rw [← h]; exact zwT_id
  rw [this]
/-- the seven that a leaf is split for; limit and mark of the row that comes -/
def zPP (T : zT) (h : Nat) (n : Int64) (d : Nat) : List zE := zins (zpc (fun _ => true) (fun s => zen T (T.1 7 1) (T.1 7 2) (T.1 7 3) (zfl T h * 6 + s)) 6) (h, n, d)
def zlim (P : List zE) : Nat := (P.getD 3 (0, 0, 0)).1
def zmrk (P : List zE) : Nat := if (P.getD 3 (0, 0, 0)).1 = (P.getD 2 (0, 0, 0)).1 then 1 else 0
theorem zPP_len (T : zT) (h : Nat) (n : Int64) (d : Nat) : (zPP T h n d).length = 7 := by
  unfold zPP
  rw [(zins_pm _ _).length_eq, List.length_cons, zpc_len]
  rfl
theorem zPP_mem {T : zT} {h : Nat} {n : Int64} {d : Nat} {x : zE} (hx : x ∈ zPP T h n d) : x = (h, n, d) ∨ ∃ s, s < 6 ∧ x = zen T (T.1 7 1) (T.1 7 2) (T.1 7 3) (zfl T h * 6 + s) := by
  unfold zPP at hx
  rw [(zins_pm _ _).mem_iff, List.mem_cons] at hx
  rcases hx with hx | hx
  · exact Or.inl hx
  · obtain ⟨k, a, _, c⟩ := zpc_mem hx
    exact Or.inr ⟨k, a, c⟩
theorem zPP_h {T : zT} {n : Int64} {d : Nat} : ∀ x, x ∈ zPP T (zha T n) n d → x.1 = zha T x.2.1 := by
  intro x hx
  rcases zPP_mem hx with rfl | ⟨s, _, rfl⟩
  · rfl
  · rfl
theorem zPP_l {T : zT} (hI : zInv T) {n : Int64} {d : Nat} : ∀ x, x ∈ zPP T (zha T n) n d → x.1 < 4096 := by
  intro x hx
  rw [zPP_h x hx]
  exact zha_lt hI _
def zfull (T : zT) (b : Nat) : Prop := ∀ s, s < 6 → T.2 (b * 6 + s) ≠ 0
theorem zfull_em {T : zT} {b : Nat} (h : ¬ zem T b < 6) : zfull T b := by
  intro s hs hz
  have := zfi_b (fun s => !znz T (b * 6 + s)) 6 0 s (by omega) (by unfold zem at h; omega)
  rw [znz_f hz] at this
  exact this rfl
/-- the leaf behind; the root's leaf split; a lower leaf split -/
def zK1 (T : zT) (P : List zE) : zT := zgr (zwT T 0 (zfr T) 1) (zfr T) (zlg P 3 7) 6
def zK0 (T : zT) (P : List zE) : zT := zRz (zgr (zwT (zK1 T P) 0 (zfr (zK1 T P)) 1) (zfr (zK1 T P)) (zlg P 0 3) 6) (zfr (zK1 T P)) (zfr T) (zlim P) (zmrk P)
def zK2 (T : zT) (P : List zE) (f ix p : Nat) : zT := zIn (zgr (zK1 T P) f (zlg P 0 3) 6) ix p (zlim P) (zmrk P) (zfr T)
/-- an index of six is parted -/
def zK3 (T : zT) (ix : Nat) : zT := zCp (zwT T 0 (zfr T) 2) ix (zfr T) 3
def zK4 (T : zT) : zT := zRz (zCp (zwT (zK3 T 0) 0 (zfr (zK3 T 0)) 2) 0 (zfr (zK3 T 0)) 0) (zfr (zK3 T 0)) (zfr T) ((zK3 T 0).1 4 (zfr T * 6)) ((zK3 T 0).1 5 (zfr T * 6))
def zK5 (T : zT) (ix p : Nat) : zT := zIn (zwT (zK3 T ix) 1 ix 3) 0 p ((zK3 T ix).1 4 (zfr T * 6)) ((zK3 T ix).1 5 (zfr T * 6)) (zfr T)
def zK6 (T : zT) (ix p : Nat) : zT := if T.1 1 ix ≤ 5 then T else if ix = 0 then zK4 T else zK5 T ix p
/-- a name that is not there is put -/
def zput (T : zT) (n : Int64) (d : Nat) : zT :=
  if zsw T (zha T n) < zwn T (zha T n) then zeT T (zspt T (zha T n)) n d
  else if T.1 7 0 = 0 then zK0 T (zPP T (zha T n) n d)
  else zK6 (zK2 T (zPP T (zha T n) n d) (zfl T (zha T n)) (zbk T (zha T n) (T.1 7 0 - 1)) (zr T (zbk T (zha T n) (T.1 7 0 - 1)) (zha T n) + 1)) (zbk T (zha T n) (T.1 7 0 - 1)) (zr T 0 (zha T n) + 1)
theorem zK1_0 {T : zT} {P : List zE} : (zK1 T P).1 0 = (zwT T 0 (zfr T) 1).1 0 := by unfold zK1; rw [zgr_i _ _ _ _ (by omega)]
theorem zK1_i {T : zT} {P : List zE} {i : Nat} (h : i ≠ 0) (h3 : i ≠ 3) : (zK1 T P).1 i = T.1 i := by unfold zK1; rw [zgr_i _ _ _ _ h3, zwT_i _ _ _ _ h]
theorem zK1_av {m : Nat} {T : zT} {P : List zE} (h : zAv (m + 1) T) : zAv m (zK1 T P) := zAv_gr _ _ _ (zAv_take h (by omega) (by omega))
theorem zx_mark {S : sh_St} {P : List zE} (hP : zPX S P) (h7 : P.length = 7) (hl : ∀ x, x ∈ P → x.1 < 4096) : fX6_markAt S (nI 3) = some (nI (zmrk P), S) := by
  have a3 := (hP.2 3 _ (zP_at (by omega))).1
  have a2 := (hP.2 2 _ (zP_at (by omega))).1
  have l3 := hl _ (List.mem_of_getElem? (zP_at (show 3 < P.length by omega)))
  have l2 := hl _ (List.mem_of_getElem? (zP_at (show 2 < P.length by omega)))
  rw [fX6_markAt]
  unfold zmrk
  by_cases c : (P.getD 3 (0, 0, 0)).1 = (P.getD 2 (0, 0, 0)).1
  · rw [show (if (P.getD 3 (0, 0, 0)).1 = (P.getD 2 (0, 0, 0)).1 then 1 else 0 : Nat) = 1 from if_pos c]
    simp (disch := omega) only [zq_l2, pk_mul, nI_add, zq_t, zq_c, zq_bz, zq_bo, zq_g, zq_cl, zq_leT, zq_leF, zq_ltT, zq_ltF, zq_eqT, zq_eqF, zq_em, zq_me, zq_pm, zq_mm, zq_gm, pk_sub, zI_s, zI_k, zI_c, zI_2, zL_s, zL_k, zL_c, zL_1, if_true, if_false, eq_self, Nat.zero_add, Nat.add_zero, a3, a2, Nat.reduceSub]
  · rw [show (if (P.getD 3 (0, 0, 0)).1 = (P.getD 2 (0, 0, 0)).1 then 1 else 0 : Nat) = 0 from if_neg c]
    simp (disch := omega) only [zq_l2, pk_mul, nI_add, zq_t, zq_c, zq_bz, zq_bo, zq_g, zq_cl, zq_leT, zq_leF, zq_ltT, zq_ltF, zq_eqT, zq_eqF, zq_em, zq_me, zq_pm, zq_mm, zq_gm, pk_sub, zI_s, zI_k, zI_c, zI_2, zL_s, zL_k, zL_c, zL_1, if_true, if_false, eq_self, Nat.zero_add, Nat.add_zero, a3, a2, Nat.reduceSub]
theorem zx_first {S : sh_St} {T : zT} (hI : zInv T) {h : Nat} (hw : zWay S T h) : fX11_firstLeaf S = some (nI (zfl T h), S) := by
  have h7 := hI.1.1
  have h8 := zwn_le hI h
  have a := hw.2.2.1 0 (by omega)
  rw [Nat.add_zero, Nat.add_zero, zpl_at hI h] at a
  rw [fX11_firstLeaf]
  simp (disch := omega) only [zq_l2, pk_mul, nI_add, zq_t, zq_c, zq_bz, zq_bo, zq_g, zq_cl, zq_leT, zq_leF, zq_ltT, zq_ltF, zq_eqT, zq_eqF, zq_em, zq_me, zq_pm, zq_mm, zq_gm, pk_sub, zI_s, zI_k, zI_c, zI_2, zL_s, zL_k, zL_c, zL_1, if_true, if_false, eq_self, Nat.zero_add, Nat.add_zero, hw.1, a]
theorem zWay_f4 {lo hi : Nat} {S S' : sh_St} {T : zT} {h : Nat} (hf : zFr lo hi S S') (hh : hi < 121 ∨ 123 < lo) (hw : zWay S T h) : zWay S' T h := zWay_fr (hf 121 (by omega)).1 (hf 122 (by omega)).1 (hf 123 (by omega)).1 hw
theorem zx_splitLeaf0 {S : sh_St} {T : zT} (hv : zVX S 4 T) (hI : zInv T) (hA : zAv 3 T) {h : Nat} (hw : zWay S T h) (h0 : T.1 7 0 = 0) {P : List zE} (hP : zPX S P) (h7 : P.length = 7) (hh : ∀ x, x ∈ P → x.1 = zha T x.2.1) (hl : ∀ x, x ∈ P → x.1 < 4096) :
    ∃ S', fX4_splitLeaf S = some ((), S') ∧ zVX S' 4 (zK0 T P) ∧ zFr 4 13 S S' := by
  have hmk := zx_mark hP h7 hl
  have a3 := (hP.2 3 _ (zP_at (by omega))).1
  have hf0 := zfr_lt hA
  obtain ⟨S1, e1, e2, e3⟩ := zx_take hv (fun b hb => (hA.1 b hb).1) hA.2.1 hf0 1
  have hP1 := zPX_fr e3 (by omega) hP
  have g1 : (zwT T 0 (zfr T) 1).1 0 (zfr T) = 1 := zwT_s _ _ _ _
  obtain ⟨S2, f1, f2, f3⟩ := zx_layLeaf e2 hP1 (by omega) (fun x hx => by rw [zha_w (Or.inl (by omega))]; exact hh x hx) (b := zfr T) (f := 3) (t := 7) hf0 (by omega) (by omega)
  rw [zLf_eq _ g1, h7, show min 7 7 = 7 from rfl] at f2
  have f2' : zVX S2 4 (zK1 T P) := f2
  have hP2 := zPX_fr f3 (by omega) hP1
  have hA2 := zK1_av (P := P) hA
  have hf2 := zfr_lt hA2
  obtain ⟨S3, i1, i2, i3⟩ := zx_take f2' (fun b hb => (hA2.1 b hb).1) hA2.2.1 hf2 1
  have hP3 := zPX_fr i3 (by omega) hP2
  have g3 : (zwT (zK1 T P) 0 (zfr (zK1 T P)) 1).1 0 (zfr (zK1 T P)) = 1 := zwT_s _ _ _ _
  have hhk : ∀ x, x ∈ P → x.1 = zha (zwT (zK1 T P) 0 (zfr (zK1 T P)) 1) x.2.1 := fun x hx => by rw [zha_w (Or.inl (by omega))]; unfold zK1; rw [zgr_ha, zha_w (Or.inl (by omega))]; exact hh x hx
  obtain ⟨S4, j1, j2, j3⟩ := zx_layLeaf i2 hP3 (by omega) hhk (b := zfr (zK1 T P)) (f := 0) (t := 3) hf2 (by omega) (by omega)
  rw [zLf_eq _ g3, h7, show min 3 7 = 3 from rfl] at j2
  obtain ⟨S5, k1, k2, k3⟩ := zx_raise j2 (zfr (zK1 T P)) (zfr T) (zlim P) (zmrk P) (by rw [zgr_i _ _ _ _ (by omega), zwT_i _ _ _ _ (by omega), zK1_i (by omega) (by omega)]; omega)
  refine ⟨S5, ?_, k2, ?_⟩
  · have w2 : S2.1 121 2 = nI 0 := by rw [(f3 121 (by omega)).1, (e3 121 (by omega)).1, hw.1, h0]
    have p4 : S1.1 124 3 = nI 7 := by rw [hP1.1, h7]
    rw [fX4_splitLeaf]
    have a3' : S.1 127 3 = nI (zlim P) := a3
    simp (disch := omega) only [zq_l2, pk_mul, nI_add, zq_t, zq_c, zq_bz, zq_bo, zq_g, zq_cl, zq_leT, zq_leF, zq_ltT, zq_ltF, zq_eqT, zq_eqF, zq_em, zq_me, zq_pm, zq_mm, zq_gm, pk_sub, zI_s, zI_k, zI_c, zI_2, zL_s, zL_k, zL_c, zL_1, if_true, if_false, eq_self, Nat.zero_add, Nat.add_zero, a3', hmk, e1, p4, f1, w2, i1, j1, k1]
  · exact zFr_tr (zFr_tr (zFr_tr (zFr_tr (zFr_wd e3 (by omega) (by omega)) (zFr_wd f3 (by omega) (by omega))) (zFr_wd i3 (by omega) (by omega))) (zFr_wd j3 (by omega) (by omega))) k3
theorem zx_splitLeaf1 {S : sh_St} {T : zT} (hv : zVX S 4 T) (hI : zInv T) (hA : zAv 3 T) {h : Nat} (hw : zWay S T h) (h0 : T.1 7 0 ≠ 0) {P : List zE} (hP : zPX S P) (h7 : P.length = 7) (hh : ∀ x, x ∈ P → x.1 = zha T x.2.1) (hl : ∀ x, x ∈ P → x.1 < 4096) :
    ∃ S', fX4_splitLeaf S = some ((), S') ∧ zVX S' 4 (zK2 T P (zfl T h) (zbk T h (T.1 7 0 - 1)) (zr T (zbk T h (T.1 7 0 - 1)) h + 1)) ∧ zFr 4 13 S S' := by
  have h72 := hI.1.1
  have hmk := zx_mark hP h7 hl
  have a3 := (hP.2 3 _ (zP_at (by omega))).1
  have hf0 := zfr_lt hA
  obtain ⟨S1, e1, e2, e3⟩ := zx_take hv (fun b hb => (hA.1 b hb).1) hA.2.1 hf0 1
  have hP1 := zPX_fr e3 (by omega) hP
  have g1 : (zwT T 0 (zfr T) 1).1 0 (zfr T) = 1 := zwT_s _ _ _ _
  obtain ⟨S2, f1, f2, f3⟩ := zx_layLeaf e2 hP1 (by omega) (fun x hx => by rw [zha_w (Or.inl (by omega))]; exact hh x hx) (b := zfr T) (f := 3) (t := 7) hf0 (by omega) (by omega)
  rw [zLf_eq _ g1, h7, show min 7 7 = 7 from rfl] at f2
  have f2' : zVX S2 4 (zK1 T P) := f2
  have hP2 := zPX_fr f3 (by omega) hP1
  have hw2 := zWay_f4 (zFr_tr (zFr_wd e3 (show 5 ≤ 5 by omega) (show 5 ≤ 10 by omega)) f3) (by omega) hw
  have hfi := zx_first hI hw2
  have hflk := zfl_k hI h
  have hfll := zbk_le hI h (Nat.le_refl (T.1 7 0))
  have hz := zfr_0 hf0
  have g2 : (zK1 T P).1 0 (zfl T h) = 1 := by
    rw [zK1_0, zwT_k T 0 _ 1 (fun e => by rw [e, hz] at hflk; omega)]; exact hflk
  have hhk : ∀ x, x ∈ P → x.1 = zha (zK1 T P) x.2.1 := fun x hx => by unfold zK1; rw [zgr_ha, zha_w (Or.inl (by omega))]; exact hh x hx
  obtain ⟨S4, j1, j2, j3⟩ := zx_layLeaf f2' hP2 (by omega) hhk (b := zfl T h) (f := 0) (t := 3) hfll (by omega) (by omega)
  rw [zLf_eq _ g2, h7, show min 3 7 = 3 from rfl] at j2
  have hw4 := zWay_f4 j3 (by omega) hw2
  have hlo := zx_lowest hI hw4 h0
  obtain ⟨b1, b2, b3⟩ := zbk_lo hI h (show T.1 7 0 - 1 < T.1 7 0 by omega)
  have b5 := zInv_c5 hI b1
  obtain ⟨S5, k1, k2, k3⟩ := zx_insert j2 b1 (zlim P) (zmrk P) (zfr T) (p := zr T (zbk T h (T.1 7 0 - 1)) h + 1) (by omega) (by rw [zgr_i _ _ _ _ (by omega), zK1_i (by omega) (by omega)]; exact b5)
  refine ⟨S5, ?_, k2, ?_⟩
  · have w2 : S2.1 121 2 = nI (T.1 7 0) := hw2.1
    have w4 : S4.1 121 2 = nI (T.1 7 0) := hw4.1
    have w5 : S4.1 123 (T.1 7 0 - 1) = nI (zr T (zbk T h (T.1 7 0 - 1)) h) := (hw4.2.2.2 (T.1 7 0 - 1) (by omega)).2
    have p4 : S1.1 124 3 = nI 7 := by rw [hP1.1, h7]
    have a3' : S.1 127 3 = nI (zlim P) := a3
    rw [fX4_splitLeaf]
    simp (disch := omega) only [zq_l2, pk_mul, nI_add, zq_t, zq_c, zq_bz, zq_bo, zq_g, zq_cl, zq_leT, zq_leF, zq_ltT, zq_ltF, zq_eqT, zq_eqF, zq_em, zq_me, zq_pm, zq_mm, zq_gm, pk_sub, zI_s, zI_k, zI_c, zI_2, zL_s, zL_k, zL_c, zL_1, if_true, if_false, eq_self, Nat.zero_add, Nat.add_zero, a3', hmk, e1, p4, f1, w2, hfi, j1, hlo, w4, w5, k1]
  · exact zFr_tr (zFr_tr (zFr_tr (zFr_wd e3 (by omega) (by omega)) (zFr_wd f3 (by omega) (by omega))) (zFr_wd j3 (by omega) (by omega))) (zFr_wd k3 (by omega) (by omega))
