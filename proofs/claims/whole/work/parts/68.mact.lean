/-! an act of a text: the reference -/
def zFa (S S' : sh_St) : Prop := (∀ k, k < 27 → k ≠ 19 → k ≠ 20 → S'.1 0 k = S.1 0 k) ∧ S'.2 0 = S.2 0 ∧ ∀ i, 3 ≤ i → (i < 15 ∨ 20 < i) → i ≠ 9 → S'.1 i = S.1 i ∧ S'.2 i = S.2 i
theorem zFa_rf (S : sh_St) : zFa S S := ⟨fun _ _ _ _ => rfl, rfl, fun _ _ _ _ => ⟨rfl, rfl⟩⟩
theorem zFa_tr {S S1 S2 : sh_St} (h1 : zFa S S1) (h2 : zFa S1 S2) : zFa S S2 := ⟨fun k a b c => (h2.1 k a b c).trans (h1.1 k a b c), h2.2.1.trans h1.2.1, fun i a b c => ⟨(h2.2.2 i a b c).1.trans (h1.2.2 i a b c).1, (h2.2.2 i a b c).2.trans (h1.2.2 i a b c).2⟩⟩
theorem zFa_0 {S S' : sh_St} (h : zM0 S S') : zFa S S' := ⟨fun k _ a b => h.1 k a b, by rw [h.2.1], fun i a _ _ => ⟨h.2.2 i (by omega), by rw [h.2.1]⟩⟩
theorem zFa_q {S S' : sh_St} (h : zFq S S') : zFa S S' := ⟨fun k a _ _ => h.1 k a, h.2.1, h.2.2⟩
theorem zTM_a {S S' : sh_St} {B : Nat → Nat} {E : Nat} (h : zFa S S') (hT : zTM S B E) : zTM S' B E := by
  unfold zTM
  rw [h.1 18 (by omega) (by omega) (by omega), (h.2.2 14 (by omega) (by omega) (by omega)).1]
  exact hT
theorem zVN_0 {S S' : sh_St} {T : zT} (h : zM0 S S') (hv : zVN S T) : zVN S' T := by
  unfold zVN
  rw [h.2.2 1 (by omega), h.2.1]
  exact hv
/-- what an operation of the reference does -/
def zOP (S S' : sh_St) (a : Nat) (n m : Int64) (v : Nat) (T : zT) : Prop := zVN S' (if zref T a n m v = 0 then zact T a n m v else T) ∧ zFq S S' ∧ ∀ j, j < 4 → S'.1 9 j = (if zref T a n m v = 0 then (if 3 ≤ a ∧ a ≤ 6 then nI 0 else S.1 9 j) else S.1 9 j)
theorem zOP_p {S S' : sh_St} {a : Nat} {n m : Int64} {v : Nat} {T : zT} (ha : ¬ (3 ≤ a ∧ a ≤ 6)) (h1 : zVN S' (if zref T a n m v = 0 then zact T a n m v else T)) (h2 : zFp S S') : zOP S S' a n m v T := ⟨h1, zFq_p h2, fun j hj => by rw [if_neg ha, (h2.2.2 9 (by omega) (by omega)).1]; split <;> rfl⟩
theorem zop_0 {S : sh_St} {T : zT} (hG : zG T) (hv : zVN S T) {n : Int64} (hn : zval n) (m : Int64) (v : Nat) : ∃ S', fX13_put0 S n (nI v) = some (nI (zref T 0 n m v), S') ∧ zOP S S' 0 n m v T ∧ (zref T 0 n m v = 0 → S'.1 0 37 = nI (zned T (zha T n))) := by
  obtain ⟨S', f1, f2, f3, f4⟩ := zm_put0 hv hG.1 hn v
  exact ⟨S', f1, zOP_p (by omega) f2 f3, f4⟩
theorem zop_1 {S : sh_St} {T : zT} (hG : zG T) (hv : zVN S T) {n : Int64} (hn : zval n) (m : Int64) (v : Nat) : ∃ S', fX13_cut0 S n = some (nI (zref T 1 n m v), S') ∧ zOP S S' 1 n m v T := by
  obtain ⟨S', f1, f2, f3⟩ := zm_cut0 hv hG.1 hn
  exact ⟨S', f1, zOP_p (by omega) f2 f3⟩
theorem zop_2 {S : sh_St} {T : zT} (hG : zG T) (hv : zVN S T) {n m : Int64} (hn : zval n) (hm : zval m) (v : Nat) : ∃ S', fX13_turn0 S n m = some (nI (zref T 2 n m v), S') ∧ zOP S S' 2 n m v T := by
  obtain ⟨S', f1, f2, f3⟩ := zm_turn0 hv hG.1 hn hm
  exact ⟨S', f1, zOP_p (by omega) f2 f3⟩
theorem zop_7 {S : sh_St} {T : zT} (hG : zG T) (hv : zVN S T) (n m : Int64) {v : Nat} (hv4 : v < 40) : ∃ S', fX13_tear0 S (nI v) = some (nI (zref T 7 n m v), S') ∧ zOP S S' 7 n m v T := by
  obtain ⟨S', f1, f2, f3⟩ := zm_tear0 hv hG.1 hv4
  refine ⟨S', f1, zOP_p (by omega) ?_ f3⟩
  have e : zref T 7 n m v = if T.1 0 v = 2 then 0 else 5 := rfl
  rw [e]
  by_cases c : T.1 0 v = 2
  · rw [if_pos c] at f2
    rw [if_pos c, if_pos rfl]
    exact f2
  · rw [if_neg c] at f2
    rw [if_neg c, if_neg (by omega)]
    exact f2
theorem zop_8 {S : sh_St} {T : zT} (hG : zG T) (hv : zVN S T) (n m : Int64) (v : Nat) : ∃ S', fX13_build0 S (S.1 1 1081) (S.1 1 1082) (S.1 1 1083) = some (nI (zref T 8 n m v), S') ∧ zOP S S' 8 n m v T := by
  obtain ⟨S', f1, f2, f3⟩ := zm_bld hv hG.1 (fun q => (zun_iff T).2 (hG.2.2.2.2 q)) n m v
  refine ⟨S', f1, zOP_p (by omega) ?_ f3⟩
  have e : zact T 8 n m v = zbu T (zPA T) := by
    unfold zact
    rw [if_neg (by omega), if_neg (by omega), if_neg (by omega), if_neg (by omega), zU_8]
  rw [e]
  exact f2
theorem zop_t {S : sh_St} {T : zT} (hG : zG T) (hv : zVN S T) (n m : Int64) {a v : Nat} (ha : 3 ≤ a ∧ a ≤ 6) (hr : zrg a v) : ∃ S', fX13_tune0 S (nI (zwa a)) (nI (zwv a v)) = some (nI (zref T a n m v), S') ∧ zOP S S' a n m v T := by
  obtain ⟨S', f1, f2, f3, f4⟩ := zm_tune0 hv hG.1 (fun q => (zun_iff T).2 (hG.2.2.2.2 q)) ha hr n m v
  refine ⟨S', f1, ?_, f3, fun j hj => ?_⟩
  · have e : zact T a n m v = zbu (zU T a v) (zPA (zU T a v)) := by
      unfold zact
      rw [if_neg (by omega), if_neg (by omega), if_neg (by omega), if_neg (by omega)]
    rw [e]
    exact f2
  · rw [f4 j hj, if_pos ha]
/-- what an act of a text does -/
def zAS (S S' : sh_St) (c : Nat) (B : Nat → Nat) (E p : Nat) (T : zT) : Prop := zFa S S' ∧ zTM S' B E ∧
  (zA B E p = 9 → c = 0 ∧ S'.1 0 20 = nI (zbl B E p)) ∧
  (zA B E p < 9 → ¬ zpo B E (zA B E p) (zne B E p) → c = 0 ∧ S'.1 0 20 = nI (zpf B E (zA B E p) (zne B E p))) ∧
  (zA B E p < 9 → zpo B E (zA B E p) (zne B E p) → zref T (zA B E p) (zan B E p) (zam B E p) (zav B E p) ≠ 0 → c = zref T (zA B E p) (zan B E p) (zam B E p) (zav B E p) ∧ S'.1 0 20 = nI (zbl B E p)) ∧
  (zA B E p < 9 → zpo B E (zA B E p) (zne B E p) → zref T (zA B E p) (zan B E p) (zam B E p) (zav B E p) = 0 → c = 0 ∧ S'.1 0 20 = -nI 1 ∧ S'.1 0 19 = nI (zp3 B E (zA B E p) (zne B E p)) ∧ zVN S' (zact T (zA B E p) (zan B E p) (zam B E p) (zav B E p)) ∧ ∀ j, j < 4 → S'.1 9 j = if 3 ≤ zA B E p ∧ zA B E p ≤ 6 then nI 0 else S.1 9 j)
theorem zAS_bad {S S' : sh_St} {B : Nat → Nat} {E p : Nat} {T : zT} (hT : zTM S B E) (h1 : zM0 S S') (h9 : zA B E p < 9) (hb : ¬ zpo B E (zA B E p) (zne B E p)) (h2 : S'.1 0 20 = nI (zpf B E (zA B E p) (zne B E p))) : zAS S S' 0 B E p T := ⟨zFa_0 h1, zTM_0 h1 hT, fun q => by omega, fun _ _ => ⟨rfl, h2⟩, fun _ q => absurd q hb, fun _ q => absurd q hb⟩
theorem zAS_op {S S1 S2 : sh_St} {B : Nat → Nat} {E p : Nat} {T : zT} (hT : zTM S B E) (hpE : zbl B E p ≤ 400) (h1 : zM0 S S1) (h9 : zA B E p < 9) (hb : zpo B E (zA B E p) (zne B E p)) (h20 : S1.1 0 20 = -nI 1) (h19 : S1.1 0 19 = nI (zp3 B E (zA B E p) (zne B E p))) (hop : zOP S1 S2 (zA B E p) (zan B E p) (zam B E p) (zav B E p) T) : ∃ S', fX13_act_341 S2 (nI (zbl B E p)) (nI (zref T (zA B E p) (zan B E p) (zam B E p) (zav B E p))) = some (nI (zref T (zA B E p) (zan B E p) (zam B E p) (zav B E p)), S') ∧ zAS S S' (zref T (zA B E p) (zan B E p) (zam B E p) (zav B E p)) B E p T := by
  obtain ⟨o1, o2, o3⟩ := hop
  have r5 := zref_le (T := T) (a := zA B E p) (n := zan B E p) (m := zam B E p) (v := zav B E p)
  have fa : zFa S S2 := zFa_tr (zFa_0 h1) (zFa_q o2)
  rw [fX13_act_341]
  by_cases c : zref T (zA B E p) (zan B E p) (zam B E p) (zav B E p) = 0
  · rw [if_pos c] at o1
    refine ⟨S2, ?_, fa, zTM_a fa hT, fun q => by omega, fun _ q => absurd hb q, fun _ _ q => absurd c q, fun _ _ _ => ⟨c, ?_, ?_, o1, fun j hj => ?_⟩⟩
    · rw [c]
      simp (disch := omega) only [zq_l9, pk_mul, nI_add, zq_t9, zq_c9, zq_bz9, zq_bo9, zq_g, zq_cl, zq_leT, zq_leF, zq_ltT, zq_ltF, zq_eqT, zq_eqF, zq_em, zq_me, zq_pm, zq_mm, zq_gm, pk_sub, zI_s, zI_k, zI_c, zI_2, zL_s, zL_k, zL_c, zL_1, if_true, if_false, eq_self, Nat.zero_add, Nat.add_zero]
    · rw [o2.1 20 (by omega)]; exact h20
    · rw [o2.1 19 (by omega)]; exact h19
    · rw [o3 j hj, if_pos c, h1.2.2 9 (by omega)]
  · obtain ⟨S3, k1, k2, k3, k4⟩ := zm_wrong S2 (zbl B E p)
    have fa3 := zFa_tr fa (zFa_0 k4)
    refine ⟨S3, ?_, fa3, zTM_a fa3 hT, fun q => by omega, fun _ q => absurd hb q, fun _ _ _ => ⟨rfl, ?_⟩, fun _ _ q => absurd q c⟩
    · generalize zref T (zA B E p) (zan B E p) (zam B E p) (zav B E p) = r at *
      simp (disch := omega) only [zq_l9, pk_mul, nI_add, zq_t9, zq_c9, zq_bz9, zq_bo9, zq_g, zq_cl, zq_leT, zq_leF, zq_ltT, zq_ltF, zq_eqT, zq_eqF, zq_em, zq_me, zq_pm, zq_mm, zq_gm, pk_sub, zI_s, zI_k, zI_c, zI_2, zL_s, zL_k, zL_c, zL_1, if_true, if_false, eq_self, Nat.zero_add, Nat.add_zero, k1]
    · rw [k2, o2.1 20 (by omega), h20, zfw_m]
theorem zpf_t {B : Nat → Nat} {E a q : Nat} (h : 1 ≤ znc a) (hn : ¬ zno B E q) : zpf B E a q = zbl B E q := if_pos ⟨h, hn⟩
theorem zpf_2 {B : Nat → Nat} {E a q : Nat} (h : 1 ≤ znc a → zno B E q) (h2 : 2 ≤ znc a) (hn : ¬ zno B E (zp1 B E a q)) : zpf B E a q = zbl B E (zp1 B E a q) := by
  unfold zpf
  rw [if_neg (fun w => w.2 (h w.1)), if_pos ⟨h2, hn⟩]
theorem zpf_3 {B : Nat → Nat} {E a q : Nat} (h : 1 ≤ znc a → zno B E q) (h2 : 2 ≤ znc a → zno B E (zp1 B E a q)) : zpf B E a q = zbl B E (zp2 B E a q) := by
  unfold zpf
  rw [if_neg (fun w => w.2 (h w.1)), if_neg (fun w => w.2 (h2 w.1))]
/-! the words one behind another -/
theorem zstep0 {α : Type} (S : sh_St) (F G : sh_St → Option α) : sh_c (some (nI 0, S)) (fun r S' => if r = 0 then F S' else G S') = F S := by
  rw [zq_c9]
  exact if_pos rfl
theorem zstep1 {α : Type} (S : sh_St) (F G : sh_St → Option α) : sh_c (some (nI 1, S)) (fun r S' => if r = 0 then F S' else G S') = G S := by
  rw [zq_c9]
  exact if_neg (show ¬ nI 1 = 0 by decide)
def zt0 (r2 : Int32) (S : sh_St) : Option (Int32 × sh_St) := sh_c (fX13_name S) fun r54 S53 => sh_c (fX13_number S53 0 999) fun r56 S55 => if (S55.1 0 20) = (-1) then (sh_c (fX13_put0 S55 r54 r56) fun r58 S57 => fX13_act_51 S57 r2 r58) else (fX13_act_51 S55 r2 0)
def zt1 (r2 : Int32) (S : sh_St) : Option (Int32 × sh_St) := sh_c (fX13_name S) fun r50 S49 => if (S49.1 0 20) = (-1) then (sh_c (fX13_cut0 S49 r50) fun r52 S51 => fX13_act_87 S51 r2 r52) else (fX13_act_87 S49 r2 0)
def zt2 (r2 : Int32) (S : sh_St) : Option (Int32 × sh_St) := sh_c (fX13_name S) fun r44 S43 => sh_c (fX13_name S43) fun r46 S45 => if (S45.1 0 20) = (-1) then (sh_c (fX13_turn0 S45 r44 r46) fun r48 S47 => fX13_act_131 S47 r2 r48) else (fX13_act_131 S45 r2 0)
def zt3 (r2 : Int32) (S : sh_St) : Option (Int32 × sh_St) := sh_c (fX13_number S 1 12) fun r40 S39 => if (S39.1 0 20) = (-1) then (sh_c (fX13_tune0 S39 0 r40) fun r42 S41 => fX13_act_171 S41 r2 r42) else (fX13_act_171 S39 r2 0)
def zt4 (r2 : Int32) (S : sh_St) : Option (Int32 × sh_St) := sh_c (fX13_number S 0 65535) fun r36 S35 => if (S35.1 0 20) = (-1) then (sh_c (fX13_tune0 S35 1 r36) fun r38 S37 => fX13_act_211 S37 r2 r38) else (fX13_act_211 S35 r2 0)
def zt5 (r2 : Int32) (S : sh_St) : Option (Int32 × sh_St) := sh_c (fX13_tune0 S 2 1) fun r34 S33 => fX13_act_341 S33 r2 r34
def zt6 (r2 : Int32) (S : sh_St) : Option (Int32 × sh_St) := sh_c (fX13_tune0 S 2 0) fun r32 S31 => fX13_act_341 S31 r2 r32
def zt7 (r2 : Int32) (S : sh_St) : Option (Int32 × sh_St) := sh_c (fX13_number S 0 39) fun r28 S27 => if (S27.1 0 20) = (-1) then (sh_c (fX13_tear0 S27 r28) fun r30 S29 => fX13_act_290 S29 r2 r30) else (fX13_act_290 S27 r2 0)
def zt8 (r2 : Int32) (S : sh_St) : Option (Int32 × sh_St) := sh_g 1081 1084 (sh_g 1082 1084 (sh_g 1083 1084 (sh_c (fX13_build0 S (S.1 1 (1081 : Int32).toNatClampNeg) (S.1 1 (1082 : Int32).toNatClampNeg) (S.1 1 (1083 : Int32).toNatClampNeg)) fun r26 S25 => fX13_act_341 S25 r2 r26)))
def zac9 (r2 : Int32) (S : sh_St) : Option (Int32 × sh_St) := sh_c (fX13_wrong S r2) fun _ S21 => fX13_act_341 S21 r2 0
def zac8 (r2 : Int32) (S : sh_St) : Option (Int32 × sh_St) := sh_c (fX13_has S 8) fun r S1 => if r = 0 then zac9 r2 S1 else zt8 r2 S1
def zac7 (r2 : Int32) (S : sh_St) : Option (Int32 × sh_St) := sh_c (fX13_has S 7) fun r S1 => if r = 0 then zac8 r2 S1 else zt7 r2 S1
def zac6 (r2 : Int32) (S : sh_St) : Option (Int32 × sh_St) := sh_c (fX13_has S 6) fun r S1 => if r = 0 then zac7 r2 S1 else zt6 r2 S1
def zac5 (r2 : Int32) (S : sh_St) : Option (Int32 × sh_St) := sh_c (fX13_has S 5) fun r S1 => if r = 0 then zac6 r2 S1 else zt5 r2 S1
def zac4 (r2 : Int32) (S : sh_St) : Option (Int32 × sh_St) := sh_c (fX13_has S 4) fun r S1 => if r = 0 then zac5 r2 S1 else zt4 r2 S1
def zac3 (r2 : Int32) (S : sh_St) : Option (Int32 × sh_St) := sh_c (fX13_has S 3) fun r S1 => if r = 0 then zac4 r2 S1 else zt3 r2 S1
def zac2 (r2 : Int32) (S : sh_St) : Option (Int32 × sh_St) := sh_c (fX13_has S 2) fun r S1 => if r = 0 then zac3 r2 S1 else zt2 r2 S1
def zac1 (r2 : Int32) (S : sh_St) : Option (Int32 × sh_St) := sh_c (fX13_has S 1) fun r S1 => if r = 0 then zac2 r2 S1 else zt1 r2 S1
def zac0 (r2 : Int32) (S : sh_St) : Option (Int32 × sh_St) := sh_c (fX13_has S 0) fun r S1 => if r = 0 then zac1 r2 S1 else zt0 r2 S1
theorem zac_e (S : sh_St) : fX13_act S = sh_c (fX13_here S) fun r2 S1 => zac0 r2 S1 := by
  rw [fX13_act]
  rfl
theorem zac0_n {r : Int32} {S : sh_St} (h : fX13_has S (nI 0) = some (nI 0, S)) : zac0 r S = zac1 r S := by
  have h' : fX13_has S 0 = some (nI 0, S) := h
  unfold zac0
  rw [h']
  exact zstep0 _ _ _
theorem zac0_y {r : Int32} {S S1 : sh_St} (h : fX13_has S (nI 0) = some (nI 1, S1)) : zac0 r S = zt0 r S1 := by
  have h' : fX13_has S 0 = some (nI 1, S1) := h
  unfold zac0
  rw [h']
  exact zstep1 _ _ _
theorem zac1_n {r : Int32} {S : sh_St} (h : fX13_has S (nI 1) = some (nI 0, S)) : zac1 r S = zac2 r S := by
  have h' : fX13_has S 1 = some (nI 0, S) := h
  unfold zac1
  rw [h']
  exact zstep0 _ _ _
theorem zac1_y {r : Int32} {S S1 : sh_St} (h : fX13_has S (nI 1) = some (nI 1, S1)) : zac1 r S = zt1 r S1 := by
  have h' : fX13_has S 1 = some (nI 1, S1) := h
  unfold zac1
  rw [h']
  exact zstep1 _ _ _
theorem zac2_n {r : Int32} {S : sh_St} (h : fX13_has S (nI 2) = some (nI 0, S)) : zac2 r S = zac3 r S := by
  have h' : fX13_has S 2 = some (nI 0, S) := h
  unfold zac2
  rw [h']
  exact zstep0 _ _ _
theorem zac2_y {r : Int32} {S S1 : sh_St} (h : fX13_has S (nI 2) = some (nI 1, S1)) : zac2 r S = zt2 r S1 := by
  have h' : fX13_has S 2 = some (nI 1, S1) := h
  unfold zac2
  rw [h']
  exact zstep1 _ _ _
theorem zac3_n {r : Int32} {S : sh_St} (h : fX13_has S (nI 3) = some (nI 0, S)) : zac3 r S = zac4 r S := by
  have h' : fX13_has S 3 = some (nI 0, S) := h
  unfold zac3
  rw [h']
  exact zstep0 _ _ _
theorem zac3_y {r : Int32} {S S1 : sh_St} (h : fX13_has S (nI 3) = some (nI 1, S1)) : zac3 r S = zt3 r S1 := by
  have h' : fX13_has S 3 = some (nI 1, S1) := h
  unfold zac3
  rw [h']
  exact zstep1 _ _ _
theorem zac4_n {r : Int32} {S : sh_St} (h : fX13_has S (nI 4) = some (nI 0, S)) : zac4 r S = zac5 r S := by
  have h' : fX13_has S 4 = some (nI 0, S) := h
  unfold zac4
  rw [h']
  exact zstep0 _ _ _
theorem zac4_y {r : Int32} {S S1 : sh_St} (h : fX13_has S (nI 4) = some (nI 1, S1)) : zac4 r S = zt4 r S1 := by
  have h' : fX13_has S 4 = some (nI 1, S1) := h
  unfold zac4
  rw [h']
  exact zstep1 _ _ _
theorem zac5_n {r : Int32} {S : sh_St} (h : fX13_has S (nI 5) = some (nI 0, S)) : zac5 r S = zac6 r S := by
  have h' : fX13_has S 5 = some (nI 0, S) := h
  unfold zac5
  rw [h']
  exact zstep0 _ _ _
theorem zac5_y {r : Int32} {S S1 : sh_St} (h : fX13_has S (nI 5) = some (nI 1, S1)) : zac5 r S = zt5 r S1 := by
  have h' : fX13_has S 5 = some (nI 1, S1) := h
  unfold zac5
  rw [h']
  exact zstep1 _ _ _
theorem zac6_n {r : Int32} {S : sh_St} (h : fX13_has S (nI 6) = some (nI 0, S)) : zac6 r S = zac7 r S := by
  have h' : fX13_has S 6 = some (nI 0, S) := h
  unfold zac6
  rw [h']
  exact zstep0 _ _ _
theorem zac6_y {r : Int32} {S S1 : sh_St} (h : fX13_has S (nI 6) = some (nI 1, S1)) : zac6 r S = zt6 r S1 := by
  have h' : fX13_has S 6 = some (nI 1, S1) := h
  unfold zac6
  rw [h']
  exact zstep1 _ _ _
theorem zac7_n {r : Int32} {S : sh_St} (h : fX13_has S (nI 7) = some (nI 0, S)) : zac7 r S = zac8 r S := by
  have h' : fX13_has S 7 = some (nI 0, S) := h
  unfold zac7
  rw [h']
  exact zstep0 _ _ _
theorem zac7_y {r : Int32} {S S1 : sh_St} (h : fX13_has S (nI 7) = some (nI 1, S1)) : zac7 r S = zt7 r S1 := by
  have h' : fX13_has S 7 = some (nI 1, S1) := h
  unfold zac7
  rw [h']
  exact zstep1 _ _ _
theorem zac8_n {r : Int32} {S : sh_St} (h : fX13_has S (nI 8) = some (nI 0, S)) : zac8 r S = zac9 r S := by
  have h' : fX13_has S 8 = some (nI 0, S) := h
  unfold zac8
  rw [h']
  exact zstep0 _ _ _
theorem zac8_y {r : Int32} {S S1 : sh_St} (h : fX13_has S (nI 8) = some (nI 1, S1)) : zac8 r S = zt8 r S1 := by
  have h' : fX13_has S 8 = some (nI 1, S1) := h
  unfold zac8
  rw [h']
  exact zstep1 _ _ _
/-- an act of a text is done -/
theorem zm_act {S : sh_St} {B : Nat → Nat} {E p : Nat} {T : zT} (hT : zTM S B E) (hE : E ≤ 400) (hB : ∀ k, B k < 256) (h2 : S.1 0 19 = nI p) (hp : p ≤ E) (h20 : S.1 0 20 = -nI 1) (hG : zG T) (hv : zVN S T) : ∃ c S', c ≤ 5 ∧ fX13_act S = some (nI c, S') ∧ zAS S S' c B E p T := by
  obtain ⟨S0, g1, g2, g3⟩ := zm_here hT hE hB h2 hp
  have hT0 := zTM_9 g3 hT
  have hbl := zbl_le B hp
  have hne := zne_le B hp
  have hbb := zbl_i B hp
  have h200 : S0.1 0 20 = -nI 1 := (g3.1 20 (by omega)).trans h20
  have hhas := fun a (ha : a < 9) => zm_has hT0 hE hB g2 hbl.2 h200 hbb (a := a) ha
  have ew : zwd B E (zbl B E p) = zne B E p := rfl
  rw [ew] at hhas
  have hm0 : zM0 S S0 := zM0_9 g3
  have hA9 := zA_le B E p
  have hno : ∀ i, i < zA B E p → i < 9 → fX13_has S0 (nI i) = some (nI 0, S0) := fun i hi h9 => (hhas i h9).2 (zfi_b _ 9 0 i (by omega) hi)
  have hgo0 : fX13_act S = zac0 (nI (zbl B E p)) S0 := by rw [zac_e, g1]; rfl
  by_cases c9 : zA B E p = 9
  · obtain ⟨S1, k1, k2, k3, k4⟩ := zm_wrong S0 (zbl B E p)
    have n0 := hno 0 (by omega) (by omega)
    have n1 := hno 1 (by omega) (by omega)
    have n2 := hno 2 (by omega) (by omega)
    have n3 := hno 3 (by omega) (by omega)
    have n4 := hno 4 (by omega) (by omega)
    have n5 := hno 5 (by omega) (by omega)
    have n6 := hno 6 (by omega) (by omega)
    have n7 := hno 7 (by omega) (by omega)
    have n8 := hno 8 (by omega) (by omega)
    have hf := zM0_tr hm0 k4
    refine ⟨0, S1, by omega, ?_, zFa_0 hf, zTM_0 hf hT, fun _ => ⟨rfl, by rw [k2, h200, zfw_m]⟩, fun q => by omega, fun q => by omega, fun q => by omega⟩
    rw [hgo0, zac0_n n0, zac1_n n1, zac2_n n2, zac3_n n3, zac4_n n4, zac5_n n5, zac6_n n6, zac7_n n7, zac8_n n8]
    unfold zac9
    simp (disch := omega) only [zq_l9, pk_mul, nI_add, zq_t9, zq_c9, zq_bz9, zq_bo9, zq_g, zq_cl, zq_leT, zq_leF, zq_ltT, zq_ltF, zq_eqT, zq_eqF, zq_em, zq_me, zq_pm, zq_mm, zq_gm, pk_sub, zI_s, zI_k, zI_c, zI_2, zL_s, zL_k, zL_c, zL_1, if_true, if_false, eq_self, Nat.zero_add, Nat.add_zero, k1, fX13_act_341]
  have h9 : zA B E p < 9 := by omega
  have hyes := (hhas (zA B E p) h9).1 (zfi_p _ 9 0 (by unfold zA zai at h9; omega))
  have hm1 : zM0 S (sh_I S0 0 19 (nI (zne B E p))) := zM0_tr hm0 (zM0_9 (zM9_I S0 _))
  have hT1 := zTM_0 hm1 hT
  have s19 : (sh_I S0 0 19 (nI (zne B E p))).1 0 19 = nI (zne B E p) := zI_s _ _ _ _
  have s20 : (sh_I S0 0 19 (nI (zne B E p))).1 0 20 = -nI 1 := by rw [zI_k S0 0 19 _ (by omega)]; exact h200
  have hv1 := zVN_0 hm1 hv
  generalize sh_I S0 0 19 (nI (zne B E p)) = S1 at *
  have hb4 : zbl B E p ≤ 400 := by omega
  have hrgs : zpo B E (zA B E p) (zne B E p) → zrg (zA B E p) (zav B E p) ∧ (zA B E p < 3 → zval (zan B E p)) ∧ (zA B E p = 2 → zval (zam B E p)) := fun h => zpo_rg hB h9 h
  have hbad := fun {S'} => zAS_bad (S := S) (S' := S') (T := T) hT (B := B) (E := E) (p := p)
  have hopf := fun {S' S''} => zAS_op (S := S) (S1 := S') (S2 := S'') (T := T) hT hb4
  have r5 := zref_le (T := T) (a := zA B E p) (n := zan B E p) (m := zam B E p) (v := zav B E p)
  have hz : zA B E p = 0 ∨ zA B E p = 1 ∨ zA B E p = 2 ∨ zA B E p = 3 ∨ zA B E p = 4 ∨ zA B E p = 5 ∨ zA B E p = 6 ∨ zA B E p = 7 ∨ zA B E p = 8 := by omega
  have ean : zan B E p = zn1 B E (zA B E p) (zne B E p) := rfl
  have eam : zam B E p = zn2 B E (zA B E p) (zne B E p) := rfl
  have eav : zav B E p = zvv B E (zA B E p) (zne B E p) := rfl
  generalize zan B E p = an at *
  generalize zam B E p = am at *
  generalize zav B E p = av at *
  generalize hq : zne B E p = q at *
  generalize zA B E p = a at *
  rcases hz with e | e | e | e | e | e | e | e | e
  · subst e
    have hgo : fX13_act S = zt0 (nI (zbl B E p)) S1 := by rw [hgo0, zac0_y hyes]
    obtain ⟨r, S2, m1, m2, m3, m4⟩ := zm_name hT1 hE hB s19 hne.2 s20
    by_cases c : zno B E q
    · obtain ⟨x1, x2, x3⟩ := m3 c
      have hne2 := zne_le B hne.2
      obtain ⟨r', S2', m1', m2', m3', m4'⟩ := zm_number (lo := 0) (hi := 999) (zTM_0 m2 hT1) hE hB x3 hne2.2 x2 (by omega) (by omega)
      have hm2 := zM0_tr m2 m2'
      by_cases c' : zdo B E 0 999 (zne B E q)
      · obtain ⟨x1', x2', x3'⟩ := m3' c'
        have hpo : zpo B E 0 q := ⟨fun _ => c, fun w => absurd w (by decide), fun _ => c'⟩
        have rg := hrgs hpo
        obtain ⟨S3, o1, o2, _⟩ := zop_0 hG (zVN_0 hm2 hv1) (rg.2.1 (by omega)) am av
        obtain ⟨S4, u1, u2⟩ := hopf (zM0_tr hm1 hm2) h9 hpo x2' x3' o2
        refine ⟨_, S4, r5, ?_, u2⟩
        have y1 : r = an := by rw [x1, ean]; rfl
        have y2 : r' = nI av := by rw [x1', eav]; rfl
        rw [hgo]
        unfold zt0
        simp (disch := omega) only [zq_l9, pk_mul, nI_add, zq_t9, zq_c9, zq_bz9, zq_bo9, zq_g, zq_cl, zq_leT, zq_leF, zq_ltT, zq_ltF, zq_eqT, zq_eqF, zq_em, zq_me, zq_pm, zq_mm, zq_gm, pk_sub, zI_s, zI_k, zI_c, zI_2, zL_s, zL_k, zL_c, zL_1, if_true, if_false, eq_self, Nat.zero_add, Nat.add_zero, m1, m1', y1, y2, x2', o1, fX13_act_51]
        exact u1
      · have x := m4' c'
        have hb9 := zbl_le B hne2.2
        refine ⟨0, S2', by omega, ?_, hbad (zM0_tr hm1 hm2) h9 (fun w => c' (w.2.2 rfl)) (by rw [zpf_3 (fun _ => c) (fun w => absurd w (by decide))]; exact x)⟩
        rw [hgo]
        unfold zt0
        simp (disch := omega) only [zq_l9, pk_mul, nI_add, zq_t9, zq_c9, zq_bz9, zq_bo9, zq_g, zq_cl, zq_leT, zq_leF, zq_ltT, zq_ltF, zq_eqT, zq_eqF, zq_em, zq_me, zq_pm, zq_mm, zq_gm, pk_sub, zI_s, zI_k, zI_c, zI_2, zL_s, zL_k, zL_c, zL_1, if_true, if_false, eq_self, Nat.zero_add, Nat.add_zero, m1, m1', x, fX13_act_51, fX13_act_341]
    · have x := m4 c
      have hb9 := zbl_le B hne.2
      have hnf := zm_numberF (S := S2) (by rw [x]; exact zq_n1 (by omega)) (nI 0) (nI 999)
      refine ⟨0, S2, by omega, ?_, hbad (zM0_tr hm1 m2) h9 (fun w => c (w.1 (by decide))) (by rw [zpf_t (by decide) c]; exact x)⟩
      rw [hgo]
      unfold zt0
      simp (disch := omega) only [zq_l9, pk_mul, nI_add, zq_t9, zq_c9, zq_bz9, zq_bo9, zq_g, zq_cl, zq_leT, zq_leF, zq_ltT, zq_ltF, zq_eqT, zq_eqF, zq_em, zq_me, zq_pm, zq_mm, zq_gm, pk_sub, zI_s, zI_k, zI_c, zI_2, zL_s, zL_k, zL_c, zL_1, if_true, if_false, eq_self, Nat.zero_add, Nat.add_zero, m1, hnf, x, fX13_act_51, fX13_act_341]
  · subst e
    have hgo : fX13_act S = zt1 (nI (zbl B E p)) S1 := by rw [hgo0, zac0_n (hno 0 (by omega) (by omega)), zac1_y hyes]
    obtain ⟨r, S2, m1, m2, m3, m4⟩ := zm_name hT1 hE hB s19 hne.2 s20
    by_cases c : zno B E q
    · obtain ⟨x1, x2, x3⟩ := m3 c
      have hpo : zpo B E 1 q := ⟨fun _ => c, fun w => absurd w (by decide), fun w => absurd w (by decide)⟩
      have rg := hrgs hpo
      obtain ⟨S3, o1, o2⟩ := zop_1 hG (zVN_0 m2 hv1) (rg.2.1 (by omega)) am av
      obtain ⟨S4, u1, u2⟩ := hopf (zM0_tr hm1 m2) h9 hpo x2 x3 o2
      refine ⟨_, S4, r5, ?_, u2⟩
      have x1' : r = an := by rw [x1, ean]; rfl
      rw [hgo]
      unfold zt1
      simp (disch := omega) only [zq_l9, pk_mul, nI_add, zq_t9, zq_c9, zq_bz9, zq_bo9, zq_g, zq_cl, zq_leT, zq_leF, zq_ltT, zq_ltF, zq_eqT, zq_eqF, zq_em, zq_me, zq_pm, zq_mm, zq_gm, pk_sub, zI_s, zI_k, zI_c, zI_2, zL_s, zL_k, zL_c, zL_1, if_true, if_false, eq_self, Nat.zero_add, Nat.add_zero, m1, x1', x2, o1, fX13_act_87]
      exact u1
    · have x := m4 c
      have hb9 := zbl_le B hne.2
      refine ⟨0, S2, by omega, ?_, hbad (zM0_tr hm1 m2) h9 (fun w => c (w.1 (by decide))) (by rw [zpf_t (by decide) c]; exact x)⟩
      rw [hgo]
      unfold zt1
      simp (disch := omega) only [zq_l9, pk_mul, nI_add, zq_t9, zq_c9, zq_bz9, zq_bo9, zq_g, zq_cl, zq_leT, zq_leF, zq_ltT, zq_ltF, zq_eqT, zq_eqF, zq_em, zq_me, zq_pm, zq_mm, zq_gm, pk_sub, zI_s, zI_k, zI_c, zI_2, zL_s, zL_k, zL_c, zL_1, if_true, if_false, eq_self, Nat.zero_add, Nat.add_zero, m1, x, fX13_act_87, fX13_act_341]
  · subst e
    have hgo : fX13_act S = zt2 (nI (zbl B E p)) S1 := by rw [hgo0, zac0_n (hno 0 (by omega) (by omega)), zac1_n (hno 1 (by omega) (by omega)), zac2_y hyes]
    obtain ⟨r, S2, m1, m2, m3, m4⟩ := zm_name hT1 hE hB s19 hne.2 s20
    by_cases c : zno B E q
    · obtain ⟨x1, x2, x3⟩ := m3 c
      have hne2 := zne_le B hne.2
      obtain ⟨r', S2', m1', m2', m3', m4'⟩ := zm_name (zTM_0 m2 hT1) hE hB x3 hne2.2 x2
      have hm2 := zM0_tr m2 m2'
      by_cases c' : zno B E (zne B E q)
      · obtain ⟨x1', x2', x3'⟩ := m3' c'
        have hpo : zpo B E 2 q := ⟨fun _ => c, fun _ => c', fun w => absurd w (by decide)⟩
        have rg := hrgs hpo
        obtain ⟨S3, o1, o2⟩ := zop_2 hG (zVN_0 hm2 hv1) (rg.2.1 (by omega)) (rg.2.2 rfl) av
        obtain ⟨S4, u1, u2⟩ := hopf (zM0_tr hm1 hm2) h9 hpo x2' x3' o2
        refine ⟨_, S4, r5, ?_, u2⟩
        have y1 : r = an := by rw [x1, ean]; rfl
        have y2 : r' = am := by rw [x1', eam]; rfl
        rw [hgo]
        unfold zt2
        simp (disch := omega) only [zq_l9, pk_mul, nI_add, zq_t9, zq_c9, zq_bz9, zq_bo9, zq_g, zq_cl, zq_leT, zq_leF, zq_ltT, zq_ltF, zq_eqT, zq_eqF, zq_em, zq_me, zq_pm, zq_mm, zq_gm, pk_sub, zI_s, zI_k, zI_c, zI_2, zL_s, zL_k, zL_c, zL_1, if_true, if_false, eq_self, Nat.zero_add, Nat.add_zero, m1, m1', y1, y2, x2', o1, fX13_act_131]
        exact u1
      · have x := m4' c'
        have hb9 := zbl_le B hne2.2
        refine ⟨0, S2', by omega, ?_, hbad (zM0_tr hm1 hm2) h9 (fun w => c' (w.2.1 (by decide))) (by rw [zpf_2 (a := 2) (fun _ => c) (by decide) c']; exact x)⟩
        rw [hgo]
        unfold zt2
        simp (disch := omega) only [zq_l9, pk_mul, nI_add, zq_t9, zq_c9, zq_bz9, zq_bo9, zq_g, zq_cl, zq_leT, zq_leF, zq_ltT, zq_ltF, zq_eqT, zq_eqF, zq_em, zq_me, zq_pm, zq_mm, zq_gm, pk_sub, zI_s, zI_k, zI_c, zI_2, zL_s, zL_k, zL_c, zL_1, if_true, if_false, eq_self, Nat.zero_add, Nat.add_zero, m1, m1', x, fX13_act_131, fX13_act_341]
    · have x := m4 c
      have hb9 := zbl_le B hne.2
      have hnf := zm_nameF (S := S2) (by rw [x]; exact zq_n1 (by omega))
      refine ⟨0, S2, by omega, ?_, hbad (zM0_tr hm1 m2) h9 (fun w => c (w.1 (by decide))) (by rw [zpf_t (by decide) c]; exact x)⟩
      rw [hgo]
      unfold zt2
      simp (disch := omega) only [zq_l9, pk_mul, nI_add, zq_t9, zq_c9, zq_bz9, zq_bo9, zq_g, zq_cl, zq_leT, zq_leF, zq_ltT, zq_ltF, zq_eqT, zq_eqF, zq_em, zq_me, zq_pm, zq_mm, zq_gm, pk_sub, zI_s, zI_k, zI_c, zI_2, zL_s, zL_k, zL_c, zL_1, if_true, if_false, eq_self, Nat.zero_add, Nat.add_zero, m1, hnf, x, fX13_act_131, fX13_act_341]
  · subst e
    have hgo : fX13_act S = zt3 (nI (zbl B E p)) S1 := by rw [hgo0, zac0_n (hno 0 (by omega) (by omega)), zac1_n (hno 1 (by omega) (by omega)), zac2_n (hno 2 (by omega) (by omega)), zac3_y hyes]
    obtain ⟨r, S2, m1, m2, m3, m4⟩ := zm_number (lo := 1) (hi := 12) hT1 hE hB s19 hne.2 s20 (by omega) (by omega)
    by_cases c : zdo B E 1 12 q
    · obtain ⟨x1, x2, x3⟩ := m3 c
      have hpo : zpo B E 3 q := ⟨fun w => absurd w (by decide), fun w => absurd w (by decide), fun _ => c⟩
      have rg := hrgs hpo
      obtain ⟨S3, o1, o2⟩ := zop_t hG (zVN_0 m2 hv1) an am (a := 3) (by omega) rg.1
      have o1' : fX13_tune0 S2 (nI 0) (nI av) = some (nI (zref T 3 an am av), S3) := o1
      obtain ⟨S4, u1, u2⟩ := hopf (zM0_tr hm1 m2) h9 hpo x2 x3 o2
      refine ⟨_, S4, r5, ?_, u2⟩
      have x1' : r = nI av := by rw [x1, eav]; rfl
      rw [hgo]
      unfold zt3
      simp (disch := omega) only [zq_l9, pk_mul, nI_add, zq_t9, zq_c9, zq_bz9, zq_bo9, zq_g, zq_cl, zq_leT, zq_leF, zq_ltT, zq_ltF, zq_eqT, zq_eqF, zq_em, zq_me, zq_pm, zq_mm, zq_gm, pk_sub, zI_s, zI_k, zI_c, zI_2, zL_s, zL_k, zL_c, zL_1, if_true, if_false, eq_self, Nat.zero_add, Nat.add_zero, m1, x1', x2, o1', fX13_act_171]
      exact u1
    · have x := m4 c
      have hb9 := zbl_le B hne.2
      refine ⟨0, S2, by omega, ?_, hbad (zM0_tr hm1 m2) h9 (fun w => c (w.2.2 rfl)) (by rw [zpf_3 (fun w => absurd w (by decide)) (fun w => absurd w (by decide))]; exact x)⟩
      rw [hgo]
      unfold zt3
      simp (disch := omega) only [zq_l9, pk_mul, nI_add, zq_t9, zq_c9, zq_bz9, zq_bo9, zq_g, zq_cl, zq_leT, zq_leF, zq_ltT, zq_ltF, zq_eqT, zq_eqF, zq_em, zq_me, zq_pm, zq_mm, zq_gm, pk_sub, zI_s, zI_k, zI_c, zI_2, zL_s, zL_k, zL_c, zL_1, if_true, if_false, eq_self, Nat.zero_add, Nat.add_zero, m1, x, fX13_act_171, fX13_act_341]
  · subst e
    have hgo : fX13_act S = zt4 (nI (zbl B E p)) S1 := by rw [hgo0, zac0_n (hno 0 (by omega) (by omega)), zac1_n (hno 1 (by omega) (by omega)), zac2_n (hno 2 (by omega) (by omega)), zac3_n (hno 3 (by omega) (by omega)), zac4_y hyes]
    obtain ⟨r, S2, m1, m2, m3, m4⟩ := zm_number (lo := 0) (hi := 65535) hT1 hE hB s19 hne.2 s20 (by omega) (by omega)
    by_cases c : zdo B E 0 65535 q
    · obtain ⟨x1, x2, x3⟩ := m3 c
      have hpo : zpo B E 4 q := ⟨fun w => absurd w (by decide), fun w => absurd w (by decide), fun _ => c⟩
      have rg := hrgs hpo
      obtain ⟨S3, o1, o2⟩ := zop_t hG (zVN_0 m2 hv1) an am (a := 4) (by omega) rg.1
      have o1' : fX13_tune0 S2 (nI 1) (nI av) = some (nI (zref T 4 an am av), S3) := o1
      obtain ⟨S4, u1, u2⟩ := hopf (zM0_tr hm1 m2) h9 hpo x2 x3 o2
      refine ⟨_, S4, r5, ?_, u2⟩
      have x1' : r = nI av := by rw [x1, eav]; rfl
      rw [hgo]
      unfold zt4
      simp (disch := omega) only [zq_l9, pk_mul, nI_add, zq_t9, zq_c9, zq_bz9, zq_bo9, zq_g, zq_cl, zq_leT, zq_leF, zq_ltT, zq_ltF, zq_eqT, zq_eqF, zq_em, zq_me, zq_pm, zq_mm, zq_gm, pk_sub, zI_s, zI_k, zI_c, zI_2, zL_s, zL_k, zL_c, zL_1, if_true, if_false, eq_self, Nat.zero_add, Nat.add_zero, m1, x1', x2, o1', fX13_act_211]
      exact u1
    · have x := m4 c
      have hb9 := zbl_le B hne.2
      refine ⟨0, S2, by omega, ?_, hbad (zM0_tr hm1 m2) h9 (fun w => c (w.2.2 rfl)) (by rw [zpf_3 (fun w => absurd w (by decide)) (fun w => absurd w (by decide))]; exact x)⟩
      rw [hgo]
      unfold zt4
      simp (disch := omega) only [zq_l9, pk_mul, nI_add, zq_t9, zq_c9, zq_bz9, zq_bo9, zq_g, zq_cl, zq_leT, zq_leF, zq_ltT, zq_ltF, zq_eqT, zq_eqF, zq_em, zq_me, zq_pm, zq_mm, zq_gm, pk_sub, zI_s, zI_k, zI_c, zI_2, zL_s, zL_k, zL_c, zL_1, if_true, if_false, eq_self, Nat.zero_add, Nat.add_zero, m1, x, fX13_act_211, fX13_act_341]
  · subst e
    have hgo : fX13_act S = zt5 (nI (zbl B E p)) S1 := by rw [hgo0, zac0_n (hno 0 (by omega) (by omega)), zac1_n (hno 1 (by omega) (by omega)), zac2_n (hno 2 (by omega) (by omega)), zac3_n (hno 3 (by omega) (by omega)), zac4_n (hno 4 (by omega) (by omega)), zac5_y hyes]
    have hpo : zpo B E 5 q := ⟨fun w => absurd w (by decide), fun w => absurd w (by decide), fun w => absurd w (by decide)⟩
    have rg := hrgs hpo
    obtain ⟨S3, o1, o2⟩ := zop_t hG hv1 an am (a := 5) (v := av) (by omega) rg.1
    have o1' : fX13_tune0 S1 (nI 2) (nI 1) = some (nI (zref T 5 an am av), S3) := o1
    obtain ⟨S4, u1, u2⟩ := hopf hm1 h9 hpo s20 s19 o2
    refine ⟨_, S4, r5, ?_, u2⟩
    rw [hgo]
    unfold zt5
    simp (disch := omega) only [zq_l9, pk_mul, nI_add, zq_t9, zq_c9, zq_bz9, zq_bo9, zq_g, zq_cl, zq_leT, zq_leF, zq_ltT, zq_ltF, zq_eqT, zq_eqF, zq_em, zq_me, zq_pm, zq_mm, zq_gm, pk_sub, zI_s, zI_k, zI_c, zI_2, zL_s, zL_k, zL_c, zL_1, if_true, if_false, eq_self, Nat.zero_add, Nat.add_zero, o1']
    exact u1
  · subst e
    have hgo : fX13_act S = zt6 (nI (zbl B E p)) S1 := by rw [hgo0, zac0_n (hno 0 (by omega) (by omega)), zac1_n (hno 1 (by omega) (by omega)), zac2_n (hno 2 (by omega) (by omega)), zac3_n (hno 3 (by omega) (by omega)), zac4_n (hno 4 (by omega) (by omega)), zac5_n (hno 5 (by omega) (by omega)), zac6_y hyes]
    have hpo : zpo B E 6 q := ⟨fun w => absurd w (by decide), fun w => absurd w (by decide), fun w => absurd w (by decide)⟩
    have rg := hrgs hpo
    obtain ⟨S3, o1, o2⟩ := zop_t hG hv1 an am (a := 6) (v := av) (by omega) rg.1
    have o1' : fX13_tune0 S1 (nI 2) (nI 0) = some (nI (zref T 6 an am av), S3) := o1
    obtain ⟨S4, u1, u2⟩ := hopf hm1 h9 hpo s20 s19 o2
    refine ⟨_, S4, r5, ?_, u2⟩
    rw [hgo]
    unfold zt6
    simp (disch := omega) only [zq_l9, pk_mul, nI_add, zq_t9, zq_c9, zq_bz9, zq_bo9, zq_g, zq_cl, zq_leT, zq_leF, zq_ltT, zq_ltF, zq_eqT, zq_eqF, zq_em, zq_me, zq_pm, zq_mm, zq_gm, pk_sub, zI_s, zI_k, zI_c, zI_2, zL_s, zL_k, zL_c, zL_1, if_true, if_false, eq_self, Nat.zero_add, Nat.add_zero, o1']
    exact u1
  · subst e
    have hgo : fX13_act S = zt7 (nI (zbl B E p)) S1 := by rw [hgo0, zac0_n (hno 0 (by omega) (by omega)), zac1_n (hno 1 (by omega) (by omega)), zac2_n (hno 2 (by omega) (by omega)), zac3_n (hno 3 (by omega) (by omega)), zac4_n (hno 4 (by omega) (by omega)), zac5_n (hno 5 (by omega) (by omega)), zac6_n (hno 6 (by omega) (by omega)), zac7_y hyes]
    obtain ⟨r, S2, m1, m2, m3, m4⟩ := zm_number (lo := 0) (hi := 39) hT1 hE hB s19 hne.2 s20 (by omega) (by omega)
    by_cases c : zdo B E 0 39 q
    · obtain ⟨x1, x2, x3⟩ := m3 c
      have hpo : zpo B E 7 q := ⟨fun w => absurd w (by decide), fun w => absurd w (by decide), fun _ => c⟩
      have rg := hrgs hpo
      obtain ⟨S3, o1, o2⟩ := zop_7 hG (zVN_0 m2 hv1) an am (v := av) (rg.1.2.2.2.2 rfl)
      have o1' : fX13_tear0 S2 (nI av) = some (nI (zref T 7 an am av), S3) := o1
      obtain ⟨S4, u1, u2⟩ := hopf (zM0_tr hm1 m2) h9 hpo x2 x3 o2
      refine ⟨_, S4, r5, ?_, u2⟩
      have x1' : r = nI av := by rw [x1, eav]; rfl
      rw [hgo]
      unfold zt7
      simp (disch := omega) only [zq_l9, pk_mul, nI_add, zq_t9, zq_c9, zq_bz9, zq_bo9, zq_g, zq_cl, zq_leT, zq_leF, zq_ltT, zq_ltF, zq_eqT, zq_eqF, zq_em, zq_me, zq_pm, zq_mm, zq_gm, pk_sub, zI_s, zI_k, zI_c, zI_2, zL_s, zL_k, zL_c, zL_1, if_true, if_false, eq_self, Nat.zero_add, Nat.add_zero, m1, x1', x2, o1', fX13_act_290]
      exact u1
    · have x := m4 c
      have hb9 := zbl_le B hne.2
      refine ⟨0, S2, by omega, ?_, hbad (zM0_tr hm1 m2) h9 (fun w => c (w.2.2 rfl)) (by rw [zpf_3 (fun w => absurd w (by decide)) (fun w => absurd w (by decide))]; exact x)⟩
      rw [hgo]
      unfold zt7
      simp (disch := omega) only [zq_l9, pk_mul, nI_add, zq_t9, zq_c9, zq_bz9, zq_bo9, zq_g, zq_cl, zq_leT, zq_leF, zq_ltT, zq_ltF, zq_eqT, zq_eqF, zq_em, zq_me, zq_pm, zq_mm, zq_gm, pk_sub, zI_s, zI_k, zI_c, zI_2, zL_s, zL_k, zL_c, zL_1, if_true, if_false, eq_self, Nat.zero_add, Nat.add_zero, m1, x, fX13_act_290, fX13_act_341]
  · subst e
    have hgo : fX13_act S = zt8 (nI (zbl B E p)) S1 := by rw [hgo0, zac0_n (hno 0 (by omega) (by omega)), zac1_n (hno 1 (by omega) (by omega)), zac2_n (hno 2 (by omega) (by omega)), zac3_n (hno 3 (by omega) (by omega)), zac4_n (hno 4 (by omega) (by omega)), zac5_n (hno 5 (by omega) (by omega)), zac6_n (hno 6 (by omega) (by omega)), zac7_n (hno 7 (by omega) (by omega)), zac8_y hyes]
    have hpo : zpo B E 8 q := ⟨fun w => absurd w (by decide), fun w => absurd w (by decide), fun w => absurd w (by decide)⟩
    have rg := hrgs hpo
    obtain ⟨S3, o1, o2⟩ := zop_8 hG hv1 an am av
    have o1' : fX13_build0 S1 (S1.1 1 1081) (S1.1 1 1082) (S1.1 1 1083) = some (nI (zref T 8 an am av), S3) := o1
    obtain ⟨S4, u1, u2⟩ := hopf hm1 h9 hpo s20 s19 o2
    refine ⟨_, S4, r5, ?_, u2⟩
    rw [hgo]
    unfold zt8
    simp (disch := omega) only [zq_l9, pk_mul, nI_add, zq_t9, zq_c9, zq_bz9, zq_bo9, zq_g, zq_cl, zq_leT, zq_leF, zq_ltT, zq_ltF, zq_eqT, zq_eqF, zq_em, zq_me, zq_pm, zq_mm, zq_gm, pk_sub, zI_s, zI_k, zI_c, zI_2, zL_s, zL_k, zL_c, zL_1, if_true, if_false, eq_self, Nat.zero_add, Nat.add_zero, o1']
    exact u1
