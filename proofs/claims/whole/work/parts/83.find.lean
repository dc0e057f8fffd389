/-! find and way -/
theorem zx_tracek {S : sh_St} {T : zT} (hv : zVX S 4 T) (hI : zInv T) {h : Nat} (hh : h < 4096) : ∃ S', fX4_trace S (nI h) = some ((), S') ∧ zWay S' T h ∧ zOrd S' (zLL T) ∧ zFr 117 123 S S' := by
  obtain ⟨S1, g1, g2, g3⟩ := zx_gather hv hI
  obtain ⟨S2, k1, k2, k3⟩ := zx_way (zVX_f4 g3 (by omega) hv) hI g2 hh
  refine ⟨S2, ?_, k2, zOrd_fr k3 (by omega) g2, zFr_tr (zFr_wd g3 (by omega) (by omega)) (zFr_wd k3 (by omega) (by omega))⟩
  rw [fX4_trace]
  simp (disch := omega) only [zq_l9, pk_mul, nI_add, zq_t9, zq_c9, zq_bz9, zq_bo9, zq_g, zq_cl, zq_leT, zq_leF, zq_ltT, zq_ltF, zq_eqT, zq_eqF, zq_em, zq_me, zq_pm, zq_mm, zq_gm, pk_sub, zI_s, zI_k, zI_c, zI_2, zL_s, zL_k, zL_c, zL_1, if_true, if_false, eq_self, Nat.zero_add, Nat.add_zero, g1, k1]
theorem zc_way {S M : sh_St} (h : zRR S M) (v : Int32) : zCA ["java/lang/IllegalArgumentException"] (fX12_way S v) (fX13_way M v) := by
  obtain ⟨T, B, L, h⟩ := h
  have hu := zx_useUp h
  rw [fX12_way, fX13_way]
  obtain ⟨S1, M1, x, k1, k2, k3, k4⟩ := zR_name1 h
  by_cases q : zo1 B L
  · obtain ⟨x1, x2, x3, x4, x5⟩ := k3 q
    subst x1
    have hI := k2.1.1
    have hx := zx_hashOf k2.2.1 hI (znm B L 0)
    have hy := zm_hashOf k2.2.2.1 hI x5
    have hh := zha_lt hI (znm B L 0)
    generalize zha T (znm B L 0) = g at *
    obtain ⟨S2, t1, t2, t3, t4⟩ := zx_tracek k2.2.1 hI hh
    have hw := zwn_le hI g
    have hl := zln_le hI
    have h72 := hI.1.1
    have hx2 : ∀ r, fX11_blockAt S2 v = some (r, S2) → sh_c (fX9_useUp S) (fun r2 S1 => sh_cx (fX12_nameTold S1 r2) fun r4 S3 => sh_c (fX7_hashOf S3 r4) fun r6 S5 => sh_c (fX4_trace S5 r6) fun _ S7 => sh_c (fX11_blockAt S7 v) fun r10 S9 => some (.inl r10, S9)) = some (.inl r, S2) := fun r e => by
      simp (disch := omega) only [zq_l9, pk_mul, nI_add, zq_t9, zq_c9, zq_bz9, zq_bo9, zq_g, zq_cl, zq_leT, zq_leF, zq_ltT, zq_ltF, zq_eqT, zq_eqF, zq_em, zq_me, zq_pm, zq_mm, zq_gm, pk_sub, zI_s, zI_k, zI_c, zI_2, zL_s, zL_k, zL_c, zL_1, if_true, if_false, eq_self, Nat.zero_add, Nat.add_zero, hu, x2, zcx_l, hx, t1, e]
    rcases zn_cs v with hv | ⟨j, hj, rfl⟩
    · refine ⟨.inl (-nI 1), S2, -nI 1, M1, hx2 _ ?_, ?_, Or.inl ⟨rfl, x4⟩, T, B, 0, zR_q k2 (zFr_wd t4 (by omega) (by omega)) (zMQ_rf M1)⟩
      · rw [fX11_blockAt]
        simp (disch := omega) only [zq_l9, pk_mul, nI_add, zq_t9, zq_c9, zq_bz9, zq_bo9, zq_g, zq_cl, zq_leT, zq_leF, zq_ltT, zq_ltF, zq_eqT, zq_eqF, zq_em, zq_me, zq_pm, zq_mm, zq_gm, pk_sub, zI_s, zI_k, zI_c, zI_2, zL_s, zL_k, zL_c, zL_1, if_true, if_false, eq_self, Nat.zero_add, Nat.add_zero, zn_lt hv]
      · simp (disch := omega) only [zq_l9, pk_mul, nI_add, zq_t9, zq_c9, zq_bz9, zq_bo9, zq_g, zq_cl, zq_leT, zq_leF, zq_ltT, zq_ltF, zq_eqT, zq_eqF, zq_em, zq_me, zq_pm, zq_mm, zq_gm, pk_sub, zI_s, zI_k, zI_c, zI_2, zL_s, zL_k, zL_c, zL_1, if_true, if_false, eq_self, Nat.zero_add, Nat.add_zero, k1, zn_ge hv]
    · have hb : ∀ (n l : Nat) , l ≤ T.1 7 0 → l ≤ j → T.1 7 0 - l < n → ∃ M2, fX13_blockOn_5 n M1 (nI g) (nI j) (nI (zbk T g l)) (nI l) = some (if j < T.1 7 0 + zwn T g then S2.1 122 j else -nI 1, M2) ∧ zFm M1 M2 := by
        intro n
        induction n with
        | zero => intro l h1 h2 h3; omega
        | succ n ih =>
          intro l h1 h2 h3
          have mv := zM_v k2.2.2.1
          rw [fX13_blockOn_5]
          by_cases c : l = T.1 7 0
          · obtain ⟨M2, g1, g2, g3, g4⟩ := zm_goes k2.2.2.1 hI hh
            have mv2 := zM_v (zVN_fn g4 k2.2.2.1)
            refine ⟨M2, ?_, zFn_m g4⟩
            have hin := zm_within' M2 (v := j - T.1 7 0) (lo := 0) (hi := zwn T g - 1) (by omega) (by omega) (by omega)
            by_cases d : j < T.1 7 0 + zwn T g
            · rw [if_pos d]
              rw [if_pos (by omega)] at hin
              have a1 := t2.2.2.1 (j - T.1 7 0) (by omega)
              rw [show T.1 7 0 + (j - T.1 7 0) = j by omega] at a1
              have a2 := (zLin_at g3 (show zpl T g + (j - T.1 7 0) < zln T by omega)).1
              have e1 := g2.1
              have e2 := g2.2
              simp (disch := omega) only [zq_l9, pk_mul, nI_add, zq_t9, zq_c9, zq_bz9, zq_bo9, zq_g, zq_cl, zq_leT, zq_leF, zq_ltT, zq_ltF, zq_eqT, zq_eqF, zq_em, zq_me, zq_pm, zq_mm, zq_gm, pk_sub, zI_s, zI_k, zI_c, zI_2, zL_s, zL_k, zL_c, zL_1, if_true, if_false, eq_self, Nat.zero_add, Nat.add_zero, mv, g1, mv2, e2, hin, e1, a2, a1]
            · rw [if_neg d]
              rw [if_neg (by omega)] at hin
              have e2 := g2.2
              simp (disch := omega) only [zq_l9, pk_mul, nI_add, zq_t9, zq_c9, zq_bz9, zq_bo9, zq_g, zq_cl, zq_leT, zq_leF, zq_ltT, zq_ltF, zq_eqT, zq_eqF, zq_em, zq_me, zq_pm, zq_mm, zq_gm, pk_sub, zI_s, zI_k, zI_c, zI_2, zL_s, zL_k, zL_c, zL_1, if_true, if_false, eq_self, Nat.zero_add, Nat.add_zero, mv, g1, mv2, e2, hin]
          · obtain ⟨b1, b2, b3⟩ := zbk_lo hI g (show l < T.1 7 0 by omega)
            have b5 := zInv_c5 hI b1
            by_cases d : l = j
            · subst d
              have d' : l < T.1 7 0 + zwn T g := by omega
              rw [if_pos d']
              refine ⟨M1, ?_, zFm_rf M1⟩
              have a1 := (t2.2.2.2 l (by omega)).1
              simp (disch := omega) only [zq_l9, pk_mul, nI_add, zq_t9, zq_c9, zq_bz9, zq_bo9, zq_g, zq_cl, zq_leT, zq_leF, zq_ltT, zq_ltF, zq_eqT, zq_eqF, zq_em, zq_me, zq_pm, zq_mm, zq_gm, pk_sub, zI_s, zI_k, zI_c, zI_2, zL_s, zL_k, zL_c, zL_1, if_true, if_false, eq_self, Nat.zero_add, Nat.add_zero, mv, a1]
            · obtain ⟨M2, f1, f2⟩ := ih (l + 1) (by omega) (by omega) (by omega)
              refine ⟨M2, ?_, f2⟩
              have hr := zm_rowFor k2.2.2.1 hI b1 hh
              have mg := zM_g k2.2.2.1 b1 b3
              have eb : zbk T g (l + 1) = T.1 6 (zbk T g l * 6 + zr T (zbk T g l) g) := rfl
              rw [eb] at f1
              simp (disch := omega) only [zq_l9, pk_mul, nI_add, zq_t9, zq_c9, zq_bz9, zq_bo9, zq_g, zq_cl, zq_leT, zq_leF, zq_ltT, zq_ltF, zq_eqT, zq_eqF, zq_em, zq_me, zq_pm, zq_mm, zq_gm, pk_sub, zI_s, zI_k, zI_c, zI_2, zL_s, zL_k, zL_c, zL_1, if_true, if_false, eq_self, Nat.zero_add, Nat.add_zero, mv, hr, fX13_rowAt, mg]
              exact f1
      obtain ⟨M2, f1, f2⟩ := hb sh_FU 0 (by omega) (by omega) (zc_FU _ (by omega))
      have f1' : fX13_blockOn M1 (nI g) (nI j) = some (if j < T.1 7 0 + zwn T g then S2.1 122 j else -nI 1, M2) := f1
      refine ⟨.inl (if j < T.1 7 0 + zwn T g then S2.1 122 j else -nI 1), S2, _, M2, hx2 _ ?_, ?_, Or.inl ⟨rfl, by rw [f2.1 0 (by omega)]; exact x4⟩, T, B, 0, zR_q k2 (zFr_wd t4 (by omega) (by omega)) (zMQ_m f2)⟩
      · rw [fX11_blockAt]
        have e3 := t2.2.1
        by_cases d : j < T.1 7 0 + zwn T g
        · rw [if_pos d]
          simp (disch := omega) only [zq_l9, pk_mul, nI_add, zq_t9, zq_c9, zq_bz9, zq_bo9, zq_g, zq_cl, zq_leT, zq_leF, zq_ltT, zq_ltF, zq_eqT, zq_eqF, zq_em, zq_me, zq_pm, zq_mm, zq_gm, pk_sub, zI_s, zI_k, zI_c, zI_2, zL_s, zL_k, zL_c, zL_1, if_true, if_false, eq_self, Nat.zero_add, Nat.add_zero, e3]
        · rw [if_neg d]
          simp (disch := omega) only [zq_l9, pk_mul, nI_add, zq_t9, zq_c9, zq_bz9, zq_bo9, zq_g, zq_cl, zq_leT, zq_leF, zq_ltT, zq_ltF, zq_eqT, zq_eqF, zq_em, zq_me, zq_pm, zq_mm, zq_gm, pk_sub, zI_s, zI_k, zI_c, zI_2, zL_s, zL_k, zL_c, zL_1, if_true, if_false, eq_self, Nat.zero_add, Nat.add_zero, e3]
      · simp (disch := omega) only [zq_l9, pk_mul, nI_add, zq_t9, zq_c9, zq_bz9, zq_bo9, zq_g, zq_cl, zq_leT, zq_leF, zq_ltT, zq_ltF, zq_eqT, zq_eqF, zq_em, zq_me, zq_pm, zq_mm, zq_gm, pk_sub, zI_s, zI_k, zI_c, zI_2, zL_s, zL_k, zL_c, zL_1, if_true, if_false, eq_self, Nat.zero_add, Nat.add_zero, k1, x3, hy, f1']
  · obtain ⟨x1, x2, x3⟩ := k4 q
    subst x1
    refine ⟨_, S1, nI 0, M1, ?_, ?_, Or.inr ⟨0, _, rfl, rfl, x3⟩, T, B, 0, k2⟩
    · simp (disch := omega) only [zq_l9, pk_mul, nI_add, zq_t9, zq_c9, zq_bz9, zq_bo9, zq_g, zq_cl, zq_leT, zq_leF, zq_ltT, zq_ltF, zq_eqT, zq_eqF, zq_em, zq_me, zq_pm, zq_mm, zq_gm, pk_sub, zI_s, zI_k, zI_c, zI_2, zL_s, zL_k, zL_c, zL_1, if_true, if_false, eq_self, Nat.zero_add, Nat.add_zero, hu, x2, zcx_r]
    · simp (disch := omega) only [zq_l9, pk_mul, nI_add, zq_t9, zq_c9, zq_bz9, zq_bo9, zq_g, zq_cl, zq_leT, zq_leF, zq_ltT, zq_ltF, zq_eqT, zq_eqF, zq_em, zq_me, zq_pm, zq_mm, zq_gm, pk_sub, zI_s, zI_k, zI_c, zI_2, zL_s, zL_k, zL_c, zL_1, if_true, if_false, eq_self, Nat.zero_add, Nat.add_zero, k1]
/-- room on a way -/
def zrm (T : zT) (h : Nat) : Nat → Nat
  | 0 => 0
  | i + 1 => zrm T h i + (6 - zent T (zlq T (zpl T h + i)).1)
theorem zrm_le (T : zT) (h : Nat) : ∀ i, zrm T h i ≤ 6 * i := by
  intro i
  induction i with
  | zero => exact Nat.le_refl _
  | succ i ih =>
    unfold zrm
    omega
theorem zent_le (T : zT) (b : Nat) : zent T b ≤ 6 := zcnt_le _ _
theorem zx_room {S : sh_St} {T : zT} (hv : zVX S 4 T) (hI : zInv T) {h : Nat} (hw : zWay S T h) : ∀ (n i : Nat), i ≤ zwn T h → zwn T h - i < n → fX8_roomOnWay_24 n S (nI (zrm T h i)) (nI (T.1 7 0 + i)) = some (nI (zrm T h (zwn T h)), S) := by
  have hwl := zwn_le hI h
  have hl := zln_le hI
  have h72 := hI.1.1
  intro n
  induction n with
  | zero => intro i h1 h2; omega
  | succ n ih =>
    intro i h1 h2
    rw [fX8_roomOnWay_24]
    have e3 := hw.2.1
    by_cases c : i = zwn T h
    · subst c
      simp (disch := omega) only [zq_l9, pk_mul, nI_add, zq_t9, zq_c9, zq_bz9, zq_bo9, zq_g, zq_cl, zq_leT, zq_leF, zq_ltT, zq_ltF, zq_eqT, zq_eqF, zq_em, zq_me, zq_pm, zq_mm, zq_gm, pk_sub, zI_s, zI_k, zI_c, zI_2, zL_s, zL_k, zL_c, zL_1, if_true, if_false, eq_self, Nat.zero_add, Nat.add_zero, e3]
    · have hih := ih (i + 1) (by omega) (by omega)
      have a1 := hw.2.2.1 i (by omega)
      have hb := (zlq_ok hI (show zpl T h + i < zln T by omega)).1
      have he := zx_ent hv hb
      have hle := zent_le T (zlq T (zpl T h + i)).1
      have er : zrm T h (i + 1) = zrm T h i + (6 - zent T (zlq T (zpl T h + i)).1) := rfl
      rw [er] at hih
      have ea : T.1 7 0 + i + 1 = T.1 7 0 + (i + 1) := by omega
      simp (disch := omega) only [zq_l9, pk_mul, nI_add, zq_t9, zq_c9, zq_bz9, zq_bo9, zq_g, zq_cl, zq_leT, zq_leF, zq_ltT, zq_ltF, zq_eqT, zq_eqF, zq_em, zq_me, zq_pm, zq_mm, zq_gm, pk_sub, zI_s, zI_k, zI_c, zI_2, zL_s, zL_k, zL_c, zL_1, if_true, if_false, eq_self, Nat.zero_add, Nat.add_zero, e3, a1, he, ea]
      exact hih
theorem zm_room {M : sh_St} {T : zT} (hv : zVN M T) (hI : zInv T) {h : Nat} (hg : zGo M T h) (hL : zLin M (zLL T)) : ∀ (n i : Nat), i ≤ zwn T h → zwn T h - i < n → fX13_room_9 n M (nI (zrm T h i)) (nI i) = some (nI (zrm T h (zwn T h)), M) := by
  have hwl := zwn_le hI h
  have hl := zln_le hI
  intro n
  induction n with
  | zero => intro i h1 h2; omega
  | succ n ih =>
    intro i h1 h2
    rw [fX13_room_9]
    have e2 := hg.2
    have e1 := hg.1
    by_cases c : i = zwn T h
    · subst c
      simp (disch := omega) only [zq_l9, pk_mul, nI_add, zq_t9, zq_c9, zq_bz9, zq_bo9, zq_g, zq_cl, zq_leT, zq_leF, zq_ltT, zq_ltF, zq_eqT, zq_eqF, zq_em, zq_me, zq_pm, zq_mm, zq_gm, pk_sub, zI_s, zI_k, zI_c, zI_2, zL_s, zL_k, zL_c, zL_1, if_true, if_false, eq_self, Nat.zero_add, Nat.add_zero, e2]
    · have hih := ih (i + 1) (by omega) (by omega)
      have a1 := (zLin_at hL (show zpl T h + i < zln T by omega)).1
      have hb := (zlq_ok hI (show zpl T h + i < zln T by omega)).1
      have he := zm_ent hv hI hb
      have hle := zent_le T (zlq T (zpl T h + i)).1
      have er : zrm T h (i + 1) = zrm T h i + (6 - zent T (zlq T (zpl T h + i)).1) := rfl
      rw [er] at hih
      simp (disch := omega) only [zq_l9, pk_mul, nI_add, zq_t9, zq_c9, zq_bz9, zq_bo9, zq_g, zq_cl, zq_leT, zq_leF, zq_ltT, zq_ltF, zq_eqT, zq_eqF, zq_em, zq_me, zq_pm, zq_mm, zq_gm, pk_sub, zI_s, zI_k, zI_c, zI_2, zL_s, zL_k, zL_c, zL_1, if_true, if_false, eq_self, Nat.zero_add, Nat.add_zero, e2, e1, a1, he]
      exact hih
/-! the first word of two letters that meets a name -/
def ztw (a b : Nat) : Int64 := ((Int32.toInt64 (nI (97 + a))) <<< ((Int32.toInt64 (nI 56)) &&& 63)) ||| ((Int32.toInt64 (nI (97 + b))) <<< ((Int32.toInt64 (nI 48)) &&& 63))
theorem ztw_b : ∀ a, a < 26 → ∀ b, b < 26 → zb (ztw a b) 0 = 97 + a ∧ zb (ztw a b) 1 = 97 + b ∧ zlen (ztw a b) = 2 ∧ zb (ztw a b) 2 = 0 ∧ zb (ztw a b) 3 = 0 ∧ zb (ztw a b) 4 = 0 ∧ zb (ztw a b) 5 = 0 ∧ zb (ztw a b) 6 = 0 ∧ zb (ztw a b) 7 = 0 := by decide +kernel
theorem ztw_or : ∀ a, a < 26 → (97 + a) ||| 32 = 97 + a := by decide +kernel
theorem ztw_val {a b : Nat} (ha : a < 26) (hb : b < 26) : zval (ztw a b) := by
  obtain ⟨h0, h1, h2, h3, h4, h5, h6, h7, h8⟩ := ztw_b a ha b hb
  unfold zval
  rw [h2]
  refine ⟨by omega, fun k hk => ?_, fun k hk hk8 => ?_⟩
  · have : k = 0 ∨ k = 1 := by omega
    rcases this with e | e <;> subst e
    · rw [h0]; unfold zlet; omega
    · rw [h1]; unfold zlet; omega
  · have : k = 2 ∨ k = 3 ∨ k = 4 ∨ k = 5 ∨ k = 6 ∨ k = 7 := by omega
    rcases this with e | e | e | e | e | e <;> subst e <;> assumption
theorem ztw_ha (T : zT) {a b : Nat} (ha : a < 26) (hb : b < 26) : zha T (ztw a b) = zst (zst (T.1 7 2) (97 + a)) (97 + b) % 2 ^ T.1 7 1 := by
  obtain ⟨h0, h1, h2, _⟩ := ztw_b a ha b hb
  unfold zha zhash
  rw [h2]
  show zst (zst (T.1 7 2) (zfo (T.1 7 3) (zb (ztw a b) 0))) (zfo (T.1 7 3) (zb (ztw a b) 1)) % 2 ^ T.1 7 1 = _
  rw [h0, h1]
  have e : ∀ c, c < 26 → zfo (T.1 7 3) (97 + c) = 97 + c := fun c hc => by
    unfold zfo
    split
    · rfl
    · exact ztw_or c hc
  rw [e a ha, e b hb]
def zmp (T : zT) (h k : Nat) : Bool := decide (zha T (ztw (k / 26) (k % 26)) = h) && !decide ((zsk T (ztw (k / 26) (k % 26))).1 < 240)
theorem zx_mate39 {T : zT} (hI : zInv T) {h f : Nat} (hh : h < 4096) (hf : f < 26) (rk : sh_St → Int32 → Int32 → Int32 → Option (Int32 × sh_St)) (hrk : ∀ S, zVX S 4 T → ∃ S', rk S (nI h) (nI (2 ^ T.1 7 1 - 1)) (nI (f + 1)) = some (zsp 676 (zfi (zmp T h) (676 - 26 * (f + 1)) (26 * (f + 1))), S') ∧ zFr 116 123 S S') : ∀ (n j : Nat) (S : sh_St), zVX S 4 T → j ≤ 26 → 26 - j < n → ∃ S', fX8_mateOf_39 rk n S (nI h) (nI (2 ^ T.1 7 1 - 1)) (nI f) (nI (zst (T.1 7 2) (97 + f))) (nI j) = some (zsp 676 (zfi (zmp T h) (676 - (26 * f + j)) (26 * f + j)), S') ∧ zFr 116 123 S S' := by
  have h1 := hI.1
  have hb13 : T.1 7 1 < 13 := by omega
  have hz1 := zst_lt (T.1 7 2) (97 + f)
  intro n
  induction n with
  | zero => intro j S _ h1 h2; omega
  | succ n ih =>
    intro j S hv hj hn
    rw [fX8_mateOf_39]
    by_cases c : j = 26
    · subst c
      obtain ⟨S', f1, f2⟩ := hrk S hv
      refine ⟨S', ?_, f2⟩
      rw [show 26 * (f + 1) = 26 * f + 26 by omega] at f1
      simp (disch := omega) only [zq_l9, pk_mul, nI_add, zq_t9, zq_c9, zq_bz9, zq_bo9, zq_g, zq_cl, zq_leT, zq_leF, zq_ltT, zq_ltF, zq_eqT, zq_eqF, zq_em, zq_me, zq_pm, zq_mm, zq_gm, pk_sub, zI_s, zI_k, zI_c, zI_2, zL_s, zL_k, zL_c, zL_1, if_true, if_false, eq_self, Nat.zero_add, Nat.add_zero]
      exact f1
    · have hs := zx_stirred S hz1 (show 97 + j < 65536 by omega)
      have hz2 := zst_lt (zst (T.1 7 2) (97 + f)) (97 + j)
      have hm := zq_and (a := zst (zst (T.1 7 2) (97 + f)) (97 + j)) (b := T.1 7 1) (by omega) hb13
      rw [zq_mask _ hb13, ← ztw_ha T hf (show j < 26 by omega)] at hm
      have hlt := zha_lt hI (ztw f j)
      have d1 : (26 * f + j) / 26 = f := by omega
      have d2 : (26 * f + j) % 26 = j := by omega
      obtain ⟨i, hi⟩ : ∃ i, 676 - (26 * f + j) = i + 1 := ⟨676 - (26 * f + j) - 1, by omega⟩
      by_cases q : zha T (ztw f j) = h
      · obtain ⟨S1, g1, _, g3⟩ := zx_look hv hI (ztw f j)
        have htw : fX8_twoLetters S (nI (97 + f)) (nI (97 + j)) = some (ztw f j, S) := rfl
        by_cases w : (zsk T (ztw f j)).1 < 240
        · rw [zsp_t w] at g1
          obtain ⟨S', f1, f2⟩ := ih (j + 1) S1 (zVX_f4 g3 (by omega) hv) (by omega) (by omega)
          have hp : ¬ zmp T h (26 * f + j) = true := by
            unfold zmp
            rw [d1, d2, decide_eq_true w]
            simp
          refine ⟨S', ?_, zFr_tr g3 f2⟩
          rw [hi, zfi_f hp, show i = 676 - (26 * f + (j + 1)) by omega, show 26 * f + j + 1 = 26 * f + (j + 1) by omega]
          simp (disch := omega) only [zq_l9, pk_mul, nI_add, zq_t9, zq_c9, zq_bz9, zq_bo9, zq_g, zq_cl, zq_leT, zq_leF, zq_ltT, zq_ltF, zq_eqT, zq_eqF, zq_em, zq_me, zq_pm, zq_mm, zq_gm, pk_sub, zI_s, zI_k, zI_c, zI_2, zL_s, zL_k, zL_c, zL_1, if_true, if_false, eq_self, Nat.zero_add, Nat.add_zero, hs, hm, q, fX8_mateOf_67, htw, g1, fX8_mateOf_105]
          exact f1
        · rw [zsp_f w] at g1
          have hp : zmp T h (26 * f + j) = true := by
            unfold zmp
            rw [d1, d2, decide_eq_true q, decide_eq_false w]
            rfl
          refine ⟨S1, ?_, g3⟩
          rw [hi, zfi_t hp, zsp_t (by omega)]
          simp (disch := omega) only [zq_l9, pk_mul, nI_add, zq_t9, zq_c9, zq_bz9, zq_bo9, zq_g, zq_cl, zq_leT, zq_leF, zq_ltT, zq_ltF, zq_eqT, zq_eqF, zq_em, zq_me, zq_pm, zq_mm, zq_gm, pk_sub, zI_s, zI_k, zI_c, zI_2, zL_s, zL_k, zL_c, zL_1, if_true, if_false, eq_self, Nat.zero_add, Nat.add_zero, hs, hm, q, fX8_mateOf_67, htw, g1]
      · obtain ⟨S', f1, f2⟩ := ih (j + 1) S hv (by omega) (by omega)
        have hp : ¬ zmp T h (26 * f + j) = true := by
          unfold zmp
          rw [d1, d2, decide_eq_false q]
          simp
        refine ⟨S', ?_, f2⟩
        rw [hi, zfi_f hp, show i = 676 - (26 * f + (j + 1)) by omega, show 26 * f + j + 1 = 26 * f + (j + 1) by omega]
        simp (disch := omega) only [zq_l9, pk_mul, nI_add, zq_t9, zq_c9, zq_bz9, zq_bo9, zq_g, zq_cl, zq_leT, zq_leF, zq_ltT, zq_ltF, zq_eqT, zq_eqF, zq_em, zq_me, zq_pm, zq_mm, zq_gm, pk_sub, zI_s, zI_k, zI_c, zI_2, zL_s, zL_k, zL_c, zL_1, if_true, if_false, eq_self, Nat.zero_add, Nat.add_zero, hs, hm, fX8_mateOf_67, fX8_mateOf_105]
        exact f1
theorem zx_mate14 {T : zT} (hI : zInv T) {h : Nat} (hh : h < 4096) : ∀ (n f : Nat) (S : sh_St), zVX S 4 T → f ≤ 26 → 26 - f < n → ∃ S', fX8_mateOf_14 n S (nI h) (nI (2 ^ T.1 7 1 - 1)) (nI f) = some (zsp 676 (zfi (zmp T h) (676 - 26 * f) (26 * f)), S') ∧ zFr 116 123 S S' := by
  have h1 := hI.1
  intro n
  induction n with
  | zero => intro f S _ h1 h2; omega
  | succ n ih =>
    intro f S hv hf hn
    rw [fX8_mateOf_14]
    by_cases c : f = 26
    · subst c
      refine ⟨S, ?_, zFr_rf _ _ S⟩
      rw [show zfi (zmp T h) (676 - 26 * 26) (26 * 26) = 676 from rfl, zsp_f (by omega)]
      simp (disch := omega) only [zq_l9, pk_mul, nI_add, zq_t9, zq_c9, zq_bz9, zq_bo9, zq_g, zq_cl, zq_leT, zq_leF, zq_ltT, zq_ltF, zq_eqT, zq_eqF, zq_em, zq_me, zq_pm, zq_mm, zq_gm, pk_sub, zI_s, zI_k, zI_c, zI_2, zL_s, zL_k, zL_c, zL_1, if_true, if_false, eq_self, Nat.zero_add, Nat.add_zero]
    · have hs := zx_stirred S (h := T.1 7 2) (c := 97 + f) (by omega) (by omega)
      have hy := zX_y hv
      obtain ⟨S', f1, f2⟩ := zx_mate39 hI hh (show f < 26 by omega) (fX8_mateOf_14 n) (fun S hv => ih (f + 1) S hv (by omega) (by omega)) sh_FU 0 S hv (by omega) (by decide)
      refine ⟨S', ?_, f2⟩
      rw [Nat.add_zero] at f1
      simp (disch := omega) only [zq_l9, pk_mul, nI_add, zq_t9, zq_c9, zq_bz9, zq_bo9, zq_g, zq_cl, zq_leT, zq_leF, zq_ltT, zq_ltF, zq_eqT, zq_eqF, zq_em, zq_me, zq_pm, zq_mm, zq_gm, pk_sub, zI_s, zI_k, zI_c, zI_2, zL_s, zL_k, zL_c, zL_1, if_true, if_false, eq_self, Nat.zero_add, Nat.add_zero, hy, hs]
      exact f1
theorem zm_mate9 {T : zT} (hI : zInv T) {h : Nat} (hh : h < 4096) : ∀ (n k : Nat) (M : sh_St), zVN M T → k ≤ 676 → 676 - k < n → ∃ M', fX13_mate_9 n M (nI h) (nI k) = some (zsp 676 (zfi (zmp T h) (676 - k) k), M') ∧ zFm M M' := by
  intro n
  induction n with
  | zero => intro k M _ h1 h2; omega
  | succ n ih =>
    intro k M hv hk hn
    rw [fX13_mate_9]
    by_cases c : k = 676
    · subst c
      refine ⟨M, ?_, zFm_rf M⟩
      rw [show zfi (zmp T h) (676 - 676) 676 = 676 from rfl, zsp_f (by omega)]
      simp (disch := omega) only [zq_l9, pk_mul, nI_add, zq_t9, zq_c9, zq_bz9, zq_bo9, zq_g, zq_cl, zq_leT, zq_leF, zq_ltT, zq_ltF, zq_eqT, zq_eqF, zq_em, zq_me, zq_pm, zq_mm, zq_gm, pk_sub, zI_s, zI_k, zI_c, zI_2, zL_s, zL_k, zL_c, zL_1, if_true, if_false, eq_self, Nat.zero_add, Nat.add_zero]
    · have e1 : nI k / nI 26 = nI (k / 26) := pk_div (by omega) (by decide) (by decide)
      have e2 : k - k / 26 * 26 = k % 26 := by omega
      have hva := ztw_val (a := k / 26) (b := k % 26) (by omega) (by omega)
      have hho := zm_hashOf hv hI hva
      have hlt := zha_lt hI (ztw (k / 26) (k % 26))
      obtain ⟨i, hi⟩ : ∃ i, 676 - k = i + 1 := ⟨676 - k - 1, by omega⟩
      have ht : ((Int32.toInt64 (nI (97 + k / 26))) <<< ((Int32.toInt64 (nI 56)) &&& 63)) ||| ((Int32.toInt64 (nI (97 + k % 26))) <<< ((Int32.toInt64 (nI 48)) &&& 63)) = ztw (k / 26) (k % 26) := rfl
      by_cases q : zha T (ztw (k / 26) (k % 26)) = h
      · obtain ⟨M1, g1, _, _, g4⟩ := zm_seeks hv hI hva
        by_cases w : (zsk T (ztw (k / 26) (k % 26))).1 < 240
        · rw [if_pos w] at g1
          obtain ⟨M', f1, f2⟩ := ih (k + 1) M1 (zVN_fm g4 hv) (by omega) (by omega)
          have hp : ¬ zmp T h k = true := by
            unfold zmp
            rw [decide_eq_true w]
            simp
          refine ⟨M', ?_, zFm_tr g4 f2⟩
          rw [hi, zfi_f hp, show i = 676 - (k + 1) by omega]
          simp (disch := omega) only [zq_l9, pk_mul, nI_add, zq_t9, zq_c9, zq_bz9, zq_bo9, zq_g, zq_cl, zq_leT, zq_leF, zq_ltT, zq_ltF, zq_eqT, zq_eqF, zq_em, zq_me, zq_pm, zq_mm, zq_gm, pk_sub, zI_s, zI_k, zI_c, zI_2, zL_s, zL_k, zL_c, zL_1, if_true, if_false, eq_self, Nat.zero_add, Nat.add_zero, e1, e2, ht, hho, q, g1, fX13_mate_66]
          exact f1
        · rw [if_neg w] at g1
          have hp : zmp T h k = true := by
            unfold zmp
            rw [decide_eq_true q, decide_eq_false w]
            rfl
          refine ⟨M1, ?_, g4⟩
          rw [hi, zfi_t hp, zsp_t (by omega)]
          simp (disch := omega) only [zq_l9, pk_mul, nI_add, zq_t9, zq_c9, zq_bz9, zq_bo9, zq_g, zq_cl, zq_leT, zq_leF, zq_ltT, zq_ltF, zq_eqT, zq_eqF, zq_em, zq_me, zq_pm, zq_mm, zq_gm, pk_sub, zI_s, zI_k, zI_c, zI_2, zL_s, zL_k, zL_c, zL_1, if_true, if_false, eq_self, Nat.zero_add, Nat.add_zero, e1, e2, ht, hho, q, g1]
      · obtain ⟨M', f1, f2⟩ := ih (k + 1) M hv (by omega) (by omega)
        have hp : ¬ zmp T h k = true := by
          unfold zmp
          rw [decide_eq_false q]
          simp
        refine ⟨M', ?_, f2⟩
        rw [hi, zfi_f hp, show i = 676 - (k + 1) by omega]
        simp (disch := omega) only [zq_l9, pk_mul, nI_add, zq_t9, zq_c9, zq_bz9, zq_bo9, zq_g, zq_cl, zq_leT, zq_leF, zq_ltT, zq_ltF, zq_eqT, zq_eqF, zq_em, zq_me, zq_pm, zq_mm, zq_gm, pk_sub, zI_s, zI_k, zI_c, zI_2, zL_s, zL_k, zL_c, zL_1, if_true, if_false, eq_self, Nat.zero_add, Nat.add_zero, e1, e2, ht, hho, fX13_mate_66]
        exact f1
/-- what is asked of a name, by both -/
theorem zfd_where {S M : sh_St} {T : zT} (hv : zVX S 4 T) (hm : zVN M T) (hI : zInv T) {n : Int64} (hn : zval n) {w : Nat} (hw : w ≤ 3) : ∃ r S' M1, fX4_whereabouts S n (nI w) = some (r, S') ∧ zFr 116 123 S S' ∧ fX13_seeks M n = some (nI (if (zsk T n).1 < 240 then 1 else 0), M1) ∧ zFm M M1 ∧ r = (if w = 0 then (if (zsk T n).1 < 240 then nI (T.1 3 (zsk T n).1) else -nI 1) else if w = 1 then M1.1 0 32 else if w = 2 then M1.1 0 30 else M1.1 0 31) ∧ ((zsk T n).1 < 240 → M1.1 0 30 = nI ((zsk T n).1 / 6) ∧ M1.1 0 31 = nI ((zsk T n).1 % 6) ∧ M1.1 1 (840 + (zsk T n).1) = nI (T.1 3 (zsk T n).1)) := by
  obtain ⟨S1, g1, g2, g3⟩ := zx_look hv hI n
  have hv1 := zVX_f4 g3 (by omega) hv
  obtain ⟨M1, k1, k2, k3, k4⟩ := zm_seeks hm hI hn
  rw [fX4_whereabouts]
  by_cases c : (zsk T n).1 < 240
  · obtain ⟨a1, a2⟩ := zFo_t k3 c
    have hd := zX_d hv1 c (zsk_nz c)
    have md := zM_d (zVN_fm k4 hm) c (zsk_nz c)
    rw [zsp_t c] at g1
    have e6 : nI (zsk T n).1 / nI 6 = nI ((zsk T n).1 / 6) := pk_div (by omega) (by decide) (by decide)
    have em : (zsk T n).1 - (zsk T n).1 / 6 * 6 = (zsk T n).1 % 6 := by omega
    have hc : w = 0 ∨ w = 1 ∨ w = 2 ∨ w = 3 := by omega
    rcases hc with e | e | e | e <;> subst e
    · refine ⟨nI (T.1 3 (zsk T n).1), S1, M1, ?_, g3, k1, k4, by rw [if_pos rfl, if_pos c], fun _ => ⟨a1, a2, md⟩⟩
      simp (disch := omega) only [zq_l9, pk_mul, nI_add, zq_t9, zq_c9, zq_bz9, zq_bo9, zq_g, zq_cl, zq_leT, zq_leF, zq_ltT, zq_ltF, zq_eqT, zq_eqF, zq_em, zq_me, zq_pm, zq_mm, zq_gm, pk_sub, zI_s, zI_k, zI_c, zI_2, zL_s, zL_k, zL_c, zL_1, if_true, if_false, eq_self, Nat.zero_add, Nat.add_zero, g1, hd]
    · refine ⟨nI (zsk T n).2, S1, M1, ?_, g3, k1, k4, by rw [if_neg (by omega), if_pos rfl, k2], fun _ => ⟨a1, a2, md⟩⟩
      simp (disch := omega) only [zq_l9, pk_mul, nI_add, zq_t9, zq_c9, zq_bz9, zq_bo9, zq_g, zq_cl, zq_leT, zq_leF, zq_ltT, zq_ltF, zq_eqT, zq_eqF, zq_em, zq_me, zq_pm, zq_mm, zq_gm, pk_sub, zI_s, zI_k, zI_c, zI_2, zL_s, zL_k, zL_c, zL_1, if_true, if_false, eq_self, Nat.zero_add, Nat.add_zero, g1, g2]
    · refine ⟨nI ((zsk T n).1 / 6), S1, M1, ?_, g3, k1, k4, by rw [if_neg (by omega), if_neg (by omega), if_pos rfl, a1], fun _ => ⟨a1, a2, md⟩⟩
      simp (disch := omega) only [zq_l9, pk_mul, nI_add, zq_t9, zq_c9, zq_bz9, zq_bo9, zq_g, zq_cl, zq_leT, zq_leF, zq_ltT, zq_ltF, zq_eqT, zq_eqF, zq_em, zq_me, zq_pm, zq_mm, zq_gm, pk_sub, zI_s, zI_k, zI_c, zI_2, zL_s, zL_k, zL_c, zL_1, if_true, if_false, eq_self, Nat.zero_add, Nat.add_zero, g1, e6]
    · refine ⟨nI ((zsk T n).1 % 6), S1, M1, ?_, g3, k1, k4, by rw [if_neg (by omega), if_neg (by omega), if_neg (by omega), a2], fun _ => ⟨a1, a2, md⟩⟩
      simp (disch := omega) only [zq_l9, pk_mul, nI_add, zq_t9, zq_c9, zq_bz9, zq_bo9, zq_g, zq_cl, zq_leT, zq_leF, zq_ltT, zq_ltF, zq_eqT, zq_eqF, zq_em, zq_me, zq_pm, zq_mm, zq_gm, pk_sub, zI_s, zI_k, zI_c, zI_2, zL_s, zL_k, zL_c, zL_1, if_true, if_false, eq_self, Nat.zero_add, Nat.add_zero, g1, e6, em]
  · unfold zFo at k3
    rw [if_neg c, if_neg c] at k3
    rw [zsp_f c] at g1
    have hc : w = 0 ∨ w = 1 ∨ w = 2 ∨ w = 3 := by omega
    rcases hc with e | e | e | e <;> subst e
    · refine ⟨-nI 1, S1, M1, ?_, g3, k1, k4, by rw [if_pos rfl, if_neg c], fun w => absurd w c⟩
      simp (disch := omega) only [zq_l9, pk_mul, nI_add, zq_t9, zq_c9, zq_bz9, zq_bo9, zq_g, zq_cl, zq_leT, zq_leF, zq_ltT, zq_ltF, zq_eqT, zq_eqF, zq_em, zq_me, zq_pm, zq_mm, zq_gm, pk_sub, zI_s, zI_k, zI_c, zI_2, zL_s, zL_k, zL_c, zL_1, if_true, if_false, eq_self, Nat.zero_add, Nat.add_zero, g1]
    · refine ⟨nI (zsk T n).2, S1, M1, ?_, g3, k1, k4, by rw [if_neg (by omega), if_pos rfl, k2], fun w => absurd w c⟩
      simp (disch := omega) only [zq_l9, pk_mul, nI_add, zq_t9, zq_c9, zq_bz9, zq_bo9, zq_g, zq_cl, zq_leT, zq_leF, zq_ltT, zq_ltF, zq_eqT, zq_eqF, zq_em, zq_me, zq_pm, zq_mm, zq_gm, pk_sub, zI_s, zI_k, zI_c, zI_2, zL_s, zL_k, zL_c, zL_1, if_true, if_false, eq_self, Nat.zero_add, Nat.add_zero, g1, g2]
    · refine ⟨-nI 1, S1, M1, ?_, g3, k1, k4, by rw [if_neg (by omega), if_neg (by omega), if_pos rfl, k3.1], fun w => absurd w c⟩
      simp (disch := omega) only [zq_l9, pk_mul, nI_add, zq_t9, zq_c9, zq_bz9, zq_bo9, zq_g, zq_cl, zq_leT, zq_leF, zq_ltT, zq_ltF, zq_eqT, zq_eqF, zq_em, zq_me, zq_pm, zq_mm, zq_gm, pk_sub, zI_s, zI_k, zI_c, zI_2, zL_s, zL_k, zL_c, zL_1, if_true, if_false, eq_self, Nat.zero_add, Nat.add_zero, g1]
    · refine ⟨-nI 1, S1, M1, ?_, g3, k1, k4, by rw [if_neg (by omega), if_neg (by omega), if_neg (by omega), k3.2], fun w => absurd w c⟩
      simp (disch := omega) only [zq_l9, pk_mul, nI_add, zq_t9, zq_c9, zq_bz9, zq_bo9, zq_g, zq_cl, zq_leT, zq_leF, zq_ltT, zq_ltF, zq_eqT, zq_eqF, zq_em, zq_me, zq_pm, zq_mm, zq_gm, pk_sub, zI_s, zI_k, zI_c, zI_2, zL_s, zL_k, zL_c, zL_1, if_true, if_false, eq_self, Nat.zero_add, Nat.add_zero, g1]
theorem zx_ofName {S : sh_St} {T : zT} (hv : zVX S 4 T) (hI : zInv T) (n : Int64) : (fX8_ofName S n (nI 4) = some (nI (zha T n), S)) ∧ (fX8_ofName S n (nI 5) = some (nI (zhit T (zha T n)), S)) ∧ (∃ S', fX8_ofName S n (nI 6) = some (nI (zrm T (zha T n) (zwn T (zha T n))), S') ∧ zFr 116 123 S S') ∧ (∃ S', fX8_ofName S n (nI 7) = some (if zrP T n = 0 then nI (zned T (zha T n)) else -nI 1, S') ∧ zFr 116 123 S S') ∧ (∃ S', fX8_ofName S n (nI 8) = some (zsp 676 (zfi (zmp T (zha T n)) 676 0), S') ∧ zFr 116 123 S S') := by
  have hx := zx_hashOf hv hI n
  have hh := zha_lt hI n
  have h1 := hI.1
  refine ⟨?_, ?_, ?_, ?_, ?_⟩
  · rw [fX8_ofName]
    simp (disch := omega) only [zq_l9, pk_mul, nI_add, zq_t9, zq_c9, zq_bz9, zq_bo9, zq_g, zq_cl, zq_leT, zq_leF, zq_ltT, zq_ltF, zq_eqT, zq_eqF, zq_em, zq_me, zq_pm, zq_mm, zq_gm, pk_sub, zI_s, zI_k, zI_c, zI_2, zL_s, zL_k, zL_c, zL_1, if_true, if_false, eq_self, Nat.zero_add, Nat.add_zero, hx]
  · have := zx_hit hv hI hh
    rw [fX8_ofName]
    simp (disch := omega) only [zq_l9, pk_mul, nI_add, zq_t9, zq_c9, zq_bz9, zq_bo9, zq_g, zq_cl, zq_leT, zq_leF, zq_ltT, zq_ltF, zq_eqT, zq_eqF, zq_em, zq_me, zq_pm, zq_mm, zq_gm, pk_sub, zI_s, zI_k, zI_c, zI_2, zL_s, zL_k, zL_c, zL_1, if_true, if_false, eq_self, Nat.zero_add, Nat.add_zero, hx, this]
  · obtain ⟨S1, t1, t2, t3, t4⟩ := zx_tracek hv hI hh
    have hr := zx_room (zVX_f4 t4 (by omega) hv) hI t2 sh_FU 0 (by omega) (by have := zwn_le hI (zha T n); have := zln_le hI; exact zc_FU _ (by omega))
    refine ⟨S1, ?_, zFr_wd t4 (by omega) (by omega)⟩
    have e2 := t2.1
    have hr' : fX8_roomOnWay S (nI (zha T n)) = some (nI (zrm T (zha T n) (zwn T (zha T n))), S1) := by
      rw [fX8_roomOnWay]
      simp (disch := omega) only [zq_l9, pk_mul, nI_add, zq_t9, zq_c9, zq_bz9, zq_bo9, zq_g, zq_cl, zq_leT, zq_leF, zq_ltT, zq_ltF, zq_eqT, zq_eqF, zq_em, zq_me, zq_pm, zq_mm, zq_gm, pk_sub, zI_s, zI_k, zI_c, zI_2, zL_s, zL_k, zL_c, zL_1, if_true, if_false, eq_self, Nat.zero_add, Nat.add_zero, t1, e2]
      exact hr
    rw [fX8_ofName]
    simp (disch := omega) only [zq_l9, pk_mul, nI_add, zq_t9, zq_c9, zq_bz9, zq_bo9, zq_g, zq_cl, zq_leT, zq_leF, zq_ltT, zq_ltF, zq_eqT, zq_eqF, zq_em, zq_me, zq_pm, zq_mm, zq_gm, pk_sub, zI_s, zI_k, zI_c, zI_2, zL_s, zL_k, zL_c, zL_1, if_true, if_false, eq_self, Nat.zero_add, Nat.add_zero, hx, hr']
  · obtain ⟨S1, g1, g2⟩ := zx_refPut hv hI n
    have hr5 : zrP T n ≤ 5 := zref_le (T := T) (a := 0) (n := n) (m := 0) (v := 0)
    by_cases c : zrP T n = 0
    · obtain ⟨S2, k1, _, _, k4⟩ := zx_need (zVX_f4 g2 (by omega) hv) hI n
      have h9 := (zrP_0 c).2.2
      have h99 := zned_le T (zha T n)
      rw [zsp_t (by omega)] at k1
      refine ⟨S2, ?_, zFr_tr g2 (zFr_wd k4 (by omega) (by omega))⟩
      rw [if_pos c]
      rw [c] at g1
      rw [fX8_ofName]
      simp (disch := omega) only [zq_l9, pk_mul, nI_add, zq_t9, zq_c9, zq_bz9, zq_bo9, zq_g, zq_cl, zq_leT, zq_leF, zq_ltT, zq_ltF, zq_eqT, zq_eqF, zq_em, zq_me, zq_pm, zq_mm, zq_gm, pk_sub, zI_s, zI_k, zI_c, zI_2, zL_s, zL_k, zL_c, zL_1, if_true, if_false, eq_self, Nat.zero_add, Nat.add_zero, hx, g1, k1]
    · refine ⟨S1, ?_, g2⟩
      rw [if_neg c]
      rw [fX8_ofName]
      simp (disch := omega) only [zq_l9, pk_mul, nI_add, zq_t9, zq_c9, zq_bz9, zq_bo9, zq_g, zq_cl, zq_leT, zq_leF, zq_ltT, zq_ltF, zq_eqT, zq_eqF, zq_em, zq_me, zq_pm, zq_mm, zq_gm, pk_sub, zI_s, zI_k, zI_c, zI_2, zL_s, zL_k, zL_c, zL_1, if_true, if_false, eq_self, Nat.zero_add, Nat.add_zero, hx, g1]
  · have hb := zX_b hv
    have hm := zq_mask (T.1 7 1) (by omega)
    obtain ⟨S1, g1, g2⟩ := zx_mate14 hI hh sh_FU 0 S hv (by omega) (by decide)
    have hr' : fX8_mateOf S (nI (zha T n)) = some (zsp 676 (zfi (zmp T (zha T n)) 676 0), S1) := by
      rw [fX8_mateOf, hb]
      show sh_t ((1 <<< (nI (T.1 7 1) &&& 31)) - 1) _ = _
      rw [hm, zq_t9]
      exact g1
    refine ⟨S1, ?_, g2⟩
    rw [fX8_ofName]
    simp (disch := omega) only [zq_l9, pk_mul, nI_add, zq_t9, zq_c9, zq_bz9, zq_bo9, zq_g, zq_cl, zq_leT, zq_leF, zq_ltT, zq_ltF, zq_eqT, zq_eqF, zq_em, zq_me, zq_pm, zq_mm, zq_gm, pk_sub, zI_s, zI_k, zI_c, zI_2, zL_s, zL_k, zL_c, zL_1, if_true, if_false, eq_self, Nat.zero_add, Nat.add_zero, hx, hr']
theorem zc_find {S M : sh_St} (h : zRR S M) (v : Int32) : zCA ["java/util/NoSuchElementException", "java/lang/IllegalArgumentException"] (fX12_find S v) (fX13_find M v) := by
  obtain ⟨T, B, L, h⟩ := h
  have hu := zx_useUp h
  rw [fX12_find, fX13_find]
  rcases zrng v 0 8 with ⟨j, rfl, _, hj⟩ | q
  · have hin := zm_within' M (v := j) (lo := 0) (hi := 8) (by omega) (by omega) (by omega)
    rw [if_pos (by omega)] at hin
    obtain ⟨S1, M1, x, k1, k2, k3, k4⟩ := zR_name1 h
    by_cases q : zo1 B L
    · obtain ⟨x1, x2, x3, x4, x5⟩ := k3 q
      subst x1
      have hI := k2.1.1
      generalize znm B L 0 = n at *
      by_cases c3 : j ≤ 3
      · obtain ⟨r, S2, M2, g1, g2, g3, g4, g5, g6⟩ := zfd_where k2.2.1 k2.2.2.1 hI x5 c3
        refine ⟨.inl r, S2, r, M2, ?_, ?_, Or.inl ⟨rfl, by rw [g4.1 0 (by omega)]; exact x4⟩, T, B, 0, zR_q k2 (zFr_wd g2 (by omega) (by omega)) (zMQ_m g4)⟩
        · simp (disch := omega) only [zq_l9, pk_mul, nI_add, zq_t9, zq_c9, zq_bz9, zq_bo9, zq_g, zq_cl, zq_leT, zq_leF, zq_ltT, zq_ltF, zq_eqT, zq_eqF, zq_em, zq_me, zq_pm, zq_mm, zq_gm, pk_sub, zI_s, zI_k, zI_c, zI_2, zL_s, zL_k, zL_c, zL_1, if_true, if_false, eq_self, Nat.zero_add, Nat.add_zero, hu, x2, zcx_l, g1]
        · by_cases c : (zsk T n).1 < 240
          · obtain ⟨a1, a2, a3⟩ := g6 c
            rw [if_pos c] at g3
            rw [if_pos c] at g5
            have he : 6 * ((zsk T n).1 / 6) + (zsk T n).1 % 6 = (zsk T n).1 := by omega
            have hc : j = 0 ∨ j = 1 ∨ j = 2 ∨ j = 3 := by omega
            rcases hc with e | e | e | e <;> subst e
            · rw [if_pos rfl] at g5
              simp (disch := omega) only [zq_l9, pk_mul, nI_add, zq_t9, zq_c9, zq_bz9, zq_bo9, zq_g, zq_cl, zq_leT, zq_leF, zq_ltT, zq_ltF, zq_eqT, zq_eqF, zq_em, zq_me, zq_pm, zq_mm, zq_gm, pk_sub, zI_s, zI_k, zI_c, zI_2, zL_s, zL_k, zL_c, zL_1, if_true, if_false, eq_self, Nat.zero_add, Nat.add_zero, hin, k1, x3, g3, a1, a2, fX13_slotAt, he, a3, g5]
            · rw [if_neg (by omega), if_pos rfl] at g5
              simp (disch := omega) only [zq_l9, pk_mul, nI_add, zq_t9, zq_c9, zq_bz9, zq_bo9, zq_g, zq_cl, zq_leT, zq_leF, zq_ltT, zq_ltF, zq_eqT, zq_eqF, zq_em, zq_me, zq_pm, zq_mm, zq_gm, pk_sub, zI_s, zI_k, zI_c, zI_2, zL_s, zL_k, zL_c, zL_1, if_true, if_false, eq_self, Nat.zero_add, Nat.add_zero, hin, k1, x3, g3, g5]
            · rw [if_neg (by omega), if_neg (by omega), if_pos rfl] at g5
              simp (disch := omega) only [zq_l9, pk_mul, nI_add, zq_t9, zq_c9, zq_bz9, zq_bo9, zq_g, zq_cl, zq_leT, zq_leF, zq_ltT, zq_ltF, zq_eqT, zq_eqF, zq_em, zq_me, zq_pm, zq_mm, zq_gm, pk_sub, zI_s, zI_k, zI_c, zI_2, zL_s, zL_k, zL_c, zL_1, if_true, if_false, eq_self, Nat.zero_add, Nat.add_zero, hin, k1, x3, g3, g5]
            · rw [if_neg (by omega), if_neg (by omega), if_neg (by omega)] at g5
              simp (disch := omega) only [zq_l9, pk_mul, nI_add, zq_t9, zq_c9, zq_bz9, zq_bo9, zq_g, zq_cl, zq_leT, zq_leF, zq_ltT, zq_ltF, zq_eqT, zq_eqF, zq_em, zq_me, zq_pm, zq_mm, zq_gm, pk_sub, zI_s, zI_k, zI_c, zI_2, zL_s, zL_k, zL_c, zL_1, if_true, if_false, eq_self, Nat.zero_add, Nat.add_zero, hin, k1, x3, g3, g5]
          · rw [if_neg c] at g3
            rw [if_neg c] at g5
            have hc : j = 0 ∨ j = 1 ∨ j = 2 ∨ j = 3 := by omega
            rcases hc with e | e | e | e <;> subst e
            · rw [if_pos rfl] at g5
              simp (disch := omega) only [zq_l9, pk_mul, nI_add, zq_t9, zq_c9, zq_bz9, zq_bo9, zq_g, zq_cl, zq_leT, zq_leF, zq_ltT, zq_ltF, zq_eqT, zq_eqF, zq_em, zq_me, zq_pm, zq_mm, zq_gm, pk_sub, zI_s, zI_k, zI_c, zI_2, zL_s, zL_k, zL_c, zL_1, if_true, if_false, eq_self, Nat.zero_add, Nat.add_zero, hin, k1, x3, g3, g5]
            · rw [if_neg (by omega), if_pos rfl] at g5
              simp (disch := omega) only [zq_l9, pk_mul, nI_add, zq_t9, zq_c9, zq_bz9, zq_bo9, zq_g, zq_cl, zq_leT, zq_leF, zq_ltT, zq_ltF, zq_eqT, zq_eqF, zq_em, zq_me, zq_pm, zq_mm, zq_gm, pk_sub, zI_s, zI_k, zI_c, zI_2, zL_s, zL_k, zL_c, zL_1, if_true, if_false, eq_self, Nat.zero_add, Nat.add_zero, hin, k1, x3, g3, g5]
            · rw [if_neg (by omega), if_neg (by omega), if_pos rfl] at g5
              simp (disch := omega) only [zq_l9, pk_mul, nI_add, zq_t9, zq_c9, zq_bz9, zq_bo9, zq_g, zq_cl, zq_leT, zq_leF, zq_ltT, zq_ltF, zq_eqT, zq_eqF, zq_em, zq_me, zq_pm, zq_mm, zq_gm, pk_sub, zI_s, zI_k, zI_c, zI_2, zL_s, zL_k, zL_c, zL_1, if_true, if_false, eq_self, Nat.zero_add, Nat.add_zero, hin, k1, x3, g3, g5]
            · rw [if_neg (by omega), if_neg (by omega), if_neg (by omega)] at g5
              simp (disch := omega) only [zq_l9, pk_mul, nI_add, zq_t9, zq_c9, zq_bz9, zq_bo9, zq_g, zq_cl, zq_leT, zq_leF, zq_ltT, zq_ltF, zq_eqT, zq_eqF, zq_em, zq_me, zq_pm, zq_mm, zq_gm, pk_sub, zI_s, zI_k, zI_c, zI_2, zL_s, zL_k, zL_c, zL_1, if_true, if_false, eq_self, Nat.zero_add, Nat.add_zero, hin, k1, x3, g3, g5]
      · obtain ⟨M2, s1, s2, s3, s4⟩ := zm_seeks k2.2.2.1 hI x5
        have hm2 := zVN_fm s4 k2.2.2.1
        have e22 : M2.2 0 22 = n := by rw [s4.2.1]; exact x3
        have e00 : M2.1 0 0 = nI 0 := by rw [s4.1 0 (by omega)]; exact x4
        have hy := zm_hashOf hm2 hI x5
        have hh := zha_lt hI n
        obtain ⟨o4, o5, ⟨S6, o6, p6⟩, ⟨S7, o7, p7⟩, ⟨S8, o8, p8⟩⟩ := zx_ofName k2.2.1 hI n
        have hfin : ∀ r S' M', fX8_ofName S1 n (nI j) = some (r, S') → zFr 116 123 S1 S' → zFm M2 M' → (∀ (r' : Int32), r' = r → (sh_c (fX13_isIn M (nI j) 0 8) fun r2 S1 => if r2 = 0 then (sh_t (sh_I S1 0 17 0) fun S24 => sh_t (sh_I S24 0 0 1) fun S25 => some (0, S25)) else (sh_c (fX13_isName S1 0) fun r4 S3 => if r4 = 0 then (sh_t (sh_I S3 0 0 2) fun S23 => some (0, S23)) else (sh_c (fX13_seeks S3 (S3.2 0 22)) fun r6 S5 => if nI j = 0 then (if r6 = 0 then (some ((-1), S5)) else (sh_c (fX13_slotAt S5 (S5.1 0 30) (S5.1 0 31)) fun r8 S7 => sh_g (840 + r8) 1084 (some (S7.1 1 (840 + r8).toNatClampNeg, S7)))) else (if nI j = 1 then (some (S5.1 0 32, S5)) else (if nI j = 2 then (some (S5.1 0 30, S5)) else (if nI j = 3 then (some (S5.1 0 31, S5)) else (if nI j = 4 then (sh_c (fX13_hashOf S5 (S5.2 0 22)) fun r10 S9 => some (r10, S9)) else (if nI j = 5 then (sh_c (fX13_hashOf S5 (S5.2 0 22)) fun r12 S11 => sh_c (fX13_meets S11 r12) fun r14 S13 => some (r14, S13)) else (if nI j = 6 then (sh_c (fX13_hashOf S5 (S5.2 0 22)) fun r16 S15 => sh_c (fX13_room S15 r16) fun r18 S17 => some (r18, S17)) else (if nI j = 7 then (sh_c (fX13_needsOf S5 (S5.2 0 22)) fun r20 S19 => some (r20, S19)) else (sh_c (fX13_mate S5 (S5.2 0 22)) fun r22 S21 => some (r22, S21)))))))))))) = some (r', M')) → zCA ["java/util/NoSuchElementException", "java/lang/IllegalArgumentException"] (sh_c (fX9_useUp S) fun r2 S1 => if nI j < 0 then (fX12_find_18 S1) else (if nI j ≤ 8 then (sh_cx (fX12_nameTold S1 r2) fun r4 S3 => if 3 < nI j then (sh_c (fX8_ofName S3 r4 (nI j)) fun r6 S5 => some (.inl r6, S5)) else (sh_c (fX4_whereabouts S3 r4 (nI j)) fun r8 S7 => some (.inl r8, S7))) else (fX12_find_18 S1))) (sh_c (fX13_isIn M (nI j) 0 8) fun r2 S1 => if r2 = 0 then (sh_t (sh_I S1 0 17 0) fun S24 => sh_t (sh_I S24 0 0 1) fun S25 => some (0, S25)) else (sh_c (fX13_isName S1 0) fun r4 S3 => if r4 = 0 then (sh_t (sh_I S3 0 0 2) fun S23 => some (0, S23)) else (sh_c (fX13_seeks S3 (S3.2 0 22)) fun r6 S5 => if nI j = 0 then (if r6 = 0 then (some ((-1), S5)) else (sh_c (fX13_slotAt S5 (S5.1 0 30) (S5.1 0 31)) fun r8 S7 => sh_g (840 + r8) 1084 (some (S7.1 1 (840 + r8).toNatClampNeg, S7)))) else (if nI j = 1 then (some (S5.1 0 32, S5)) else (if nI j = 2 then (some (S5.1 0 30, S5)) else (if nI j = 3 then (some (S5.1 0 31, S5)) else (if nI j = 4 then (sh_c (fX13_hashOf S5 (S5.2 0 22)) fun r10 S9 => some (r10, S9)) else (if nI j = 5 then (sh_c (fX13_hashOf S5 (S5.2 0 22)) fun r12 S11 => sh_c (fX13_meets S11 r12) fun r14 S13 => some (r14, S13)) else (if nI j = 6 then (sh_c (fX13_hashOf S5 (S5.2 0 22)) fun r16 S15 => sh_c (fX13_room S15 r16) fun r18 S17 => some (r18, S17)) else (if nI j = 7 then (sh_c (fX13_needsOf S5 (S5.2 0 22)) fun r20 S19 => some (r20, S19)) else (sh_c (fX13_mate S5 (S5.2 0 22)) fun r22 S21 => some (r22, S21)))))))))))) := fun r S' M' a b d e => by
          refine ⟨.inl r, S', r, M', ?_, e r rfl, Or.inl ⟨rfl, by rw [d.1 0 (by omega)]; exact e00⟩, T, B, 0, zR_q k2 (zFr_wd b (by omega) (by omega)) (zMQ_tr (zMQ_m s4) (zMQ_m d))⟩
          simp (disch := omega) only [zq_l9, pk_mul, nI_add, zq_t9, zq_c9, zq_bz9, zq_bo9, zq_g, zq_cl, zq_leT, zq_leF, zq_ltT, zq_ltF, zq_eqT, zq_eqF, zq_em, zq_me, zq_pm, zq_mm, zq_gm, pk_sub, zI_s, zI_k, zI_c, zI_2, zL_s, zL_k, zL_c, zL_1, if_true, if_false, eq_self, Nat.zero_add, Nat.add_zero, hu, x2, zcx_l, a]
        have hc : j = 4 ∨ j = 5 ∨ j = 6 ∨ j = 7 ∨ j = 8 := by omega
        rcases hc with e | e | e | e | e <;> subst e
        · refine hfin _ S1 M2 o4 (zFr_rf _ _ S1) (zFm_rf M2) (fun r' er => ?_)
          simp (disch := omega) only [zq_l9, pk_mul, nI_add, zq_t9, zq_c9, zq_bz9, zq_bo9, zq_g, zq_cl, zq_leT, zq_leF, zq_ltT, zq_ltF, zq_eqT, zq_eqF, zq_em, zq_me, zq_pm, zq_mm, zq_gm, pk_sub, zI_s, zI_k, zI_c, zI_2, zL_s, zL_k, zL_c, zL_1, if_true, if_false, eq_self, Nat.zero_add, Nat.add_zero, hin, k1, x3, s1, e22, hy, er]
        · have hm := zm_hit hm2 hI (show zha T n < 4097 by omega)
          refine hfin _ S1 M2 o5 (zFr_rf _ _ S1) (zFm_rf M2) (fun r' er => ?_)
          simp (disch := omega) only [zq_l9, pk_mul, nI_add, zq_t9, zq_c9, zq_bz9, zq_bo9, zq_g, zq_cl, zq_leT, zq_leF, zq_ltT, zq_ltF, zq_eqT, zq_eqF, zq_em, zq_me, zq_pm, zq_mm, zq_gm, pk_sub, zI_s, zI_k, zI_c, zI_2, zL_s, zL_k, zL_c, zL_1, if_true, if_false, eq_self, Nat.zero_add, Nat.add_zero, hin, k1, x3, s1, e22, hy, hm, er]
        · obtain ⟨M3, g1, g2, g3, g4⟩ := zm_goes hm2 hI hh
          have hr := zm_room (zVN_fn g4 hm2) hI g2 g3 sh_FU 0 (by omega) (by have := zwn_le hI (zha T n); have := zln_le hI; exact zc_FU _ (by omega))
          have hr' : fX13_room M2 (nI (zha T n)) = some (nI (zrm T (zha T n) (zwn T (zha T n))), M3) := by
            rw [fX13_room]
            simp (disch := omega) only [zq_l9, pk_mul, nI_add, zq_t9, zq_c9, zq_bz9, zq_bo9, zq_g, zq_cl, zq_leT, zq_leF, zq_ltT, zq_ltF, zq_eqT, zq_eqF, zq_em, zq_me, zq_pm, zq_mm, zq_gm, pk_sub, zI_s, zI_k, zI_c, zI_2, zL_s, zL_k, zL_c, zL_1, if_true, if_false, eq_self, Nat.zero_add, Nat.add_zero, g1]
            exact hr
          refine hfin _ S6 M3 o6 p6 (zFn_m g4) (fun r' er => ?_)
          simp (disch := omega) only [zq_l9, pk_mul, nI_add, zq_t9, zq_c9, zq_bz9, zq_bo9, zq_g, zq_cl, zq_leT, zq_leF, zq_ltT, zq_ltF, zq_eqT, zq_eqF, zq_em, zq_me, zq_pm, zq_mm, zq_gm, pk_sub, zI_s, zI_k, zI_c, zI_2, zL_s, zL_k, zL_c, zL_1, if_true, if_false, eq_self, Nat.zero_add, Nat.add_zero, hin, k1, x3, s1, e22, hy, hr', er]
        · have hnd : ∃ M3, fX13_needsOf M2 n = some (if zrP T n = 0 then nI (zned T (zha T n)) else -nI 1, M3) ∧ zFm M2 M3 := by
            obtain ⟨M3, g1, g2, g3, g4⟩ := zm_seeks hm2 hI x5
            have hm3 := zVN_fm g4 hm2
            rw [fX13_needsOf]
            by_cases c : (zsk T n).1 < 240
            · rw [if_pos c] at g1
              have hz : ¬ zrP T n = 0 := fun w => (zrP_0 w).1 c
              refine ⟨M3, ?_, g4⟩
              rw [if_neg hz]
              simp (disch := omega) only [zq_l9, pk_mul, nI_add, zq_t9, zq_c9, zq_bz9, zq_bo9, zq_g, zq_cl, zq_leT, zq_leF, zq_ltT, zq_ltF, zq_eqT, zq_eqF, zq_em, zq_me, zq_pm, zq_mm, zq_gm, pk_sub, zI_s, zI_k, zI_c, zI_2, zL_s, zL_k, zL_c, zL_1, if_true, if_false, eq_self, Nat.zero_add, Nat.add_zero, g1]
            · rw [if_neg c] at g1
              have hat := zm_any hm3 hI
              by_cases t : ztor T = 0
              · rw [if_pos t] at hat
                have hy3 := zm_hashOf hm3 hI x5
                obtain ⟨M4, u1, u2, u3, u4⟩ := zm_goes hm3 hI hh
                have hn4 := zm_need (zVN_fn u4 hm3) hI u2 u3
                refine ⟨M4, ?_, zFm_tr g4 (zFn_m u4)⟩
                have h99 := zned_le T (zha T n)
                by_cases n9 : zned T (zha T n) = 9
                · have hz : ¬ zrP T n = 0 := fun w => (zrP_0 w).2.2 n9
                  rw [if_neg hz]
                  rw [zsp_f (by omega)] at hn4
                  simp (disch := omega) only [zq_l9, pk_mul, nI_add, zq_t9, zq_c9, zq_bz9, zq_bo9, zq_g, zq_cl, zq_leT, zq_leF, zq_ltT, zq_ltF, zq_eqT, zq_eqF, zq_em, zq_me, zq_pm, zq_mm, zq_gm, pk_sub, zI_s, zI_k, zI_c, zI_2, zL_s, zL_k, zL_c, zL_1, if_true, if_false, eq_self, Nat.zero_add, Nat.add_zero, g1, hat, hy3, u1, hn4]
                · have hz : zrP T n = 0 := by
                    unfold zrP zpco
                    rw [if_neg c, if_neg (by omega), if_neg n9]
                  rw [if_pos hz]
                  rw [zsp_t (by omega)] at hn4
                  simp (disch := omega) only [zq_l9, pk_mul, nI_add, zq_t9, zq_c9, zq_bz9, zq_bo9, zq_g, zq_cl, zq_leT, zq_leF, zq_ltT, zq_ltF, zq_eqT, zq_eqF, zq_em, zq_me, zq_pm, zq_mm, zq_gm, pk_sub, zI_s, zI_k, zI_c, zI_2, zL_s, zL_k, zL_c, zL_1, if_true, if_false, eq_self, Nat.zero_add, Nat.add_zero, g1, hat, hy3, u1, hn4]
              · rw [if_neg t] at hat
                have hz : ¬ zrP T n = 0 := fun w => t (zrP_0 w).2.1
                refine ⟨M3, ?_, g4⟩
                rw [if_neg hz]
                simp (disch := omega) only [zq_l9, pk_mul, nI_add, zq_t9, zq_c9, zq_bz9, zq_bo9, zq_g, zq_cl, zq_leT, zq_leF, zq_ltT, zq_ltF, zq_eqT, zq_eqF, zq_em, zq_me, zq_pm, zq_mm, zq_gm, pk_sub, zI_s, zI_k, zI_c, zI_2, zL_s, zL_k, zL_c, zL_1, if_true, if_false, eq_self, Nat.zero_add, Nat.add_zero, g1, hat]
          obtain ⟨M3, u1, u2⟩ := hnd
          refine hfin _ S7 M3 o7 p7 u2 (fun r' er => ?_)
          simp (disch := omega) only [zq_l9, pk_mul, nI_add, zq_t9, zq_c9, zq_bz9, zq_bo9, zq_g, zq_cl, zq_leT, zq_leF, zq_ltT, zq_ltF, zq_eqT, zq_eqF, zq_em, zq_me, zq_pm, zq_mm, zq_gm, pk_sub, zI_s, zI_k, zI_c, zI_2, zL_s, zL_k, zL_c, zL_1, if_true, if_false, eq_self, Nat.zero_add, Nat.add_zero, hin, k1, x3, s1, e22, u1, er]
        · obtain ⟨M3, u1, u2⟩ := zm_mate9 hI hh sh_FU 0 M2 hm2 (by omega) (by decide)
          have u1' : fX13_mate M2 n = some (zsp 676 (zfi (zmp T (zha T n)) 676 0), M3) := by
            rw [fX13_mate]
            simp (disch := omega) only [zq_l9, pk_mul, nI_add, zq_t9, zq_c9, zq_bz9, zq_bo9, zq_g, zq_cl, zq_leT, zq_leF, zq_ltT, zq_ltF, zq_eqT, zq_eqF, zq_em, zq_me, zq_pm, zq_mm, zq_gm, pk_sub, zI_s, zI_k, zI_c, zI_2, zL_s, zL_k, zL_c, zL_1, if_true, if_false, eq_self, Nat.zero_add, Nat.add_zero, hy]
            exact u1
          refine hfin _ S8 M3 o8 p8 u2 (fun r' er => ?_)
          simp (disch := omega) only [zq_l9, pk_mul, nI_add, zq_t9, zq_c9, zq_bz9, zq_bo9, zq_g, zq_cl, zq_leT, zq_leF, zq_ltT, zq_ltF, zq_eqT, zq_eqF, zq_em, zq_me, zq_pm, zq_mm, zq_gm, pk_sub, zI_s, zI_k, zI_c, zI_2, zL_s, zL_k, zL_c, zL_1, if_true, if_false, eq_self, Nat.zero_add, Nat.add_zero, hin, k1, x3, s1, e22, u1', er]
    · obtain ⟨x1, x2, x3⟩ := k4 q
      subst x1
      refine ⟨.inr "java/lang/IllegalArgumentException", S1, nI 0, sh_I M1 0 0 (nI 2), ?_, ?_, Or.inr ⟨1, _, rfl, rfl, zI_s _ _ _ _⟩, T, B, 0, zR_q k2 (zFr_rf _ _ S1) (zMQ_0 M1 _)⟩
      · simp (disch := omega) only [zq_l9, pk_mul, nI_add, zq_t9, zq_c9, zq_bz9, zq_bo9, zq_g, zq_cl, zq_leT, zq_leF, zq_ltT, zq_ltF, zq_eqT, zq_eqF, zq_em, zq_me, zq_pm, zq_mm, zq_gm, pk_sub, zI_s, zI_k, zI_c, zI_2, zL_s, zL_k, zL_c, zL_1, if_true, if_false, eq_self, Nat.zero_add, Nat.add_zero, hu, x2, zcx_r]
      · have hin' : fX13_isIn M (nI j) 0 8 = some (nI 1, M) := hin
        have k1' : fX13_isName M 0 = some (nI 0, M1) := k1
        rw [hin']
        refine (zstep1 _ _ _).trans ?_
        rw [k1']
        exact (zstep0 _ _ _).trans rfl
  · have hbad : zR (sh_I S 1 1 (nI 0)) (sh_I (sh_I M 0 17 (nI 0)) 0 0 (nI 1)) T B 0 := zR_use h (by rw [zI_k _ 0 0 _ (by omega), zI_s]) (fun k h0 h17 _ => by rw [zI_k _ 0 0 _ h0, zI_k M 0 17 _ h17]) (fun i h0 _ => ⟨by rw [zI_c _ 0 0 _ h0, zI_c M 0 17 _ h0], rfl⟩)
    have hin : fX13_isIn M v (nI 0) (nI 8) = some (nI 0, M) := by
      rcases zn_cs v with hv | ⟨j, hj, rfl⟩
      · exact zn_isIn M hv (by omega)
      · have := zm_within' M (v := j) (lo := 0) (hi := 8) hj (by omega) (by omega)
        rw [if_neg (fun z => q j z.1 z.2 rfl)] at this
        exact this
    refine ⟨.inr "java/util/NoSuchElementException", sh_I S 1 1 (nI 0), nI 0, sh_I (sh_I M 0 17 (nI 0)) 0 0 (nI 1), ?_, ?_, Or.inr ⟨0, _, rfl, rfl, zI_s _ _ _ _⟩, T, B, 0, hbad⟩
    · rcases zn_cs v with hv' | ⟨j, hj, rfl⟩
      · simp (disch := omega) only [zq_l9, pk_mul, nI_add, zq_t9, zq_c9, zq_bz9, zq_bo9, zq_g, zq_cl, zq_leT, zq_leF, zq_ltT, zq_ltF, zq_eqT, zq_eqF, zq_em, zq_me, zq_pm, zq_mm, zq_gm, pk_sub, zI_s, zI_k, zI_c, zI_2, zL_s, zL_k, zL_c, zL_1, if_true, if_false, eq_self, Nat.zero_add, Nat.add_zero, hu, zn_lt hv', fX12_find_18]
      · have : 8 < j := Nat.lt_of_not_le (fun z => q j (by omega) z rfl)
        simp (disch := omega) only [zq_l9, pk_mul, nI_add, zq_t9, zq_c9, zq_bz9, zq_bo9, zq_g, zq_cl, zq_leT, zq_leF, zq_ltT, zq_ltF, zq_eqT, zq_eqF, zq_em, zq_me, zq_pm, zq_mm, zq_gm, pk_sub, zI_s, zI_k, zI_c, zI_2, zL_s, zL_k, zL_c, zL_1, if_true, if_false, eq_self, Nat.zero_add, Nat.add_zero, hu, fX12_find_18]
    · have hin' : fX13_isIn M v 0 8 = some (nI 0, M) := hin
      rw [hin']
      exact (zstep0 _ _ _).trans rfl
