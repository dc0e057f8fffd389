/-! a text's acts: the reference -/
theorem zm_more {S : sh_St} {B : Nat → Nat} {E p : Nat} (hT : zTM S B E) (hE : E ≤ 400) (hB : ∀ k, B k < 256) (h2 : S.1 0 19 = nI p) (hp : p ≤ E) (h20 : S.1 0 20 = -nI 1) {d : Nat} (h1 : 1 ≤ d) (h14 : d ≤ 14) :
    (zbl B E p = E → ∃ S', fX13_comesMore S (nI d) = some (nI 0, S') ∧ S'.1 0 20 = -nI 1 ∧ zM0 S S') ∧
    (zbl B E p ≠ E → B (zbl B E p) = 59 → d < 14 → ∃ S', fX13_comesMore S (nI d) = some (nI 1, S') ∧ S'.1 0 19 = nI (zbl B E p + 1) ∧ S'.1 0 20 = -nI 1 ∧ zM0 S S') ∧
    (zbl B E p ≠ E → B (zbl B E p) = 59 → d = 14 → ∃ S', fX13_comesMore S (nI d) = some (nI 0, S') ∧ S'.1 0 20 = nI (zbl B E (zbl B E p + 1)) ∧ zM0 S S') ∧
    (zbl B E p ≠ E → B (zbl B E p) ≠ 59 → ∃ S', fX13_comesMore S (nI d) = some (nI 0, S') ∧ S'.1 0 20 = nI (zbl B E p) ∧ zM0 S S') := by
  obtain ⟨S1, g1, g2, g3⟩ := zm_here hT hE hB h2 hp
  have hT1 := zTM_9 g3 hT
  have hbl := zbl_le B hp
  have h18 := hT1.1
  have h201 : S1.1 0 20 = -nI 1 := (g3.1 20 (by omega)).trans h20
  have hB' := hB (zbl B E p)
  rw [fX13_comesMore]
  refine ⟨fun q => ?_, fun q w z => ?_, fun q w z => ?_, fun q w => ?_⟩
  · refine ⟨S1, ?_, h201, zM0_9 g3⟩
    simp (disch := omega) only [zq_l9, pk_mul, nI_add, zq_t9, zq_c9, zq_bz9, zq_bo9, zq_g, zq_cl, zq_leT, zq_leF, zq_ltT, zq_ltF, zq_eqT, zq_eqF, zq_em, zq_me, zq_pm, zq_mm, zq_gm, pk_sub, zI_s, zI_k, zI_c, zI_2, zL_s, zL_k, zL_c, zL_1, if_true, if_false, eq_self, Nat.zero_add, Nat.add_zero, h20, g1, h18, q]
  · have hb := hT1.2 (zbl B E p) (by omega)
    have hf := zM9_I S1 (nI (zbl B E p + 1))
    have h203 : (sh_I S1 0 19 (nI (zbl B E p + 1))).1 0 20 = -nI 1 := by rw [zI_k S1 0 19 _ (by omega)]; exact h201
    refine ⟨sh_I S1 0 19 (nI (zbl B E p + 1)), ?_, zI_s _ _ _ _, h203, zM0_9 (zM9_tr g3 hf)⟩
    simp (disch := omega) only [zq_l9, pk_mul, nI_add, zq_t9, zq_c9, zq_bz9, zq_bo9, zq_g, zq_cl, zq_leT, zq_leF, zq_ltT, zq_ltF, zq_eqT, zq_eqF, zq_em, zq_me, zq_pm, zq_mm, zq_gm, pk_sub, zI_s, zI_k, zI_c, zI_2, zL_s, zL_k, zL_c, zL_1, if_true, if_false, eq_self, Nat.zero_add, Nat.add_zero, h20, g1, h18, g2, hb, w, fX13_comesMore_79, h201, fX13_comesMore_101]
  · have hb := hT1.2 (zbl B E p) (by omega)
    have hf := zM9_I S1 (nI (zbl B E p + 1))
    have h203 : (sh_I S1 0 19 (nI (zbl B E p + 1))).1 0 20 = -nI 1 := by rw [zI_k S1 0 19 _ (by omega)]; exact h201
    obtain ⟨S2, k1, k2, k3⟩ := zm_here (zTM_9 hf hT1) hE hB (zI_s _ _ _ _) (show zbl B E p + 1 ≤ E by omega)
    have hbl2 := zbl_le B (show zbl B E p + 1 ≤ E by omega)
    obtain ⟨S3, j1, j2, j3, j4⟩ := zm_wrong S2 (zbl B E (zbl B E p + 1))
    have x : S3.1 0 20 = nI (zbl B E (zbl B E p + 1)) := by rw [j2, k3.1 20 (by omega), h203, zfw_m]
    refine ⟨S3, ?_, x, zM0_tr (zM0_9 (zM9_tr (zM9_tr g3 hf) k3)) j4⟩
    simp (disch := omega) only [zq_l9, pk_mul, nI_add, zq_t9, zq_c9, zq_bz9, zq_bo9, zq_g, zq_cl, zq_leT, zq_leF, zq_ltT, zq_ltF, zq_eqT, zq_eqF, zq_em, zq_me, zq_pm, zq_mm, zq_gm, pk_sub, zI_s, zI_k, zI_c, zI_2, zL_s, zL_k, zL_c, zL_1, if_true, if_false, eq_self, Nat.zero_add, Nat.add_zero, h20, g1, h18, g2, hb, w, z, fX13_comesMore_79, h201, k1, j1, fX13_comesMore_101, x]
  · have hb := hT1.2 (zbl B E p) (by omega)
    obtain ⟨S3, j1, j2, j3, j4⟩ := zm_wrong S1 (zbl B E p)
    have x : S3.1 0 20 = nI (zbl B E p) := by rw [j2, h201, zfw_m]
    refine ⟨S3, ?_, x, zM0_tr (zM0_9 g3) j4⟩
    simp (disch := omega) only [zq_l9, pk_mul, nI_add, zq_t9, zq_c9, zq_bz9, zq_bo9, zq_g, zq_cl, zq_leT, zq_leF, zq_ltT, zq_ltF, zq_eqT, zq_eqF, zq_em, zq_me, zq_pm, zq_mm, zq_gm, pk_sub, zI_s, zI_k, zI_c, zI_2, zL_s, zL_k, zL_c, zL_1, if_true, if_false, eq_self, Nat.zero_add, Nat.add_zero, h20, g1, h18, g2, hb, j1, fX13_comesMore_79, fX13_comesMore_101, x]
theorem zm_moreF {S : sh_St} (h20 : ¬ S.1 0 20 = -nI 1) (d : Int32) : fX13_comesMore S d = some (nI 0, S) := by
  rw [fX13_comesMore, show (-1 : Int32) = -nI 1 from rfl, if_neg h20]
  rfl
/-- the acts of a text, by the reference -/
def zDM (S S' : sh_St) (D c th : Nat) (w : Nat → Int32) (R : Nat × Nat × Nat × zT × Nat) : Prop := zFa S S' ∧ (R.1 = 0 → D = R.2.1 ∧ c = 0 ∧ th = 0 ∧ S'.1 0 20 = -nI 1 ∧ zVN S' R.2.2.2.1 ∧ ∀ j, j < 4 → S'.1 9 j = if R.2.2.2.2 = 1 then nI 0 else w j) ∧ (R.1 ≠ 0 → c = R.2.2.1 ∧ th = 1 ∧ S'.1 0 20 = nI R.2.1 ∧ c ≤ 5)
theorem zDM_bad {S S' : sh_St} {D f c : Nat} {w : Nat → Int32} {T : zT} {t : Nat} (h1 : zFa S S') (h2 : S'.1 0 20 = nI f) (h5 : c ≤ 5) : zDM S S' D c 1 w (1, f, c, T, t) := ⟨h1, fun q => absurd q (Nat.succ_ne_zero 0), fun _ => ⟨rfl, rfl, h2, h5⟩⟩
theorem zDM_pre {S S1 S' : sh_St} {D c th : Nat} {w : Nat → Int32} {R : Nat × Nat × Nat × zT × Nat} (h1 : zFa S S1) (h : zDM S1 S' D c th w R) : zDM S S' D c th w R := ⟨zFa_tr h1 h.1, h.2.1, h.2.2⟩
theorem zm_acts_l {B : Nat → Nat} {E : Nat} (hE : E ≤ 400) (hB : ∀ k, B k < 256) (w : Nat → Int32) : ∀ (m n d p t : Nat) (T : zT) (S : sh_St), d + m = 14 → 1 ≤ m → m < n → t ≤ 1 → zG T → zVN S T → zTM S B E → S.1 0 19 = nI p → p ≤ E → S.1 0 20 = -nI 1 → (∀ j, j < 4 → S.1 9 j = if t = 1 then nI 0 else w j) →
    ∃ S' D c th, (sh_c (fX13_act S) fun r16 S15 => sh_t (nI d + 1) fun y17 => (fX13_acts_37 n) S15 y17 r16) = fX13_acts_70 S' (nI D) (nI c) (nI th) ∧ D ≤ 14 ∧ zDM S S' D c th w (ztx B E m T p d t) := by
  intro m
  induction m with
  | zero => intro n d p t T S _ h; omega
  | succ m ih =>
    intro n d p t T S hdm _ hn ht hG hv hT h2 hp h20 hw
    obtain ⟨n, rfl⟩ : ∃ n', n = n' + 1 := ⟨n - 1, by omega⟩
    have hbl := zbl_le B hp
    have hne := zne_le B hp
    obtain ⟨c, S1, c5, a1, a2⟩ := zm_act hT hE hB h2 hp h20 hG hv
    obtain ⟨fa, hT1, y9, ybad, yref, yok⟩ := a2
    have hA9 := zA_le B E p
    have ego : (sh_c (fX13_act S) fun r16 S15 => sh_t (nI d + 1) fun y17 => (fX13_acts_37 (n + 1)) S15 y17 r16) = fX13_acts_37 (n + 1) S1 (nI (d + 1)) (nI c) := by
      simp (disch := omega) only [zq_l9, pk_mul, nI_add, zq_t9, zq_c9, zq_bz9, zq_bo9, zq_g, zq_cl, zq_leT, zq_leF, zq_ltT, zq_ltF, zq_eqT, zq_eqF, zq_em, zq_me, zq_pm, zq_mm, zq_gm, pk_sub, zI_s, zI_k, zI_c, zI_2, zL_s, zL_k, zL_c, zL_1, if_true, if_false, eq_self, Nat.zero_add, Nat.add_zero, a1]
    rw [ego, fX13_acts_37]
    have hfail : ∀ f, f < 1000 → S1.1 0 20 = nI f → (sh_c (fX13_comesMore S1 (nI (d + 1))) fun r6 S5 => if r6 = 0 then (if (S5.1 0 20) = (-1) then (fX13_acts_70 S5 (nI (d + 1)) (nI c) 0) else (fX13_acts_70 S5 (nI (d + 1)) (nI c) 1)) else (sh_c (fX13_act S5) fun r16 S15 => sh_t (nI (d + 1) + 1) fun y17 => (fX13_acts_37 n) S15 y17 r16)) = fX13_acts_70 S1 (nI (d + 1)) (nI c) (nI 1) := fun f hf e => by
      have hmf := zm_moreF (S := S1) (by rw [e]; exact zq_n1 (by omega)) (nI (d + 1))
      simp (disch := omega) only [zq_l9, pk_mul, nI_add, zq_t9, zq_c9, zq_bz9, zq_bo9, zq_g, zq_cl, zq_leT, zq_leF, zq_ltT, zq_ltF, zq_eqT, zq_eqF, zq_em, zq_me, zq_pm, zq_mm, zq_gm, pk_sub, zI_s, zI_k, zI_c, zI_2, zL_s, zL_k, zL_c, zL_1, if_true, if_false, eq_self, Nat.zero_add, Nat.add_zero, hmf, e]
    by_cases c9 : zA B E p = 9
    · obtain ⟨z1, z2⟩ := y9 c9
      have eR : ztx B E (m + 1) T p d t = (1, zbl B E p, 0, T, t) := by rw [ztx, if_pos c9]
      rw [eR]
      refine ⟨S1, d + 1, c, 1, hfail _ (by omega) z2, by omega, ?_⟩
      rw [z1]
      exact zDM_bad fa z2 (by omega)
    · have ha : zA B E p < 9 := by omega
      by_cases cok : zpo B E (zA B E p) (zne B E p)
      · by_cases cr : zref T (zA B E p) (zan B E p) (zam B E p) (zav B E p) = 0
        · obtain ⟨z1, z2, z3, z4, z5⟩ := yok ha cok cr
          obtain ⟨rg, hvn, hvm⟩ := zpo_rg hB ha cok
          have hG' := zG_act hG rg hvn hvm cr
          have hp3 := zp3_le B (a := zA B E p) hne.2
          obtain ⟨x1, x2, x3, x4⟩ := zm_more hT1 hE hB z3 hp3 z2 (d := d + 1) (by omega) (by omega)
          have eq : zbl B E (zp3 B E (zA B E p) (zne B E p)) = zaq B E p := rfl
          rw [eq] at x1 x2 x3 x4
          have hq := zbl_le B hp3
          rw [eq] at hq
          have hw1 : ∀ j, j < 4 → S1.1 9 j = if ztu (zA B E p) t = 1 then nI 0 else w j := fun j hj => by
            rw [z5 j hj, hw j hj]
            unfold ztu
            by_cases tu : 3 ≤ zA B E p ∧ zA B E p ≤ 6
            · rw [if_pos tu, if_pos tu, if_pos rfl]
            · rw [if_neg tu, if_neg tu]
          have htu1 : ztu (zA B E p) t ≤ 1 := by unfold ztu; split <;> omega
          subst z1
          by_cases ce : zaq B E p = E
          · obtain ⟨S2, u1, u2, u3⟩ := x1 ce
            have eR : ztx B E (m + 1) T p d t = (0, d + 1, 0, zact T (zA B E p) (zan B E p) (zam B E p) (zav B E p), ztu (zA B E p) t) := by rw [ztx, if_neg c9, if_pos cok, if_pos cr, if_pos ce]
            rw [eR]
            refine ⟨S2, d + 1, 0, 0, ?_, by omega, zFa_tr fa (zFa_0 u3), fun _ => ⟨rfl, rfl, rfl, u2, zVN_0 u3 z4, fun j hj => by rw [u3.2.2 9 (by omega)]; exact hw1 j hj⟩, fun q => absurd rfl q⟩
            simp (disch := omega) only [zq_l9, pk_mul, nI_add, zq_t9, zq_c9, zq_bz9, zq_bo9, zq_g, zq_cl, zq_leT, zq_leF, zq_ltT, zq_ltF, zq_eqT, zq_eqF, zq_em, zq_me, zq_pm, zq_mm, zq_gm, pk_sub, zI_s, zI_k, zI_c, zI_2, zL_s, zL_k, zL_c, zL_1, if_true, if_false, eq_self, Nat.zero_add, Nat.add_zero, u1, u2]
          · by_cases cs : B (zaq B E p) = 59
            · by_cases cm : m = 0
              · obtain ⟨S2, u1, u2, u3⟩ := x3 ce cs (by omega)
                have hb9 := zbl_le B (show zaq B E p + 1 ≤ E by omega)
                have eR : ztx B E (m + 1) T p d t = (1, zbl B E (zaq B E p + 1), 0, T, t) := by rw [ztx, if_neg c9, if_pos cok, if_pos cr, if_neg ce, if_pos cs, if_pos cm]
                rw [eR]
                refine ⟨S2, d + 1, 0, 1, ?_, by omega, zDM_bad (zFa_tr fa (zFa_0 u3)) u2 (by omega)⟩
                simp (disch := omega) only [zq_l9, pk_mul, nI_add, zq_t9, zq_c9, zq_bz9, zq_bo9, zq_g, zq_cl, zq_leT, zq_leF, zq_ltT, zq_ltF, zq_eqT, zq_eqF, zq_em, zq_me, zq_pm, zq_mm, zq_gm, pk_sub, zI_s, zI_k, zI_c, zI_2, zL_s, zL_k, zL_c, zL_1, if_true, if_false, eq_self, Nat.zero_add, Nat.add_zero, u1, u2]
              · obtain ⟨S2, u1, u2, u4, u3⟩ := x2 ce cs (by omega)
                have eR : ztx B E (m + 1) T p d t = ztx B E m (zact T (zA B E p) (zan B E p) (zam B E p) (zav B E p)) (zaq B E p + 1) (d + 1) (ztu (zA B E p) t) := by rw [ztx, if_neg c9, if_pos cok, if_pos cr, if_neg ce, if_pos cs, if_neg cm]
                rw [eR]
                obtain ⟨S', D, c', th, i1, i2, i3⟩ := ih n (d + 1) (zaq B E p + 1) (ztu (zA B E p) t) _ S2 (by omega) (by omega) (by omega) htu1 hG' (zVN_0 u3 z4) (zTM_0 u3 hT1) u2 (by omega) u4 (fun j hj => by rw [u3.2.2 9 (by omega)]; exact hw1 j hj)
                refine ⟨S', D, c', th, ?_, i2, zDM_pre (zFa_tr fa (zFa_0 u3)) i3⟩
                rw [← i1, u1]
                exact zstep1 _ _ _
            · obtain ⟨S2, u1, u2, u3⟩ := x4 ce cs
              have eR : ztx B E (m + 1) T p d t = (1, zaq B E p, 0, T, t) := by rw [ztx, if_neg c9, if_pos cok, if_pos cr, if_neg ce, if_neg cs]
              rw [eR]
              refine ⟨S2, d + 1, 0, 1, ?_, by omega, zDM_bad (zFa_tr fa (zFa_0 u3)) u2 (by omega)⟩
              simp (disch := omega) only [zq_l9, pk_mul, nI_add, zq_t9, zq_c9, zq_bz9, zq_bo9, zq_g, zq_cl, zq_leT, zq_leF, zq_ltT, zq_ltF, zq_eqT, zq_eqF, zq_em, zq_me, zq_pm, zq_mm, zq_gm, pk_sub, zI_s, zI_k, zI_c, zI_2, zL_s, zL_k, zL_c, zL_1, if_true, if_false, eq_self, Nat.zero_add, Nat.add_zero, u1, u2]
        · obtain ⟨z1, z2⟩ := yref ha cok cr
          have eR : ztx B E (m + 1) T p d t = (1, zbl B E p, zref T (zA B E p) (zan B E p) (zam B E p) (zav B E p), T, t) := by rw [ztx, if_neg c9, if_pos cok, if_neg cr]
          rw [eR, ← z1]
          exact ⟨S1, d + 1, c, 1, hfail _ (by omega) z2, by omega, zDM_bad fa z2 c5⟩
      · obtain ⟨z1, z2⟩ := ybad ha cok
        have eR : ztx B E (m + 1) T p d t = (1, zpf B E (zA B E p) (zne B E p), 0, T, t) := by rw [ztx, if_neg c9, if_neg cok]
        have hpf : zpf B E (zA B E p) (zne B E p) < 1000 := by
          have d1 := zbl_le B hne.2
          have d2 := zbl_le B (zp1_le B (a := zA B E p) hne.2)
          have d3 := zbl_le B (zp2_le B (a := zA B E p) hne.2)
          unfold zpf
          (repeat' split) <;> omega
        rw [eR]
        refine ⟨S1, d + 1, c, 1, hfail _ hpf z2, by omega, ?_⟩
        rw [z1]
        exact zDM_bad fa z2 (by omega)
