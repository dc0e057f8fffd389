/-! a name is put: the order, all cases -/
theorem zLL_cg {T T' : zT} (h1 : T'.1 1 = T.1 1) (h4 : T'.1 4 = T.1 4) (h5 : T'.1 5 = T.1 5) (h6 : T'.1 6 = T.1 6) (h7 : T'.1 7 0 = T.1 7 0) : zLL T' = zLL T := by
  have hL : ∀ b s, zLp T' b s = zLp T b s := fun b s => zLp_cg (fun r _ => by unfold zrq; rw [h4, h5, h6])
  have hL1 : ∀ b, zL1 T' b = zL1 T b := fun b => by unfold zL1; rw [h1, hL]
  have hQ : ∀ s, zQ T' s = zQ T s := fun s => zQ_cg s (fun r _ => by rw [h6, hL1])
  unfold zLL
  rw [h7, h1, hL1, hQ]
theorem zlq_cg {T T' : zT} (h : zLL T' = zLL T) : (∀ k, zlq T' k = zlq T k) ∧ zln T' = zln T := by
  refine ⟨fun k => ?_, ?_⟩
  · unfold zlq; rw [h]
  · unfold zln; rw [h]
theorem zbe_cg {T T' : zT} (h : zLL T' = zLL T) {p x : Nat} : zbe T' p x ↔ zbe T p x := by
  obtain ⟨h1, h2⟩ := zlq_cg h
  unfold zbe
  rw [h2, h1]
theorem zSo_cg {T T' : zT} (h : zLL T' = zLL T) (hs : zSo T) : zSo T' := by
  obtain ⟨h1, h2⟩ := zlq_cg h
  refine ⟨by rw [h1]; exact hs.1, by rw [h1]; exact hs.2.1, fun p => ?_⟩
  rw [h1, zbe_cg h]
  exact hs.2.2 p
theorem zRt_cg {T T' : zT} (h1 : T'.1 1 = T.1 1) (h4 : T'.1 4 = T.1 4) (h5 : T'.1 5 = T.1 5) (h6 : T'.1 6 = T.1 6) (h7 : T'.1 7 0 = T.1 7 0) (ht : zRt T) : zRt T' := by
  unfold zRt
  rw [h7, h1, h4, h5, h6]
  exact ht
theorem zSrc_of {T T' : zT} {P : List zE} {f f' x : Nat} (h : ∀ k, T'.2 k ≠ 0 → T'.2 k = if f' * 6 ≤ k ∧ k < f' * 6 + 6 then (zlg P 0 3 (k - f' * 6)).1 else if x * 6 ≤ k ∧ k < x * 6 + 6 then (zlg P 3 7 (k - x * 6)).1 else T.2 k) (hf : ∀ k, T'.2 k ≠ 0 → k / 6 = f → f = f') : zSrc T T' P f f' x := by
  intro k hk hz
  have e := h k hz
  by_cases c1 : f' * 6 ≤ k ∧ k < f' * 6 + 6
  · rw [if_pos c1, zlg_1] at e
    by_cases c : 0 + (k - f' * 6) < 3
    · rw [if_pos c] at e
      exact Or.inl ⟨by omega, by omega, by rw [e, show 0 + (k - f' * 6) = k % 6 by omega]⟩
    · rw [if_neg c] at e; exact absurd e hz
  · rw [if_neg c1] at e
    by_cases c2 : x * 6 ≤ k ∧ k < x * 6 + 6
    · rw [if_pos c2, zlg_1] at e
      by_cases c : 3 + (k - x * 6) < 7
      · rw [if_pos c] at e
        exact Or.inr (Or.inl ⟨by omega, by omega, by rw [e, show 3 + (k - x * 6) = 3 + k % 6 by omega]⟩)
      · rw [if_neg c] at e; exact absurd e hz
    · rw [if_neg c2] at e
      refine Or.inr (Or.inr ⟨fun q => ?_, by omega, by omega, e⟩)
      have := hf k hz q
      omega
theorem zPP_on {T : zT} (hI : zInv T) (hs : zSo T) (ht : zRt T) (hl : zLe T) {n : Int64} {d : Nat} (hfull : zfull T (zfl T (zha T n))) : ∀ e, e ∈ zPP T (zha T n) n d → e.1 = zha T e.2.1 ∧ (zlq T (zpl T (zha T n))).2.1 ≤ e.1 ∧ zbe T (zpl T (zha T n)) e.1 := by
  intro e he
  refine ⟨zPP_h e he, ?_⟩
  rcases zPP_mem he with q | ⟨s, s6, q⟩
  · subst q
    exact zonleaf hI hs ht (i := 0) (by have := (zwn_le hI (zha T n)).2; omega)
  · subst q
    have hf4 := zbk_le hI (zha T n) (Nat.le_refl (T.1 7 0))
    have hf4' : zfl T (zha T n) < 40 := hf4
    obtain ⟨p, p1, p2, p3, p4⟩ := hl (zfl T (zha T n) * 6 + s) (by omega) (hfull s s6)
    have ep : p = zpl T (zha T n) := zlq_inj hI p1 (zpl_lt hI _) (by rw [p2, zpl_at hI]; omega)
    rw [ep] at p3 p4
    exact ⟨p3, p4⟩
theorem zha_7 {T T' : zT} (h : ∀ j, j ≠ 0 → T'.1 7 j = T.1 7 j) (n : Int64) : zha T' n = zha T n := by
  unfold zha
  rw [h 1 (by omega), h 2 (by omega), h 3 (by omega)]
/-- the tree with the row for the new leaf -/
theorem zK2_st {T : zT} (hI : zInv T) (h0 : T.1 7 0 ≠ 0) (n : Int64) (d : Nat) (hfull : zfull T (zfl T (zha T n))) : zSA (zK2 T (zPP T (zha T n) n d) (zfl T (zha T n)) (zbk T (zha T n) (T.1 7 0 - 1)) (zr T (zbk T (zha T n) (T.1 7 0 - 1)) (zha T n) + 1)) ∧ zSB 6 (zK2 T (zPP T (zha T n) n d) (zfl T (zha T n)) (zbk T (zha T n) (T.1 7 0 - 1)) (zr T (zbk T (zha T n) (T.1 7 0 - 1)) (zha T n) + 1)) ∧ zSD (zK2 T (zPP T (zha T n) n d) (zfl T (zha T n)) (zbk T (zha T n) (T.1 7 0 - 1)) (zr T (zbk T (zha T n) (T.1 7 0 - 1)) (zha T n) + 1)) ∧ zSE (zK2 T (zPP T (zha T n) n d) (zfl T (zha T n)) (zbk T (zha T n) (T.1 7 0 - 1)) (zr T (zbk T (zha T n) (T.1 7 0 - 1)) (zha T n) + 1)) ∧ zSF (zK2 T (zPP T (zha T n) n d) (zfl T (zha T n)) (zbk T (zha T n) (T.1 7 0 - 1)) (zr T (zbk T (zha T n) (T.1 7 0 - 1)) (zha T n) + 1)) := by
  have hA9 := zInv_av hI
  have hA : zAv 3 T := ⟨hA9.1, hA9.2.1, by have := hA9.2.2; omega⟩
  have hP7 := zPP_len T (zha T n) n d
  have hPl := zPP_l hI (n := n) (d := d)
  have hlim : zlim (zPP T (zha T n) n d) < 4096 := hPl _ (List.mem_of_getElem? (zP_at (show 3 < _ by omega)))
  have hmk : zmrk (zPP T (zha T n) n d) ≤ 1 := by unfold zmrk; split <;> omega
  have hx := zfr_lt hA
  have hxz := zfr_0 hx
  have hx0 : zfr T ≠ 0 := fun e => hA.2.1 (by rw [e] at hxz; exact hxz)
  obtain ⟨b1, b2, b3⟩ := zbk_lo hI (zha T n) (show T.1 7 0 - 1 < T.1 7 0 by omega)
  have b5 := zInv_c5 hI b1
  have hno := zbk_n0 hI (zha T n) (l := T.1 7 0 - 1) (by omega)
  generalize hix : zbk T (zha T n) (T.1 7 0 - 1) = ix at *
  have hixx : ix ≠ zfr T := fun e => by rw [e] at b2; omega
  have hT1 := zSt_take hI hx hx0 hxz
  generalize zfl T (zha T n) = f at *
  have hT2 : zSt 5 (zfr T) (zgr (zK1 T (zPP T (zha T n) n d)) f (zlg (zPP T (zha T n) n d) 0 3) 6) := zSt_cg (fun i hi => by rw [zgr_i _ _ _ _ hi]; unfold zK1; rw [zgr_i _ _ _ _ hi]) hT1
  have k0 : ∀ b, (zgr (zK1 T (zPP T (zha T n) n d)) f (zlg (zPP T (zha T n) n d) 0 3) 6).1 0 b = if b = zfr T then 1 else T.1 0 b := fun b => by rw [zgr_i _ _ _ _ (by omega), zK1_0, zwT_v]
  have k1 : (zgr (zK1 T (zPP T (zha T n) n d)) f (zlg (zPP T (zha T n) n d) 0 3) 6).1 1 = T.1 1 := by rw [zgr_i _ _ _ _ (by omega), zK1_i (by omega) (by omega)]
  have k7 : (zgr (zK1 T (zPP T (zha T n) n d)) f (zlg (zPP T (zha T n) n d) 0 3) 6).1 7 = T.1 7 := by rw [zgr_i _ _ _ _ (by omega), zK1_i (by omega) (by omega)]
  have ins := zSt_ins (p := zr T ix (zha T n) + 1) (l := zlim (zPP T (zha T n) n d)) (m := zmrk (zPP T (zha T n) n d)) hT2 (by omega) hx hx0 b1 (by rw [k0, if_neg hixx]; exact b2) (by
    rw [k0, if_pos rfl, k7]
    by_cases q : ix = 0 ∧ T.1 7 0 = 2
    · exact absurd q.1 (hno (by omega))
    · rw [if_neg q]) (by rw [k1]; omega) (by rw [k1]; omega) hlim hmk
  exact ⟨ins.1, ins.2.1, ins.2.2.1, ins.2.2.2.1, ins.2.2.2.2.1⟩
theorem zput_ord {T : zT} (hI : zInv T) (hs : zSo T) (ht : zRt T) (hl : zLe T) {n : Int64} {d : Nat} (hn0 : n ≠ 0) (hn9 : zned T (zha T n) ≠ 9) : zSo (zput T n d) ∧ zRt (zput T n d) ∧ zLe (zput T n d) ∧ (zun T → (∀ k, k < 240 → T.2 k ≠ 0 → T.2 k ||| zSM ≠ n ||| zSM) → zun (zput T n d)) := by
  have hA9 := zInv_av hI
  have hA : zAv 3 T := ⟨hA9.1, hA9.2.1, by have := hA9.2.2; omega⟩
  have h72 := hI.1.1
  unfold zput
  by_cases hsw : zsw T (zha T n) < zwn T (zha T n)
  · rw [if_pos hsw]
    have he := zsw_em hsw
    have hk4 := zspt_lt hI hsw
    have ek : zspt T (zha T n) / 6 = zsb T (zha T n) := by
      unfold zspt
      rw [if_pos hsw]
      omega
    have on := zonleaf hI hs ht hsw
    have hp := zwn_le hI (zha T n)
    generalize hk0 : zspt T (zha T n) = k0 at *
    have eL : zLL (zeT T k0 n d) = zLL T := zLL_cg (zeT_i _ _ _ _ (by omega)) (zeT_i _ _ _ _ (by omega)) (zeT_i _ _ _ _ (by omega)) (zeT_i _ _ _ _ (by omega)) (by rw [zeT_i _ _ _ _ (by omega)])
    obtain ⟨q1, q2⟩ := zlq_cg eL
    refine ⟨zSo_cg eL hs, zRt_cg (zeT_i _ _ _ _ (by omega)) (zeT_i _ _ _ _ (by omega)) (zeT_i _ _ _ _ (by omega)) (zeT_i _ _ _ _ (by omega)) (by rw [zeT_i _ _ _ _ (by omega)]) ht, fun k hk hz => ?_, fun hu hno i j hi hj hij zi zj => ?_⟩
    · rw [zha_e]
      by_cases e : k = k0
      · subst e
        rw [zeT_2s]
        refine ⟨zpl T (zha T n) + zsw T (zha T n), by omega, ?_, ?_, ?_⟩
        · rw [q1, ek]; rfl
        · rw [q1]; exact on.1
        · rw [zbe_cg eL]; exact on.2
      · rw [zeT_2k _ _ _ _ e] at hz ⊢
        obtain ⟨p, p1, p2, p3, p4⟩ := hl k hk hz
        exact ⟨p, by omega, by rw [q1]; exact p2, by rw [q1]; exact p3, by rw [zbe_cg eL]; exact p4⟩
    · by_cases e : i = k0
      · subst e
        rw [zeT_2k _ _ _ _ (Ne.symm hij)] at zj ⊢
        rw [zeT_2s]
        exact fun w => hno j hj zj w.symm
      · rw [zeT_2k _ _ _ _ e] at zi ⊢
        by_cases e2 : j = k0
        · subst e2
          rw [zeT_2s]
          exact hno i hi zi
        · rw [zeT_2k _ _ _ _ e2] at zj ⊢
          exact hu i j hi hj hij zi zj
  · rw [if_neg hsw]
    have h8 := zwn_le hI (zha T n)
    have hsl := zsw_le T (zha T n)
    have hfull : zfull T (zfl T (zha T n)) := by
      have := zsw_b (T := T) (h := zha T n) (i := 0) (by omega)
      rw [Nat.add_zero, zpl_at hI] at this
      exact zfull_em this
    have hfll : zfl T (zha T n) < 40 := zbk_le hI (zha T n) (Nat.le_refl (T.1 7 0))
    have hfk := zfl_k hI (zha T n)
    have hP7 := zPP_len T (zha T n) n d
    have hPon := zPP_on (d := d) hI hs ht hl hfull
    have hsrt : (zPP T (zha T n) n d).Pairwise zle2 := zins_srt (zpc_srt _ _ _) _
    have hx := zfr_lt hA
    have hxz := zfr_0 hx
    have hx0 : zfr T ≠ 0 := fun e => hA.2.1 (by rw [e] at hxz; exact hxz)
    have hplt := zpl_lt hI (zha T n)
    have hpat := zpl_at hI (zha T n)
    have hunP : ∀ (T' : zT) (f' : Nat), f' ≠ zfr T → zSrc T T' (zPP T (zha T n) n d) (zfl T (zha T n)) f' (zfr T) → zun T → (∀ k, k < 240 → T.2 k ≠ 0 → T.2 k ||| zSM ≠ n ||| zSM) → zun T' := fun T' f' hne hsrc hu hno => zun_split hI hu hfull hfll hno hne hsrc
    by_cases h0 : T.1 7 0 = 0
    · rw [if_pos h0]
      have hA1 := zK1_av (P := zPP T (zha T n) n d) hA
      have hy := zfr_lt hA1
      have hyz := zfr_0 hy
      have hy0 : zfr (zK1 T (zPP T (zha T n) n d)) ≠ 0 := fun e => hA1.2.1 (by rw [e] at hyz; exact hyz)
      have hxy : zfr T ≠ zfr (zK1 T (zPP T (zha T n) n d)) := Ne.symm (zfr_ne (c := 1) (by omega) (by rw [zK1_0, zwT_s]) hy)
      have hn1 : zln T = 1 := by unfold zln; rw [zLL_0 h0]; rfl
      have hp0 : zpl T (zha T n) = 0 := by omega
      have hz0 : zlq T 0 = (0, 0, 0) := by unfold zlq; rw [zLL_0 h0]; rfl
      have hf0 : zfl T (zha T n) = 0 := by rw [← hpat, hp0, hz0]
      rw [hp0] at hPon
      rw [hf0] at hunP
      have k1n : ∀ k, (zK1 T (zPP T (zha T n) n d)).2 k = if zfr T * 6 ≤ k ∧ k < zfr T * 6 + 6 then (zlg (zPP T (zha T n) n d) 3 7 (k - zfr T * 6)).1 else T.2 k := fun k => by
        unfold zK1
        rw [zgr_n]
        rfl
      have k1i : ∀ i, i ≠ 0 → i ≠ 3 → (zK1 T (zPP T (zha T n) n d)).1 i = T.1 i := fun i h1 h2 => zK1_i h1 h2
      unfold zK0
      generalize zfr (zK1 T (zPP T (zha T n) n d)) = y at *
      generalize zK1 T (zPP T (zha T n) n d) = K at *
      generalize zPP T (zha T n) n d = P at *
      generalize zfr T = x at *
      have gn : ∀ k, (zgr (zwT K 0 y 1) y (zlg P 0 3) 6).2 k = if y * 6 ≤ k ∧ k < y * 6 + 6 then (zlg P 0 3 (k - y * 6)).1 else K.2 k := fun k => by
        rw [zgr_n]
        rfl
      have gi : ∀ i, i ≠ 0 → i ≠ 3 → (zgr (zwT K 0 y 1) y (zlg P 0 3) 6).1 i = T.1 i := fun i h1 h2 => by rw [zgr_i _ _ _ _ h2, zwT_i _ _ _ _ h1]; exact k1i i h1 h2
      generalize zgr (zwT K 0 y 1) y (zlg P 0 3) 6 = G at *
      have t7 : (zRz G y x (zlim P) (zmrk P)).1 7 0 = 1 := by rw [zRz_7, if_pos rfl, gi 7 (by omega) (by omega), h0]
      have t1 : (zRz G y x (zlim P) (zmrk P)).1 1 0 = 2 := by rw [zRz_1, if_pos rfl]
      have hin : zIns T (zRz G y x (zlim P) (zmrk P)) 0 y x (zlim P) (zmrk P) := by
        refine ⟨by rw [zln_1 t7, t1, hn1], fun j hj => by omega, ?_, ?_, fun j h1 h2 => by omega⟩
        · rw [(zpos1 t7 (r := 0) (by omega)).1, hz0, zRz_6, zRz_4, zRz_5]
          rfl
        · rw [(zpos1 t7 (r := 1) (by omega)).1, zRz_6, zRz_4, zRz_5]
          rfl
      have hsrc : zSrc T (zRz G y x (zlim P) (zmrk P)) P 0 y x := by
        have hlo : ∀ k, (zRz G y x (zlim P) (zmrk P)).2 k ≠ 0 → ¬ k < 6 := fun k hz c => by rw [zRz_n, if_pos c] at hz; exact hz rfl
        refine zSrc_of (fun k hz => ?_) (fun k hz q => ?_)
        · have := hlo k hz
          rw [zRz_n, if_neg this, gn, k1n]
        · have := hlo k hz
          omega
      have hsrc' : zSrc T (zRz G y x (zlim P) (zmrk P)) P (zlq T 0).1 y x := by rw [hz0]; exact hsrc
      obtain ⟨o1, o2⟩ := zord_split hI hs hl (by omega) hin hsrc' hP7 hsrt hPon (zha_7 (fun j hj => by rw [zRz_7, if_neg hj, gi 7 (by omega) (by omega)]))
      exact ⟨o1, fun q => by omega, o2, hunP _ y (Ne.symm hxy) hsrc⟩
    · rw [if_neg h0]
      obtain ⟨b1, b2, b3⟩ := zbk_lo hI (zha T n) (show T.1 7 0 - 1 < T.1 7 0 by omega)
      have b5 := zInv_c5 hI b1
      have hned : zned T (zha T n) = (if T.1 1 (zbk T (zha T n) (T.1 7 0 - 1)) < 5 then 1 else if T.1 7 0 = 1 then 3 else if T.1 1 0 < 5 then 2 else 9) := by
        unfold zned
        rw [if_neg hsw, if_neg h0]
      have hst := zK2_st hI h0 n d hfull
      have hno := zbk_n0 hI (zha T n) (l := T.1 7 0 - 1) (by omega)
      have hUi : ∀ i, i ≠ 0 → i ≠ 3 → (zgr (zK1 T (zPP T (zha T n) n d)) (zfl T (zha T n)) (zlg (zPP T (zha T n) n d) 0 3) 6).1 i = T.1 i := fun i h1 h2 => by rw [zgr_i _ _ _ _ h2]; exact zK1_i h1 h2
      have hline := zline_in hI h0 (zha T n) (zlim (zPP T (zha T n) n d)) (zmrk (zPP T (zha T n) n d)) (zfr T) hUi
      have hrt := zRt_in hI ht (ix := zbk T (zha T n) (T.1 7 0 - 1)) (p := zr T (zbk T (zha T n) (T.1 7 0 - 1)) (zha T n) + 1) (zlim (zPP T (zha T n) n d)) (zmrk (zPP T (zha T n) n d)) (zfr T) b1 (by omega) (fun q => hno (by omega)) hUi
      have hfx : zfl T (zha T n) ≠ zfr T := fun e => by rw [e] at hfk; omega
      have c2 : (zK2 T (zPP T (zha T n) n d) (zfl T (zha T n)) (zbk T (zha T n) (T.1 7 0 - 1)) (zr T (zbk T (zha T n) (T.1 7 0 - 1)) (zha T n) + 1)).1 1 (zbk T (zha T n) (T.1 7 0 - 1)) = T.1 1 (zbk T (zha T n) (T.1 7 0 - 1)) + 1 := zK2_c
      have c2' : ∀ b, b ≠ zbk T (zha T n) (T.1 7 0 - 1) → (zK2 T (zPP T (zha T n) n d) (zfl T (zha T n)) (zbk T (zha T n) (T.1 7 0 - 1)) (zr T (zbk T (zha T n) (T.1 7 0 - 1)) (zha T n) + 1)).1 1 b = T.1 1 b := fun b hb => zK2_d hb
      have q0 : ∀ b, (zK2 T (zPP T (zha T n) n d) (zfl T (zha T n)) (zbk T (zha T n) (T.1 7 0 - 1)) (zr T (zbk T (zha T n) (T.1 7 0 - 1)) (zha T n) + 1)).1 0 b = if b = zfr T then 1 else T.1 0 b := fun b => by rw [zK2_0, zwT_v]
      have q7 : (zK2 T (zPP T (zha T n) n d) (zfl T (zha T n)) (zbk T (zha T n) (T.1 7 0 - 1)) (zr T (zbk T (zha T n) (T.1 7 0 - 1)) (zha T n) + 1)).1 7 = T.1 7 := zK2_7 (by omega)
      have hAv2 : zAv 2 (zK2 T (zPP T (zha T n) n d) (zfl T (zha T n)) (zbk T (zha T n) (T.1 7 0 - 1)) (zr T (zbk T (zha T n) (T.1 7 0 - 1)) (zha T n) + 1)) := zK2_av (by omega) hA
      have vn : ∀ k, (zK2 T (zPP T (zha T n) n d) (zfl T (zha T n)) (zbk T (zha T n) (T.1 7 0 - 1)) (zr T (zbk T (zha T n) (T.1 7 0 - 1)) (zha T n) + 1)).2 k = if zfl T (zha T n) * 6 ≤ k ∧ k < zfl T (zha T n) * 6 + 6 then (zlg (zPP T (zha T n) n d) 0 3 (k - zfl T (zha T n) * 6)).1 else if zfr T * 6 ≤ k ∧ k < zfr T * 6 + 6 then (zlg (zPP T (zha T n) n d) 3 7 (k - zfr T * 6)).1 else T.2 k := fun k => by
        unfold zK2
        rw [zIn_2, zgr_n]
        unfold zK1
        rw [zgr_n]
        rfl
      have vlo : ∀ i r, (i = 4 ∨ i = 5 ∨ i = 6) → r < 6 → zbk T (zha T n) (T.1 7 0 - 1) ≠ 0 → (zK2 T (zPP T (zha T n) n d) (zfl T (zha T n)) (zbk T (zha T n) (T.1 7 0 - 1)) (zr T (zbk T (zha T n) (T.1 7 0 - 1)) (zha T n) + 1)).1 i r = T.1 i r := fun i r hi hr hne => by
        unfold zK2
        rw [zIn_o (by omega) (by rw [hUi 1 (by omega) (by omega)]; omega) (by omega) (by omega), hUi i (by omega) (by omega)]
      have v00 : T.1 7 0 = 1 → (zK2 T (zPP T (zha T n) n d) (zfl T (zha T n)) 0 (zr T 0 (zha T n) + 1)).1 4 0 = T.1 4 0 ∧ (zK2 T (zPP T (zha T n) n d) (zfl T (zha T n)) 0 (zr T 0 (zha T n) + 1)).1 5 0 = T.1 5 0 := fun _ => by
        have h9 : zro (zK2 T (zPP T (zha T n) n d) (zfl T (zha T n)) 0 (zr T 0 (zha T n) + 1)) (0 * 6 + 0) = zro (zgr (zK1 T (zPP T (zha T n) n d)) (zfl T (zha T n)) (zlg (zPP T (zha T n) n d) 0 3) 6) (0 * 6 + 0) := by
          unfold zK2
          rw [zIn_r _ _ _ _ _ _ (show 0 ≠ zr T 0 (zha T n) + 1 by omega), if_neg (by omega)]
        obtain ⟨a, b, _⟩ := zro_s h9
        rw [hUi 4 (by omega) (by omega)] at a
        rw [hUi 5 (by omega) (by omega)] at b
        exact ⟨a, b⟩
      have e2 : zIn (zgr (zK1 T (zPP T (zha T n) n d)) (zfl T (zha T n)) (zlg (zPP T (zha T n) n d) 0 3) 6) (zbk T (zha T n) (T.1 7 0 - 1)) (zr T (zbk T (zha T n) (T.1 7 0 - 1)) (zha T n) + 1) (zlim (zPP T (zha T n) n d)) (zmrk (zPP T (zha T n) n d)) (zfr T) = zK2 T (zPP T (zha T n) n d) (zfl T (zha T n)) (zbk T (zha T n) (T.1 7 0 - 1)) (zr T (zbk T (zha T n) (T.1 7 0 - 1)) (zha T n) + 1) := rfl
      rw [e2] at hline hrt
      obtain ⟨A, B, L1, L2, L3⟩ := hline
      obtain ⟨sa, sb, sd, se, sf⟩ := hst
      have hfin : ∀ T' : zT, zLL T' = A ++ (zfr T, zlim (zPP T (zha T n) n d), zmrk (zPP T (zha T n) n d)) :: B → (∀ j, j ≠ 0 → T'.1 7 j = T.1 7 j) → (∀ k, T'.2 k ≠ 0 → T'.2 k = if zfl T (zha T n) * 6 ≤ k ∧ k < zfl T (zha T n) * 6 + 6 then (zlg (zPP T (zha T n) n d) 0 3 (k - zfl T (zha T n) * 6)).1 else if zfr T * 6 ≤ k ∧ k < zfr T * 6 + 6 then (zlg (zPP T (zha T n) n d) 3 7 (k - zfr T * 6)).1 else T.2 k) → zRt T' → zSo T' ∧ zRt T' ∧ zLe T' ∧ (zun T → (∀ k, k < 240 → T.2 k ≠ 0 → T.2 k ||| zSM ≠ n ||| zSM) → zun T') := fun T' y1 y2 y3 y4 => by
        have hin := zIns_of L1 y1 L3
        have hsrc : zSrc T T' (zPP T (zha T n) n d) (zfl T (zha T n)) (zfl T (zha T n)) (zfr T) := zSrc_of y3 (fun _ _ _ => rfl)
        have hsrc' := hsrc
        rw [← hpat] at hsrc'
        obtain ⟨o1, o2⟩ := zord_split hI hs hl hplt hin hsrc' hP7 hsrt hPon (zha_7 y2)
        exact ⟨o1, y4, o2, hunP T' _ hfx hsrc⟩
      generalize hix : zbk T (zha T n) (T.1 7 0 - 1) = ix at *
      generalize hV : zK2 T (zPP T (zha T n) n d) (zfl T (zha T n)) ix (zr T ix (zha T n) + 1) = V at *
      unfold zK6
      by_cases c5 : V.1 1 ix ≤ 5
      · rw [if_pos c5]
        exact hfin V L2 (fun j _ => by rw [q7]) (fun k _ => vn k) hrt
      · rw [if_neg c5]
        have c6 : V.1 1 ix = 6 := by omega
        rw [if_neg (by omega)] at hned
        have hz := zfr_lt hAv2
        have hzz := zfr_0 hz
        have hz0 : zfr V ≠ 0 := fun e => hAv2.2.1 (by rw [e] at hzz; exact hzz)
        by_cases i0 : ix = 0
        · rw [if_pos i0]
          subst i0
          have l1 : T.1 7 0 = 1 := by
            refine Decidable.byContradiction (fun q => ?_)
            exact hno (by omega) rfl
          have hA3 := zK3_av (ix := 0) hAv2
          have hw := zfr_lt hA3
          have hwz := zfr_0 hw
          have hw0 : zfr (zK3 V 0) ≠ 0 := fun e => hA3.2.1 (by rw [e] at hwz; exact hwz)
          have hzw : zfr V ≠ zfr (zK3 V 0) := Ne.symm (zfr_ne (c := 2) (by omega) (by rw [zK3_0, zwT_s]) hw)
          have hk0 : T.1 0 0 = 2 := by rw [zInv_k0 hI, if_neg h0]
          have hr0 := zInv_r2 hI (b := 0) (by omega) hk0 (zha T n)
          have hq0 := (zpos1 l1 (r := 0) (by omega)).1
          have s1 := hs.1
          have s2 := hs.2.1
          rw [hq0] at s1 s2
          have v0 := v00 l1
          rw [hV] at v0
          obtain ⟨n1, n2⟩ := zK4_line (V := V) (by rw [q7]; exact l1) c6 hz0 hw0 hzw ⟨v0.1.trans s1, v0.2.trans s2⟩
          refine hfin (zK4 V) (n1.trans L2) (fun j hj => ?_) (fun k hz' => ?_) n2
          · unfold zK4
            rw [zRz_7, if_neg hj, zCp_i _ _ _ _ (by omega) (by omega), zwT_i _ _ _ _ (by omega), zK3_i (by omega), q7]
          · have e9 : ∀ k, (zK4 V).2 k = if k < 6 then 0 else V.2 k := fun k => by
              unfold zK4
              rw [zRz_n, zCp_2, zwT_2]
              unfold zK3
              rw [zCp_2, zwT_2]
            have : ¬ k < 6 := fun c => by rw [e9, if_pos c] at hz'; exact hz' rfl
            rw [e9, if_neg this]
            exact vn k
        · rw [if_neg i0]
          have l2 : T.1 7 0 = 2 := by
            refine Decidable.byContradiction (fun q => i0 ?_)
            rw [← hix, show T.1 7 0 - 1 = 0 by omega]
            rfl
          rw [if_neg (by omega)] at hned
          have c0 : T.1 1 0 ≤ 4 := by
            refine Decidable.byContradiction (fun q => hn9 ?_)
            rw [hned, if_neg (by omega)]
          have hixx : ix ≠ zfr T := fun e => by rw [e] at b2; omega
          have hzi : ix ≠ zfr V := fun e => by rw [← e, q0, if_neg hixx] at hzz; omega
          obtain ⟨hr, eb, _, _⟩ := zpl_2 hI l2 (zha T n)
          have eix : T.1 6 (zr T 0 (zha T n)) = ix := by
            rw [← eb, ← hix, l2]
          obtain ⟨n1, n2⟩ := zK5_line (V := V) (ix := ix) (p := zr T 0 (zha T n)) (by rw [q7]; exact l2) i0 (by rw [c2' 0 (Ne.symm i0)]; exact hr) (by rw [vlo 6 _ (by omega) (by omega) i0]; exact eix) (by rw [c2' 0 (Ne.symm i0)]; omega) c6 hz0 hzi (fun b hb => (sb b hb).2.1) sd se (zSX_free sf hzz) hrt
          refine hfin (zK5 V ix (zr T 0 (zha T n) + 1)) (n1.trans L2) (fun j hj => ?_) (fun k hz' => ?_) n2
          · unfold zK5
            rw [zIn_i _ _ _ _ _ _ (by omega) (by omega), zwT_i _ _ _ _ (by omega), zK3_i (by omega), q7]
          · have e9 : (zK5 V ix (zr T 0 (zha T n) + 1)).2 = V.2 := by
              unfold zK5
              rw [zIn_2, zwT_2]
              unfold zK3
              rw [zCp_2, zwT_2]
            rw [e9]
            exact vn k
