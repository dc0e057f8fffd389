/-! what is built is a tree, and in order -/
theorem zgr_d3 (T : zT) (b : Nat) (g : Nat → Int64 × Nat) (k : Nat) : ∀ s, (zgr T b g s).1 3 k = if b * 6 ≤ k ∧ k < b * 6 + s then (g (k - b * 6)).2 else T.1 3 k := by
  intro s
  induction s with
  | zero => rw [if_neg (by omega)]; rfl
  | succ s ih =>
    show (zeT (zgr T b g s) (b * 6 + s) (g s).1 (g s).2).1 3 k = _
    by_cases e : k = b * 6 + s
    · subst e
      rw [zeT_s, if_pos (by omega), Nat.add_sub_cancel_left]
    · rw [zeT_k _ _ _ _ e, ih]
      by_cases c : b * 6 ≤ k ∧ k < b * 6 + s
      · rw [if_pos c, if_pos (by omega)]
      · rw [if_neg c, if_neg (by omega)]
def zbn (P : List zE) (p : Nat) : Int64 × Nat := zlg P (4 * (p / 6 - 1)) (min (4 * (p / 6 - 1) + 4) P.length) (p % 6)
theorem zlv_n (U : zT) (P : List zE) (p : Nat) : ∀ k, (zlv U P k).2 p = (if 6 ≤ p ∧ p < 6 * (k + 1) then (zbn P p).1 else U.2 p) ∧ (zlv U P k).1 3 p = (if 6 ≤ p ∧ p < 6 * (k + 1) then (zbn P p).2 else U.1 3 p) := by
  intro k
  induction k with
  | zero => rw [if_neg (by omega), if_neg (by omega)]; exact ⟨rfl, rfl⟩
  | succ k ih =>
    show (zgr (zwT (zlv U P k) 0 (1 + k) 1) (1 + k) (zlg P (4 * k) (min (4 * k + 4) P.length)) 6).2 p = _ ∧ (zgr (zwT (zlv U P k) 0 (1 + k) 1) (1 + k) (zlg P (4 * k) (min (4 * k + 4) P.length)) 6).1 3 p = _
    rw [zgr_n, zgr_d3, zwT_2, zwT_i _ _ _ _ (show 3 ≠ 0 by omega)]
    by_cases c : (1 + k) * 6 ≤ p ∧ p < (1 + k) * 6 + 6
    · have e1 : p / 6 - 1 = k := by omega
      have e2 : p % 6 = p - (1 + k) * 6 := by omega
      rw [if_pos c, if_pos c, if_pos (by omega), if_pos (by omega)]
      unfold zbn
      rw [e1, e2]
      exact ⟨rfl, rfl⟩
    · rw [if_neg c, if_neg c, ih.1, ih.2]
      by_cases d : 6 ≤ p ∧ p < 6 * (k + 1)
      · rw [if_pos d, if_pos d, if_pos (by omega), if_pos (by omega)]
        exact ⟨rfl, rfl⟩
      · rw [if_neg d, if_neg d, if_neg (by omega), if_neg (by omega)]
        exact ⟨rfl, rfl⟩
theorem zlv_0 (U : zT) (P : List zE) (b : Nat) : ∀ k, (zlv U P k).1 0 b = if 1 ≤ b ∧ b ≤ k then 1 else U.1 0 b := by
  intro k
  induction k with
  | zero => rw [if_neg (by omega)]; rfl
  | succ k ih =>
    show (zgr (zwT (zlv U P k) 0 (1 + k) 1) (1 + k) (zlg P (4 * k) (min (4 * k + 4) P.length)) 6).1 0 b = _
    rw [zgr_i _ _ _ _ (by omega), zwT_v, ih]
    by_cases c : b = 1 + k
    · rw [if_pos c, if_pos (by omega)]
    · rw [if_neg c]
      by_cases d : 1 ≤ b ∧ b ≤ k
      · rw [if_pos d, if_pos (by omega)]
      · rw [if_neg d, if_neg (by omega)]
theorem zbn_at {P : List zE} {k : Nat} (h : (zbn P k).1 ≠ 0) (hk : 6 ≤ k) : k % 6 < 4 ∧ 4 * (k / 6 - 1) + k % 6 < P.length ∧ (zbn P k).1 = (P.getD (4 * (k / 6 - 1) + k % 6) (0, 0, 0)).2.1 ∧ (zbn P k).2 = (P.getD (4 * (k / 6 - 1) + k % 6) (0, 0, 0)).2.2 := by
  unfold zbn zlg at h ⊢
  by_cases c : 4 * (k / 6 - 1) + k % 6 < min (4 * (k / 6 - 1) + 4) P.length
  · rw [if_pos c]
    exact ⟨by omega, by omega, rfl, rfl⟩
  · rw [if_neg c] at h
    exact absurd rfl h
theorem zli_lt {P : List zE} (hl : ∀ x, x ∈ P → x.1 < 4096) {k : Nat} (h : 4 * k < P.length) : zli P k < 4096 := by
  unfold zli
  split
  · omega
  · exact hl _ (zmemD h)
theorem zmk_le (P : List zE) (k : Nat) : zmk P k ≤ 1 := by unfold zmk; split <;> omega
theorem zinvB {V : zT} {P : List zE} {L : Nat} (h1 : 2 ≤ L) (h2 : L ≤ 5) (hL : L = zgs P.length) (hl : ∀ x, x ∈ P → x.1 < 4096) (k0 : ∀ b, V.1 0 b = if b = 0 then 2 else if b ≤ L then 1 else 0) (k1 : ∀ b, V.1 1 b = if b = 0 then L else 0) (k2 : ∀ b, V.1 2 b = 0) (k4 : ∀ r, r < L → V.1 4 r = zli P r ∧ V.1 5 r = zmk P r ∧ V.1 6 r = 1 + r) (h7 : V.1 7 0 = 1) (hA : 1 ≤ V.1 7 1 ∧ V.1 7 1 ≤ 12 ∧ V.1 7 2 < 65536 ∧ V.1 7 3 < 2) (hC : zSC V) : zInv V := by
  have hgs : zgs P.length = (P.length + 3) / 4 := rfl
  have hb0 : ∀ b r, r < V.1 1 b → b = 0 ∧ r < L := fun b r hr => by
    rw [k1] at hr
    by_cases e : b = 0
    · rw [if_pos e] at hr; exact ⟨e, hr⟩
    · rw [if_neg e] at hr; omega
  refine zInv_of ⟨by omega, hA⟩ (fun b hb => ?_) hC (fun b r hb hr => ?_) (fun b r b' r' hb hb' hr hr' e => ?_) ⟨?_, ?_, ?_, ?_⟩ (fun b hb hb0' _ hk => ?_)
  · rw [k0, k1, k2]
    by_cases e : b = 0
    · rw [if_pos e, if_pos e]; omega
    · rw [if_neg e, if_neg e]
      by_cases f : b ≤ L
      · rw [if_pos f]; omega
      · rw [if_neg f]; omega
  · obtain ⟨e, hr'⟩ := hb0 b r hr
    subst e
    unfold zDj
    rw [show 0 * 6 + r = r by omega, (k4 r hr').1, (k4 r hr').2.1, (k4 r hr').2.2]
    exact ⟨zli_lt hl (by omega), zmk_le P r, by omega, by omega⟩
  · obtain ⟨e1, q1⟩ := hb0 b r hr
    obtain ⟨e2, q2⟩ := hb0 b' r' hr'
    subst e1
    subst e2
    rw [show 0 * 6 + r = r by omega, show 0 * 6 + r' = r' by omega, (k4 r q1).2.2, (k4 r' q2).2.2] at e
    exact ⟨rfl, by omega⟩
  · rw [k0, if_pos rfl, h7]; rfl
  · intro b hb hne _
    rw [k0, if_neg hne]
    split <;> omega
  · intro r hr
    obtain ⟨_, q⟩ := hb0 0 r hr
    rw [(k4 r q).2.2, k0, if_neg (by omega), if_pos (by omega), h7]
    rfl
  · intro b r hb hne hr
    exact absurd (hb0 b r hr).1 hne
  · rw [k0, if_neg hb0'] at hk
    by_cases f : b ≤ L
    · refine ⟨0, b - 1, by omega, by rw [k1, if_pos rfl]; omega, ?_⟩
      rw [show 0 * 6 + (b - 1) = b - 1 by omega, (k4 (b - 1) (by omega)).2.2]
      omega
    · rw [if_neg f] at hk; exact absurd rfl hk
theorem zinvC {V : zT} {P : List zE} {L G : Nat} (h1 : 6 ≤ L) (h2 : L ≤ 20) (hL : L = zgs P.length) (hG : G = (L + 3) / 4) (hl : ∀ x, x ∈ P → x.1 < 4096) (k0 : ∀ b, V.1 0 b = if b = 0 then 2 else if b ≤ L then 1 else if b < 1 + L + G then 2 else 0) (k1 : ∀ b, V.1 1 b = if b = 0 then G else if L < b ∧ b < 1 + L + G then min 4 (L - 4 * (b - 1 - L)) else 0) (k2 : ∀ b, V.1 2 b = 0) (kr : ∀ r, r < G → V.1 4 r = zli P (4 * r) ∧ V.1 5 r = zmk P (4 * r) ∧ V.1 6 r = 1 + L + r) (ki : ∀ g r, r < 4 → 4 * g + r < L → V.1 4 ((1 + L + g) * 6 + r) = zli P (4 * g + r) ∧ V.1 5 ((1 + L + g) * 6 + r) = zmk P (4 * g + r) ∧ V.1 6 ((1 + L + g) * 6 + r) = 1 + (4 * g + r)) (h7 : V.1 7 0 = 2) (hA : 1 ≤ V.1 7 1 ∧ V.1 7 1 ≤ 12 ∧ V.1 7 2 < 65536 ∧ V.1 7 3 < 2) (hC : zSC V) : zInv V := by
  have hgs : zgs P.length = (P.length + 3) / 4 := rfl
  have hbr : ∀ b r, r < V.1 1 b → (b = 0 ∧ r < G) ∨ (∃ g, b = 1 + L + g ∧ g < G ∧ r < 4 ∧ 4 * g + r < L) := fun b r hr => by
    rw [k1] at hr
    by_cases e : b = 0
    · rw [if_pos e] at hr; exact Or.inl ⟨e, hr⟩
    · rw [if_neg e] at hr
      by_cases f : L < b ∧ b < 1 + L + G
      · rw [if_pos f] at hr
        exact Or.inr ⟨b - 1 - L, by omega, by omega, by omega, by omega⟩
      · rw [if_neg f] at hr; omega
  refine zInv_of ⟨by omega, hA⟩ (fun b hb => ?_) hC (fun b r hb hr => ?_) (fun b r b' r' hb hb' hr hr' e => ?_) ⟨?_, ?_, ?_, ?_⟩ (fun b hb hb0' _ hk => ?_)
  · rw [k0, k1, k2]
    by_cases e : b = 0
    · rw [if_pos e, if_pos e]; omega
    · rw [if_neg e, if_neg e]
      by_cases f : b ≤ L
      · rw [if_pos f, if_neg (by omega)]; omega
      · rw [if_neg f]
        by_cases g : b < 1 + L + G
        · rw [if_pos g, if_pos (by omega)]; omega
        · rw [if_neg g, if_neg (by omega)]; omega
  · unfold zDj
    rcases hbr b r hr with ⟨e, q⟩ | ⟨g, e, q1, q2, q3⟩
    · subst e
      rw [show 0 * 6 + r = r by omega, (kr r q).1, (kr r q).2.1, (kr r q).2.2]
      exact ⟨zli_lt hl (by omega), zmk_le P _, by omega, by omega⟩
    · subst e
      rw [(ki g r q2 q3).1, (ki g r q2 q3).2.1, (ki g r q2 q3).2.2]
      exact ⟨zli_lt hl (by omega), zmk_le P _, by omega, by omega⟩
  · rcases hbr b r hr with ⟨e1, q⟩ | ⟨g, e1, q1, q2, q3⟩ <;> rcases hbr b' r' hr' with ⟨e2, p⟩ | ⟨g', e2, p1, p2, p3⟩ <;> subst e1 <;> subst e2
    · rw [show 0 * 6 + r = r by omega, show 0 * 6 + r' = r' by omega, (kr r q).2.2, (kr r' p).2.2] at e
      exact ⟨rfl, by omega⟩
    · rw [show 0 * 6 + r = r by omega, (kr r q).2.2, (ki g' r' p2 p3).2.2] at e
      omega
    · rw [show 0 * 6 + r' = r' by omega, (kr r' p).2.2, (ki g r q2 q3).2.2] at e
      omega
    · rw [(ki g r q2 q3).2.2, (ki g' r' p2 p3).2.2] at e
      exact ⟨by omega, by omega⟩
  · rw [k0, if_pos rfl, h7]; rfl
  · intro b hb hne hq; exact absurd h7 hq
  · intro r hr
    rcases hbr 0 r hr with ⟨_, q⟩ | ⟨g, e, _⟩
    · rw [(kr r q).2.2, k0, if_neg (by omega), if_neg (by omega), if_pos (by omega), h7]
      rfl
    · omega
  · intro b r hb hne hr
    rcases hbr b r hr with ⟨e, q⟩ | ⟨g, e, q1, q2, q3⟩
    · exact absurd e hne
    · subst e
      rw [(ki g r q2 q3).2.2, k0, if_neg (by omega), if_pos (by omega)]
  · rw [k0, if_neg hb0'] at hk
    by_cases f : b ≤ L
    · refine ⟨1 + L + (b - 1) / 4, (b - 1) % 4, by omega, ?_, ?_⟩
      · rw [k1, if_neg (by omega), if_pos (by omega)]; omega
      · rw [(ki ((b - 1) / 4) ((b - 1) % 4) (by omega) (by omega)).2.2]; omega
    · rw [if_neg f] at hk
      by_cases g : b < 1 + L + G
      · refine ⟨0, b - 1 - L, by omega, by rw [k1, if_pos rfl]; omega, ?_⟩
        rw [show 0 * 6 + (b - 1 - L) = b - 1 - L by omega, (kr (b - 1 - L) (by omega)).2.2]
        omega
      · rw [if_neg g] at hk; exact absurd rfl hk
/-- where the entries of what is built come from -/
def zbS (V : zT) (P : List zE) (L : Nat) : Prop := ∀ k, k < 240 → V.2 k ≠ 0 → 6 ≤ k ∧ k / 6 - 1 < L ∧ k % 6 < 4 ∧ 4 * (k / 6 - 1) + k % 6 < P.length ∧ V.2 k = (P.getD (4 * (k / 6 - 1) + k % 6) (0, 0, 0)).2.1
theorem zordB {V : zT} {P : List zE} {L : Nat} (h1 : 1 ≤ L) (hL : L = zgs P.length) (hn : zln V = L) (hq : ∀ j, j < L → zlq V j = (1 + j, zli P j, zmk P j)) (hsrt : P.Pairwise zle2) (hPh : ∀ x, x ∈ P → x.1 = zha V x.2.1) (hS : zbS V P L) : zSo V ∧ zLe V := by
  have hgs : zgs P.length = (P.length + 3) / 4 := rfl
  have g : ∀ i j, i ≤ j → j < P.length → (P.getD i (0, 0, 0)).1 ≤ (P.getD j (0, 0, 0)).1 := fun i j hij hj => by
    by_cases e : i = j
    · rw [e]; exact Nat.le_refl _
    · exact (zsrt_at hsrt (by omega) hj).1
  have glo : ∀ j s, 4 * j + s < P.length → zli P j ≤ (P.getD (4 * j + s) (0, 0, 0)).1 := fun j s hs => by
    unfold zli
    split
    · omega
    · exact g (4 * j) (4 * j + s) (by omega) hs
  have ghi : ∀ j h, j + 1 < L → h ≤ (P.getD (4 * j + 3) (0, 0, 0)).1 → h < (zlq V (j + 1)).2.1 ∨ (h = (zlq V (j + 1)).2.1 ∧ (zlq V (j + 1)).2.2 = 1) := fun j h hj hh => by
    rw [hq (j + 1) hj]
    show h < zli P (j + 1) ∨ (h = zli P (j + 1) ∧ zmk P (j + 1) = 1)
    have e1 : zli P (j + 1) = (P.getD (4 * (j + 1)) (0, 0, 0)).1 := if_neg (by omega)
    have g1 := g (4 * j + 3) (4 * (j + 1)) (by omega) (by omega)
    by_cases e : h = zli P (j + 1)
    · refine Or.inr ⟨e, ?_⟩
      unfold zmk
      rw [if_pos ⟨by omega, by rw [show 4 * (j + 1) - 1 = 4 * j + 3 by omega]; omega⟩]
    · left; omega
  refine ⟨⟨?_, ?_, fun p hp => ?_⟩, fun k hk hz => ?_⟩
  · rw [hq 0 (by omega)]; rfl
  · rw [hq 0 (by omega)]; rfl
  · rw [hn] at hp
    rw [hq p (by omega)]
    exact ghi p _ hp (glo p 3 (by omega))
  · obtain ⟨a1, a2, a3, a4, a5⟩ := hS k hk hz
    rw [a5, ← hPh _ (zmemD a4)]
    refine ⟨k / 6 - 1, by omega, ?_, ?_, fun q => ?_⟩
    · rw [hq _ a2]
      show 1 + (k / 6 - 1) = k / 6
      omega
    · rw [hq _ a2]
      exact glo _ _ a4
    · rw [hn] at q
      exact ghi _ _ q (g _ _ (by omega) (by omega))
theorem zunB {V : zT} {P : List zE} {L : Nat} (hS : zbS V P L) (hnd : (P.map (fun x => x.2.1 ||| zSM)).Nodup) : zun V := by
  rw [znd_iff] at hnd
  have hw : ∀ i j, i < 240 → j < 240 → i < j → V.2 i ≠ 0 → V.2 j ≠ 0 → V.2 i ||| zSM ≠ V.2 j ||| zSM := fun i j hi hj hij zi zj => by
    obtain ⟨a1, a2, a3, a4, a5⟩ := hS i hi zi
    obtain ⟨b1, b2, b3, b4, b5⟩ := hS j hj zj
    rw [a5, b5]
    exact hnd _ _ (by omega) b4
  intro i j hi hj hij zi zj
  by_cases c : i < j
  · exact hw i j hi hj c zi zj
  · exact fun e => hw j i hj hi (by omega) zj zi e.symm
theorem zlineB {V : zT} {P : List zE} {L : Nat} (h7 : V.1 7 0 = 1) (k1 : V.1 1 0 = L) (k4 : ∀ r, r < L → V.1 4 r = zli P r ∧ V.1 5 r = zmk P r ∧ V.1 6 r = 1 + r) : zln V = L ∧ ∀ j, j < L → zlq V j = (1 + j, zli P j, zmk P j) := by
  refine ⟨by rw [zln_1 h7, k1], fun j hj => ?_⟩
  rw [(zpos1 h7 (by rw [k1]; exact hj)).1, show 0 * 6 + j = j by omega, (k4 j hj).1, (k4 j hj).2.1, (k4 j hj).2.2]
theorem zlineC {V : zT} {P : List zE} {L G : Nat} (h1 : 6 ≤ L) (hG : G = (L + 3) / 4) (h7 : V.1 7 0 = 2) (k1 : ∀ b, V.1 1 b = if b = 0 then G else if L < b ∧ b < 1 + L + G then min 4 (L - 4 * (b - 1 - L)) else 0) (kr : ∀ r, r < G → V.1 4 r = zli P (4 * r) ∧ V.1 5 r = zmk P (4 * r) ∧ V.1 6 r = 1 + L + r) (ki : ∀ g r, r < 4 → 4 * g + r < L → V.1 4 ((1 + L + g) * 6 + r) = zli P (4 * g + r) ∧ V.1 5 ((1 + L + g) * 6 + r) = zmk P (4 * g + r) ∧ V.1 6 ((1 + L + g) * 6 + r) = 1 + (4 * g + r)) : (zln V = L ∧ ∀ j, j < L → zlq V j = (1 + j, zli P j, zmk P j)) ∧ zRt V := by
  have c0 : V.1 1 0 = G := by rw [k1, if_pos rfl]
  have cg : ∀ g, g < G → V.1 1 (V.1 6 g) = min 4 (L - 4 * g) := fun g hg => by
    rw [(kr g hg).2.2, k1, if_neg (by omega), if_pos (by omega), show 1 + L + g - 1 - L = g by omega]
  have hlen : ∀ g, g ≤ G → (zQ V g).length = min (4 * g) L := by
    intro g
    induction g with
    | zero => intro _; show 0 = _; omega
    | succ g ih =>
      intro hg
      rw [zQ_sl, ih (by omega), cg g (by omega)]
      omega
  refine ⟨⟨by rw [zln_2 h7, c0, hlen G (Nat.le_refl G)]; omega, fun j hj => ?_⟩, ?_⟩
  · have hp := (zpos2 h7 (r := j / 4) (s := j % 4) (by rw [c0]; omega) (by rw [cg _ (by omega)]; omega)).1
    have hk := ki (j / 4) (j % 4) (by omega) (by omega)
    rw [hlen _ (by omega), (kr (j / 4) (by omega)).2.2, hk.1, hk.2.1, hk.2.2, show min (4 * (j / 4)) L + j % 4 = j by omega, show 4 * (j / 4) + j % 4 = j by omega] at hp
    exact hp
  · intro _ r hr
    rw [c0] at hr
    have hk := ki r 0 (by omega) (by omega)
    rw [(kr r hr).1, (kr r hr).2.1, (kr r hr).2.2]
    exact ⟨hk.1.symm, hk.2.1.symm⟩
theorem zbu_all {T : zT} {P : List zE} (hA : 1 ≤ T.1 7 1 ∧ T.1 7 1 ≤ 12 ∧ T.1 7 2 < 65536 ∧ T.1 7 3 < 2) (h80 : P.length ≤ 80) (hl : ∀ x, x ∈ P → x.1 < 4096) (hv : ∀ x, x ∈ P → zval x.2.1 ∧ x.2.2 ≤ 999) (hPh : ∀ x, x ∈ P → x.1 = zha T x.2.1) (hsrt : P.Pairwise zle2) : zInv (zbu T P) ∧ zSo (zbu T P) ∧ zRt (zbu T P) ∧ zLe (zbu T P) ∧ ((P.map (fun x => x.2.1 ||| zSM)).Nodup → zun (zbu T P)) ∧ (∀ j, j ≠ 0 → (zbu T P).1 7 j = T.1 7 j) := by
  have hgs : zgs P.length = (P.length + 3) / 4 := rfl
  have f0 : ∀ b, (zFre T).1 0 b = 0 := fun _ => rfl
  have f1 : ∀ b, (zFre T).1 1 b = 0 := fun _ => rfl
  have f2 : ∀ b, (zFre T).1 2 b = 0 := fun _ => rfl
  have f7 : ∀ b, (zFre T).1 7 b = T.1 7 b := fun _ => rfl
  have fn : ∀ k, (zFre T).2 k = 0 := fun _ => rfl
  unfold zbu
  by_cases c1 : zgs P.length ≤ 1
  · rw [if_pos c1]
    have vi : ∀ i, i ≠ 3 → (zgr (zwT (zwT (zFre T) 7 0 0) 0 0 1) 0 (zlg P 0 P.length) 6).1 i = (zwT (zwT (zFre T) 7 0 0) 0 0 1).1 i := fun i hi => zgr_i _ _ _ _ hi
    have vn : ∀ k, (zgr (zwT (zwT (zFre T) 7 0 0) 0 0 1) 0 (zlg P 0 P.length) 6).2 k = if 0 * 6 ≤ k ∧ k < 0 * 6 + 6 then (zlg P 0 P.length (k - 0 * 6)).1 else 0 := fun k => zgr_n _ _ _ _ _
    have v3 : ∀ k, (zgr (zwT (zwT (zFre T) 7 0 0) 0 0 1) 0 (zlg P 0 P.length) 6).1 3 k = if 0 * 6 ≤ k ∧ k < 0 * 6 + 6 then (zlg P 0 P.length (k - 0 * 6)).2 else (zwT (zwT (zFre T) 7 0 0) 0 0 1).1 3 k := fun k => zgr_d3 _ _ _ _ _
    have k0 : ∀ b, (zwT (zwT (zFre T) 7 0 0) 0 0 1).1 0 b = if b = 0 then 1 else 0 := fun b => by rw [zwT_v, zwT_i _ _ _ _ (by omega), f0]
    have k1 : ∀ b, (zwT (zwT (zFre T) 7 0 0) 0 0 1).1 1 b = 0 := fun b => by rw [zwT_i _ _ _ _ (by omega), zwT_i _ _ _ _ (by omega), f1]
    have k2 : ∀ b, (zwT (zwT (zFre T) 7 0 0) 0 0 1).1 2 b = 0 := fun b => by rw [zwT_i _ _ _ _ (by omega), zwT_i _ _ _ _ (by omega), f2]
    have k7 : ∀ b, (zwT (zwT (zFre T) 7 0 0) 0 0 1).1 7 b = if b = 0 then 0 else T.1 7 b := fun b => by rw [zwT_i _ _ _ _ (by omega), zwT_v, f7]
    generalize zwT (zwT (zFre T) 7 0 0) 0 0 1 = W at *
    generalize zgr W 0 (zlg P 0 P.length) 6 = V at *
    have hsrc : ∀ k, V.2 k ≠ 0 → k < 6 ∧ k < P.length ∧ V.2 k = (P.getD k (0, 0, 0)).2.1 ∧ V.1 3 k = (P.getD k (0, 0, 0)).2.2 := fun k hz => by
      rw [vn] at hz
      by_cases c : 0 * 6 ≤ k ∧ k < 0 * 6 + 6
      · rw [if_pos c] at hz
        rw [vn, v3, if_pos c, if_pos c]
        unfold zlg at hz ⊢
        rw [show 0 + (k - 0 * 6) = k by omega] at hz ⊢
        by_cases d : k < P.length
        · rw [if_pos d]; exact ⟨by omega, d, rfl, rfl⟩
        · rw [if_neg d] at hz; exact absurd rfl hz
      · rw [if_neg c] at hz; exact absurd rfl hz
    have e7 : V.1 7 0 = 0 := by rw [vi 7 (by omega), k7, if_pos rfl]
    have e7' : ∀ j, j ≠ 0 → V.1 7 j = T.1 7 j := fun j hj => by rw [vi 7 (by omega), k7, if_neg hj]
    have hn1 : zln V = 1 := by unfold zln; rw [zLL_0 e7]; rfl
    have hz0 : zlq V 0 = (0, 0, 0) := by unfold zlq; rw [zLL_0 e7]; rfl
    refine ⟨zInv_of ⟨by omega, by rw [e7' 1 (by omega), e7' 2 (by omega), e7' 3 (by omega)]; exact hA⟩ (fun b hb => ?_) (fun k hk hz => ?_) (fun b r hb hr => ?_) (fun b r b' r' hb hb' hr hr' e => ?_) ⟨?_, ?_, ?_, ?_⟩ (fun b hb hb0' _ hk => ?_), ⟨by rw [hz0], by rw [hz0], fun p hp => by omega⟩, fun q => by omega, fun k hk hz => ?_, fun hnd i j hi hj hij zi zj => ?_, e7'⟩
    · rw [vi 0 (by omega), vi 1 (by omega), vi 2 (by omega), k0, k1, k2]
      split <;> omega
    · obtain ⟨a1, a2, a3, a4⟩ := hsrc k hz
      rw [a3, a4, vi 0 (by omega), k0, if_pos (by omega)]
      exact ⟨(hv _ (zmemD a2)).1, (hv _ (zmemD a2)).2, rfl⟩
    · rw [vi 1 (by omega), k1] at hr; omega
    · rw [vi 1 (by omega), k1] at hr; omega
    · rw [vi 0 (by omega), k0, if_pos rfl, e7]; rfl
    · intro b hb hne _
      rw [vi 0 (by omega), k0, if_neg hne]; omega
    · intro r hr; rw [vi 1 (by omega), k1] at hr; omega
    · intro b r hb hne hr; rw [vi 1 (by omega), k1] at hr; omega
    · rw [vi 0 (by omega), k0, if_neg hb0'] at hk; exact absurd rfl hk
    · obtain ⟨a1, _⟩ := hsrc k hz
      refine ⟨0, by omega, by rw [hz0]; show 0 = k / 6; omega, by rw [hz0]; exact Nat.zero_le _, fun p => by omega⟩
    · rw [znd_iff] at hnd
      obtain ⟨a1, a2, a3, _⟩ := hsrc i zi
      obtain ⟨b1, b2, b3, _⟩ := hsrc j zj
      rw [a3, b3]
      by_cases c : i < j
      · exact hnd i j c b2
      · exact fun e => hnd j i (by omega) a2 e.symm
  · rw [if_neg c1]
    have hLe : zgs P.length ≤ 20 := by omega
    have hLn := fun k => zlv_n (zFre T) P k (zgs P.length)
    have hL0 := fun b => zlv_0 (zFre T) P b (zgs P.length)
    have hLi : ∀ i, i ≠ 0 → i ≠ 3 → (zlv (zFre T) P (zgs P.length)).1 i = (zFre T).1 i := fun i h1 h2 => zlv_i _ _ _ h1 h2
    generalize zlv (zFre T) P (zgs P.length) = W at *
    have hcom : ∀ V : zT, V.2 = W.2 → V.1 3 = W.1 3 → (∀ b, 1 ≤ b → b ≤ zgs P.length → V.1 0 b = 1) → zSC V ∧ zbS V P (zgs P.length) := fun V e2 e3 e0 => by
      have hsrc : ∀ k, V.2 k ≠ 0 → 6 ≤ k ∧ k < 6 * (zgs P.length + 1) ∧ V.2 k = (zbn P k).1 ∧ V.1 3 k = (zbn P k).2 := fun k hz => by
        rw [e2, (hLn k).1] at hz
        by_cases c : 6 ≤ k ∧ k < 6 * (zgs P.length + 1)
        · rw [e2, e3, (hLn k).1, (hLn k).2, if_pos c, if_pos c]
          exact ⟨c.1, c.2, rfl, rfl⟩
        · rw [if_neg c] at hz; exact absurd rfl hz
      refine ⟨fun k hk hz => ?_, fun k hk hz => ?_⟩
      · obtain ⟨a1, a2, a3, a4⟩ := hsrc k hz
        rw [a3] at hz
        obtain ⟨b1, b2, b3, b4⟩ := zbn_at hz a1
        rw [a3, a4, b3, b4]
        exact ⟨(hv _ (zmemD b2)).1, (hv _ (zmemD b2)).2, e0 _ (by omega) (by omega)⟩
      · obtain ⟨a1, a2, a3, a4⟩ := hsrc k hz
        rw [a3] at hz
        obtain ⟨b1, b2, b3, b4⟩ := zbn_at hz a1
        exact ⟨a1, by omega, b1, b2, by rw [a3, b3]⟩
    by_cases c5 : zgs P.length ≤ 5
    · rw [if_pos c5]
      have u0 : ∀ b, (zwT (zwT W 0 0 2) 7 0 1).1 0 b = if b = 0 then 2 else if b ≤ zgs P.length then 1 else 0 := fun b => by
        rw [zwT_i _ _ _ _ (by omega), zwT_v, hL0]
        by_cases e : b = 0
        · rw [if_pos e, if_pos e]
        · rw [if_neg e, if_neg e]
          by_cases f : b ≤ zgs P.length
          · rw [if_pos f, if_pos (by omega)]
          · rw [if_neg f, if_neg (by omega)]; rfl
      have u1 : ∀ b, (zwT (zwT W 0 0 2) 7 0 1).1 1 b = 0 := fun b => by rw [zwT_i _ _ _ _ (by omega), zwT_i _ _ _ _ (by omega), hLi 1 (by omega) (by omega)]; rfl
      have u2 : ∀ b, (zwT (zwT W 0 0 2) 7 0 1).1 2 b = 0 := fun b => by rw [zwT_i _ _ _ _ (by omega), zwT_i _ _ _ _ (by omega), hLi 2 (by omega) (by omega)]; rfl
      have u7 : ∀ b, (zwT (zwT W 0 0 2) 7 0 1).1 7 b = if b = 0 then 1 else T.1 7 b := fun b => by rw [zwT_v, zwT_i _ _ _ _ (by omega), hLi 7 (by omega) (by omega)]; rfl
      have u3 : (zwT (zwT W 0 0 2) 7 0 1).1 3 = W.1 3 := by rw [zwT_i _ _ _ _ (by omega), zwT_i _ _ _ _ (by omega)]
      have un : (zwT (zwT W 0 0 2) 7 0 1).2 = W.2 := rfl
      generalize zwT (zwT W 0 0 2) 7 0 1 = U at *
      have v0 : ∀ b, (zwT (zrs 0 0 P (zgs P.length) U) 1 0 (zgs P.length)).1 0 b = if b = 0 then 2 else if b ≤ zgs P.length then 1 else 0 := fun b => by rw [zwT_i _ _ _ _ (by omega), zrs_i _ _ _ _ _ (by omega)]; exact u0 b
      have v1 : ∀ b, (zwT (zrs 0 0 P (zgs P.length) U) 1 0 (zgs P.length)).1 1 b = if b = 0 then zgs P.length else 0 := fun b => by rw [zwT_v, zrs_i _ _ _ _ _ (by omega), u1]
      have v2 : ∀ b, (zwT (zrs 0 0 P (zgs P.length) U) 1 0 (zgs P.length)).1 2 b = 0 := fun b => by rw [zwT_i _ _ _ _ (by omega), zrs_i _ _ _ _ _ (by omega)]; exact u2 b
      have v7 : ∀ b, (zwT (zrs 0 0 P (zgs P.length) U) 1 0 (zgs P.length)).1 7 b = if b = 0 then 1 else T.1 7 b := fun b => by rw [zwT_i _ _ _ _ (by omega), zrs_i _ _ _ _ _ (by omega)]; exact u7 b
      have v3 : (zwT (zrs 0 0 P (zgs P.length) U) 1 0 (zgs P.length)).1 3 = W.1 3 := by rw [zwT_i _ _ _ _ (by omega), zrs_i _ _ _ _ _ (by omega)]; exact u3
      have vn : (zwT (zrs 0 0 P (zgs P.length) U) 1 0 (zgs P.length)).2 = W.2 := by rw [zwT_2, zrs_2]; exact un
      have v4 : ∀ r, r < zgs P.length → (zwT (zrs 0 0 P (zgs P.length) U) 1 0 (zgs P.length)).1 4 r = zli P r ∧ (zwT (zrs 0 0 P (zgs P.length) U) 1 0 (zgs P.length)).1 5 r = zmk P r ∧ (zwT (zrs 0 0 P (zgs P.length) U) 1 0 (zgs P.length)).1 6 r = 1 + r := fun r hr => by
        rw [zwT_i _ _ _ _ (by omega), zwT_i _ _ _ _ (by omega), zwT_i _ _ _ _ (by omega), zrs_v4, zrs_v5, zrs_v6, if_pos (by omega), if_pos (by omega), if_pos (by omega), show 0 + (r - 0 * 6) = r by omega]
        exact ⟨rfl, rfl, rfl⟩
      generalize zwT (zrs 0 0 P (zgs P.length) U) 1 0 (zgs P.length) = V at *
      obtain ⟨hC, hS⟩ := hcom V vn v3 (fun b h1 h2 => by rw [v0, if_neg (by omega), if_pos h2])
      have e7' : ∀ j, j ≠ 0 → V.1 7 j = T.1 7 j := fun j hj => by rw [v7, if_neg hj]
      have hI := zinvB (V := V) (by omega) c5 rfl hl v0 v1 v2 v4 (by rw [v7, if_pos rfl]) (by rw [e7' 1 (by omega), e7' 2 (by omega), e7' 3 (by omega)]; exact hA) hC
      obtain ⟨l1, l2⟩ := zlineB (V := V) (P := P) (by rw [v7, if_pos rfl]) (by rw [v1, if_pos rfl]) v4
      obtain ⟨o1, o2⟩ := zordB (V := V) (by omega) rfl l1 l2 hsrt (fun x hx => by rw [zha_7 e7']; exact hPh x hx) hS
      exact ⟨hI, o1, fun q => by rw [v7, if_pos rfl] at q; omega, o2, zunB hS, e7'⟩
    · rw [if_neg c5]
      have u0 : ∀ b, (zwT (zwT W 0 0 2) 7 0 2).1 0 b = if b = 0 then 2 else if b ≤ zgs P.length then 1 else 0 := fun b => by
        rw [zwT_i _ _ _ _ (by omega), zwT_v, hL0]
        by_cases e : b = 0
        · rw [if_pos e, if_pos e]
        · rw [if_neg e, if_neg e]
          by_cases f : b ≤ zgs P.length
          · rw [if_pos f, if_pos (by omega)]
          · rw [if_neg f, if_neg (by omega)]; rfl
      have u1 : ∀ b, (zwT (zwT W 0 0 2) 7 0 2).1 1 b = 0 := fun b => by rw [zwT_i _ _ _ _ (by omega), zwT_i _ _ _ _ (by omega), hLi 1 (by omega) (by omega)]; rfl
      have u2 : ∀ b, (zwT (zwT W 0 0 2) 7 0 2).1 2 b = 0 := fun b => by rw [zwT_i _ _ _ _ (by omega), zwT_i _ _ _ _ (by omega), hLi 2 (by omega) (by omega)]; rfl
      have u7 : ∀ b, (zwT (zwT W 0 0 2) 7 0 2).1 7 b = if b = 0 then 2 else T.1 7 b := fun b => by rw [zwT_v, zwT_i _ _ _ _ (by omega), hLi 7 (by omega) (by omega)]; rfl
      have u3 : (zwT (zwT W 0 0 2) 7 0 2).1 3 = W.1 3 := by rw [zwT_i _ _ _ _ (by omega), zwT_i _ _ _ _ (by omega)]
      have un : (zwT (zwT W 0 0 2) 7 0 2).2 = W.2 := rfl
      generalize zwT (zwT W 0 0 2) 7 0 2 = U at *
      obtain ⟨L, hL⟩ : ∃ L, L = zgs P.length := ⟨_, rfl⟩
      rw [← hL] at hLe c5 c1 hcom u0 ⊢
      obtain ⟨G, hG⟩ : ∃ G, G = (L + 3) / 4 := ⟨_, rfl⟩
      have v0 : ∀ b, (zix U P L L).1 0 b = if b = 0 then 2 else if b ≤ L then 1 else if b < 1 + L + G then 2 else 0 := fun b => by
        rw [zix_0, u0, ← hG]
        by_cases e : b = 0
        · rw [if_pos e, if_pos e, if_neg (by omega)]
        · rw [if_neg e, if_neg e]
          by_cases f : b ≤ L
          · rw [if_pos f, if_pos f, if_neg (by omega)]
          · rw [if_neg f, if_neg f]
            by_cases g : b < 1 + L + G
            · rw [if_pos g, if_pos (by omega)]
            · rw [if_neg g, if_neg (by omega)]
      have v1 : ∀ b, (zix U P L L).1 1 b = if b = 0 then G else if L < b ∧ b < 1 + L + G then min 4 (L - 4 * (b - 1 - L)) else 0 := fun b => by rw [zix_1, u1, ← hG]
      have v2 : ∀ b, (zix U P L L).1 2 b = 0 := fun b => by rw [zix_o _ _ _ _ (by omega) (by omega) (by omega) (by omega) (by omega)]; exact u2 b
      have v7 : ∀ b, (zix U P L L).1 7 b = if b = 0 then 2 else T.1 7 b := fun b => by rw [zix_o _ _ _ _ (by omega) (by omega) (by omega) (by omega) (by omega)]; exact u7 b
      have v3 : (zix U P L L).1 3 = W.1 3 := by rw [zix_o _ _ _ _ (by omega) (by omega) (by omega) (by omega) (by omega)]; exact u3
      have vn : (zix U P L L).2 = W.2 := un
      have vr : ∀ r, r < G → (zix U P L L).1 4 r = zli P (4 * r) ∧ (zix U P L L).1 5 r = zmk P (4 * r) ∧ (zix U P L L).1 6 r = 1 + L + r := fun r hr => by
        rw [zix_4, zix_5, zix_6]
        unfold zixf
        rw [if_pos (by omega), if_pos (by omega), if_pos (by omega)]
        exact ⟨rfl, rfl, rfl⟩
      have vi : ∀ g r, r < 4 → 4 * g + r < L → (zix U P L L).1 4 ((1 + L + g) * 6 + r) = zli P (4 * g + r) ∧ (zix U P L L).1 5 ((1 + L + g) * 6 + r) = zmk P (4 * g + r) ∧ (zix U P L L).1 6 ((1 + L + g) * 6 + r) = 1 + (4 * g + r) := fun g r hr hgr => by
        have d1 : ((1 + L + g) * 6 + r) / 6 = 1 + L + g := by omega
        have d2 : ((1 + L + g) * 6 + r) % 6 = r := by omega
        have d3 : 1 + L + g - 1 - L = g := by omega
        rw [zix_4, zix_5, zix_6]
        unfold zixf
        rw [d1, d2, d3, if_neg (by omega), if_pos (by omega), if_neg (by omega), if_pos (by omega), if_neg (by omega), if_pos (by omega)]
        exact ⟨rfl, rfl, rfl⟩
      generalize zix U P L L = V at *
      obtain ⟨hC, hS⟩ := hcom V vn v3 (fun b h1 h2 => by rw [v0, if_neg (by omega), if_pos h2])
      have e7' : ∀ j, j ≠ 0 → V.1 7 j = T.1 7 j := fun j hj => by rw [v7, if_neg hj]
      have hI := zinvC (V := V) (by omega) hLe hL hG hl v0 v1 v2 vr vi (by rw [v7, if_pos rfl]) (by rw [e7' 1 (by omega), e7' 2 (by omega), e7' 3 (by omega)]; exact hA) hC
      obtain ⟨⟨l1, l2⟩, l3⟩ := zlineC (V := V) (P := P) (by omega) hG (by rw [v7, if_pos rfl]) v1 vr vi
      obtain ⟨o1, o2⟩ := zordB (V := V) (by omega) hL l1 l2 hsrt (fun x hx => by rw [zha_7 e7']; exact hPh x hx) hS
      exact ⟨hI, o1, l3, o2, zunB hS, e7'⟩
