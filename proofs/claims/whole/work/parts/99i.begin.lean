/-! the world behind both constructors, written by gen/mk_begin.py -/
def sT0 : Nat → Int32 := fun k => if k = 3 then -nI 1 else if k = 5 then nI 8 else nI 0
def sO0 : Nat → Int32 := fun k => if k = 0 then nI 6 else if k = 1 then nI 1 else nI 0
def sK0 : Nat → Int32 := upd (fun _ => nI 0) 0 (nI 1)
def sM0 : Nat → Int32 := fun k => if k = 20 then -nI 1 else nI 0
def sm0 : Nat → Int32 := upd (upd (sh_mF 240) 1081 (nI 6)) 1082 (nI 1)
def sZ0 : Nat → Int32 := fun _ => nI 0
def sL0 : sh_St := (fun i => if i = 3 then sT0 else if i < 34 ∧ i % 10 = 4 then sO0 else if 36 ≤ i ∧ i < 116 ∧ i % 10 = 6 then sO0 else if i < 34 ∧ i % 10 = 5 then sK0 else if 36 ≤ i ∧ i < 116 ∧ i % 10 = 7 then sK0 else if i = 140 then sM0 else if i = 141 then sm0 else sZ0, fun _ _ => 0)
theorem sh_wz_app (G : sh_Ev) (S : sh_St) : ∀ (t1 t2 : List sh_Ds) (i : Nat), sh_wz G S i (t1 ++ t2) = sh_wz G S i t1 ++ sh_wz G S (i + t1.length) t2 := by
  intro t1
  induction t1 with
  | nil => intro t2 i; rfl
  | cons d t1 ih =>
    intro t2 i
    have e : i + 1 + t1.length = i + (d :: t1).length := by rw [List.length_cons]; omega
    have h := ih t2 (i + 1)
    rw [e] at h
    exact congrArg (fun w : va_W => (G.2.1 i, sh_cell G d (S.1 i) (S.2 i)) :: w) h
theorem sh_Qz {G : sh_Ev} {S : sh_St} {w1 w2 : va_W} {t1 t2 : List sh_Ds} {i j : Nat} (e : i + t1.length = j) (h1 : sh_Qw w1 (sh_wz G S i t1)) (h2 : sh_Qw w2 (sh_wz G S j t2)) : sh_Qw (w1 ++ w2) (sh_wz G S i (t1 ++ t2)) := by
  rw [sh_wz_app, e]
  exact sh_Qw_app h1 h2
theorem sh_Qzc {G : sh_Ev} {S : sh_St} {x : Nat × va_E} {w : va_W} {d : sh_Ds} {t : List sh_Ds} {i j : Nat} (e : i + 1 = j) (hx : x = (G.2.1 i, sh_cell G d (S.1 i) (S.2 i))) (h : sh_Qw w (sh_wz G S j t)) : sh_Qw (x :: w) (sh_wz G S i (d :: t)) := by
  subst e
  exact sh_Qw_cons hx h
theorem sh_Qzr {G : sh_Ev} {S : sh_St} {q n t0 b st : Nat} {f : Nat → Option Nat} {w : va_W} {t : List sh_Ds} {i j : Nat} (e : i + 1 = j) (hq : q = G.2.1 i) (hf : ∀ k, k < n → f k = some (G.2.1 (b + st * k))) (ht : 3 ≤ t0) (h : sh_Qw w (sh_wz G S j t)) : sh_Qw ((q, .inl (G.2.2.2.1 t0, n, .inr (.inr (.inr (.inr f))))) :: w) (sh_wz G S i (.inr (t0, n, b, st) :: t)) := by
  subst e
  have e2 : sh_cell G (.inr (t0, n, b, st)) (S.1 i) (S.2 i) = .inl (G.2.2.2.1 t0, n, .inr (.inr (.inr (.inr (fun j => some (G.2.1 (b + st * j))))))) := by
    obtain ⟨u, rfl⟩ : ∃ u, t0 = u + 3 := ⟨t0 - 3, by omega⟩
    rfl
  show sh_Qw _ ((G.2.1 i, sh_cell G (.inr (t0, n, b, st)) (S.1 i) (S.2 i)) :: sh_wz G S (i + 1) t)
  rw [e2]
  exact sh_Qw_ref hq hf h
def tB_T : List sh_Ds := [.inl (7, [(2, 2), (0, 0)]), .inr (0, 400, 0, 0)]
def tB_X : List sh_Ds := [.inl (8, [(2, 1), (0, 0), (0, 0), (0, 0), (0, 0), (3, 0), (1, 0), (1, 0), (0, 0)])]
def tB_S4 : List sh_Ds := [.inl (5, [(0, 0), (0, 0), (0, 0), (0, 0), (2, 5), (2, 6), (2, 7), (2, 8), (2, 9), (2, 10), (2, 11), (2, 12), (2, 13)]), .inr (0, 40, 0, 0), .inr (0, 40, 0, 0), .inr (0, 40, 0, 0), .inr (1, 240, 0, 0), .inr (0, 240, 0, 0), .inr (0, 240, 0, 0), .inr (0, 240, 0, 0), .inr (0, 240, 0, 0), .inr (0, 240, 0, 0)]
def tB_S14 : List sh_Ds := [.inl (5, [(0, 0), (0, 0), (0, 0), (0, 0), (2, 15), (2, 16), (2, 17), (2, 18), (2, 19), (2, 20), (2, 21), (2, 22), (2, 23)]), .inr (0, 40, 0, 0), .inr (0, 40, 0, 0), .inr (0, 40, 0, 0), .inr (1, 240, 0, 0), .inr (0, 240, 0, 0), .inr (0, 240, 0, 0), .inr (0, 240, 0, 0), .inr (0, 240, 0, 0), .inr (0, 240, 0, 0)]
def tB_S24 : List sh_Ds := [.inl (5, [(0, 0), (0, 0), (0, 0), (0, 0), (2, 25), (2, 26), (2, 27), (2, 28), (2, 29), (2, 30), (2, 31), (2, 32), (2, 33)]), .inr (0, 40, 0, 0), .inr (0, 40, 0, 0), .inr (0, 40, 0, 0), .inr (1, 240, 0, 0), .inr (0, 240, 0, 0), .inr (0, 240, 0, 0), .inr (0, 240, 0, 0), .inr (0, 240, 0, 0), .inr (0, 240, 0, 0)]
def tB_S36 : List sh_Ds := [.inl (5, [(0, 0), (0, 0), (0, 0), (0, 0), (2, 37), (2, 38), (2, 39), (2, 40), (2, 41), (2, 42), (2, 43), (2, 44), (2, 45)]), .inr (0, 40, 0, 0), .inr (0, 40, 0, 0), .inr (0, 40, 0, 0), .inr (1, 240, 0, 0), .inr (0, 240, 0, 0), .inr (0, 240, 0, 0), .inr (0, 240, 0, 0), .inr (0, 240, 0, 0), .inr (0, 240, 0, 0)]
def tB_S46 : List sh_Ds := [.inl (5, [(0, 0), (0, 0), (0, 0), (0, 0), (2, 47), (2, 48), (2, 49), (2, 50), (2, 51), (2, 52), (2, 53), (2, 54), (2, 55)]), .inr (0, 40, 0, 0), .inr (0, 40, 0, 0), .inr (0, 40, 0, 0), .inr (1, 240, 0, 0), .inr (0, 240, 0, 0), .inr (0, 240, 0, 0), .inr (0, 240, 0, 0), .inr (0, 240, 0, 0), .inr (0, 240, 0, 0)]
def tB_S56 : List sh_Ds := [.inl (5, [(0, 0), (0, 0), (0, 0), (0, 0), (2, 57), (2, 58), (2, 59), (2, 60), (2, 61), (2, 62), (2, 63), (2, 64), (2, 65)]), .inr (0, 40, 0, 0), .inr (0, 40, 0, 0), .inr (0, 40, 0, 0), .inr (1, 240, 0, 0), .inr (0, 240, 0, 0), .inr (0, 240, 0, 0), .inr (0, 240, 0, 0), .inr (0, 240, 0, 0), .inr (0, 240, 0, 0)]
def tB_S66 : List sh_Ds := [.inl (5, [(0, 0), (0, 0), (0, 0), (0, 0), (2, 67), (2, 68), (2, 69), (2, 70), (2, 71), (2, 72), (2, 73), (2, 74), (2, 75)]), .inr (0, 40, 0, 0), .inr (0, 40, 0, 0), .inr (0, 40, 0, 0), .inr (1, 240, 0, 0), .inr (0, 240, 0, 0), .inr (0, 240, 0, 0), .inr (0, 240, 0, 0), .inr (0, 240, 0, 0), .inr (0, 240, 0, 0)]
def tB_S76 : List sh_Ds := [.inl (5, [(0, 0), (0, 0), (0, 0), (0, 0), (2, 77), (2, 78), (2, 79), (2, 80), (2, 81), (2, 82), (2, 83), (2, 84), (2, 85)]), .inr (0, 40, 0, 0), .inr (0, 40, 0, 0), .inr (0, 40, 0, 0), .inr (1, 240, 0, 0), .inr (0, 240, 0, 0), .inr (0, 240, 0, 0), .inr (0, 240, 0, 0), .inr (0, 240, 0, 0), .inr (0, 240, 0, 0)]
def tB_S86 : List sh_Ds := [.inl (5, [(0, 0), (0, 0), (0, 0), (0, 0), (2, 87), (2, 88), (2, 89), (2, 90), (2, 91), (2, 92), (2, 93), (2, 94), (2, 95)]), .inr (0, 40, 0, 0), .inr (0, 40, 0, 0), .inr (0, 40, 0, 0), .inr (1, 240, 0, 0), .inr (0, 240, 0, 0), .inr (0, 240, 0, 0), .inr (0, 240, 0, 0), .inr (0, 240, 0, 0), .inr (0, 240, 0, 0)]
def tB_S96 : List sh_Ds := [.inl (5, [(0, 0), (0, 0), (0, 0), (0, 0), (2, 97), (2, 98), (2, 99), (2, 100), (2, 101), (2, 102), (2, 103), (2, 104), (2, 105)]), .inr (0, 40, 0, 0), .inr (0, 40, 0, 0), .inr (0, 40, 0, 0), .inr (1, 240, 0, 0), .inr (0, 240, 0, 0), .inr (0, 240, 0, 0), .inr (0, 240, 0, 0), .inr (0, 240, 0, 0), .inr (0, 240, 0, 0)]
def tB_S106 : List sh_Ds := [.inl (5, [(0, 0), (0, 0), (0, 0), (0, 0), (2, 107), (2, 108), (2, 109), (2, 110), (2, 111), (2, 112), (2, 113), (2, 114), (2, 115)]), .inr (0, 40, 0, 0), .inr (0, 40, 0, 0), .inr (0, 40, 0, 0), .inr (1, 240, 0, 0), .inr (0, 240, 0, 0), .inr (0, 240, 0, 0), .inr (0, 240, 0, 0), .inr (0, 240, 0, 0), .inr (0, 240, 0, 0)]
def tB_O : List sh_Ds := [.inl (3, [(2, 118), (2, 119), (2, 120), (0, 0)]), .inr (0, 40, 0, 0), .inr (0, 40, 0, 0), .inr (0, 40, 0, 0)]
def tB_W : List sh_Ds := [.inl (9, [(2, 122), (2, 123), (0, 0), (0, 0)]), .inr (0, 42, 0, 0), .inr (0, 2, 0, 0)]
def tB_P : List sh_Ds := [.inl (4, [(2, 125), (2, 126), (2, 127), (0, 0)]), .inr (1, 240, 0, 0), .inr (0, 240, 0, 0), .inr (0, 240, 0, 0)]
def tB_V : List sh_Ds := [.inl (6, [(2, 4), (2, 116), (2, 129), (2, 130), (0, 0)]), .inr (0, 4096, 0, 0), .inr (0, 240, 0, 0)]
def tB_C0 : List sh_Ds := [.inl (0, [(2, 133), (0, 0), (0, 0), (0, 0), (0, 0)]), .inr (0, 60, 0, 0)]
def tB_C1 : List sh_Ds := [.inl (0, [(2, 135), (0, 0), (0, 0), (0, 0), (0, 0)]), .inr (0, 60, 0, 0)]
def tB_C2 : List sh_Ds := [.inl (0, [(2, 137), (0, 0), (0, 0), (0, 0), (0, 0)]), .inr (0, 60, 0, 0)]
def tB_C3 : List sh_Ds := [.inl (0, [(2, 139), (0, 0), (0, 0), (0, 0), (0, 0)]), .inr (0, 60, 0, 0)]
def tB_H : List sh_Ds := .inl (1, [(2, 35), (0, 0), (0, 0)]) :: .inr (3, 8, 36, 10) :: (((((((tB_S36 ++ tB_S46) ++ tB_S56) ++ tB_S66) ++ tB_S76) ++ tB_S86) ++ tB_S96) ++ tB_S106)
def tB_K : List sh_Ds := .inl (2, [(2, 4), (2, 117), (2, 121), (2, 124), (0, 0)]) :: ((tB_O ++ tB_W) ++ tB_P)
set_option maxRecDepth 100000 in
theorem tbX_b : tbX = .inl (10, [(2, 1), (2, 3), (2, 4), (2, 14), (2, 24), (2, 34), (2, 116), (2, 128), (2, 131), (0, 0), (0, 0)]) :: ((((((((tB_T ++ tB_X) ++ tB_S4) ++ tB_S14) ++ tB_S24) ++ tB_H) ++ tB_K) ++ tB_V) ++ .inr (4, 4, 132, 2) :: (((tB_C0 ++ tB_C1) ++ tB_C2) ++ tB_C3)) := by decide +kernel
section ShBegin
variable (G : sh_Ev)
set_option maxRecDepth 100000 in
set_option maxHeartbeats 4000000 in
theorem bq_T : wN_Tape G (G.2.1 1) (fun i => G.2.1 (1 + i)) = sh_wz G sL0 1 tB_T := rfl
set_option maxRecDepth 100000 in
set_option maxHeartbeats 4000000 in
theorem bq_X : wN_Text G (G.2.1 1) (G.2.1 3) (fun i => G.2.1 (3 + i)) = sh_wz G sL0 3 tB_X := rfl
set_option maxRecDepth 100000 in
set_option maxHeartbeats 4000000 in
theorem bq_S4 : wN_Store G (G.2.1 4) (fun i => G.2.1 (4 + i)) = sh_wz G sL0 4 tB_S4 := rfl
set_option maxRecDepth 100000 in
set_option maxHeartbeats 4000000 in
theorem bq_S14 : wN_Store G (G.2.1 14) (fun i => G.2.1 (14 + i)) = sh_wz G sL0 14 tB_S14 := rfl
set_option maxRecDepth 100000 in
set_option maxHeartbeats 4000000 in
theorem bq_S24 : wN_Store G (G.2.1 24) (fun i => G.2.1 (24 + i)) = sh_wz G sL0 24 tB_S24 := rfl
set_option maxRecDepth 100000 in
set_option maxHeartbeats 4000000 in
theorem bq_S36 : wN_Store G (G.2.1 (34 + 2)) (fun i => G.2.1 (34 + (2 + i))) = sh_wz G sL0 36 tB_S36 := rfl
set_option maxRecDepth 100000 in
set_option maxHeartbeats 4000000 in
theorem bq_S46 : wN_Store G (G.2.1 (34 + 12)) (fun i => G.2.1 (34 + (12 + i))) = sh_wz G sL0 46 tB_S46 := rfl
set_option maxRecDepth 100000 in
set_option maxHeartbeats 4000000 in
theorem bq_S56 : wN_Store G (G.2.1 (34 + 22)) (fun i => G.2.1 (34 + (22 + i))) = sh_wz G sL0 56 tB_S56 := rfl
set_option maxRecDepth 100000 in
set_option maxHeartbeats 4000000 in
theorem bq_S66 : wN_Store G (G.2.1 (34 + 32)) (fun i => G.2.1 (34 + (32 + i))) = sh_wz G sL0 66 tB_S66 := rfl
set_option maxRecDepth 100000 in
set_option maxHeartbeats 4000000 in
theorem bq_S76 : wN_Store G (G.2.1 (34 + 42)) (fun i => G.2.1 (34 + (42 + i))) = sh_wz G sL0 76 tB_S76 := rfl
set_option maxRecDepth 100000 in
set_option maxHeartbeats 4000000 in
theorem bq_S86 : wN_Store G (G.2.1 (34 + 52)) (fun i => G.2.1 (34 + (52 + i))) = sh_wz G sL0 86 tB_S86 := rfl
set_option maxRecDepth 100000 in
set_option maxHeartbeats 4000000 in
theorem bq_S96 : wN_Store G (G.2.1 (34 + 62)) (fun i => G.2.1 (34 + (62 + i))) = sh_wz G sL0 96 tB_S96 := rfl
set_option maxRecDepth 100000 in
set_option maxHeartbeats 4000000 in
theorem bq_S106 : wN_Store G (G.2.1 (34 + 72)) (fun i => G.2.1 (34 + (72 + i))) = sh_wz G sL0 106 tB_S106 := rfl
set_option maxRecDepth 100000 in
set_option maxHeartbeats 4000000 in
theorem bq_O : wN_Order G (G.2.1 (116 + 1)) (fun i => G.2.1 (116 + (1 + i))) = sh_wz G sL0 117 tB_O := rfl
set_option maxRecDepth 100000 in
set_option maxHeartbeats 4000000 in
theorem bq_W : wN_Way G (G.2.1 (116 + 5)) (fun i => G.2.1 (116 + (5 + i))) = sh_wz G sL0 121 tB_W := rfl
set_option maxRecDepth 100000 in
set_option maxHeartbeats 4000000 in
theorem bq_P : wN_Pool G (G.2.1 (116 + 8)) (fun i => G.2.1 (116 + (8 + i))) = sh_wz G sL0 124 tB_P := rfl
set_option maxRecDepth 100000 in
set_option maxHeartbeats 4000000 in
theorem bq_V : wN_Survey G (G.2.1 4) (G.2.1 116) (G.2.1 128) (fun i => G.2.1 (128 + i)) = sh_wz G sL0 128 tB_V := rfl
set_option maxRecDepth 100000 in
set_option maxHeartbeats 4000000 in
theorem bq_C0 : wN_Cursor G (G.2.1 132) (fun i => G.2.1 (132 + i)) = sh_wz G sL0 132 tB_C0 := rfl
set_option maxRecDepth 100000 in
set_option maxHeartbeats 4000000 in
theorem bq_C1 : wN_Cursor G (G.2.1 134) (fun i => G.2.1 (134 + i)) = sh_wz G sL0 134 tB_C1 := rfl
set_option maxRecDepth 100000 in
set_option maxHeartbeats 4000000 in
theorem bq_C2 : wN_Cursor G (G.2.1 136) (fun i => G.2.1 (136 + i)) = sh_wz G sL0 136 tB_C2 := rfl
set_option maxRecDepth 100000 in
set_option maxHeartbeats 4000000 in
theorem bq_C3 : wN_Cursor G (G.2.1 138) (fun i => G.2.1 (138 + i)) = sh_wz G sL0 138 tB_C3 := rfl
set_option maxRecDepth 100000 in
theorem bq_H : sh_Qw (wN_History G (G.2.1 34) (fun i => G.2.1 (34 + i))) (sh_wz G sL0 34 tB_H) := by
  unfold wN_History tB_H
  refine sh_Qzc (j := 35) rfl rfl (sh_Qzr (j := 36) rfl rfl (fun k hk => ?_) (by omega) ?_)
  · show some (G.2.1 (34 + (2 + 10 * k))) = some (G.2.1 (36 + 10 * k))
    rw [show 34 + (2 + 10 * k) = 36 + 10 * k by omega]
  · exact sh_Qz (j := 106) rfl (sh_Qz (j := 96) rfl (sh_Qz (j := 86) rfl (sh_Qz (j := 76) rfl (sh_Qz (j := 66) rfl (sh_Qz (j := 56) rfl (sh_Qz (j := 46) rfl (sh_Qw_e (bq_S36 G)) (sh_Qw_e (bq_S46 G))) (sh_Qw_e (bq_S56 G))) (sh_Qw_e (bq_S66 G))) (sh_Qw_e (bq_S76 G))) (sh_Qw_e (bq_S86 G))) (sh_Qw_e (bq_S96 G))) (sh_Qw_e (bq_S106 G))
set_option maxRecDepth 100000 in
theorem bq_K : sh_Qw (wN_Keeper G (G.2.1 4) (G.2.1 116) (fun i => G.2.1 (116 + i))) (sh_wz G sL0 116 tB_K) := by
  unfold wN_Keeper tB_K
  exact sh_Qzc (j := 117) rfl rfl (sh_Qz (j := 124) rfl (sh_Qz (j := 121) rfl (sh_Qw_e (bq_O G)) (sh_Qw_e (bq_W G))) (sh_Qw_e (bq_P G)))
set_option maxRecDepth 100000 in
set_option maxHeartbeats 4000000 in
theorem bq_shelf : sh_Qw (wN_Shelf G (G.2.1 0) G.2.1) (sh_wz G sL0 0 tbX) := by
  rw [tbX_b]
  unfold wN_Shelf
  refine sh_Qzc (j := 1) rfl rfl (sh_Qz (j := 131) rfl ?_ (sh_Qzr (j := 132) rfl rfl (fun k hk => rfl) (by omega) ?_))
  · exact sh_Qz (j := 128) rfl (sh_Qz (j := 116) rfl (sh_Qz (j := 34) rfl (sh_Qz (j := 24) rfl (sh_Qz (j := 14) rfl (sh_Qz (j := 4) rfl (sh_Qz (j := 3) rfl (sh_Qw_e (bq_T G)) (sh_Qw_e (bq_X G))) (sh_Qw_e (bq_S4 G))) (sh_Qw_e (bq_S14 G))) (sh_Qw_e (bq_S24 G))) (bq_H G)) (bq_K G)) (sh_Qw_e (bq_V G))
  · exact sh_Qz (j := 138) rfl (sh_Qz (j := 136) rfl (sh_Qz (j := 134) rfl (sh_Qw_e (bq_C0 G)) (sh_Qw_e (bq_C1 G))) (sh_Qw_e (bq_C2 G))) (sh_Qw_e (bq_C3 G))
set_option maxRecDepth 100000 in
set_option maxHeartbeats 4000000 in
theorem bq_model : wN_Model G (G.2.1 140) (fun i => G.2.1 (140 + i)) = sh_wz G sL0 140 (tbM.map (sh_sd 140)) := rfl
end ShBegin
theorem wN_Shelf_cg (G : sh_Ev) {q q' : Nat} {a b : Nat → Nat} (e0 : q = q') (e : ∀ i, 1 ≤ i → i ≤ 139 → a i = b i) : sh_Qw (wN_Shelf G q a) (wN_Shelf G q' b) := by
  subst e0
  unfold wN_Shelf
  refine sh_Qw_cons ?_ (sh_Qw_app ?_ (sh_Qw_ref (e 131 (by omega) (by omega)) (fun j hj => by rw [e _ (by omega) (by omega)]) ?_))
  · rw [e 1 (by omega) (by omega), e 3 (by omega) (by omega), e 4 (by omega) (by omega), e 14 (by omega) (by omega), e 24 (by omega) (by omega), e 34 (by omega) (by omega), e 116 (by omega) (by omega), e 128 (by omega) (by omega), e 131 (by omega) (by omega)]
  · refine sh_Qw_app (sh_Qw_app (sh_Qw_app (sh_Qw_app (sh_Qw_app (sh_Qw_app (sh_Qw_app ?_ ?_) ?_) ?_) ?_) ?_) ?_) ?_
    · exact sh_Qw_e (wN_Tape_cg G (e _ (by omega) (by omega)) (fun i h1 h2 => e _ (by omega) (by omega)))
    · exact sh_Qw_e (wN_Text_cg G (e _ (by omega) (by omega)) (e _ (by omega) (by omega)))
    · exact sh_Qw_e (wN_Store_cg G (e _ (by omega) (by omega)) (fun i h1 h2 => e _ (by omega) (by omega)))
    · exact sh_Qw_e (wN_Store_cg G (e _ (by omega) (by omega)) (fun i h1 h2 => e _ (by omega) (by omega)))
    · exact sh_Qw_e (wN_Store_cg G (e _ (by omega) (by omega)) (fun i h1 h2 => e _ (by omega) (by omega)))
    · exact wN_History_cg G (e _ (by omega) (by omega)) (fun i h1 h2 => e _ (by omega) (by omega))
    · exact sh_Qw_e (wN_Keeper_cg G (e _ (by omega) (by omega)) (e _ (by omega) (by omega)) (fun i h1 h2 => e _ (by omega) (by omega)))
    · exact sh_Qw_e (wN_Survey_cg G (e _ (by omega) (by omega)) (e _ (by omega) (by omega)) (e _ (by omega) (by omega)) (fun i h1 h2 => e _ (by omega) (by omega)))
  · refine sh_Qw_app (sh_Qw_app (sh_Qw_app ?_ ?_) ?_) ?_
    all_goals exact sh_Qw_e (wN_Cursor_cg G (e _ (by omega) (by omega)) (fun i h1 h2 => e _ (by omega) (by omega)))
theorem wN_Model_cg (G : sh_Ev) {q q' : Nat} {a b : Nat → Nat} (e0 : q = q') (e : ∀ i, 1 ≤ i → i ≤ 21 → a i = b i) : wN_Model G q a = wN_Model G q' b := by
  subst e0
  unfold wN_Model
  rw [e 1 (by omega) (by omega), e 2 (by omega) (by omega), e 3 (by omega) (by omega), e 4 (by omega) (by omega), e 5 (by omega) (by omega), e 6 (by omega) (by omega), e 7 (by omega) (by omega), e 8 (by omega) (by omega), e 9 (by omega) (by omega), e 10 (by omega) (by omega), e 11 (by omega) (by omega), e 12 (by omega) (by omega), e 13 (by omega) (by omega), e 14 (by omega) (by omega), e 15 (by omega) (by omega), e 16 (by omega) (by omega), e 17 (by omega) (by omega), e 18 (by omega) (by omega), e 19 (by omega) (by omega), e 20 (by omega) (by omega), e 21 (by omega) (by omega)]
/-- the addresses of the law's cells -/
def sh_aL (q0 q1 q2 : Nat) (a0 a1 : Nat → Nat) : Nat → Nat := fun k => if k < 140 then (if k = 0 then q0 else a0 k) else if k < 162 then (if k = 140 then q1 else a1 (k - 140)) else q2
theorem sh_begin (G : sh_Ev) (q0 q1 q2 : Nat) (a0 a1 : Nat → Nat) : sh_Qw ((([] ++ wN_Shelf G q0 a0) ++ wN_Model G q1 a1) ++ [(q2, .inl (G.2.2.2.1 1, 1, .inr (.inl (fun _ => 0))))]) (sh_wz (G.1, sh_aL q0 q1 q2 a0 a1, G.2.2) sL0 0 tbL) := by
  have e1 : sh_Qw (wN_Shelf G q0 a0) (sh_wz (G.1, sh_aL q0 q1 q2 a0 a1, G.2.2) sL0 0 tbX) := by
    have h1 := wN_Shelf_cg (G.1, sh_aL q0 q1 q2 a0 a1, G.2.2) (q := q0) (q' := sh_aL q0 q1 q2 a0 a1 0) (a := a0) (b := sh_aL q0 q1 q2 a0 a1) rfl (fun i h1 h2 => by unfold sh_aL; rw [if_pos (by omega), if_neg (by omega)])
    have h2 := bq_shelf (G.1, sh_aL q0 q1 q2 a0 a1, G.2.2)
    exact ⟨h1.1.trans h2.1, fun D cl H h => h2.2 D cl H (h1.2 D cl H h)⟩
  have e2 : sh_Qw (wN_Model G q1 a1) (sh_wz (G.1, sh_aL q0 q1 q2 a0 a1, G.2.2) sL0 140 (tbM.map (sh_sd 140))) := by
    rw [← bq_model (G.1, sh_aL q0 q1 q2 a0 a1, G.2.2)]
    exact sh_Qw_e (wN_Model_cg (G.1, sh_aL q0 q1 q2 a0 a1, G.2.2) rfl (fun i h1 h2 => by
      show a1 i = sh_aL q0 q1 q2 a0 a1 (140 + i)
      unfold sh_aL
      rw [if_neg (by omega), if_pos (by omega), if_neg (by omega), Nat.add_sub_cancel_left]))
  unfold tbL
  rw [List.nil_append, List.append_assoc]
  refine sh_Qz (j := 140) (by rw [tbX_len]) e1 (sh_Qz (j := 162) (by rw [List.length_map, tbM_len]) e2 (sh_Qw_e rfl))
theorem zLR_0 : zLR sL0 := by
  refine zR_start rfl (fun k => rfl) rfl rfl rfl rfl rfl rfl (fun k hk => ?_) (fun i h1 h2 k => ?_) (fun k => rfl) rfl rfl rfl rfl rfl (fun k => rfl) (fun r hr k => ?_) rfl rfl rfl rfl rfl (fun k => rfl) (fun i h1 h2 k => ?_) (fun k => rfl) (fun k => ?_)
  · show upd (fun _ => nI 0) 0 (nI 1) k = nI 0
    unfold upd
    rw [if_neg hk]
  · rcases (show i = 6 ∨ i = 7 ∨ i = 8 ∨ i = 9 ∨ i = 10 ∨ i = 11 ∨ i = 12 ∨ i = 13 by omega) with rfl | rfl | rfl | rfl | rfl | rfl | rfl | rfl <;> rfl
  · rcases (show r = 0 ∨ r = 1 ∨ r = 2 ∨ r = 3 by omega) with rfl | rfl | rfl | rfl <;> rfl
  · rcases (show i = 9 ∨ i = 10 ∨ i = 11 ∨ i = 12 by omega) with rfl | rfl | rfl | rfl <;> rfl
  · show upd (upd (sh_mF 240) 1081 (nI 6)) 1082 (nI 1) k = _
    unfold upd sh_mF
    by_cases c0 : k = 0
    · rw [if_neg (by omega), if_neg (by omega), if_pos c0, if_pos c0]
    · rw [if_neg c0, if_neg c0]
      by_cases c1 : 840 ≤ k ∧ k < 840 + 240
      · rw [if_neg (by omega), if_neg (by omega), if_pos c1, if_pos (by omega)]
      · rw [if_neg c1, if_neg (show ¬ (840 ≤ k ∧ k < 1080) by omega)]
        by_cases c2 : k = 1082
        · rw [if_pos c2, if_neg (by omega), if_pos c2]
        · rw [if_neg c2, if_neg c2]
