/-! what is given of the start, written by gen/mk_start.py -/
theorem sh_T1 {w : Cond} {i : Nat} (h : tables_1_1[i]? = some w) : w ∈ lw_tbl := List.mem_append_right _ (List.mem_append_left _ (List.mem_of_getElem? h))
theorem sh_T2 {w : Cond} {i : Nat} (h : tables_1_2[i]? = some w) : w ∈ lw_tbl := List.mem_append_right _ (List.mem_append_right _ (List.mem_append_left _ (List.mem_of_getElem? h)))
theorem sh_T3 {w : Cond} {i : Nat} (h : tables_1_3[i]? = some w) : w ∈ lw_tbl := List.mem_append_right _ (List.mem_append_right _ (List.mem_append_right _ (List.mem_append_left _ (List.mem_of_getElem? h))))
theorem sh_T4 {w : Cond} {i : Nat} (h : tables_1_4[i]? = some w) : w ∈ lw_tbl := List.mem_append_right _ (List.mem_append_right _ (List.mem_append_right _ (List.mem_append_right _ (List.mem_append_left _ (List.mem_of_getElem? h)))))
theorem sh_T5 {w : Cond} {i : Nat} (h : tables_1_5[i]? = some w) : w ∈ lw_tbl := List.mem_append_right _ (List.mem_append_right _ (List.mem_append_right _ (List.mem_append_right _ (List.mem_append_right _ (List.mem_append_left _ (List.mem_of_getElem? h))))))
theorem sh_T6 {w : Cond} {i : Nat} (h : tables_1_6[i]? = some w) : w ∈ lw_tbl := List.mem_append_right _ (List.mem_append_right _ (List.mem_append_right _ (List.mem_append_right _ (List.mem_append_right _ (List.mem_append_right _ (List.mem_append_left _ (List.mem_of_getElem? h)))))))
theorem sh_T7 {w : Cond} {i : Nat} (h : tables_1_7[i]? = some w) : w ∈ lw_tbl := List.mem_append_right _ (List.mem_append_right _ (List.mem_append_right _ (List.mem_append_right _ (List.mem_append_right _ (List.mem_append_right _ (List.mem_append_right _ (List.mem_append_left _ (List.mem_of_getElem? h))))))))
theorem sh_T8 {w : Cond} {i : Nat} (h : tables_1_8[i]? = some w) : w ∈ lw_tbl := List.mem_append_right _ (List.mem_append_right _ (List.mem_append_right _ (List.mem_append_right _ (List.mem_append_right _ (List.mem_append_right _ (List.mem_append_right _ (List.mem_append_right _ (List.mem_of_getElem? h))))))))
theorem nf_at {args : Array Value} {s : State} (h : (Jvm.Cond.and given_1 narrow_1).before args s = true) {i : Nat} {c : Cond} (e : (flatC narrow_1)[i]? = some c) : c.before args s = true := by
  rw [Cond.before_and, Bool.and_eq_true] at h
  exact flat_of_before _ h.2 c (List.mem_of_getElem? e)
theorem sh_wd {args : Array Value} {s : State} {tm : Term} {n : Nat} {bs : List Int32} {A : Nat → Prop} (hn : n < 2 ^ 31) (hex : (Cond.exactly tm "java/lang/String").before args s = true) (hco : (Cond.eq (.field tm "java/lang/String" "coder" "B") (.int 0)).before args s = true) (har : (Cond.arrayOf (.field tm "java/lang/String" "value" "[B") .byte).before args s = true) (hle : (Cond.eq (.length (.field tm "java/lang/String" "value" "[B")) (.int (Int32.ofNat n))).before args s = true) (hel : ∀ j : Nat, j < n → (Cond.eq (.elem (.field tm "java/lang/String" "value" "[B") (.int (Int32.ofNat j))) (.int (bs.getD j 0))).before args s = true) (hA : ∀ a : Nat, a < s.heap.size → ¬ A a) :
    ∃ q : Nat × Nat, tm.eval args s none [] s = some (.ref q.1) ∧ va_O "java/lang/String" q.1 A s s.heap ∧ va_OF "java/lang/String" "coder" "B" (.int 0) q.1 A s s.heap ∧ va_OF "java/lang/String" "value" "[B" (.ref q.2) q.1 A s s.heap ∧ va_T .byte q.2 n (fun j => .int (bs.getD j 0)) A s s.heap := by
  have z : ∀ i : Nat, i < 1 → i = 0 := fun i hi => by omega
  obtain ⟨adK, adV, hS, hev⟩ := vk_Sof (args := args) (s := s) (N := 1) (tm := fun _ => tm) (len := [n]) (byt := [bs]) (A := A) (fun i hi => by rw [z i hi]; exact hn) (fun i hi => hex) (fun i hi => hco) (fun i hi => har) (fun i hi => by rw [z i hi]; exact hle) (fun i hi => by rw [z i hi]; exact hel) (fun i j hi hj hij => absurd ((z i hi).trans (z j hj).symm) hij) hA
  exact ⟨(adK 0, adV 0), hev 0 (by omega), hS.1 0 (by omega)⟩
section ShStat
variable {b : Nat} {s : State} {A : Nat → Prop}
theorem st_wd0 (hgv : (Jvm.Cond.and given_1 narrow_1).before #[Value.ref b] s = true) (hA : ∀ a : Nat, a < s.heap.size → ¬ A a) : ∃ q : Nat × Nat, (Term.string "SteadyShelf$Act" 71).eval #[Value.ref b] s none [] s = some (.ref q.1) ∧ va_O "java/lang/String" q.1 A s s.heap ∧ va_OF "java/lang/String" "coder" "B" (.int 0) q.1 A s s.heap ∧ va_OF "java/lang/String" "value" "[B" (.ref q.2) q.1 A s s.heap ∧ va_T .byte q.2 3 (fun j => .int (([112, 117, 116] : List Int32).getD j 0)) A s s.heap :=
  sh_wd (by omega) (nf_at hgv (i := 640) (by decide +kernel)) (nf_at hgv (i := 641) (by decide +kernel)) (nf_at hgv (i := 642) (by decide +kernel)) (nf_at hgv (i := 643) (by decide +kernel)) (fun j hj => by
    rcases (show j = 0 ∨ j = 1 ∨ j = 2 by omega) with rfl | rfl | rfl
    · exact nf_at hgv (i := 644) (by decide +kernel)
    · exact nf_at hgv (i := 645) (by decide +kernel)
    · exact nf_at hgv (i := 646) (by decide +kernel)) hA
theorem st_wd1 (hgv : (Jvm.Cond.and given_1 narrow_1).before #[Value.ref b] s = true) (hA : ∀ a : Nat, a < s.heap.size → ¬ A a) : ∃ q : Nat × Nat, (Term.string "SteadyShelf$Act" 77).eval #[Value.ref b] s none [] s = some (.ref q.1) ∧ va_O "java/lang/String" q.1 A s s.heap ∧ va_OF "java/lang/String" "coder" "B" (.int 0) q.1 A s s.heap ∧ va_OF "java/lang/String" "value" "[B" (.ref q.2) q.1 A s s.heap ∧ va_T .byte q.2 3 (fun j => .int (([99, 117, 116] : List Int32).getD j 0)) A s s.heap :=
  sh_wd (by omega) (nf_at hgv (i := 648) (by decide +kernel)) (nf_at hgv (i := 649) (by decide +kernel)) (nf_at hgv (i := 650) (by decide +kernel)) (nf_at hgv (i := 651) (by decide +kernel)) (fun j hj => by
    rcases (show j = 0 ∨ j = 1 ∨ j = 2 by omega) with rfl | rfl | rfl
    · exact nf_at hgv (i := 652) (by decide +kernel)
    · exact nf_at hgv (i := 653) (by decide +kernel)
    · exact nf_at hgv (i := 654) (by decide +kernel)) hA
theorem st_wd2 (hgv : (Jvm.Cond.and given_1 narrow_1).before #[Value.ref b] s = true) (hA : ∀ a : Nat, a < s.heap.size → ¬ A a) : ∃ q : Nat × Nat, (Term.string "SteadyShelf$Act" 80).eval #[Value.ref b] s none [] s = some (.ref q.1) ∧ va_O "java/lang/String" q.1 A s s.heap ∧ va_OF "java/lang/String" "coder" "B" (.int 0) q.1 A s s.heap ∧ va_OF "java/lang/String" "value" "[B" (.ref q.2) q.1 A s s.heap ∧ va_T .byte q.2 4 (fun j => .int (([116, 117, 114, 110] : List Int32).getD j 0)) A s s.heap :=
  sh_wd (by omega) (nf_at hgv (i := 656) (by decide +kernel)) (nf_at hgv (i := 657) (by decide +kernel)) (nf_at hgv (i := 658) (by decide +kernel)) (nf_at hgv (i := 659) (by decide +kernel)) (fun j hj => by
    rcases (show j = 0 ∨ j = 1 ∨ j = 2 ∨ j = 3 by omega) with rfl | rfl | rfl | rfl
    · exact nf_at hgv (i := 660) (by decide +kernel)
    · exact nf_at hgv (i := 661) (by decide +kernel)
    · exact nf_at hgv (i := 662) (by decide +kernel)
    · exact nf_at hgv (i := 663) (by decide +kernel)) hA
theorem st_wd3 (hgv : (Jvm.Cond.and given_1 narrow_1).before #[Value.ref b] s = true) (hA : ∀ a : Nat, a < s.heap.size → ¬ A a) : ∃ q : Nat × Nat, (Term.string "SteadyShelf$Act" 83).eval #[Value.ref b] s none [] s = some (.ref q.1) ∧ va_O "java/lang/String" q.1 A s s.heap ∧ va_OF "java/lang/String" "coder" "B" (.int 0) q.1 A s s.heap ∧ va_OF "java/lang/String" "value" "[B" (.ref q.2) q.1 A s s.heap ∧ va_T .byte q.2 4 (fun j => .int (([98, 105, 116, 115] : List Int32).getD j 0)) A s s.heap :=
  sh_wd (by omega) (nf_at hgv (i := 614) (by decide +kernel)) (nf_at hgv (i := 615) (by decide +kernel)) (nf_at hgv (i := 616) (by decide +kernel)) (nf_at hgv (i := 617) (by decide +kernel)) (fun j hj => by
    rcases (show j = 0 ∨ j = 1 ∨ j = 2 ∨ j = 3 by omega) with rfl | rfl | rfl | rfl
    · exact nf_at hgv (i := 618) (by decide +kernel)
    · exact nf_at hgv (i := 619) (by decide +kernel)
    · exact nf_at hgv (i := 620) (by decide +kernel)
    · exact nf_at hgv (i := 621) (by decide +kernel)) hA
theorem st_wd4 (hgv : (Jvm.Cond.and given_1 narrow_1).before #[Value.ref b] s = true) (hA : ∀ a : Nat, a < s.heap.size → ¬ A a) : ∃ q : Nat × Nat, (Term.string "SteadyShelf$Act" 86).eval #[Value.ref b] s none [] s = some (.ref q.1) ∧ va_O "java/lang/String" q.1 A s s.heap ∧ va_OF "java/lang/String" "coder" "B" (.int 0) q.1 A s s.heap ∧ va_OF "java/lang/String" "value" "[B" (.ref q.2) q.1 A s s.heap ∧ va_T .byte q.2 3 (fun j => .int (([107, 101, 121] : List Int32).getD j 0)) A s s.heap :=
  sh_wd (by omega) (nf_at hgv (i := 623) (by decide +kernel)) (nf_at hgv (i := 624) (by decide +kernel)) (nf_at hgv (i := 625) (by decide +kernel)) (nf_at hgv (i := 626) (by decide +kernel)) (fun j hj => by
    rcases (show j = 0 ∨ j = 1 ∨ j = 2 by omega) with rfl | rfl | rfl
    · exact nf_at hgv (i := 627) (by decide +kernel)
    · exact nf_at hgv (i := 628) (by decide +kernel)
    · exact nf_at hgv (i := 629) (by decide +kernel)) hA
theorem st_wd5 (hgv : (Jvm.Cond.and given_1 narrow_1).before #[Value.ref b] s = true) (hA : ∀ a : Nat, a < s.heap.size → ¬ A a) : ∃ q : Nat × Nat, (Term.string "SteadyShelf$Act" 90).eval #[Value.ref b] s none [] s = some (.ref q.1) ∧ va_O "java/lang/String" q.1 A s s.heap ∧ va_OF "java/lang/String" "coder" "B" (.int 0) q.1 A s s.heap ∧ va_OF "java/lang/String" "value" "[B" (.ref q.2) q.1 A s s.heap ∧ va_T .byte q.2 4 (fun j => .int (([102, 111, 108, 100] : List Int32).getD j 0)) A s s.heap :=
  sh_wd (by omega) (nf_at hgv (i := 631) (by decide +kernel)) (nf_at hgv (i := 632) (by decide +kernel)) (nf_at hgv (i := 633) (by decide +kernel)) (nf_at hgv (i := 634) (by decide +kernel)) (fun j hj => by
    rcases (show j = 0 ∨ j = 1 ∨ j = 2 ∨ j = 3 by omega) with rfl | rfl | rfl | rfl
    · exact nf_at hgv (i := 635) (by decide +kernel)
    · exact nf_at hgv (i := 636) (by decide +kernel)
    · exact nf_at hgv (i := 637) (by decide +kernel)
    · exact nf_at hgv (i := 638) (by decide +kernel)) hA
theorem st_wd6 (hgv : (Jvm.Cond.and given_1 narrow_1).before #[Value.ref b] s = true) (hA : ∀ a : Nat, a < s.heap.size → ¬ A a) : ∃ q : Nat × Nat, (Term.string "SteadyShelf$Act" 93).eval #[Value.ref b] s none [] s = some (.ref q.1) ∧ va_O "java/lang/String" q.1 A s s.heap ∧ va_OF "java/lang/String" "coder" "B" (.int 0) q.1 A s s.heap ∧ va_OF "java/lang/String" "value" "[B" (.ref q.2) q.1 A s s.heap ∧ va_T .byte q.2 5 (fun j => .int (([112, 108, 97, 105, 110] : List Int32).getD j 0)) A s s.heap :=
  sh_wd (by omega) (nf_at hgv (i := 665) (by decide +kernel)) (nf_at hgv (i := 666) (by decide +kernel)) (nf_at hgv (i := 667) (by decide +kernel)) (nf_at hgv (i := 668) (by decide +kernel)) (fun j hj => by
    rcases (show j = 0 ∨ j = 1 ∨ j = 2 ∨ j = 3 ∨ j = 4 by omega) with rfl | rfl | rfl | rfl | rfl
    · exact nf_at hgv (i := 669) (by decide +kernel)
    · exact nf_at hgv (i := 670) (by decide +kernel)
    · exact nf_at hgv (i := 671) (by decide +kernel)
    · exact nf_at hgv (i := 672) (by decide +kernel)
    · exact nf_at hgv (i := 673) (by decide +kernel)) hA
theorem st_wd7 (hgv : (Jvm.Cond.and given_1 narrow_1).before #[Value.ref b] s = true) (hA : ∀ a : Nat, a < s.heap.size → ¬ A a) : ∃ q : Nat × Nat, (Term.string "SteadyShelf$Act" 96).eval #[Value.ref b] s none [] s = some (.ref q.1) ∧ va_O "java/lang/String" q.1 A s s.heap ∧ va_OF "java/lang/String" "coder" "B" (.int 0) q.1 A s s.heap ∧ va_OF "java/lang/String" "value" "[B" (.ref q.2) q.1 A s s.heap ∧ va_T .byte q.2 4 (fun j => .int (([116, 101, 97, 114] : List Int32).getD j 0)) A s s.heap :=
  sh_wd (by omega) (nf_at hgv (i := 675) (by decide +kernel)) (nf_at hgv (i := 676) (by decide +kernel)) (nf_at hgv (i := 677) (by decide +kernel)) (nf_at hgv (i := 678) (by decide +kernel)) (fun j hj => by
    rcases (show j = 0 ∨ j = 1 ∨ j = 2 ∨ j = 3 by omega) with rfl | rfl | rfl | rfl
    · exact nf_at hgv (i := 679) (by decide +kernel)
    · exact nf_at hgv (i := 680) (by decide +kernel)
    · exact nf_at hgv (i := 681) (by decide +kernel)
    · exact nf_at hgv (i := 682) (by decide +kernel)) hA
theorem st_wd8 (hgv : (Jvm.Cond.and given_1 narrow_1).before #[Value.ref b] s = true) (hA : ∀ a : Nat, a < s.heap.size → ¬ A a) : ∃ q : Nat × Nat, (Term.string "SteadyShelf$Act" 99).eval #[Value.ref b] s none [] s = some (.ref q.1) ∧ va_O "java/lang/String" q.1 A s s.heap ∧ va_OF "java/lang/String" "coder" "B" (.int 0) q.1 A s s.heap ∧ va_OF "java/lang/String" "value" "[B" (.ref q.2) q.1 A s s.heap ∧ va_T .byte q.2 5 (fun j => .int (([98, 117, 105, 108, 100] : List Int32).getD j 0)) A s s.heap :=
  sh_wd (by omega) (nf_at hgv (i := 604) (by decide +kernel)) (nf_at hgv (i := 605) (by decide +kernel)) (nf_at hgv (i := 606) (by decide +kernel)) (nf_at hgv (i := 607) (by decide +kernel)) (fun j hj => by
    rcases (show j = 0 ∨ j = 1 ∨ j = 2 ∨ j = 3 ∨ j = 4 by omega) with rfl | rfl | rfl | rfl | rfl
    · exact nf_at hgv (i := 608) (by decide +kernel)
    · exact nf_at hgv (i := 609) (by decide +kernel)
    · exact nf_at hgv (i := 610) (by decide +kernel)
    · exact nf_at hgv (i := 611) (by decide +kernel)
    · exact nf_at hgv (i := 612) (by decide +kernel)) hA
theorem st_en0 (hgv : (Jvm.Cond.and given_1 narrow_1).before #[Value.ref b] s = true) (hts : ∀ w ∈ lw_tbl, w.before #[Value.ref b] s = true) : ∀ i, i < sh_acn.length → (Cond.laysStatic "SteadyShelf$Act" (sh_acn.getD i "") "LSteadyShelf$Act;").before #[Value.ref b] s = true := fun i hi => by
  have hi : i < 9 := hi
  rcases (show i = 0 ∨ i = 1 ∨ i = 2 ∨ i = 3 ∨ i = 4 ∨ i = 5 ∨ i = 6 ∨ i = 7 ∨ i = 8 by omega) with rfl | rfl | rfl | rfl | rfl | rfl | rfl | rfl | rfl
  · exact hts _ (sh_T4 (i := 176) (by decide +kernel))
  · exact hts _ (sh_T4 (i := 211) (by decide +kernel))
  · exact hts _ (sh_T4 (i := 220) (by decide +kernel))
  · exact hts _ (sh_T4 (i := 73) (by decide +kernel))
  · exact hts _ (sh_T4 (i := 75) (by decide +kernel))
  · exact hts _ (sh_T4 (i := 77) (by decide +kernel))
  · exact hts _ (sh_T5 (i := 18) (by decide +kernel))
  · exact hts _ (sh_T5 (i := 49) (by decide +kernel))
  · exact hts _ (sh_T1 (i := 60) (by decide +kernel))
theorem st_en1 (hgv : (Jvm.Cond.and given_1 narrow_1).before #[Value.ref b] s = true) : ∀ i, i < sh_acn.length → (Cond.exactly (.static "SteadyShelf$Act" (sh_acn.getD i "") "LSteadyShelf$Act;") "SteadyShelf$Act").before #[Value.ref b] s = true := fun i hi => by
  have hi : i < 9 := hi
  rcases (show i = 0 ∨ i = 1 ∨ i = 2 ∨ i = 3 ∨ i = 4 ∨ i = 5 ∨ i = 6 ∨ i = 7 ∨ i = 8 by omega) with rfl | rfl | rfl | rfl | rfl | rfl | rfl | rfl | rfl
  · exact nf_at hgv (i := 69) (by decide +kernel)
  · exact nf_at hgv (i := 80) (by decide +kernel)
  · exact nf_at hgv (i := 92) (by decide +kernel)
  · exact nf_at hgv (i := 40) (by decide +kernel)
  · exact nf_at hgv (i := 48) (by decide +kernel)
  · exact nf_at hgv (i := 57) (by decide +kernel)
  · exact nf_at hgv (i := 105) (by decide +kernel)
  · exact nf_at hgv (i := 119) (by decide +kernel)
  · exact nf_at hgv (i := 2) (by decide +kernel)
theorem st_ef0 (hgv : (Jvm.Cond.and given_1 narrow_1).before #[Value.ref b] s = true) : ∀ i, i < sh_acn.length → (Cond.eq (.field (.static "SteadyShelf$Act" (sh_acn.getD i "") "LSteadyShelf$Act;") "java/lang/Enum" "ordinal" "I") (.int (([0, 1, 2, 3, 4, 5, 6, 7, 8] : List Int32).getD i 0))).before #[Value.ref b] s = true := fun i hi => by
  have hi : i < 9 := hi
  rcases (show i = 0 ∨ i = 1 ∨ i = 2 ∨ i = 3 ∨ i = 4 ∨ i = 5 ∨ i = 6 ∨ i = 7 ∨ i = 8 by omega) with rfl | rfl | rfl | rfl | rfl | rfl | rfl | rfl | rfl
  · exact nf_at hgv (i := 70) (by decide +kernel)
  · exact nf_at hgv (i := 81) (by decide +kernel)
  · exact nf_at hgv (i := 93) (by decide +kernel)
  · exact nf_at hgv (i := 41) (by decide +kernel)
  · exact nf_at hgv (i := 49) (by decide +kernel)
  · exact nf_at hgv (i := 58) (by decide +kernel)
  · exact nf_at hgv (i := 106) (by decide +kernel)
  · exact nf_at hgv (i := 120) (by decide +kernel)
  · exact nf_at hgv (i := 3) (by decide +kernel)
theorem st_ef1 (hgv : (Jvm.Cond.and given_1 narrow_1).before #[Value.ref b] s = true) : ∀ i, i < sh_acn.length → (Cond.eq (.field (.static "SteadyShelf$Act" (sh_acn.getD i "") "LSteadyShelf$Act;") "SteadyShelf$Act" "nameCount" "I") (.int (([1, 1, 2, 0, 0, 0, 0, 0, 0] : List Int32).getD i 0))).before #[Value.ref b] s = true := fun i hi => by
  have hi : i < 9 := hi
  rcases (show i = 0 ∨ i = 1 ∨ i = 2 ∨ i = 3 ∨ i = 4 ∨ i = 5 ∨ i = 6 ∨ i = 7 ∨ i = 8 by omega) with rfl | rfl | rfl | rfl | rfl | rfl | rfl | rfl | rfl
  · exact nf_at hgv (i := 72) (by decide +kernel)
  · exact nf_at hgv (i := 83) (by decide +kernel)
  · exact nf_at hgv (i := 95) (by decide +kernel)
  · exact nf_at hgv (i := 43) (by decide +kernel)
  · exact nf_at hgv (i := 51) (by decide +kernel)
  · exact nf_at hgv (i := 60) (by decide +kernel)
  · exact nf_at hgv (i := 108) (by decide +kernel)
  · exact nf_at hgv (i := 122) (by decide +kernel)
  · exact nf_at hgv (i := 5) (by decide +kernel)
theorem st_ef2 (hgv : (Jvm.Cond.and given_1 narrow_1).before #[Value.ref b] s = true) : ∀ i, i < sh_acn.length → (Cond.eq (.field (.static "SteadyShelf$Act" (sh_acn.getD i "") "LSteadyShelf$Act;") "SteadyShelf$Act" "least" "I") (.int (([0, 0, 0, 1, 0, 0, 0, 0, 0] : List Int32).getD i 0))).before #[Value.ref b] s = true := fun i hi => by
  have hi : i < 9 := hi
  rcases (show i = 0 ∨ i = 1 ∨ i = 2 ∨ i = 3 ∨ i = 4 ∨ i = 5 ∨ i = 6 ∨ i = 7 ∨ i = 8 by omega) with rfl | rfl | rfl | rfl | rfl | rfl | rfl | rfl | rfl
  · exact nf_at hgv (i := 73) (by decide +kernel)
  · exact nf_at hgv (i := 84) (by decide +kernel)
  · exact nf_at hgv (i := 96) (by decide +kernel)
  · exact nf_at hgv (i := 44) (by decide +kernel)
  · exact nf_at hgv (i := 52) (by decide +kernel)
  · exact nf_at hgv (i := 61) (by decide +kernel)
  · exact nf_at hgv (i := 109) (by decide +kernel)
  · exact nf_at hgv (i := 123) (by decide +kernel)
  · exact nf_at hgv (i := 6) (by decide +kernel)
theorem st_ef3 (hgv : (Jvm.Cond.and given_1 narrow_1).before #[Value.ref b] s = true) : ∀ i, i < sh_acn.length → (Cond.eq (.field (.static "SteadyShelf$Act" (sh_acn.getD i "") "LSteadyShelf$Act;") "SteadyShelf$Act" "most" "I") (.int (([999, -1, -1, 12, 65535, -1, -1, 39, -1] : List Int32).getD i 0))).before #[Value.ref b] s = true := fun i hi => by
  have hi : i < 9 := hi
  rcases (show i = 0 ∨ i = 1 ∨ i = 2 ∨ i = 3 ∨ i = 4 ∨ i = 5 ∨ i = 6 ∨ i = 7 ∨ i = 8 by omega) with rfl | rfl | rfl | rfl | rfl | rfl | rfl | rfl | rfl
  · exact nf_at hgv (i := 74) (by decide +kernel)
  · exact nf_at hgv (i := 85) (by decide +kernel)
  · exact nf_at hgv (i := 97) (by decide +kernel)
  · exact nf_at hgv (i := 45) (by decide +kernel)
  · exact nf_at hgv (i := 53) (by decide +kernel)
  · exact nf_at hgv (i := 62) (by decide +kernel)
  · exact nf_at hgv (i := 110) (by decide +kernel)
  · exact nf_at hgv (i := 124) (by decide +kernel)
  · exact nf_at hgv (i := 7) (by decide +kernel)
theorem st_ef4 (hgv : (Jvm.Cond.and given_1 narrow_1).before #[Value.ref b] s = true) : ∀ i, i < sh_acn.length → (Cond.eq (.field (.static "SteadyShelf$Act" (sh_acn.getD i "") "LSteadyShelf$Act;") "SteadyShelf$Act" "tunes" "Z") (.int (([0, 0, 0, 1, 1, 1, 1, 0, 0] : List Int32).getD i 0))).before #[Value.ref b] s = true := fun i hi => by
  have hi : i < 9 := hi
  rcases (show i = 0 ∨ i = 1 ∨ i = 2 ∨ i = 3 ∨ i = 4 ∨ i = 5 ∨ i = 6 ∨ i = 7 ∨ i = 8 by omega) with rfl | rfl | rfl | rfl | rfl | rfl | rfl | rfl | rfl
  · exact nf_at hgv (i := 75) (by decide +kernel)
  · exact nf_at hgv (i := 86) (by decide +kernel)
  · exact nf_at hgv (i := 98) (by decide +kernel)
  · exact nf_at hgv (i := 46) (by decide +kernel)
  · exact nf_at hgv (i := 54) (by decide +kernel)
  · exact nf_at hgv (i := 63) (by decide +kernel)
  · exact nf_at hgv (i := 111) (by decide +kernel)
  · exact nf_at hgv (i := 125) (by decide +kernel)
  · exact nf_at hgv (i := 8) (by decide +kernel)
theorem st_ed (hgv : (Jvm.Cond.and given_1 narrow_1).before #[Value.ref b] s = true) : ∀ j, j < 9 → ∀ i, i < j → (Cond.not (.eq (.static "SteadyShelf$Act" (sh_acn.getD i "") "LSteadyShelf$Act;") (.static "SteadyShelf$Act" (sh_acn.getD j "") "LSteadyShelf$Act;"))).before #[Value.ref b] s = true ∨ (Cond.not (.eq (.static "SteadyShelf$Act" (sh_acn.getD j "") "LSteadyShelf$Act;") (.static "SteadyShelf$Act" (sh_acn.getD i "") "LSteadyShelf$Act;"))).before #[Value.ref b] s = true := fun j hj i hi => by
  rcases (show j = 0 ∨ j = 1 ∨ j = 2 ∨ j = 3 ∨ j = 4 ∨ j = 5 ∨ j = 6 ∨ j = 7 ∨ j = 8 by omega) with rfl | rfl | rfl | rfl | rfl | rfl | rfl | rfl | rfl
  · omega
  · rcases (show i = 0 by omega) with rfl
    · exact Or.inl (nf_at hgv (i := 91) (by decide +kernel))
  · rcases (show i = 0 ∨ i = 1 by omega) with rfl | rfl
    · exact Or.inl (nf_at hgv (i := 103) (by decide +kernel))
    · exact Or.inl (nf_at hgv (i := 104) (by decide +kernel))
  · rcases (show i = 0 ∨ i = 1 ∨ i = 2 by omega) with rfl | rfl | rfl
    · exact Or.inr (nf_at hgv (i := 77) (by decide +kernel))
    · exact Or.inr (nf_at hgv (i := 88) (by decide +kernel))
    · exact Or.inr (nf_at hgv (i := 100) (by decide +kernel))
  · rcases (show i = 0 ∨ i = 1 ∨ i = 2 ∨ i = 3 by omega) with rfl | rfl | rfl | rfl
    · exact Or.inr (nf_at hgv (i := 78) (by decide +kernel))
    · exact Or.inr (nf_at hgv (i := 89) (by decide +kernel))
    · exact Or.inr (nf_at hgv (i := 101) (by decide +kernel))
    · exact Or.inl (nf_at hgv (i := 56) (by decide +kernel))
  · rcases (show i = 0 ∨ i = 1 ∨ i = 2 ∨ i = 3 ∨ i = 4 by omega) with rfl | rfl | rfl | rfl | rfl
    · exact Or.inr (nf_at hgv (i := 79) (by decide +kernel))
    · exact Or.inr (nf_at hgv (i := 90) (by decide +kernel))
    · exact Or.inr (nf_at hgv (i := 102) (by decide +kernel))
    · exact Or.inl (nf_at hgv (i := 65) (by decide +kernel))
    · exact Or.inl (nf_at hgv (i := 66) (by decide +kernel))
  · rcases (show i = 0 ∨ i = 1 ∨ i = 2 ∨ i = 3 ∨ i = 4 ∨ i = 5 by omega) with rfl | rfl | rfl | rfl | rfl | rfl
    · exact Or.inl (nf_at hgv (i := 116) (by decide +kernel))
    · exact Or.inl (nf_at hgv (i := 117) (by decide +kernel))
    · exact Or.inl (nf_at hgv (i := 118) (by decide +kernel))
    · exact Or.inl (nf_at hgv (i := 113) (by decide +kernel))
    · exact Or.inl (nf_at hgv (i := 114) (by decide +kernel))
    · exact Or.inl (nf_at hgv (i := 115) (by decide +kernel))
  · rcases (show i = 0 ∨ i = 1 ∨ i = 2 ∨ i = 3 ∨ i = 4 ∨ i = 5 ∨ i = 6 by omega) with rfl | rfl | rfl | rfl | rfl | rfl | rfl
    · exact Or.inl (nf_at hgv (i := 130) (by decide +kernel))
    · exact Or.inl (nf_at hgv (i := 131) (by decide +kernel))
    · exact Or.inl (nf_at hgv (i := 132) (by decide +kernel))
    · exact Or.inl (nf_at hgv (i := 127) (by decide +kernel))
    · exact Or.inl (nf_at hgv (i := 128) (by decide +kernel))
    · exact Or.inl (nf_at hgv (i := 129) (by decide +kernel))
    · exact Or.inl (nf_at hgv (i := 133) (by decide +kernel))
  · rcases (show i = 0 ∨ i = 1 ∨ i = 2 ∨ i = 3 ∨ i = 4 ∨ i = 5 ∨ i = 6 ∨ i = 7 by omega) with rfl | rfl | rfl | rfl | rfl | rfl | rfl | rfl
    · exact Or.inr (nf_at hgv (i := 76) (by decide +kernel))
    · exact Or.inr (nf_at hgv (i := 87) (by decide +kernel))
    · exact Or.inr (nf_at hgv (i := 99) (by decide +kernel))
    · exact Or.inr (nf_at hgv (i := 47) (by decide +kernel))
    · exact Or.inr (nf_at hgv (i := 55) (by decide +kernel))
    · exact Or.inr (nf_at hgv (i := 64) (by decide +kernel))
    · exact Or.inr (nf_at hgv (i := 112) (by decide +kernel))
    · exact Or.inr (nf_at hgv (i := 126) (by decide +kernel))
theorem st_en (hts : ∀ w ∈ lw_tbl, w.before #[Value.ref b] s = true) (hgv : (Jvm.Cond.and given_1 narrow_1).before #[Value.ref b] s = true) (hA : ∀ a : Nat, a < s.heap.size → ¬ A a) : ∃ ad : Nat → Nat, va_En "SteadyShelf$Act" "LSteadyShelf$Act;" sh_acn sh_acF ad A s s.heap ∧ ∀ i, i < sh_acn.length → (Term.static "SteadyShelf$Act" (sh_acn.getD i "") "LSteadyShelf$Act;").eval #[Value.ref b] s none [] s = some (.ref (ad i)) :=
  va_Enof2 (st_en0 hgv hts) (hts _ (sh_T1 (i := 5) (by decide +kernel))) (st_en1 hgv) (List.forall_mem_cons.mpr ⟨st_ef0 hgv, List.forall_mem_cons.mpr ⟨st_ef1 hgv, List.forall_mem_cons.mpr ⟨st_ef2 hgv, List.forall_mem_cons.mpr ⟨st_ef3 hgv, List.forall_mem_cons.mpr ⟨st_ef4 hgv, fun _ h => absurd h List.not_mem_nil⟩⟩⟩⟩⟩) (fun i j hi hj hij => by
    rcases Nat.lt_or_gt_of_ne hij with w | w
    · exact st_ed hgv j hj i w
    · exact (st_ed hgv i hi j w).symm) hA
def st_ix : List Nat := [71, 77, 80, 83, 86, 90, 93, 96, 99]
theorem st_ws (hgv : (Jvm.Cond.and given_1 narrow_1).before #[Value.ref b] s = true) (hA : ∀ a : Nat, a < s.heap.size → ¬ A a) : ∃ wq : Nat → Nat × Nat, ∀ i, i < 9 → (Term.string "SteadyShelf$Act" (st_ix.getD i 0)).eval #[Value.ref b] s none [] s = some (.ref (wq i).1) ∧ va_O "java/lang/String" (wq i).1 A s s.heap ∧ va_OF "java/lang/String" "coder" "B" (.int 0) (wq i).1 A s s.heap ∧ va_OF "java/lang/String" "value" "[B" (.ref (wq i).2) (wq i).1 A s s.heap ∧ va_T .byte (wq i).2 (sh_len.getD i 0) (fun j => .int ((sh_byt.getD i []).getD j 0)) A s s.heap := by
  refine Classical.axiomOfChoice (r := fun (i : Nat) (q : Nat × Nat) => i < 9 → (Term.string "SteadyShelf$Act" (st_ix.getD i 0)).eval #[Value.ref b] s none [] s = some (.ref q.1) ∧ va_O "java/lang/String" q.1 A s s.heap ∧ va_OF "java/lang/String" "coder" "B" (.int 0) q.1 A s s.heap ∧ va_OF "java/lang/String" "value" "[B" (.ref q.2) q.1 A s s.heap ∧ va_T .byte q.2 (sh_len.getD i 0) (fun j => .int ((sh_byt.getD i []).getD j 0)) A s s.heap) (fun i => ?_)
  by_cases hi : i < 9
  · rcases (show i = 0 ∨ i = 1 ∨ i = 2 ∨ i = 3 ∨ i = 4 ∨ i = 5 ∨ i = 6 ∨ i = 7 ∨ i = 8 by omega) with rfl | rfl | rfl | rfl | rfl | rfl | rfl | rfl | rfl
    · exact (st_wd0 hgv hA).elim fun q h => ⟨q, fun _ => h⟩
    · exact (st_wd1 hgv hA).elim fun q h => ⟨q, fun _ => h⟩
    · exact (st_wd2 hgv hA).elim fun q h => ⟨q, fun _ => h⟩
    · exact (st_wd3 hgv hA).elim fun q h => ⟨q, fun _ => h⟩
    · exact (st_wd4 hgv hA).elim fun q h => ⟨q, fun _ => h⟩
    · exact (st_wd5 hgv hA).elim fun q h => ⟨q, fun _ => h⟩
    · exact (st_wd6 hgv hA).elim fun q h => ⟨q, fun _ => h⟩
    · exact (st_wd7 hgv hA).elim fun q h => ⟨q, fun _ => h⟩
    · exact (st_wd8 hgv hA).elim fun q h => ⟨q, fun _ => h⟩
  · exact ⟨(0, 0), fun h => absurd h hi⟩
theorem st_dif : ∀ i, i < 9 → ∀ j, j < 9 → i ≠ j → ∃ k, k < 5 ∧ k < sh_len.getD i 0 ∧ k < sh_len.getD j 0 ∧ (sh_byt.getD i []).getD k 0 ≠ (sh_byt.getD j []).getD k 0 := by decide +kernel
theorem st_inj {wq : Nat → Nat × Nat} (h : ∀ i, i < 9 → va_OF "java/lang/String" "value" "[B" (.ref (wq i).2) (wq i).1 A s s.heap ∧ va_T .byte (wq i).2 (sh_len.getD i 0) (fun j => .int ((sh_byt.getD i []).getD j 0)) A s s.heap) : ∀ i j : Nat, i < 9 → j < 9 → (wq i).1 = (wq j).1 → i = j := by
  intro i j hi hj e
  by_cases hij : i = j
  · exact hij
  · exfalso
    obtain ⟨k, -, k1, k2, hne⟩ := st_dif i hi j hj hij
    obtain ⟨⟨cf, kc, n, f, cell, a1, a2, a3, a4, a5, a6⟩, ⟨c2, t1, t2, t3, t4, t5, t6, t7⟩⟩ := h i hi
    obtain ⟨⟨cf', kc', n', f', cell', b1, b2, b3, b4, b5, b6⟩, ⟨c2', u1, u2, u3, u4, u5, u6, u7⟩⟩ := h j hj
    rw [a1] at b1
    cases b1
    rw [← e, a3] at b3
    cases b3
    rw [a5] at b5
    have ev : (wq i).2 = (wq j).2 := by
      have := Option.some.inj b5
      exact Value.ref.inj this
    rw [← ev, t1] at u1
    cases u1
    have x1 := t6 k k1
    have x2 := u6 k k2
    rw [x1] at x2
    exact hne (Value.int.inj (Option.some.inj x2))
theorem st_all (hts : ∀ w ∈ lw_tbl, w.before #[Value.ref b] s = true) (hgv : (Jvm.Cond.and given_1 narrow_1).before #[Value.ref b] s = true) (hA : ∀ a : Nat, a < s.heap.size → ¬ A a) {ad : Nat → Nat} (had : ∀ i, i < sh_acn.length → (Term.static "SteadyShelf$Act" (sh_acn.getD i "") "LSteadyShelf$Act;").eval #[Value.ref b] s none [] s = some (.ref (ad i))) : ∃ t : Nat, va_Z "SteadyShelf" "ALL_ACTS" "[LSteadyShelf$Act;" (.ref t) A s s.heap ∧ va_T (.object "SteadyShelf$Act") t 9 (fun j => .ref (ad j)) A s s.heap := by
  obtain ⟨t, ht, hT⟩ := va_Tof (args := #[Value.ref b]) (s := s) (tm := .static "SteadyShelf" "ALL_ACTS" "[LSteadyShelf$Act;") (ty := .object "SteadyShelf$Act") (N := 9) (f := fun j => .ref (ad j)) (A := A) (by omega) (nf_at hgv (i := 11) (by decide +kernel)) (va_eqt (nf_at hgv (i := 12) (by decide +kernel))) (fun j hj => by
    rcases (show j = 0 ∨ j = 1 ∨ j = 2 ∨ j = 3 ∨ j = 4 ∨ j = 5 ∨ j = 6 ∨ j = 7 ∨ j = 8 by omega) with rfl | rfl | rfl | rfl | rfl | rfl | rfl | rfl | rfl
    · exact va_eqv (nf_at hgv (i := 14) (by decide +kernel)) (had 0 (by decide))
    · exact va_eqv (nf_at hgv (i := 15) (by decide +kernel)) (had 1 (by decide))
    · exact va_eqv (nf_at hgv (i := 16) (by decide +kernel)) (had 2 (by decide))
    · exact va_eqv (nf_at hgv (i := 17) (by decide +kernel)) (had 3 (by decide))
    · exact va_eqv (nf_at hgv (i := 18) (by decide +kernel)) (had 4 (by decide))
    · exact va_eqv (nf_at hgv (i := 19) (by decide +kernel)) (had 5 (by decide))
    · exact va_eqv (nf_at hgv (i := 20) (by decide +kernel)) (had 6 (by decide))
    · exact va_eqv (nf_at hgv (i := 21) (by decide +kernel)) (had 7 (by decide))
    · exact va_eqv (nf_at hgv (i := 22) (by decide +kernel)) (had 8 (by decide))
    ) hA
  exact ⟨t, va_Zref (hts _ (sh_T3 (i := 36) (by decide +kernel))) (hts _ (sh_T1 (i := 1) (by decide +kernel))) ht hA, hT⟩
theorem st_swm (hts : ∀ w ∈ lw_tbl, w.before #[Value.ref b] s = true) (hgv : (Jvm.Cond.and given_1 narrow_1).before #[Value.ref b] s = true) (hA : ∀ a : Nat, a < s.heap.size → ¬ A a) : ∃ t : Nat, va_Z "SteadyShelf$1" "$SwitchMap$SteadyShelf$Act" "[I" (.ref t) A s s.heap ∧ va_T .int t 9 (fun j => .int (sh_swm.getD j 0)) A s s.heap := by
  obtain ⟨t, ht, hT⟩ := va_Tof (args := #[Value.ref b]) (s := s) (tm := .static "SteadyShelf$1" "$SwitchMap$SteadyShelf$Act" "[I") (ty := .int) (N := 9) (f := fun j => .int (sh_swm.getD j 0)) (A := A) (by omega) (nf_at hgv (i := 29) (by decide +kernel)) (va_eqt (nf_at hgv (i := 30) (by decide +kernel))) (fun j hj => by
    rcases (show j = 0 ∨ j = 1 ∨ j = 2 ∨ j = 3 ∨ j = 4 ∨ j = 5 ∨ j = 6 ∨ j = 7 ∨ j = 8 by omega) with rfl | rfl | rfl | rfl | rfl | rfl | rfl | rfl | rfl
    · exact va_eqt (nf_at hgv (i := 31) (by decide +kernel))
    · exact va_eqt (nf_at hgv (i := 32) (by decide +kernel))
    · exact va_eqt (nf_at hgv (i := 33) (by decide +kernel))
    · exact va_eqt (nf_at hgv (i := 34) (by decide +kernel))
    · exact va_eqt (nf_at hgv (i := 35) (by decide +kernel))
    · exact va_eqt (nf_at hgv (i := 36) (by decide +kernel))
    · exact va_eqt (nf_at hgv (i := 37) (by decide +kernel))
    · exact va_eqt (nf_at hgv (i := 38) (by decide +kernel))
    · exact va_eqt (nf_at hgv (i := 39) (by decide +kernel))
    ) hA
  exact ⟨t, va_Zref (hts _ (sh_T3 (i := 117) (by decide +kernel))) (hts _ (sh_T1 (i := 20) (by decide +kernel))) ht hA, hT⟩
theorem st_zq (hts : ∀ w ∈ lw_tbl, w.before #[Value.ref b] s = true) (hgv : (Jvm.Cond.and given_1 narrow_1).before #[Value.ref b] s = true) (hA : ∀ a : Nat, a < s.heap.size → ¬ A a) : vx_Zq Bundle.tN "UNASSIGNED_STACK" Bundle.steD A s s.heap ∧ vx_Zq Bundle.tN "SUPPRESSED_SENTINEL" Bundle.listD A s s.heap :=
  ⟨vx_Zqof (hts _ (sh_T4 (i := 119) (by decide +kernel))) (hts _ (sh_T1 (i := 22) (by decide +kernel))) (nf_at hgv (i := 67) (by decide +kernel)) hA, vx_Zqof (hts _ (sh_T4 (i := 121) (by decide +kernel))) (hts _ (sh_T1 (i := 22) (by decide +kernel))) (nf_at hgv (i := 68) (by decide +kernel)) hA⟩
theorem st_str {own tx : String} {k : Nat} (h1 : (Cond.stringRef own k tx).before #[Value.ref b] s = true) (h2 : (Cond.exactly (.string own k) "java/lang/String").before #[Value.ref b] s = true) : ∃ sa : Nat, vk_R own k tx sa s := by
  obtain ⟨a, c, cA, kA, q1, -⟩ := Cond.exactly_spec (args := #[Value.ref b]) (first := s) (o := none) (s := s) (idx := []) (t := .string own k) (cls := "java/lang/String") h2
  exact ⟨a, vk_R.of h1 q1⟩
theorem st_msg (hts : ∀ w ∈ lw_tbl, w.before #[Value.ref b] s = true) (hgv : (Jvm.Cond.and given_1 narrow_1).before #[Value.ref b] s = true) : ∀ q ∈ sh_msg, ∃ sa : Nat, vk_R "SteadyShelf" q.1 q.2 sa s :=
  List.forall_mem_cons.mpr ⟨st_str (hts _ (sh_T4 (i := 134) (by decide +kernel))) (nf_at hgv (i := 234) (by decide +kernel)), List.forall_mem_cons.mpr ⟨st_str (hts _ (sh_T4 (i := 169) (by decide +kernel))) (nf_at hgv (i := 255) (by decide +kernel)), List.forall_mem_cons.mpr ⟨st_str (hts _ (sh_T4 (i := 190) (by decide +kernel))) (nf_at hgv (i := 266) (by decide +kernel)), List.forall_mem_cons.mpr ⟨st_str (hts _ (sh_T5 (i := 6) (by decide +kernel))) (nf_at hgv (i := 288) (by decide +kernel)), List.forall_mem_cons.mpr ⟨st_str (hts _ (sh_T5 (i := 13) (by decide +kernel))) (nf_at hgv (i := 304) (by decide +kernel)), List.forall_mem_cons.mpr ⟨st_str (hts _ (sh_T5 (i := 20) (by decide +kernel))) (nf_at hgv (i := 315) (by decide +kernel)), List.forall_mem_cons.mpr ⟨st_str (hts _ (sh_T5 (i := 41) (by decide +kernel))) (nf_at hgv (i := 337) (by decide +kernel)), List.forall_mem_cons.mpr ⟨st_str (hts _ (sh_T5 (i := 57) (by decide +kernel))) (nf_at hgv (i := 354) (by decide +kernel)), List.forall_mem_cons.mpr ⟨st_str (hts _ (sh_T5 (i := 133) (by decide +kernel))) (nf_at hgv (i := 378) (by decide +kernel)), List.forall_mem_cons.mpr ⟨st_str (hts _ (sh_T5 (i := 151) (by decide +kernel))) (nf_at hgv (i := 412) (by decide +kernel)), List.forall_mem_cons.mpr ⟨st_str (hts _ (sh_T5 (i := 215) (by decide +kernel))) (nf_at hgv (i := 455) (by decide +kernel)), List.forall_mem_cons.mpr ⟨st_str (hts _ (sh_T5 (i := 224) (by decide +kernel))) (nf_at hgv (i := 465) (by decide +kernel)), List.forall_mem_cons.mpr ⟨st_str (hts _ (sh_T6 (i := 0) (by decide +kernel))) (nf_at hgv (i := 489) (by decide +kernel)), List.forall_mem_cons.mpr ⟨st_str (hts _ (sh_T6 (i := 12) (by decide +kernel))) (nf_at hgv (i := 507) (by decide +kernel)), fun _ h => absurd h List.not_mem_nil⟩⟩⟩⟩⟩⟩⟩⟩⟩⟩⟩⟩⟩⟩
theorem st_ldm (hts : ∀ w ∈ lw_tbl, w.before #[Value.ref b] s = true) (hgv : (Jvm.Cond.and given_1 narrow_1).before #[Value.ref b] s = true) {wa : Nat → Nat} (hw : ∀ i, i < 9 → (Term.string "SteadyShelf$Act" (st_ix.getD i 0)).eval #[Value.ref b] s none [] s = some (.ref (wa i))) : ∀ q ∈ sh_ldm, vk_R "SteadyShelfModel" q.1 q.2.1 (wa q.2.2) s :=
  List.forall_mem_cons.mpr ⟨vk_R.of (hts _ (sh_T6 (i := 208) (by decide +kernel))) (va_eqv (nf_at hgv (i := 647) (by decide +kernel)) (hw 0 (by omega))), List.forall_mem_cons.mpr ⟨vk_R.of (hts _ (sh_T7 (i := 128) (by decide +kernel))) (va_eqv (nf_at hgv (i := 655) (by decide +kernel)) (hw 1 (by omega))), List.forall_mem_cons.mpr ⟨vk_R.of (hts _ (sh_T7 (i := 133) (by decide +kernel))) (va_eqv (nf_at hgv (i := 664) (by decide +kernel)) (hw 2 (by omega))), List.forall_mem_cons.mpr ⟨vk_R.of (hts _ (sh_T7 (i := 138) (by decide +kernel))) (va_eqv (nf_at hgv (i := 622) (by decide +kernel)) (hw 3 (by omega))), List.forall_mem_cons.mpr ⟨vk_R.of (hts _ (sh_T7 (i := 166) (by decide +kernel))) (va_eqv (nf_at hgv (i := 630) (by decide +kernel)) (hw 4 (by omega))), List.forall_mem_cons.mpr ⟨vk_R.of (hts _ (sh_T7 (i := 167) (by decide +kernel))) (va_eqv (nf_at hgv (i := 639) (by decide +kernel)) (hw 5 (by omega))), List.forall_mem_cons.mpr ⟨vk_R.of (hts _ (sh_T7 (i := 168) (by decide +kernel))) (va_eqv (nf_at hgv (i := 674) (by decide +kernel)) (hw 6 (by omega))), List.forall_mem_cons.mpr ⟨vk_R.of (hts _ (sh_T7 (i := 169) (by decide +kernel))) (va_eqv (nf_at hgv (i := 683) (by decide +kernel)) (hw 7 (by omega))), List.forall_mem_cons.mpr ⟨vk_R.of (hts _ (sh_T7 (i := 174) (by decide +kernel))) (va_eqv (nf_at hgv (i := 613) (by decide +kernel)) (hw 8 (by omega))), fun _ h => absurd h List.not_mem_nil⟩⟩⟩⟩⟩⟩⟩⟩⟩
theorem st_ef (hgv : (Jvm.Cond.and given_1 narrow_1).before #[Value.ref b] s = true) (hA : ∀ a : Nat, a < s.heap.size → ¬ A a) {ad wa : Nat → Nat} (had : ∀ i, i < sh_acn.length → (Term.static "SteadyShelf$Act" (sh_acn.getD i "") "LSteadyShelf$Act;").eval #[Value.ref b] s none [] s = some (.ref (ad i))) (hw : ∀ i, i < 9 → (Term.string "SteadyShelf$Act" (st_ix.getD i 0)).eval #[Value.ref b] s none [] s = some (.ref (wa i))) : va_Ef 9 "SteadyShelf$Act" "word" "Ljava/lang/String;" (fun i => .ref (wa i)) ad A s s.heap :=
  va_Efof (nm := sh_acn) (tm := fun i => .string "SteadyShelf$Act" (st_ix.getD i 0)) had (fun i hi => by
    rcases (show i = 0 ∨ i = 1 ∨ i = 2 ∨ i = 3 ∨ i = 4 ∨ i = 5 ∨ i = 6 ∨ i = 7 ∨ i = 8 by omega) with rfl | rfl | rfl | rfl | rfl | rfl | rfl | rfl | rfl
    · exact nf_at hgv (i := 71) (by decide +kernel)
    · exact nf_at hgv (i := 82) (by decide +kernel)
    · exact nf_at hgv (i := 94) (by decide +kernel)
    · exact nf_at hgv (i := 42) (by decide +kernel)
    · exact nf_at hgv (i := 50) (by decide +kernel)
    · exact nf_at hgv (i := 59) (by decide +kernel)
    · exact nf_at hgv (i := 107) (by decide +kernel)
    · exact nf_at hgv (i := 121) (by decide +kernel)
    · exact nf_at hgv (i := 4) (by decide +kernel)
    ) hw hA
theorem st_cs (hts : ∀ w ∈ lw_tbl, w.before #[Value.ref b] s = true) (hgv : (Jvm.Cond.and given_1 narrow_1).before #[Value.ref b] s = true) (hA : ∀ a : Nat, a < s.heap.size → ¬ A a) : va_Z "java/lang/String" "COMPACT_STRINGS" "Z" (.int 1) A s s.heap ∧ va_Zq "jdk/internal/util/Preconditions" "SIOOBE_FORMATTER" "Ljava/util/function/BiFunction;" A s s.heap :=
  ⟨va_Zof (hts _ (sh_T3 (i := 50) (by decide +kernel))) (hts _ (sh_T1 (i := 16) (by decide +kernel))) (va_eqt (nf_at hgv (i := 23) (by decide +kernel))) hA, va_Zqof (hts _ (sh_T3 (i := 66) (by decide +kernel))) (hts _ (sh_T1 (i := 18) (by decide +kernel))) (nf_at hgv (i := 24) (by decide +kernel)) hA⟩
theorem st_nest (hts : ∀ w ∈ lw_tbl, w.before #[Value.ref b] s = true) : ∀ w ∈ sh_nest, va_Nw w s :=
  List.forall_mem_cons.mpr ⟨va_Nw.of rfl (hts _ (sh_T1 (i := 39) (by decide +kernel))), List.forall_mem_cons.mpr ⟨va_Nw.of rfl (hts _ (sh_T1 (i := 212) (by decide +kernel))), List.forall_mem_cons.mpr ⟨va_Nw.of rfl (hts _ (sh_T1 (i := 239) (by decide +kernel))), List.forall_mem_cons.mpr ⟨va_Nw.of rfl (hts _ (sh_T2 (i := 25) (by decide +kernel))), List.forall_mem_cons.mpr ⟨va_Nw.of rfl (hts _ (sh_T2 (i := 98) (by decide +kernel))), List.forall_mem_cons.mpr ⟨va_Nw.of rfl (hts _ (sh_T3 (i := 35) (by decide +kernel))), List.forall_mem_cons.mpr ⟨va_Nw.of rfl (hts _ (sh_T3 (i := 141) (by decide +kernel))), List.forall_mem_cons.mpr ⟨va_Nw.of rfl (hts _ (sh_T3 (i := 149) (by decide +kernel))), List.forall_mem_cons.mpr ⟨va_Nw.of rfl (hts _ (sh_T4 (i := 51) (by decide +kernel))), List.forall_mem_cons.mpr ⟨va_Nw.of rfl (hts _ (sh_T5 (i := 97) (by decide +kernel))), List.forall_mem_cons.mpr ⟨va_Nw.of rfl (hts _ (sh_T5 (i := 172) (by decide +kernel))), List.forall_mem_cons.mpr ⟨va_Nw.of rfl (hts _ (sh_T5 (i := 182) (by decide +kernel))), List.forall_mem_cons.mpr ⟨va_Nw.of rfl (hts _ (sh_T3 (i := 120) (by decide +kernel))), List.forall_mem_cons.mpr ⟨va_Nw.of rfl (hts _ (sh_T4 (i := 94) (by decide +kernel))), List.forall_mem_cons.mpr ⟨va_Nw.of rfl (hts _ (sh_T4 (i := 95) (by decide +kernel))), List.forall_mem_cons.mpr ⟨va_Nw.of rfl (hts _ (sh_T4 (i := 96) (by decide +kernel))), List.forall_mem_cons.mpr ⟨va_Nw.of rfl (hts _ (sh_T4 (i := 97) (by decide +kernel))), List.forall_mem_cons.mpr ⟨va_Nw.of rfl (hts _ (sh_T4 (i := 98) (by decide +kernel))), List.forall_mem_cons.mpr ⟨va_Nw.of rfl (hts _ (sh_T4 (i := 99) (by decide +kernel))), List.forall_mem_cons.mpr ⟨va_Nw.of rfl (hts _ (sh_T4 (i := 100) (by decide +kernel))), List.forall_mem_cons.mpr ⟨va_Nw.of rfl (hts _ (sh_T4 (i := 183) (by decide +kernel))), List.forall_mem_cons.mpr ⟨va_Nw.of rfl (hts _ (sh_T4 (i := 239) (by decide +kernel))), List.forall_mem_cons.mpr ⟨va_Nw.of rfl (hts _ (sh_T5 (i := 34) (by decide +kernel))), fun _ h => absurd h List.not_mem_nil⟩⟩⟩⟩⟩⟩⟩⟩⟩⟩⟩⟩⟩⟩⟩⟩⟩⟩⟩⟩⟩⟩⟩
theorem st_nq (hgv : (Jvm.Cond.and given_1 narrow_1).before #[Value.ref b] s = true) : sh_Nq s :=
  List.forall_mem_cons.mpr ⟨va_Nc.of (nf_at hgv (i := 147) (by decide +kernel)), List.forall_mem_cons.mpr ⟨va_Nc.of (nf_at hgv (i := 179) (by decide +kernel)), List.forall_mem_cons.mpr ⟨va_Nc.of (nf_at hgv (i := 180) (by decide +kernel)), List.forall_mem_cons.mpr ⟨va_Nc.of (nf_at hgv (i := 196) (by decide +kernel)), List.forall_mem_cons.mpr ⟨va_Nc.of (nf_at hgv (i := 197) (by decide +kernel)), fun _ h => absurd h List.not_mem_nil⟩⟩⟩⟩⟩
theorem st_ao (hts : ∀ w ∈ lw_tbl, w.before #[Value.ref b] s = true) : sh_Ao s := ⟨va_AO.of (hts _ (sh_T1 (i := 191) (by decide +kernel))), va_AO.of (hts _ (sh_T2 (i := 96) (by decide +kernel)))⟩
/-- all of it -/
theorem st_Sf (hts : ∀ w ∈ lw_tbl, w.before #[Value.ref b] s = true) (hgv : (Jvm.Cond.and given_1 narrow_1).before #[Value.ref b] s = true) (hA : ∀ a : Nat, a < s.heap.size → ¬ A a) : ∃ (ad wa : Nat → Nat), ∀ (D : va_G) (aa : Nat → Nat) (cl : Nat → ClassId), sh_Sf (D, aa, ad, cl, wa) A s s.heap := by
  obtain ⟨ad, hen, had⟩ := st_en hts hgv hA
  obtain ⟨wq, hwq⟩ := st_ws hgv hA
  obtain ⟨t, hz, hT⟩ := st_all hts hgv hA had
  refine ⟨ad, fun k => if k < 9 then (wq k).1 else if k = 200 then t else (wq (k - 100)).2, fun D aa cl => ?_⟩
  have e1 : ∀ i, i < 9 → (if i < 9 then (wq i).1 else if i = 200 then t else (wq (i - 100)).2) = (wq i).1 := fun i hi => by rw [if_pos hi]
  have e2 : ∀ i, i < 9 → (if 100 + i < 9 then (wq (100 + i)).1 else if 100 + i = 200 then t else (wq (100 + i - 100)).2) = (wq i).2 := fun i hi => by rw [if_neg (by omega), if_neg (by omega), Nat.add_sub_cancel_left]
  have hev : ∀ i, i < 9 → (Term.string "SteadyShelf$Act" (st_ix.getD i 0)).eval #[Value.ref b] s none [] s = some (.ref (if i < 9 then (wq i).1 else if i = 200 then t else (wq (i - 100)).2)) := fun i hi => by rw [e1 i hi]; exact (hwq i hi).1
  refine ⟨hen, st_ef hgv hA had hev, ⟨fun i hi => ?_, fun i j hi hj e => ?_⟩, ⟨hz, hT⟩, st_swm hts hgv hA, st_zq hts hgv hA, st_msg hts hgv, st_ldm hts hgv hev, st_cs hts hgv hA, st_nest hts⟩
  · obtain ⟨-, h1, h2, h3, h4⟩ := hwq i hi
    show va_O "java/lang/String" (if i < 9 then (wq i).1 else if i = 200 then t else (wq (i - 100)).2) A s s.heap ∧ va_OF "java/lang/String" "coder" "B" (.int 0) (if i < 9 then (wq i).1 else if i = 200 then t else (wq (i - 100)).2) A s s.heap ∧ va_OF "java/lang/String" "value" "[B" (.ref (if 100 + i < 9 then (wq (100 + i)).1 else if 100 + i = 200 then t else (wq (100 + i - 100)).2)) (if i < 9 then (wq i).1 else if i = 200 then t else (wq (i - 100)).2) A s s.heap ∧ va_T .byte (if 100 + i < 9 then (wq (100 + i)).1 else if 100 + i = 200 then t else (wq (100 + i - 100)).2) (sh_len.getD i 0) (fun j => .int ((sh_byt.getD i []).getD j 0)) A s s.heap
    rw [e1 i hi, e2 i hi]
    exact ⟨h1, h2, h3, h4⟩
  · have e : (if i < 9 then (wq i).1 else if i = 200 then t else (wq (i - 100)).2) = (if j < 9 then (wq j).1 else if j = 200 then t else (wq (j - 100)).2) := e
    rw [e1 i hi, e1 j hj] at e
    exact st_inj (fun k hk => ⟨(hwq k hk).2.2.2.1, (hwq k hk).2.2.2.2⟩) i j hi hj e
end ShStat
/-! classes and arrays -/
theorem st_cl {b : Nat} {s : State} (hts : ∀ w ∈ lw_tbl, w.before #[Value.ref b] s = true) : ∃ D : va_G, ∀ (c : Nat) (q : vw_C), vwCl[c]? = some q → u_Kn s q.1 q.2.1 q.2.2 (D.1 c) (D.2 c) := by
  have hts' : ∀ w ∈ sh_ws, w.before #[Value.ref b] s = true := fun w hw => hts w (List.mem_filter.mp hw).1
  obtain ⟨f, hf⟩ : ∃ f : Nat → ClassId × (Nat → Nat), ∀ c, ∀ q, vwCl[c]? = some q → u_Kn s q.1 q.2.1 q.2.2 (f c).1 (f c).2 := by
    refine Classical.axiomOfChoice (r := fun (c : Nat) (x : ClassId × (Nat → Nat)) => ∀ q, vwCl[c]? = some q → u_Kn s q.1 q.2.1 q.2.2 x.1 x.2) (fun c => ?_)
    by_cases hc : c < 12
    · rcases (show c = 0 ∨ c = 1 ∨ c = 2 ∨ c = 3 ∨ c = 4 ∨ c = 5 ∨ c = 6 ∨ c = 7 ∨ c = 8 ∨ c = 9 ∨ c = 10 ∨ c = 11 by omega) with rfl | rfl | rfl | rfl | rfl | rfl | rfl | rfl | rfl | rfl | rfl | rfl
      · obtain ⟨cC, iS, h⟩ := u_known (C := RX2) (T := TX2) (N := 5) (n := 5) hts' inX2 (hts' _ it_X2)
        exact ⟨(cC, iS), fun q hq => by cases hq; exact h⟩
      · obtain ⟨cC, iS, h⟩ := u_known (C := RX3) (T := TX3) (N := 3) (n := 3) hts' inX3 (hts' _ it_X3)
        exact ⟨(cC, iS), fun q hq => by cases hq; exact h⟩
      · obtain ⟨cC, iS, h⟩ := u_known (C := RX4) (T := TX4) (N := 5) (n := 5) hts' inX4 (hts' _ it_X4)
        exact ⟨(cC, iS), fun q hq => by cases hq; exact h⟩
      · obtain ⟨cC, iS, h⟩ := u_known (C := RX5) (T := TX5) (N := 4) (n := 4) hts' inX5 (hts' _ it_X5)
        exact ⟨(cC, iS), fun q hq => by cases hq; exact h⟩
      · obtain ⟨cC, iS, h⟩ := u_known (C := RX6) (T := TX6) (N := 4) (n := 4) hts' inX6 (hts' _ it_X6)
        exact ⟨(cC, iS), fun q hq => by cases hq; exact h⟩
      · obtain ⟨cC, iS, h⟩ := u_known (C := RX7) (T := TX7) (N := 13) (n := 13) hts' inX7 (hts' _ it_X7)
        exact ⟨(cC, iS), fun q hq => by cases hq; exact h⟩
      · obtain ⟨cC, iS, h⟩ := u_known (C := RX8) (T := TX8) (N := 5) (n := 5) hts' inX8 (hts' _ it_X8)
        exact ⟨(cC, iS), fun q hq => by cases hq; exact h⟩
      · obtain ⟨cC, iS, h⟩ := u_known (C := RX9) (T := TX9) (N := 2) (n := 2) hts' inX9 (hts' _ it_X9)
        exact ⟨(cC, iS), fun q hq => by cases hq; exact h⟩
      · obtain ⟨cC, iS, h⟩ := u_known (C := RX10) (T := TX10) (N := 9) (n := 9) hts' inX10 (hts' _ it_X10)
        exact ⟨(cC, iS), fun q hq => by cases hq; exact h⟩
      · obtain ⟨cC, iS, h⟩ := u_known (C := RX11) (T := TX11) (N := 4) (n := 4) hts' inX11 (hts' _ it_X11)
        exact ⟨(cC, iS), fun q hq => by cases hq; exact h⟩
      · obtain ⟨cC, iS, h⟩ := u_known (C := RX12) (T := TX12) (N := 11) (n := 11) hts' inX12 (hts' _ it_X12)
        exact ⟨(cC, iS), fun q hq => by cases hq; exact h⟩
      · obtain ⟨cC, iS, h⟩ := u_known (C := RX13) (T := TX13) (N := 39) (n := 39) hts' inX13 (hts' _ it_X13)
        exact ⟨(cC, iS), fun q hq => by cases hq; exact h⟩
    · exact ⟨(0, fun _ => 0), fun q hq => absurd (List.getElem?_eq_some_iff.mp hq).1 hc⟩
  exact ⟨(fun c => (f c).1, fun c => (f c).2), hf⟩
theorem st_ar {args : Array Value} {s : State} {ty : FieldType} (h : (Cond.arrayClass ty).before args s = true) : ∃ c : ClassId, ArrOfT s c ty ∧ s.vm.findClass ("[" ++ ty.toString) = some c := by
  obtain ⟨c, k, comp, h1, h2, h3⟩ := Cond.arrayClass_spec h
  exact ⟨c, fun n z => ⟨fun k h => (by cases h), k, h2, comp, h3⟩, h1⟩
theorem st_ob {s : State} {C : String} (h : va_AO C s) : ∃ c : ClassId, ArrOfT s c (.object C) ∧ va_RA s c (.object C) := by
  obtain ⟨comp, c, k, h1, h2, h3, h4, h5⟩ := Cond.arrayOver_spec h
  exact ⟨c, fun n z => ⟨fun k h => (by cases h), k, h3, comp, h4⟩, k, comp, h3, h4, h1, h5⟩
theorem st_K {b : Nat} {s : State} (hts : ∀ w ∈ lw_tbl, w.before #[Value.ref b] s = true) : ∃ (D : va_G) (cl : Nat → ClassId), ∀ (aa ad wa : Nat → Nat), va_K D vwCl (sh_ty (D, aa, ad, cl, wa)) s := by
  have hts' : ∀ w ∈ sh_ws, w.before #[Value.ref b] s = true := fun w hw => hts w (List.mem_filter.mp hw).1
  obtain ⟨D, hD⟩ := st_cl hts
  obtain ⟨c0, h0, g0⟩ := st_ar (hts' _ ar_i)
  obtain ⟨c1, h1, g1⟩ := st_ar (hts' _ ar_l)
  obtain ⟨c2, h2, g2⟩ := st_ar (hts' _ ar_z)
  obtain ⟨c3, h3, g3⟩ := st_ob (st_ao hts).1
  obtain ⟨c4, h4, g4⟩ := st_ob (st_ao hts).2
  refine ⟨D, fun k => if k = 0 then c0 else if k = 1 then c1 else if k = 2 then c2 else if k = 3 then c3 else c4, fun aa ad wa => ⟨hD, fun k q hq => ?_⟩⟩
  match k, hq with
  | 0, hq => cases hq; exact ⟨h0, g0⟩
  | 1, hq => cases hq; exact ⟨h1, g1⟩
  | 2, hq => cases hq; exact ⟨h2, g2⟩
  | 3, hq => cases hq; exact ⟨h3, g3⟩
  | 4, hq => cases hq; exact ⟨h4, g4⟩
  | k + 5, hq => exact absurd (List.getElem?_eq_some_iff.mp hq).1 (by show ¬ (k + 5 < 5); omega)
