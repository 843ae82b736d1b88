/-! printed by wip/gen/gen.py: the methods, the links, the calls -/
theorem ma {lv : List (Nat × AV)} {q : Nat × AV} (k : Nat) (h : lv[k]? = some q) : q ∈ lv := List.mem_of_getElem? h
theorem okn {n : Int} (h : (decide (-2147483648 ≤ n) && decide (n ≤ 2147483647)) = true) : okv (.inl n) := by
  rw [Bool.and_eq_true, decide_eq_true_eq, decide_eq_true_eq] at h
  exact h
theorem okln {n : Int} (h : (decide (-9223372036854775808 ≤ n) && decide (n ≤ 9223372036854775807)) = true) : okv (.inr (.inl n)) := by
  rw [Bool.and_eq_true, decide_eq_true_eq, decide_eq_true_eq] at h
  exact h
section Nm
variable {M : MI} {pc : Nat} {lv lv' : List (Nat × AV)} {st : List AV} {h : Hp} {Q : Option AV → Hp → Prop}
theorem s_nmI {x : Int} (k : ∀ y, y = x → Go M pc lv (.inl y :: st) h Q) : Go M pc lv (.inl x :: st) h Q := k x rfl
theorem s_nmJ {x : Int} (k : ∀ y, y = x → Go M pc lv (.inr (.inl y) :: st) h Q) : Go M pc lv (.inr (.inl x) :: st) h Q := k x rfl
theorem s_nmA {x : Nat} (k : ∀ y, y = x → Go M pc lv (.inr (.inr y) :: st) h Q) : Go M pc lv (.inr (.inr x) :: st) h Q := k x rfl
theorem s_nmH (k : ∀ y, y = h → Go M pc lv st y Q) : Go M pc lv st h Q := k h rfl
theorem s_pick (ks : List Nat) (he : ks.filterMap (fun k => lv[k]?) = lv') (k : Go M pc lv' st h Q) : Go M pc lv st h Q := by
  refine s_ls (fun q hq => ?_) k
  rw [← he] at hq
  obtain ⟨i, -, hi⟩ := List.mem_filterMap.mp hq
  exact List.mem_of_getElem? hi
end Nm
theorem ac_int : Cond.arrayClass .int ∈ gtbl := gtbl_of 133 (by decide +kernel) rfl
theorem ac_byte : Cond.arrayClass .byte ∈ gtbl := gtbl_of 106 (by decide +kernel) rfl
theorem ac_char : Cond.arrayClass .char ∈ gtbl := gtbl_of 105 (by decide +kernel) rfl
theorem ac_boolean : Cond.arrayClass .boolean ∈ gtbl := gtbl_of 228 (by decide +kernel) rfl
theorem sy_nat : Cond.native arraycopyName ∈ gtbl := by decide +kernel
theorem sy_sta : Cond.static arraycopyName ∈ gtbl := by decide +kernel
theorem sy_ini : Cond.initialized "java/lang/System" ∈ gtbl := by decide +kernel
def i_X0_init : MI := (yX0_init, cX0_init, 1, none, RX0, 1)
theorem mo_X0_init : MOk i_X0_init := ⟨gtbl_of 258 (by decide +kernel) rfl, gtbl_of 61 (by decide +kernel) rfl, rfl, ⟨by decide, by decide⟩, by decide, by decide⟩
def i_X0_append : MI := (yX0_append, cX0_append, 3, some .boolean, RX0, 0)
theorem mo_X0_append : MOk i_X0_append := ⟨gtbl_of 806 (by decide +kernel) rfl, gtbl_of 61 (by decide +kernel) rfl, rfl, ⟨by decide, by decide⟩, by decide, by decide⟩
def i_X0_firstWrong : MI := (yX0_firstWrong, cX0_firstWrong, 3, some .int, RX0, 1)
theorem mo_X0_firstWrong : MOk i_X0_firstWrong := ⟨gtbl_of 814 (by decide +kernel) rfl, gtbl_of 61 (by decide +kernel) rfl, rfl, ⟨by decide, by decide⟩, by decide, by decide⟩
def i_X1_init : MI := (yX1_init, cX1_init, 1, none, RX1, 3)
theorem mo_X1_init : MOk i_X1_init := ⟨gtbl_of 80 (by decide +kernel) rfl, gtbl_of 53 (by decide +kernel) rfl, rfl, ⟨by decide, by decide⟩, by decide, by decide⟩
def i_X1_append : MI := (yX1_append, cX1_append, 2, some .boolean, RX1, 0)
theorem mo_X1_append : MOk i_X1_append := ⟨gtbl_of 359 (by decide +kernel) rfl, gtbl_of 53 (by decide +kernel) rfl, rfl, ⟨by decide, by decide⟩, by decide, by decide⟩
def i_X1_parse : MI := (yX1_parse, cX1_parse, 2, none, RX1, 3)
theorem mo_X1_parse : MOk i_X1_parse := ⟨gtbl_of 368 (by decide +kernel) rfl, gtbl_of 53 (by decide +kernel) rfl, rfl, ⟨by decide, by decide⟩, by decide, by decide⟩
def i_X1_noteFault : MI := (yX1_noteFault, cX1_noteFault, 3, none, RX1, 0)
theorem mo_X1_noteFault : MOk i_X1_noteFault := ⟨gtbl_of 392 (by decide +kernel) rfl, gtbl_of 53 (by decide +kernel) rfl, rfl, ⟨by decide, by decide⟩, by decide, by decide⟩
def i_X1_takeLetter : MI := (yX1_takeLetter, cX1_takeLetter, 2, some .int, RX1, 2)
theorem mo_X1_takeLetter : MOk i_X1_takeLetter := ⟨gtbl_of 372 (by decide +kernel) rfl, gtbl_of 53 (by decide +kernel) rfl, rfl, ⟨by decide, by decide⟩, by decide, by decide⟩
def i_X1_openClause : MI := (yX1_openClause, cX1_openClause, 3, some .int, RX1, 1)
theorem mo_X1_openClause : MOk i_X1_openClause := ⟨gtbl_of 376 (by decide +kernel) rfl, gtbl_of 53 (by decide +kernel) rfl, rfl, ⟨by decide, by decide⟩, by decide, by decide⟩
def i_X1_goOn : MI := (yX1_goOn, cX1_goOn, 3, some .int, RX1, 1)
theorem mo_X1_goOn : MOk i_X1_goOn := ⟨gtbl_of 384 (by decide +kernel) rfl, gtbl_of 53 (by decide +kernel) rfl, rfl, ⟨by decide, by decide⟩, by decide, by decide⟩
def i_X2_init : MI := (yX2_init, cX2_init, 2, none, RX2, 1)
theorem mo_X2_init : MOk i_X2_init := ⟨gtbl_of 86 (by decide +kernel) rfl, gtbl_of 54 (by decide +kernel) rfl, rfl, ⟨by decide, by decide⟩, by decide, by decide⟩
def i_X2_startOver : MI := (yX2_startOver, cX2_startOver, 2, none, RX2, 1)
theorem mo_X2_startOver : MOk i_X2_startOver := ⟨gtbl_of 408 (by decide +kernel) rfl, gtbl_of 54 (by decide +kernel) rfl, rfl, ⟨by decide, by decide⟩, by decide, by decide⟩
def i_X2_get : MI := (yX2_get, cX2_get, 2, some .int, RX2, 0)
theorem mo_X2_get : MOk i_X2_get := ⟨gtbl_of 443 (by decide +kernel) rfl, gtbl_of 54 (by decide +kernel) rfl, rfl, ⟨by decide, by decide⟩, by decide, by decide⟩
def i_X2_set : MI := (yX2_set, cX2_set, 3, none, RX2, 0)
theorem mo_X2_set : MOk i_X2_set := ⟨gtbl_of 591 (by decide +kernel) rfl, gtbl_of 54 (by decide +kernel) rfl, rfl, ⟨by decide, by decide⟩, by decide, by decide⟩
def i_X2_add : MI := (yX2_add, cX2_add, 2, some .boolean, RX2, 0)
theorem mo_X2_add : MOk i_X2_add := ⟨gtbl_of 388 (by decide +kernel) rfl, gtbl_of 54 (by decide +kernel) rfl, rfl, ⟨by decide, by decide⟩, by decide, by decide⟩
def i_X2_addAll : MI := (yX2_addAll, cX2_addAll, 3, none, RX2, 1)
theorem mo_X2_addAll : MOk i_X2_addAll := ⟨gtbl_of 582 (by decide +kernel) rfl, gtbl_of 54 (by decide +kernel) rfl, rfl, ⟨by decide, by decide⟩, by decide, by decide⟩
def i_X2_cut : MI := (yX2_cut, cX2_cut, 2, none, RX2, 1)
theorem mo_X2_cut : MOk i_X2_cut := ⟨gtbl_of 599 (by decide +kernel) rfl, gtbl_of 54 (by decide +kernel) rfl, rfl, ⟨by decide, by decide⟩, by decide, by decide⟩
def i_X2_reverse : MI := (yX2_reverse, cX2_reverse, 3, none, RX2, 0)
theorem mo_X2_reverse : MOk i_X2_reverse := ⟨gtbl_of 607 (by decide +kernel) rfl, gtbl_of 54 (by decide +kernel) rfl, rfl, ⟨by decide, by decide⟩, by decide, by decide⟩
def i_X2_copyFrom : MI := (yX2_copyFrom, cX2_copyFrom, 3, none, RX2, 2)
theorem mo_X2_copyFrom : MOk i_X2_copyFrom := ⟨gtbl_of 404 (by decide +kernel) rfl, gtbl_of 54 (by decide +kernel) rfl, rfl, ⟨by decide, by decide⟩, by decide, by decide⟩
def i_X2_same : MI := (yX2_same, cX2_same, 2, some .boolean, RX2, 1)
theorem mo_X2_same : MOk i_X2_same := ⟨gtbl_of 690 (by decide +kernel) rfl, gtbl_of 54 (by decide +kernel) rfl, rfl, ⟨by decide, by decide⟩, by decide, by decide⟩
def i_X2_standsAt : MI := (yX2_standsAt, cX2_standsAt, 4, some .boolean, RX2, 0)
theorem mo_X2_standsAt : MOk i_X2_standsAt := ⟨gtbl_of 478 (by decide +kernel) rfl, gtbl_of 54 (by decide +kernel) rfl, rfl, ⟨by decide, by decide⟩, by decide, by decide⟩
def i_X2_placeOf : MI := (yX2_placeOf, cX2_placeOf, 3, some .int, RX2, 1)
theorem mo_X2_placeOf : MOk i_X2_placeOf := ⟨gtbl_of 733 (by decide +kernel) rfl, gtbl_of 54 (by decide +kernel) rfl, rfl, ⟨by decide, by decide⟩, by decide, by decide⟩
def i_X2_countOf : MI := (yX2_countOf, cX2_countOf, 4, some .int, RX2, 0)
theorem mo_X2_countOf : MOk i_X2_countOf := ⟨gtbl_of 526 (by decide +kernel) rfl, gtbl_of 54 (by decide +kernel) rfl, rfl, ⟨by decide, by decide⟩, by decide, by decide⟩
def i_X2_has : MI := (yX2_has, cX2_has, 3, some .boolean, RX2, 0)
theorem mo_X2_has : MOk i_X2_has := ⟨gtbl_of 465 (by decide +kernel) rfl, gtbl_of 54 (by decide +kernel) rfl, rfl, ⟨by decide, by decide⟩, by decide, by decide⟩
def i_X2_unlike : MI := (yX2_unlike, cX2_unlike, 3, some .int, RX2, 1)
theorem mo_X2_unlike : MOk i_X2_unlike := ⟨gtbl_of 461 (by decide +kernel) rfl, gtbl_of 54 (by decide +kernel) rfl, rfl, ⟨by decide, by decide⟩, by decide, by decide⟩
def i_X2_runs : MI := (yX2_runs, cX2_runs, 3, some .int, RX2, 1)
theorem mo_X2_runs : MOk i_X2_runs := ⟨gtbl_of 439 (by decide +kernel) rfl, gtbl_of 54 (by decide +kernel) rfl, rfl, ⟨by decide, by decide⟩, by decide, by decide⟩
def i_X2_runFrom : MI := (yX2_runFrom, cX2_runFrom, 4, some .int, RX2, 1)
theorem mo_X2_runFrom : MOk i_X2_runFrom := ⟨gtbl_of 455 (by decide +kernel) rfl, gtbl_of 54 (by decide +kernel) rfl, rfl, ⟨by decide, by decide⟩, by decide, by decide⟩
def i_X2_longestRun : MI := (yX2_longestRun, cX2_longestRun, 2, some .int, RX2, 3)
theorem mo_X2_longestRun : MOk i_X2_longestRun := ⟨gtbl_of 447 (by decide +kernel) rfl, gtbl_of 54 (by decide +kernel) rfl, rfl, ⟨by decide, by decide⟩, by decide, by decide⟩
def i_X2_longestRunStart : MI := (yX2_longestRunStart, cX2_longestRunStart, 5, some .int, RX2, 2)
theorem mo_X2_longestRunStart : MOk i_X2_longestRunStart := ⟨gtbl_of 451 (by decide +kernel) rfl, gtbl_of 54 (by decide +kernel) rfl, rfl, ⟨by decide, by decide⟩, by decide, by decide⟩
def i_X3_init : MI := (yX3_init, cX3_init, 2, none, RX3, 2)
theorem mo_X3_init : MOk i_X3_init := ⟨gtbl_of 233 (by decide +kernel) rfl, gtbl_of 60 (by decide +kernel) rfl, rfl, ⟨by decide, by decide⟩, by decide, by decide⟩
def i_X3_append : MI := (yX3_append, cX3_append, 4, some .boolean, RX3, 0)
theorem mo_X3_append : MOk i_X3_append := ⟨gtbl_of 760 (by decide +kernel) rfl, gtbl_of 60 (by decide +kernel) rfl, rfl, ⟨by decide, by decide⟩, by decide, by decide⟩
def i_X3_kindsThatFit : MI := (yX3_kindsThatFit, cX3_kindsThatFit, 4, some .int, RX3, 5)
theorem mo_X3_kindsThatFit : MOk i_X3_kindsThatFit := ⟨gtbl_of 768 (by decide +kernel) rfl, gtbl_of 60 (by decide +kernel) rfl, rfl, ⟨by decide, by decide⟩, by decide, by decide⟩
def i_X3_fits : MI := (yX3_fits, cX3_fits, 6, some .boolean, RX3, 4)
theorem mo_X3_fits : MOk i_X3_fits := ⟨gtbl_of 772 (by decide +kernel) rfl, gtbl_of 60 (by decide +kernel) rfl, rfl, ⟨by decide, by decide⟩, by decide, by decide⟩
def i_X3_bestToAsk : MI := (yX3_bestToAsk, cX3_bestToAsk, 7, some .int, RX3, 5)
theorem mo_X3_bestToAsk : MOk i_X3_bestToAsk := ⟨gtbl_of 783 (by decide +kernel) rfl, gtbl_of 60 (by decide +kernel) rfl, rfl, ⟨by decide, by decide⟩, by decide, by decide⟩
def i_X3_greatestPart : MI := (yX3_greatestPart, cX3_greatestPart, 5, some .int, RX3, 4)
theorem mo_X3_greatestPart : MOk i_X3_greatestPart := ⟨gtbl_of 793 (by decide +kernel) rfl, gtbl_of 60 (by decide +kernel) rfl, rfl, ⟨by decide, by decide⟩, by decide, by decide⟩
def i_X3_howManyLike : MI := (yX3_howManyLike, cX3_howManyLike, 5, some .int, RX3, 2)
theorem mo_X3_howManyLike : MOk i_X3_howManyLike := ⟨gtbl_of 797 (by decide +kernel) rfl, gtbl_of 60 (by decide +kernel) rfl, rfl, ⟨by decide, by decide⟩, by decide, by decide⟩
def i_X4_init : MI := (yX4_init, cX4_init, 2, none, RX4, 3)
theorem mo_X4_init : MOk i_X4_init := ⟨gtbl_of 214 (by decide +kernel) rfl, gtbl_of 59 (by decide +kernel) rfl, rfl, ⟨by decide, by decide⟩, by decide, by decide⟩
def i_X4_clear : MI := (yX4_clear, cX4_clear, 2, none, RX4, 0)
theorem mo_X4_clear : MOk i_X4_clear := ⟨gtbl_of 423 (by decide +kernel) rfl, gtbl_of 59 (by decide +kernel) rfl, rfl, ⟨by decide, by decide⟩, by decide, by decide⟩
def i_X4_has : MI := (yX4_has, cX4_has, 2, some .boolean, RX4, 0)
theorem mo_X4_has : MOk i_X4_has := ⟨gtbl_of 831 (by decide +kernel) rfl, gtbl_of 59 (by decide +kernel) rfl, rfl, ⟨by decide, by decide⟩, by decide, by decide⟩
def i_X4_isKept : MI := (yX4_isKept, cX4_isKept, 2, some .boolean, RX4, 1)
theorem mo_X4_isKept : MOk i_X4_isKept := ⟨gtbl_of 845 (by decide +kernel) rfl, gtbl_of 59 (by decide +kernel) rfl, rfl, ⟨by decide, by decide⟩, by decide, by decide⟩
def i_X4_take : MI := (yX4_take, cX4_take, 4, none, RX4, 4)
theorem mo_X4_take : MOk i_X4_take := ⟨gtbl_of 835 (by decide +kernel) rfl, gtbl_of 59 (by decide +kernel) rfl, rfl, ⟨by decide, by decide⟩, by decide, by decide⟩
def i_X4_give : MI := (yX4_give, cX4_give, 3, none, RX4, 4)
theorem mo_X4_give : MOk i_X4_give := ⟨gtbl_of 849 (by decide +kernel) rfl, gtbl_of 59 (by decide +kernel) rfl, rfl, ⟨by decide, by decide⟩, by decide, by decide⟩
def i_X4_seedOf : MI := (yX4_seedOf, cX4_seedOf, 2, some .int, RX4, 1)
theorem mo_X4_seedOf : MOk i_X4_seedOf := ⟨gtbl_of 853 (by decide +kernel) rfl, gtbl_of 59 (by decide +kernel) rfl, rfl, ⟨by decide, by decide⟩, by decide, by decide⟩
def i_X5_init : MI := (yX5_init, cX5_init, 1, none, RX5, 1)
theorem mo_X5_init : MOk i_X5_init := ⟨gtbl_of 299 (by decide +kernel) rfl, gtbl_of 63 (by decide +kernel) rfl, rfl, ⟨by decide, by decide⟩, by decide, by decide⟩
def i_X5_find : MI := (yX5_find, cX5_find, 4, none, RX5, 5)
theorem mo_X5_find : MOk i_X5_find := ⟨gtbl_of 699 (by decide +kernel) rfl, gtbl_of 63 (by decide +kernel) rfl, rfl, ⟨by decide, by decide⟩, by decide, by decide⟩
def i_X5_follow : MI := (yX5_follow, cX5_follow, 8, none, RX5, 1)
theorem mo_X5_follow : MOk i_X5_follow := ⟨gtbl_of 704 (by decide +kernel) rfl, gtbl_of 63 (by decide +kernel) rfl, rfl, ⟨by decide, by decide⟩, by decide, by decide⟩
def i_X5_firstPlace : MI := (yX5_firstPlace, cX5_firstPlace, 1, some .int, RX5, 0)
theorem mo_X5_firstPlace : MOk i_X5_firstPlace := ⟨gtbl_of 710 (by decide +kernel) rfl, gtbl_of 63 (by decide +kernel) rfl, rfl, ⟨by decide, by decide⟩, by decide, by decide⟩
def i_X5_longestPart : MI := (yX5_longestPart, cX5_longestPart, 5, some .int, RX5, 1)
theorem mo_X5_longestPart : MOk i_X5_longestPart := ⟨gtbl_of 714 (by decide +kernel) rfl, gtbl_of 63 (by decide +kernel) rfl, rfl, ⟨by decide, by decide⟩, by decide, by decide⟩
def i_X6_init : MI := (yX6_init, cX6_init, 2, none, RX6, 3)
theorem mo_X6_init : MOk i_X6_init := ⟨gtbl_of 194 (by decide +kernel) rfl, gtbl_of 58 (by decide +kernel) rfl, rfl, ⟨by decide, by decide⟩, by decide, by decide⟩
def i_X6_clear : MI := (yX6_clear, cX6_clear, 1, none, RX6, 0)
theorem mo_X6_clear : MOk i_X6_clear := ⟨gtbl_of 427 (by decide +kernel) rfl, gtbl_of 58 (by decide +kernel) rfl, rfl, ⟨by decide, by decide⟩, by decide, by decide⟩
def i_X6_remember : MI := (yX6_remember, cX6_remember, 2, none, RX6, 4)
theorem mo_X6_remember : MOk i_X6_remember := ⟨gtbl_of 538 (by decide +kernel) rfl, gtbl_of 58 (by decide +kernel) rfl, rfl, ⟨by decide, by decide⟩, by decide, by decide⟩
def i_X6_restore : MI := (yX6_restore, cX6_restore, 3, none, RX6, 4)
theorem mo_X6_restore : MOk i_X6_restore := ⟨gtbl_of 631 (by decide +kernel) rfl, gtbl_of 58 (by decide +kernel) rfl, rfl, ⟨by decide, by decide⟩, by decide, by decide⟩
def i_X7_say : MI := (yX7_say, cX7_say, 3, none, RX7, 3)
theorem mo_X7_say : MOk i_X7_say := ⟨gtbl_of 518 (by decide +kernel) rfl, gtbl_of 66 (by decide +kernel) rfl, rfl, ⟨by decide, by decide⟩, by decide, by decide⟩
def i_X7_sayCounts : MI := (yX7_sayCounts, cX7_sayCounts, 3, none, RX7, 2)
theorem mo_X7_sayCounts : MOk i_X7_sayCounts := ⟨gtbl_of 522 (by decide +kernel) rfl, gtbl_of 66 (by decide +kernel) rfl, rfl, ⟨by decide, by decide⟩, by decide, by decide⟩
def i_X7_sayRuns : MI := (yX7_sayRuns, cX7_sayRuns, 7, none, RX7, 2)
theorem mo_X7_sayRuns : MOk i_X7_sayRuns := ⟨gtbl_of 534 (by decide +kernel) rfl, gtbl_of 66 (by decide +kernel) rfl, rfl, ⟨by decide, by decide⟩, by decide, by decide⟩
def i_X7_sayMany : MI := (yX7_sayMany, cX7_sayMany, 7, none, RX7, 1)
theorem mo_X7_sayMany : MOk i_X7_sayMany := ⟨gtbl_of 529 (by decide +kernel) rfl, gtbl_of 66 (by decide +kernel) rfl, rfl, ⟨by decide, by decide⟩, by decide, by decide⟩
def i_X7_sizeUnsaid : MI := (yX7_sizeUnsaid, cX7_sizeUnsaid, 5, some .int, RX7, 1)
theorem mo_X7_sizeUnsaid : MOk i_X7_sizeUnsaid := ⟨gtbl_of 560 (by decide +kernel) rfl, gtbl_of 66 (by decide +kernel) rfl, rfl, ⟨by decide, by decide⟩, by decide, by decide⟩
def i_X7_unsay : MI := (yX7_unsay, cX7_unsay, 4, none, RX7, 2)
theorem mo_X7_unsay : MOk i_X7_unsay := ⟨gtbl_of 565 (by decide +kernel) rfl, gtbl_of 66 (by decide +kernel) rfl, rfl, ⟨by decide, by decide⟩, by decide, by decide⟩
def i_X8_init : MI := (yX8_init, cX8_init, 1, none, RX8, 2)
theorem mo_X8_init : MOk i_X8_init := ⟨gtbl_of 167 (by decide +kernel) rfl, gtbl_of 57 (by decide +kernel) rfl, rfl, ⟨by decide, by decide⟩, by decide, by decide⟩
def i_X8_begin : MI := (yX8_begin, cX8_begin, 2, none, RX8, 3)
theorem mo_X8_begin : MOk i_X8_begin := ⟨gtbl_of 400 (by decide +kernel) rfl, gtbl_of 57 (by decide +kernel) rfl, rfl, ⟨by decide, by decide⟩, by decide, by decide⟩
def i_X8_copyFrom : MI := (yX8_copyFrom, cX8_copyFrom, 2, none, RX8, 3)
theorem mo_X8_copyFrom : MOk i_X8_copyFrom := ⟨gtbl_of 542 (by decide +kernel) rfl, gtbl_of 57 (by decide +kernel) rfl, rfl, ⟨by decide, by decide⟩, by decide, by decide⟩
def i_X8_becomeReading : MI := (yX8_becomeReading, cX8_becomeReading, 3, none, RX8, 3)
theorem mo_X8_becomeReading : MOk i_X8_becomeReading := ⟨gtbl_of 548 (by decide +kernel) rfl, gtbl_of 57 (by decide +kernel) rfl, rfl, ⟨by decide, by decide⟩, by decide, by decide⟩
def i_X8_logReading : MI := (yX8_logReading, cX8_logReading, 3, none, RX8, 1)
theorem mo_X8_logReading : MOk i_X8_logReading := ⟨gtbl_of 552 (by decide +kernel) rfl, gtbl_of 57 (by decide +kernel) rfl, rfl, ⟨by decide, by decide⟩, by decide, by decide⟩
def i_X8_loggedKind : MI := (yX8_loggedKind, cX8_loggedKind, 2, some .int, RX8, 0)
theorem mo_X8_loggedKind : MOk i_X8_loggedKind := ⟨gtbl_of 503 (by decide +kernel) rfl, gtbl_of 57 (by decide +kernel) rfl, rfl, ⟨by decide, by decide⟩, by decide, by decide⟩
def i_X8_loggedSize : MI := (yX8_loggedSize, cX8_loggedSize, 2, some .int, RX8, 0)
theorem mo_X8_loggedSize : MOk i_X8_loggedSize := ⟨gtbl_of 507 (by decide +kernel) rfl, gtbl_of 57 (by decide +kernel) rfl, rfl, ⟨by decide, by decide⟩, by decide, by decide⟩
def i_X9_init : MI := (yX9_init, cX9_init, 2, none, RX9, 2)
theorem mo_X9_init : MOk i_X9_init := ⟨gtbl_of 275 (by decide +kernel) rfl, gtbl_of 62 (by decide +kernel) rfl, rfl, ⟨by decide, by decide⟩, by decide, by decide⟩
def i_X9_begin : MI := (yX9_begin, cX9_begin, 2, none, RX9, 3)
theorem mo_X9_begin : MOk i_X9_begin := ⟨gtbl_of 646 (by decide +kernel) rfl, gtbl_of 62 (by decide +kernel) rfl, rfl, ⟨by decide, by decide⟩, by decide, by decide⟩
def i_X9_readOn : MI := (yX9_readOn, cX9_readOn, 5, some (.object "RowsAloud$Figures"), RX9, 5)
theorem mo_X9_readOn : MOk i_X9_readOn := ⟨gtbl_of 642 (by decide +kernel) rfl, gtbl_of 62 (by decide +kernel) rfl, rfl, ⟨by decide, by decide⟩, by decide, by decide⟩
def i_X9_step : MI := (yX9_step, cX9_step, 2, none, RX9, 4)
theorem mo_X9_step : MOk i_X9_step := ⟨gtbl_of 651 (by decide +kernel) rfl, gtbl_of 62 (by decide +kernel) rfl, rfl, ⟨by decide, by decide⟩, by decide, by decide⟩
def i_X9_swap : MI := (yX9_swap, cX9_swap, 2, none, RX9, 0)
theorem mo_X9_swap : MOk i_X9_swap := ⟨gtbl_of 656 (by decide +kernel) rfl, gtbl_of 62 (by decide +kernel) rfl, rfl, ⟨by decide, by decide⟩, by decide, by decide⟩
def i_X9_firstWith : MI := (yX9_firstWith, cX9_firstWith, 5, some .int, RX9, 5)
theorem mo_X9_firstWith : MOk i_X9_firstWith := ⟨gtbl_of 673 (by decide +kernel) rfl, gtbl_of 62 (by decide +kernel) rfl, rfl, ⟨by decide, by decide⟩, by decide, by decide⟩
def i_X9_comesAgain : MI := (yX9_comesAgain, cX9_comesAgain, 3, some .int, RX9, 4)
theorem mo_X9_comesAgain : MOk i_X9_comesAgain := ⟨gtbl_of 682 (by decide +kernel) rfl, gtbl_of 62 (by decide +kernel) rfl, rfl, ⟨by decide, by decide⟩, by decide, by decide⟩
def i_X9_firstLike : MI := (yX9_firstLike, cX9_firstLike, 3, some .int, RX9, 2)
theorem mo_X9_firstLike : MOk i_X9_firstLike := ⟨gtbl_of 686 (by decide +kernel) rfl, gtbl_of 62 (by decide +kernel) rfl, rfl, ⟨by decide, by decide⟩, by decide, by decide⟩
def i_X9_goOld : MI := (yX9_goOld, cX9_goOld, 4, some .int, RX9, 4)
theorem mo_X9_goOld : MOk i_X9_goOld := ⟨gtbl_of 723 (by decide +kernel) rfl, gtbl_of 62 (by decide +kernel) rfl, rfl, ⟨by decide, by decide⟩, by decide, by decide⟩
def i_X10_init : MI := (yX10_init, cX10_init, 2, none, RX10, 2)
theorem mo_X10_init : MOk i_X10_init := ⟨gtbl_of 111 (by decide +kernel) rfl, gtbl_of 56 (by decide +kernel) rfl, rfl, ⟨by decide, by decide⟩, by decide, by decide⟩
def i_X10_get : MI := (yX10_get, cX10_get, 2, some (.object "RowsAloud$Figures"), RX10, 0)
theorem mo_X10_get : MOk i_X10_get := ⟨gtbl_of 494 (by decide +kernel) rfl, gtbl_of 56 (by decide +kernel) rfl, rfl, ⟨by decide, by decide⟩, by decide, by decide⟩
def i_X10_open : MI := (yX10_open, cX10_open, 2, some (.object "RowsAloud$Figures"), RX10, 0)
theorem mo_X10_open : MOk i_X10_open := ⟨gtbl_of 380 (by decide +kernel) rfl, gtbl_of 56 (by decide +kernel) rfl, rfl, ⟨by decide, by decide⟩, by decide, by decide⟩
def i_X10_copyFrom : MI := (yX10_copyFrom, cX10_copyFrom, 3, none, RX10, 3)
theorem mo_X10_copyFrom : MOk i_X10_copyFrom := ⟨gtbl_of 418 (by decide +kernel) rfl, gtbl_of 56 (by decide +kernel) rfl, rfl, ⟨by decide, by decide⟩, by decide, by decide⟩
def i_X10_waysToTell : MI := (yX10_waysToTell, cX10_waysToTell, 4, some .int, RX10, 2)
theorem mo_X10_waysToTell : MOk i_X10_waysToTell := ⟨gtbl_of 469 (by decide +kernel) rfl, gtbl_of 56 (by decide +kernel) rfl, rfl, ⟨by decide, by decide⟩, by decide, by decide⟩
def i_X10_waysToEnd : MI := (yX10_waysToEnd, cX10_waysToEnd, 6, some .int, RX10, 1)
theorem mo_X10_waysToEnd : MOk i_X10_waysToEnd := ⟨gtbl_of 474 (by decide +kernel) rfl, gtbl_of 56 (by decide +kernel) rfl, rfl, ⟨by decide, by decide⟩, by decide, by decide⟩
def i_X10_fewestChanges : MI := (yX10_fewestChanges, cX10_fewestChanges, 5, some .int, RX10, 2)
theorem mo_X10_fewestChanges : MOk i_X10_fewestChanges := ⟨gtbl_of 741 (by decide +kernel) rfl, gtbl_of 56 (by decide +kernel) rfl, rfl, ⟨by decide, by decide⟩, by decide, by decide⟩
def i_X10_takeIn : MI := (yX10_takeIn, cX10_takeIn, 7, none, RX10, 1)
theorem mo_X10_takeIn : MOk i_X10_takeIn := ⟨gtbl_of 746 (by decide +kernel) rfl, gtbl_of 56 (by decide +kernel) rfl, rfl, ⟨by decide, by decide⟩, by decide, by decide⟩
def i_X11_init : MI := (yX11_init, cX11_init, 1, none, RX11, 4)
theorem mo_X11_init : MOk i_X11_init := ⟨gtbl_of 72 (by decide +kernel) rfl, gtbl_of 52 (by decide +kernel) rfl, rfl, ⟨by decide, by decide⟩, by decide, by decide⟩
def i_X11_feed : MI := (yX11_feed, cX11_feed, 2, some .int, RX11, 1)
theorem mo_X11_feed : MOk i_X11_feed := ⟨gtbl_of 354 (by decide +kernel) rfl, gtbl_of 52 (by decide +kernel) rfl, rfl, ⟨by decide, by decide⟩, by decide, by decide⟩
def i_X11_desk : MI := (yX11_desk, cX11_desk, 1, some .int, RX11, 5)
theorem mo_X11_desk : MOk i_X11_desk := ⟨gtbl_of 364 (by decide +kernel) rfl, gtbl_of 52 (by decide +kernel) rfl, rfl, ⟨by decide, by decide⟩, by decide, by decide⟩
def i_X11_layDesk : MI := (yX11_layDesk, cX11_layDesk, 1, none, RX11, 4)
theorem mo_X11_layDesk : MOk i_X11_layDesk := ⟨gtbl_of 396 (by decide +kernel) rfl, gtbl_of 52 (by decide +kernel) rfl, rfl, ⟨by decide, by decide⟩, by decide, by decide⟩
def i_X11_fault : MI := (yX11_fault, cX11_fault, 1, some .int, RX11, 0)
theorem mo_X11_fault : MOk i_X11_fault := ⟨gtbl_of 431 (by decide +kernel) rfl, gtbl_of 52 (by decide +kernel) rfl, rfl, ⟨by decide, by decide⟩, by decide, by decide⟩
def i_X11_told : MI := (yX11_told, cX11_told, 2, some .int, RX11, 4)
theorem mo_X11_told : MOk i_X11_told := ⟨gtbl_of 435 (by decide +kernel) rfl, gtbl_of 52 (by decide +kernel) rfl, rfl, ⟨by decide, by decide⟩, by decide, by decide⟩
def i_X11_at : MI := (yX11_at, cX11_at, 2, some .int, RX11, 1)
theorem mo_X11_at : MOk i_X11_at := ⟨gtbl_of 483 (by decide +kernel) rfl, gtbl_of 52 (by decide +kernel) rfl, rfl, ⟨by decide, by decide⟩, by decide, by decide⟩
def i_X11_spelt : MI := (yX11_spelt, cX11_spelt, 4, some .int, RX11, 1)
theorem mo_X11_spelt : MOk i_X11_spelt := ⟨gtbl_of 490 (by decide +kernel) rfl, gtbl_of 52 (by decide +kernel) rfl, rfl, ⟨by decide, by decide⟩, by decide, by decide⟩
def i_X11_logged : MI := (yX11_logged, cX11_logged, 3, some .int, RX11, 1)
theorem mo_X11_logged : MOk i_X11_logged := ⟨gtbl_of 499 (by decide +kernel) rfl, gtbl_of 52 (by decide +kernel) rfl, rfl, ⟨by decide, by decide⟩, by decide, by decide⟩
def i_X11_read : MI := (yX11_read, cX11_read, 2, some .int, RX11, 5)
theorem mo_X11_read : MOk i_X11_read := ⟨gtbl_of 511 (by decide +kernel) rfl, gtbl_of 52 (by decide +kernel) rfl, rfl, ⟨by decide, by decide⟩, by decide, by decide⟩
def i_X11_unread : MI := (yX11_unread, cX11_unread, 2, some .int, RX11, 5)
theorem mo_X11_unread : MOk i_X11_unread := ⟨gtbl_of 557 (by decide +kernel) rfl, gtbl_of 52 (by decide +kernel) rfl, rfl, ⟨by decide, by decide⟩, by decide, by decide⟩
def i_X11_put : MI := (yX11_put, cX11_put, 2, some .int, RX11, 5)
theorem mo_X11_put : MOk i_X11_put := ⟨gtbl_of 570 (by decide +kernel) rfl, gtbl_of 52 (by decide +kernel) rfl, rfl, ⟨by decide, by decide⟩, by decide, by decide⟩
def i_X11_word : MI := (yX11_word, cX11_word, 3, some .int, RX11, 5)
theorem mo_X11_word : MOk i_X11_word := ⟨gtbl_of 578 (by decide +kernel) rfl, gtbl_of 52 (by decide +kernel) rfl, rfl, ⟨by decide, by decide⟩, by decide, by decide⟩
def i_X11_change : MI := (yX11_change, cX11_change, 4, some .int, RX11, 5)
theorem mo_X11_change : MOk i_X11_change := ⟨gtbl_of 587 (by decide +kernel) rfl, gtbl_of 52 (by decide +kernel) rfl, rfl, ⟨by decide, by decide⟩, by decide, by decide⟩
def i_X11_drop : MI := (yX11_drop, cX11_drop, 2, some .int, RX11, 5)
theorem mo_X11_drop : MOk i_X11_drop := ⟨gtbl_of 595 (by decide +kernel) rfl, gtbl_of 52 (by decide +kernel) rfl, rfl, ⟨by decide, by decide⟩, by decide, by decide⟩
def i_X11_turn : MI := (yX11_turn, cX11_turn, 1, some .int, RX11, 5)
theorem mo_X11_turn : MOk i_X11_turn := ⟨gtbl_of 603 (by decide +kernel) rfl, gtbl_of 52 (by decide +kernel) rfl, rfl, ⟨by decide, by decide⟩, by decide, by decide⟩
def i_X11_drift : MI := (yX11_drift, cX11_drift, 3, some .int, RX11, 5)
theorem mo_X11_drift : MOk i_X11_drift := ⟨gtbl_of 611 (by decide +kernel) rfl, gtbl_of 52 (by decide +kernel) rfl, rfl, ⟨by decide, by decide⟩, by decide, by decide⟩
def i_X11_driftOnce : MI := (yX11_driftOnce, cX11_driftOnce, 2, none, RX11, 4)
theorem mo_X11_driftOnce : MOk i_X11_driftOnce := ⟨gtbl_of 615 (by decide +kernel) rfl, gtbl_of 52 (by decide +kernel) rfl, rfl, ⟨by decide, by decide⟩, by decide, by decide⟩
def i_X11_draw : MI := (yX11_draw, cX11_draw, 2, some .int, RX11, 0)
theorem mo_X11_draw : MOk i_X11_draw := ⟨gtbl_of 619 (by decide +kernel) rfl, gtbl_of 52 (by decide +kernel) rfl, rfl, ⟨by decide, by decide⟩, by decide, by decide⟩
def i_X11_undo : MI := (yX11_undo, cX11_undo, 2, some .int, RX11, 5)
theorem mo_X11_undo : MOk i_X11_undo := ⟨gtbl_of 627 (by decide +kernel) rfl, gtbl_of 52 (by decide +kernel) rfl, rfl, ⟨by decide, by decide⟩, by decide, by decide⟩
def i_X11_length : MI := (yX11_length, cX11_length, 3, some .int, RX11, 6)
theorem mo_X11_length : MOk i_X11_length := ⟨gtbl_of 635 (by decide +kernel) rfl, gtbl_of 52 (by decide +kernel) rfl, rfl, ⟨by decide, by decide⟩, by decide, by decide⟩
def i_X11_figure : MI := (yX11_figure, cX11_figure, 4, some .int, RX11, 6)
theorem mo_X11_figure : MOk i_X11_figure := ⟨gtbl_of 660 (by decide +kernel) rfl, gtbl_of 52 (by decide +kernel) rfl, rfl, ⟨by decide, by decide⟩, by decide, by decide⟩
def i_X11_often : MI := (yX11_often, cX11_often, 4, some .int, RX11, 6)
theorem mo_X11_often : MOk i_X11_often := ⟨gtbl_of 664 (by decide +kernel) rfl, gtbl_of 52 (by decide +kernel) rfl, rfl, ⟨by decide, by decide⟩, by decide, by decide⟩
def i_X11_first : MI := (yX11_first, cX11_first, 3, some .int, RX11, 6)
theorem mo_X11_first : MOk i_X11_first := ⟨gtbl_of 669 (by decide +kernel) rfl, gtbl_of 52 (by decide +kernel) rfl, rfl, ⟨by decide, by decide⟩, by decide, by decide⟩
def i_X11_again : MI := (yX11_again, cX11_again, 3, some .int, RX11, 5)
theorem mo_X11_again : MOk i_X11_again := ⟨gtbl_of 678 (by decide +kernel) rfl, gtbl_of 52 (by decide +kernel) rfl, rfl, ⟨by decide, by decide⟩, by decide, by decide⟩
def i_X11_apart : MI := (yX11_apart, cX11_apart, 2, some .int, RX11, 6)
theorem mo_X11_apart : MOk i_X11_apart := ⟨gtbl_of 695 (by decide +kernel) rfl, gtbl_of 52 (by decide +kernel) rfl, rfl, ⟨by decide, by decide⟩, by decide, by decide⟩
def i_X11_back : MI := (yX11_back, cX11_back, 3, some .int, RX11, 5)
theorem mo_X11_back : MOk i_X11_back := ⟨gtbl_of 719 (by decide +kernel) rfl, gtbl_of 52 (by decide +kernel) rfl, rfl, ⟨by decide, by decide⟩, by decide, by decide⟩
def i_X11_in : MI := (yX11_in, cX11_in, 3, some .int, RX11, 2)
theorem mo_X11_in : MOk i_X11_in := ⟨gtbl_of 729 (by decide +kernel) rfl, gtbl_of 52 (by decide +kernel) rfl, rfl, ⟨by decide, by decide⟩, by decide, by decide⟩
def i_X11_changes : MI := (yX11_changes, cX11_changes, 3, some .int, RX11, 3)
theorem mo_X11_changes : MOk i_X11_changes := ⟨gtbl_of 737 (by decide +kernel) rfl, gtbl_of 52 (by decide +kernel) rfl, rfl, ⟨by decide, by decide⟩, by decide, by decide⟩
def i_X11_noSlip : MI := (yX11_noSlip, cX11_noSlip, 6, some .int, RX11, 0)
theorem mo_X11_noSlip : MOk i_X11_noSlip := ⟨gtbl_of 750 (by decide +kernel) rfl, gtbl_of 52 (by decide +kernel) rfl, rfl, ⟨by decide, by decide⟩, by decide, by decide⟩
def i_X11_hear : MI := (yX11_hear, cX11_hear, 4, some .int, RX11, 1)
theorem mo_X11_hear : MOk i_X11_hear := ⟨gtbl_of 756 (by decide +kernel) rfl, gtbl_of 52 (by decide +kernel) rfl, rfl, ⟨by decide, by decide⟩, by decide, by decide⟩
def i_X11_couldBe : MI := (yX11_couldBe, cX11_couldBe, 1, some .int, RX11, 6)
theorem mo_X11_couldBe : MOk i_X11_couldBe := ⟨gtbl_of 764 (by decide +kernel) rfl, gtbl_of 52 (by decide +kernel) rfl, rfl, ⟨by decide, by decide⟩, by decide, by decide⟩
def i_X11_ask : MI := (yX11_ask, cX11_ask, 1, some .int, RX11, 6)
theorem mo_X11_ask : MOk i_X11_ask := ⟨gtbl_of 779 (by decide +kernel) rfl, gtbl_of 52 (by decide +kernel) rfl, rfl, ⟨by decide, by decide⟩, by decide, by decide⟩
def i_X11_write : MI := (yX11_write, cX11_write, 3, some .int, RX11, 1)
theorem mo_X11_write : MOk i_X11_write := ⟨gtbl_of 802 (by decide +kernel) rfl, gtbl_of 52 (by decide +kernel) rfl, rfl, ⟨by decide, by decide⟩, by decide, by decide⟩
def i_X11_judge : MI := (yX11_judge, cX11_judge, 1, some .int, RX11, 2)
theorem mo_X11_judge : MOk i_X11_judge := ⟨gtbl_of 810 (by decide +kernel) rfl, gtbl_of 52 (by decide +kernel) rfl, rfl, ⟨by decide, by decide⟩, by decide, by decide⟩
def i_X11_tear : MI := (yX11_tear, cX11_tear, 2, some .int, RX11, 0)
theorem mo_X11_tear : MOk i_X11_tear := ⟨gtbl_of 819 (by decide +kernel) rfl, gtbl_of 52 (by decide +kernel) rfl, rfl, ⟨by decide, by decide⟩, by decide, by decide⟩
def i_X11_seed : MI := (yX11_seed, cX11_seed, 3, some .int, RX11, 0)
theorem mo_X11_seed : MOk i_X11_seed := ⟨gtbl_of 823 (by decide +kernel) rfl, gtbl_of 52 (by decide +kernel) rfl, rfl, ⟨by decide, by decide⟩, by decide, by decide⟩
def i_X11_keep : MI := (yX11_keep, cX11_keep, 2, some .int, RX11, 5)
theorem mo_X11_keep : MOk i_X11_keep := ⟨gtbl_of 827 (by decide +kernel) rfl, gtbl_of 52 (by decide +kernel) rfl, rfl, ⟨by decide, by decide⟩, by decide, by decide⟩
def i_X11_goBack : MI := (yX11_goBack, cX11_goBack, 2, some .int, RX11, 5)
theorem mo_X11_goBack : MOk i_X11_goBack := ⟨gtbl_of 841 (by decide +kernel) rfl, gtbl_of 52 (by decide +kernel) rfl, rfl, ⟨by decide, by decide⟩, by decide, by decide⟩
def i_X11_isKind : MI := (yX11_isKind, cX11_isKind, 1, some .boolean, RX11, 0)
theorem mo_X11_isKind : MOk i_X11_isKind := ⟨gtbl_of 514 (by decide +kernel) rfl, gtbl_of 52 (by decide +kernel) rfl, rfl, ⟨by decide, by decide⟩, by decide, by decide⟩
def i_X11_isFigure : MI := (yX11_isFigure, cX11_isFigure, 1, some .boolean, RX11, 0)
theorem mo_X11_isFigure : MOk i_X11_isFigure := ⟨gtbl_of 573 (by decide +kernel) rfl, gtbl_of 52 (by decide +kernel) rfl, rfl, ⟨by decide, by decide⟩, by decide, by decide⟩
def i_X11_isPlace : MI := (yX11_isPlace, cX11_isPlace, 1, some .boolean, RX11, 0)
theorem mo_X11_isPlace : MOk i_X11_isPlace := ⟨gtbl_of 486 (by decide +kernel) rfl, gtbl_of 52 (by decide +kernel) rfl, rfl, ⟨by decide, by decide⟩, by decide, by decide⟩
def i_X11_isTried : MI := (yX11_isTried, cX11_isTried, 2, some .boolean, RX11, 1)
theorem mo_X11_isTried : MOk i_X11_isTried := ⟨gtbl_of 638 (by decide +kernel) rfl, gtbl_of 52 (by decide +kernel) rfl, rfl, ⟨by decide, by decide⟩, by decide, by decide⟩
def i_X12_init : MI := (yX12_init, cX12_init, 1, none, RX12, 1)
theorem mo_X12_init : MOk i_X12_init := ⟨gtbl_of 858 (by decide +kernel) rfl, gtbl_of 64 (by decide +kernel) rfl, rfl, ⟨by decide, by decide⟩, by decide, by decide⟩
def i_X12_is : MI := (yX12_is, cX12_is, 3, some .boolean, RX12, 0)
theorem mo_X12_is : MOk i_X12_is := ⟨gtbl_of 987 (by decide +kernel) rfl, gtbl_of 64 (by decide +kernel) rfl, rfl, ⟨by decide, by decide⟩, by decide, by decide⟩
def i_X12_has : MI := (yX12_has, cX12_has, 2, some .boolean, RX12, 0)
theorem mo_X12_has : MOk i_X12_has := ⟨gtbl_of 1039 (by decide +kernel) rfl, gtbl_of 64 (by decide +kernel) rfl, rfl, ⟨by decide, by decide⟩, by decide, by decide⟩
def i_X12_bring : MI := (yX12_bring, cX12_bring, 6, none, RX12, 0)
theorem mo_X12_bring : MOk i_X12_bring := ⟨gtbl_of 1016 (by decide +kernel) rfl, gtbl_of 64 (by decide +kernel) rfl, rfl, ⟨by decide, by decide⟩, by decide, by decide⟩
def i_X12_feed : MI := (yX12_feed, cX12_feed, 2, some .int, RX12, 1)
theorem mo_X12_feed : MOk i_X12_feed := ⟨gtbl_of 984 (by decide +kernel) rfl, gtbl_of 64 (by decide +kernel) rfl, rfl, ⟨by decide, by decide⟩, by decide, by decide⟩
def i_X12_peek : MI := (yX12_peek, cX12_peek, 1, some .int, RX12, 0)
theorem mo_X12_peek : MOk i_X12_peek := ⟨gtbl_of 1001 (by decide +kernel) rfl, gtbl_of 64 (by decide +kernel) rfl, rfl, ⟨by decide, by decide⟩, by decide, by decide⟩
def i_X12_isBad : MI := (yX12_isBad, cX12_isBad, 2, some .boolean, RX12, 0)
theorem mo_X12_isBad : MOk i_X12_isBad := ⟨gtbl_of 1009 (by decide +kernel) rfl, gtbl_of 64 (by decide +kernel) rfl, rfl, ⟨by decide, by decide⟩, by decide, by decide⟩
def i_X12_isFigures : MI := (yX12_isFigures, cX12_isFigures, 5, some .boolean, RX12, 1)
theorem mo_X12_isFigures : MOk i_X12_isFigures := ⟨gtbl_of 1013 (by decide +kernel) rfl, gtbl_of 64 (by decide +kernel) rfl, rfl, ⟨by decide, by decide⟩, by decide, by decide⟩
def i_X12_isClause : MI := (yX12_isClause, cX12_isClause, 3, some .boolean, RX12, 2)
theorem mo_X12_isClause : MOk i_X12_isClause := ⟨gtbl_of 1005 (by decide +kernel) rfl, gtbl_of 64 (by decide +kernel) rfl, rfl, ⟨by decide, by decide⟩, by decide, by decide⟩
def i_X12_isRead : MI := (yX12_isRead, cX12_isRead, 2, some .boolean, RX12, 3)
theorem mo_X12_isRead : MOk i_X12_isRead := ⟨gtbl_of 997 (by decide +kernel) rfl, gtbl_of 64 (by decide +kernel) rfl, rfl, ⟨by decide, by decide⟩, by decide, by decide⟩
def i_X12_desk : MI := (yX12_desk, cX12_desk, 3, some .int, RX12, 4)
theorem mo_X12_desk : MOk i_X12_desk := ⟨gtbl_of 993 (by decide +kernel) rfl, gtbl_of 64 (by decide +kernel) rfl, rfl, ⟨by decide, by decide⟩, by decide, by decide⟩
def i_X12_fault : MI := (yX12_fault, cX12_fault, 1, some .int, RX12, 0)
theorem mo_X12_fault : MOk i_X12_fault := ⟨gtbl_of 1020 (by decide +kernel) rfl, gtbl_of 64 (by decide +kernel) rfl, rfl, ⟨by decide, by decide⟩, by decide, by decide⟩
def i_X12_runs : MI := (yX12_runs, cX12_runs, 3, some .int, RX12, 0)
theorem mo_X12_runs : MOk i_X12_runs := ⟨gtbl_of 1028 (by decide +kernel) rfl, gtbl_of 64 (by decide +kernel) rfl, rfl, ⟨by decide, by decide⟩, by decide, by decide⟩
def i_X12_longest : MI := (yX12_longest, cX12_longest, 6, some .int, RX12, 0)
theorem mo_X12_longest : MOk i_X12_longest := ⟨gtbl_of 1032 (by decide +kernel) rfl, gtbl_of 64 (by decide +kernel) rfl, rfl, ⟨by decide, by decide⟩, by decide, by decide⟩
def i_X12_unlikeOnes : MI := (yX12_unlikeOnes, cX12_unlikeOnes, 4, some .int, RX12, 1)
theorem mo_X12_unlikeOnes : MOk i_X12_unlikeOnes := ⟨gtbl_of 1036 (by decide +kernel) rfl, gtbl_of 64 (by decide +kernel) rfl, rfl, ⟨by decide, by decide⟩, by decide, by decide⟩
def i_X12_stands : MI := (yX12_stands, cX12_stands, 5, some .boolean, RX12, 0)
theorem mo_X12_stands : MOk i_X12_stands := ⟨gtbl_of 1047 (by decide +kernel) rfl, gtbl_of 64 (by decide +kernel) rfl, rfl, ⟨by decide, by decide⟩, by decide, by decide⟩
def i_X12_waysToTell : MI := (yX12_waysToTell, cX12_waysToTell, 6, some .int, RX12, 1)
theorem mo_X12_waysToTell : MOk i_X12_waysToTell := ⟨gtbl_of 1043 (by decide +kernel) rfl, gtbl_of 64 (by decide +kernel) rfl, rfl, ⟨by decide, by decide⟩, by decide, by decide⟩
def i_X12_told : MI := (yX12_told, cX12_told, 2, some .int, RX12, 2)
theorem mo_X12_told : MOk i_X12_told := ⟨gtbl_of 1024 (by decide +kernel) rfl, gtbl_of 64 (by decide +kernel) rfl, rfl, ⟨by decide, by decide⟩, by decide, by decide⟩
def i_X12_figureAt : MI := (yX12_figureAt, cX12_figureAt, 2, some .int, RX12, 0)
theorem mo_X12_figureAt : MOk i_X12_figureAt := ⟨gtbl_of 1057 (by decide +kernel) rfl, gtbl_of 64 (by decide +kernel) rfl, rfl, ⟨by decide, by decide⟩, by decide, by decide⟩
def i_X12_at : MI := (yX12_at, cX12_at, 2, some .int, RX12, 1)
theorem mo_X12_at : MOk i_X12_at := ⟨gtbl_of 1053 (by decide +kernel) rfl, gtbl_of 64 (by decide +kernel) rfl, rfl, ⟨by decide, by decide⟩, by decide, by decide⟩
def i_X12_isWord : MI := (yX12_isWord, cX12_isWord, 2, some .boolean, RX12, 1)
theorem mo_X12_isWord : MOk i_X12_isWord := ⟨gtbl_of 1065 (by decide +kernel) rfl, gtbl_of 64 (by decide +kernel) rfl, rfl, ⟨by decide, by decide⟩, by decide, by decide⟩
def i_X12_spelt : MI := (yX12_spelt, cX12_spelt, 3, some .int, RX12, 2)
theorem mo_X12_spelt : MOk i_X12_spelt := ⟨gtbl_of 1061 (by decide +kernel) rfl, gtbl_of 64 (by decide +kernel) rfl, rfl, ⟨by decide, by decide⟩, by decide, by decide⟩
def i_X12_logged : MI := (yX12_logged, cX12_logged, 3, some .int, RX12, 1)
theorem mo_X12_logged : MOk i_X12_logged := ⟨gtbl_of 1070 (by decide +kernel) rfl, gtbl_of 64 (by decide +kernel) rfl, rfl, ⟨by decide, by decide⟩, by decide, by decide⟩
def i_X12_say : MI := (yX12_say, cX12_say, 2, none, RX12, 0)
theorem mo_X12_say : MOk i_X12_say := ⟨gtbl_of 1094 (by decide +kernel) rfl, gtbl_of 64 (by decide +kernel) rfl, rfl, ⟨by decide, by decide⟩, by decide, by decide⟩
def i_X12_sayRun : MI := (yX12_sayRun, cX12_sayRun, 6, none, RX12, 1)
theorem mo_X12_sayRun : MOk i_X12_sayRun := ⟨gtbl_of 1090 (by decide +kernel) rfl, gtbl_of 64 (by decide +kernel) rfl, rfl, ⟨by decide, by decide⟩, by decide, by decide⟩
def i_X12_sayRuns : MI := (yX12_sayRuns, cX12_sayRuns, 4, none, RX12, 2)
theorem mo_X12_sayRuns : MOk i_X12_sayRuns := ⟨gtbl_of 1102 (by decide +kernel) rfl, gtbl_of 64 (by decide +kernel) rfl, rfl, ⟨by decide, by decide⟩, by decide, by decide⟩
def i_X12_sayBackward : MI := (yX12_sayBackward, cX12_sayBackward, 3, none, RX12, 2)
theorem mo_X12_sayBackward : MOk i_X12_sayBackward := ⟨gtbl_of 1086 (by decide +kernel) rfl, gtbl_of 64 (by decide +kernel) rfl, rfl, ⟨by decide, by decide⟩, by decide, by decide⟩
def i_X12_sayAll : MI := (yX12_sayAll, cX12_sayAll, 4, none, RX12, 2)
theorem mo_X12_sayAll : MOk i_X12_sayAll := ⟨gtbl_of 1098 (by decide +kernel) rfl, gtbl_of 64 (by decide +kernel) rfl, rfl, ⟨by decide, by decide⟩, by decide, by decide⟩
def i_X12_reads : MI := (yX12_reads, cX12_reads, 2, none, RX12, 3)
theorem mo_X12_reads : MOk i_X12_reads := ⟨gtbl_of 1082 (by decide +kernel) rfl, gtbl_of 64 (by decide +kernel) rfl, rfl, ⟨by decide, by decide⟩, by decide, by decide⟩
def i_X12_begin : MI := (yX12_begin, cX12_begin, 1, none, RX12, 1)
theorem mo_X12_begin : MOk i_X12_begin := ⟨gtbl_of 1078 (by decide +kernel) rfl, gtbl_of 64 (by decide +kernel) rfl, rfl, ⟨by decide, by decide⟩, by decide, by decide⟩
def i_X12_note : MI := (yX12_note, cX12_note, 1, none, RX12, 1)
theorem mo_X12_note : MOk i_X12_note := ⟨gtbl_of 1107 (by decide +kernel) rfl, gtbl_of 64 (by decide +kernel) rfl, rfl, ⟨by decide, by decide⟩, by decide, by decide⟩
def i_X12_become : MI := (yX12_become, cX12_become, 1, none, RX12, 1)
theorem mo_X12_become : MOk i_X12_become := ⟨gtbl_of 1115 (by decide +kernel) rfl, gtbl_of 64 (by decide +kernel) rfl, rfl, ⟨by decide, by decide⟩, by decide, by decide⟩
def i_X12_logs : MI := (yX12_logs, cX12_logs, 3, none, RX12, 2)
theorem mo_X12_logs : MOk i_X12_logs := ⟨gtbl_of 1111 (by decide +kernel) rfl, gtbl_of 64 (by decide +kernel) rfl, rfl, ⟨by decide, by decide⟩, by decide, by decide⟩
def i_X12_read : MI := (yX12_read, cX12_read, 2, some .int, RX12, 4)
theorem mo_X12_read : MOk i_X12_read := ⟨gtbl_of 1074 (by decide +kernel) rfl, gtbl_of 64 (by decide +kernel) rfl, rfl, ⟨by decide, by decide⟩, by decide, by decide⟩
def i_X12_isUnread : MI := (yX12_isUnread, cX12_isUnread, 4, some .boolean, RX12, 1)
theorem mo_X12_isUnread : MOk i_X12_isUnread := ⟨gtbl_of 1123 (by decide +kernel) rfl, gtbl_of 64 (by decide +kernel) rfl, rfl, ⟨by decide, by decide⟩, by decide, by decide⟩
def i_X12_unread : MI := (yX12_unread, cX12_unread, 1, some .int, RX12, 2)
theorem mo_X12_unread : MOk i_X12_unread := ⟨gtbl_of 1119 (by decide +kernel) rfl, gtbl_of 64 (by decide +kernel) rfl, rfl, ⟨by decide, by decide⟩, by decide, by decide⟩
def i_X12_put : MI := (yX12_put, cX12_put, 2, some .int, RX12, 2)
theorem mo_X12_put : MOk i_X12_put := ⟨gtbl_of 1128 (by decide +kernel) rfl, gtbl_of 64 (by decide +kernel) rfl, rfl, ⟨by decide, by decide⟩, by decide, by decide⟩
def i_X12_word : MI := (yX12_word, cX12_word, 2, some .int, RX12, 2)
theorem mo_X12_word : MOk i_X12_word := ⟨gtbl_of 1132 (by decide +kernel) rfl, gtbl_of 64 (by decide +kernel) rfl, rfl, ⟨by decide, by decide⟩, by decide, by decide⟩
def i_X12_change : MI := (yX12_change, cX12_change, 4, some .int, RX12, 2)
theorem mo_X12_change : MOk i_X12_change := ⟨gtbl_of 1136 (by decide +kernel) rfl, gtbl_of 64 (by decide +kernel) rfl, rfl, ⟨by decide, by decide⟩, by decide, by decide⟩
def i_X12_drop : MI := (yX12_drop, cX12_drop, 2, some .int, RX12, 2)
theorem mo_X12_drop : MOk i_X12_drop := ⟨gtbl_of 1140 (by decide +kernel) rfl, gtbl_of 64 (by decide +kernel) rfl, rfl, ⟨by decide, by decide⟩, by decide, by decide⟩
def i_X12_turn : MI := (yX12_turn, cX12_turn, 4, some .int, RX12, 2)
theorem mo_X12_turn : MOk i_X12_turn := ⟨gtbl_of 1144 (by decide +kernel) rfl, gtbl_of 64 (by decide +kernel) rfl, rfl, ⟨by decide, by decide⟩, by decide, by decide⟩
def i_X12_draw : MI := (yX12_draw, cX12_draw, 2, some .int, RX12, 0)
theorem mo_X12_draw : MOk i_X12_draw := ⟨gtbl_of 1156 (by decide +kernel) rfl, gtbl_of 64 (by decide +kernel) rfl, rfl, ⟨by decide, by decide⟩, by decide, by decide⟩
def i_X12_drifts : MI := (yX12_drifts, cX12_drifts, 2, none, RX12, 4)
theorem mo_X12_drifts : MOk i_X12_drifts := ⟨gtbl_of 1152 (by decide +kernel) rfl, gtbl_of 64 (by decide +kernel) rfl, rfl, ⟨by decide, by decide⟩, by decide, by decide⟩
def i_X12_drift : MI := (yX12_drift, cX12_drift, 3, some .int, RX12, 5)
theorem mo_X12_drift : MOk i_X12_drift := ⟨gtbl_of 1148 (by decide +kernel) rfl, gtbl_of 64 (by decide +kernel) rfl, rfl, ⟨by decide, by decide⟩, by decide, by decide⟩
def i_X12_undo : MI := (yX12_undo, cX12_undo, 2, some .int, RX12, 1)
theorem mo_X12_undo : MOk i_X12_undo := ⟨gtbl_of 1164 (by decide +kernel) rfl, gtbl_of 64 (by decide +kernel) rfl, rfl, ⟨by decide, by decide⟩, by decide, by decide⟩
def i_X12_readOn : MI := (yX12_readOn, cX12_readOn, 4, none, RX12, 4)
theorem mo_X12_readOn : MOk i_X12_readOn := ⟨gtbl_of 1175 (by decide +kernel) rfl, gtbl_of 64 (by decide +kernel) rfl, rfl, ⟨by decide, by decide⟩, by decide, by decide⟩
def i_X12_isTried : MI := (yX12_isTried, cX12_isTried, 2, some .boolean, RX12, 1)
theorem mo_X12_isTried : MOk i_X12_isTried := ⟨gtbl_of 1171 (by decide +kernel) rfl, gtbl_of 64 (by decide +kernel) rfl, rfl, ⟨by decide, by decide⟩, by decide, by decide⟩
def i_X12_length : MI := (yX12_length, cX12_length, 3, some .int, RX12, 5)
theorem mo_X12_length : MOk i_X12_length := ⟨gtbl_of 1168 (by decide +kernel) rfl, gtbl_of 64 (by decide +kernel) rfl, rfl, ⟨by decide, by decide⟩, by decide, by decide⟩
def i_X12_figure : MI := (yX12_figure, cX12_figure, 4, some .int, RX12, 5)
theorem mo_X12_figure : MOk i_X12_figure := ⟨gtbl_of 1179 (by decide +kernel) rfl, gtbl_of 64 (by decide +kernel) rfl, rfl, ⟨by decide, by decide⟩, by decide, by decide⟩
def i_X12_oftenThere : MI := (yX12_oftenThere, cX12_oftenThere, 4, some .int, RX12, 0)
theorem mo_X12_oftenThere : MOk i_X12_oftenThere := ⟨gtbl_of 1187 (by decide +kernel) rfl, gtbl_of 64 (by decide +kernel) rfl, rfl, ⟨by decide, by decide⟩, by decide, by decide⟩
def i_X12_often : MI := (yX12_often, cX12_often, 4, some .int, RX12, 5)
theorem mo_X12_often : MOk i_X12_often := ⟨gtbl_of 1183 (by decide +kernel) rfl, gtbl_of 64 (by decide +kernel) rfl, rfl, ⟨by decide, by decide⟩, by decide, by decide⟩
def i_X12_first : MI := (yX12_first, cX12_first, 4, some .int, RX12, 4)
theorem mo_X12_first : MOk i_X12_first := ⟨gtbl_of 1191 (by decide +kernel) rfl, gtbl_of 64 (by decide +kernel) rfl, rfl, ⟨by decide, by decide⟩, by decide, by decide⟩
def i_X12_isPast : MI := (yX12_isPast, cX12_isPast, 4, some .boolean, RX12, 0)
theorem mo_X12_isPast : MOk i_X12_isPast := ⟨gtbl_of 1203 (by decide +kernel) rfl, gtbl_of 64 (by decide +kernel) rfl, rfl, ⟨by decide, by decide⟩, by decide, by decide⟩
def i_X12_earlier : MI := (yX12_earlier, cX12_earlier, 3, some .int, RX12, 1)
theorem mo_X12_earlier : MOk i_X12_earlier := ⟨gtbl_of 1199 (by decide +kernel) rfl, gtbl_of 64 (by decide +kernel) rfl, rfl, ⟨by decide, by decide⟩, by decide, by decide⟩
def i_X12_again : MI := (yX12_again, cX12_again, 4, some .int, RX12, 4)
theorem mo_X12_again : MOk i_X12_again := ⟨gtbl_of 1195 (by decide +kernel) rfl, gtbl_of 64 (by decide +kernel) rfl, rfl, ⟨by decide, by decide⟩, by decide, by decide⟩
def i_X12_addPart : MI := (yX12_addPart, cX12_addPart, 5, none, RX12, 4)
theorem mo_X12_addPart : MOk i_X12_addPart := ⟨gtbl_of 1215 (by decide +kernel) rfl, gtbl_of 64 (by decide +kernel) rfl, rfl, ⟨by decide, by decide⟩, by decide, by decide⟩
def i_X12_isApart : MI := (yX12_isApart, cX12_isApart, 5, some .boolean, RX12, 5)
theorem mo_X12_isApart : MOk i_X12_isApart := ⟨gtbl_of 1211 (by decide +kernel) rfl, gtbl_of 64 (by decide +kernel) rfl, rfl, ⟨by decide, by decide⟩, by decide, by decide⟩
def i_X12_apart : MI := (yX12_apart, cX12_apart, 7, some .int, RX12, 6)
theorem mo_X12_apart : MOk i_X12_apart := ⟨gtbl_of 1207 (by decide +kernel) rfl, gtbl_of 64 (by decide +kernel) rfl, rfl, ⟨by decide, by decide⟩, by decide, by decide⟩
def i_X12_isItself : MI := (yX12_isItself, cX12_isItself, 3, some .boolean, RX12, 0)
theorem mo_X12_isItself : MOk i_X12_isItself := ⟨gtbl_of 1223 (by decide +kernel) rfl, gtbl_of 64 (by decide +kernel) rfl, rfl, ⟨by decide, by decide⟩, by decide, by decide⟩
def i_X12_back : MI := (yX12_back, cX12_back, 3, some .int, RX12, 2)
theorem mo_X12_back : MOk i_X12_back := ⟨gtbl_of 1219 (by decide +kernel) rfl, gtbl_of 64 (by decide +kernel) rfl, rfl, ⟨by decide, by decide⟩, by decide, by decide⟩
def i_X12_in : MI := (yX12_in, cX12_in, 3, some .int, RX12, 2)
theorem mo_X12_in : MOk i_X12_in := ⟨gtbl_of 1227 (by decide +kernel) rfl, gtbl_of 64 (by decide +kernel) rfl, rfl, ⟨by decide, by decide⟩, by decide, by decide⟩
def i_X12_changes : MI := (yX12_changes, cX12_changes, 9, some .int, RX12, 2)
theorem mo_X12_changes : MOk i_X12_changes := ⟨gtbl_of 1231 (by decide +kernel) rfl, gtbl_of 64 (by decide +kernel) rfl, rfl, ⟨by decide, by decide⟩, by decide, by decide⟩
def i_X12_noSlip : MI := (yX12_noSlip, cX12_noSlip, 6, some .int, RX12, 1)
theorem mo_X12_noSlip : MOk i_X12_noSlip := ⟨gtbl_of 1235 (by decide +kernel) rfl, gtbl_of 64 (by decide +kernel) rfl, rfl, ⟨by decide, by decide⟩, by decide, by decide⟩
def i_X12_hear : MI := (yX12_hear, cX12_hear, 4, some .int, RX12, 2)
theorem mo_X12_hear : MOk i_X12_hear := ⟨gtbl_of 1240 (by decide +kernel) rfl, gtbl_of 64 (by decide +kernel) rfl, rfl, ⟨by decide, by decide⟩, by decide, by decide⟩
def i_X12_readWord : MI := (yX12_readWord, cX12_readWord, 3, none, RX12, 4)
theorem mo_X12_readWord : MOk i_X12_readWord := ⟨gtbl_of 1248 (by decide +kernel) rfl, gtbl_of 64 (by decide +kernel) rfl, rfl, ⟨by decide, by decide⟩, by decide, by decide⟩
def i_X12_isSaid : MI := (yX12_isSaid, cX12_isSaid, 4, some .boolean, RX12, 0)
theorem mo_X12_isSaid : MOk i_X12_isSaid := ⟨gtbl_of 1252 (by decide +kernel) rfl, gtbl_of 64 (by decide +kernel) rfl, rfl, ⟨by decide, by decide⟩, by decide, by decide⟩
def i_X12_couldBe : MI := (yX12_couldBe, cX12_couldBe, 5, some .int, RX12, 5)
theorem mo_X12_couldBe : MOk i_X12_couldBe := ⟨gtbl_of 1244 (by decide +kernel) rfl, gtbl_of 64 (by decide +kernel) rfl, rfl, ⟨by decide, by decide⟩, by decide, by decide⟩
def i_X12_alikeOnes : MI := (yX12_alikeOnes, cX12_alikeOnes, 7, some .int, RX12, 1)
theorem mo_X12_alikeOnes : MOk i_X12_alikeOnes := ⟨gtbl_of 1261 (by decide +kernel) rfl, gtbl_of 64 (by decide +kernel) rfl, rfl, ⟨by decide, by decide⟩, by decide, by decide⟩
def i_X12_ask : MI := (yX12_ask, cX12_ask, 8, some .int, RX12, 6)
theorem mo_X12_ask : MOk i_X12_ask := ⟨gtbl_of 1256 (by decide +kernel) rfl, gtbl_of 64 (by decide +kernel) rfl, rfl, ⟨by decide, by decide⟩, by decide, by decide⟩
def i_X12_write : MI := (yX12_write, cX12_write, 3, some .int, RX12, 1)
theorem mo_X12_write : MOk i_X12_write := ⟨gtbl_of 1265 (by decide +kernel) rfl, gtbl_of 64 (by decide +kernel) rfl, rfl, ⟨by decide, by decide⟩, by decide, by decide⟩
def i_X12_judge : MI := (yX12_judge, cX12_judge, 2, some .int, RX12, 1)
theorem mo_X12_judge : MOk i_X12_judge := ⟨gtbl_of 1269 (by decide +kernel) rfl, gtbl_of 64 (by decide +kernel) rfl, rfl, ⟨by decide, by decide⟩, by decide, by decide⟩
def i_X12_tear : MI := (yX12_tear, cX12_tear, 2, some .int, RX12, 0)
theorem mo_X12_tear : MOk i_X12_tear := ⟨gtbl_of 1273 (by decide +kernel) rfl, gtbl_of 64 (by decide +kernel) rfl, rfl, ⟨by decide, by decide⟩, by decide, by decide⟩
def i_X12_seed : MI := (yX12_seed, cX12_seed, 3, some .int, RX12, 0)
theorem mo_X12_seed : MOk i_X12_seed := ⟨gtbl_of 1277 (by decide +kernel) rfl, gtbl_of 64 (by decide +kernel) rfl, rfl, ⟨by decide, by decide⟩, by decide, by decide⟩
def i_X12_keep : MI := (yX12_keep, cX12_keep, 2, some .int, RX12, 1)
theorem mo_X12_keep : MOk i_X12_keep := ⟨gtbl_of 1281 (by decide +kernel) rfl, gtbl_of 64 (by decide +kernel) rfl, rfl, ⟨by decide, by decide⟩, by decide, by decide⟩
def i_X12_goBack : MI := (yX12_goBack, cX12_goBack, 2, some .int, RX12, 1)
theorem mo_X12_goBack : MOk i_X12_goBack := ⟨gtbl_of 1285 (by decide +kernel) rfl, gtbl_of 64 (by decide +kernel) rfl, rfl, ⟨by decide, by decide⟩, by decide, by decide⟩
def i_J_bitCount : MI := (yJ6_bitCount_0f7a4, cJ6_bitCount_0f7a4, 1, some .int, RJ6, 0)
theorem mo_J_bitCount : MOk i_J_bitCount := ⟨gtbl_of 786 (by decide +kernel) rfl, gtbl_of 67 (by decide +kernel) rfl, rfl, ⟨by decide, by decide⟩, by decide, by decide⟩
def i_L_law : MI := (x, code, 4, some .boolean, RL, 9)
def C_X0_init (x0 : Nat) (h : Hp) (Q : Hp → Prop) : Prop := Go i_X0_init 0 (lvA 0 [.inr (.inr x0)]) [] h (qV Q)
theorem C_X0_init_mono {x0 : Nat} {h : Hp} {Q Q' : Hp → Prop} (k : C_X0_init x0 h Q) (f : ∀ h1, Q h1 → Q' h1) : C_X0_init x0 h Q' := Go.mono k (fun r h1 q => ⟨q.1, f h1 q.2⟩)
def C_X0_append (x0 : Nat) (x1 : Int) (x2 : Int) (h : Hp) (Q : Int → Hp → Prop) : Prop := Go i_X0_append 0 (lvA 0 [.inr (.inr x0), .inl x1, .inl x2]) [] h (qI Q)
theorem C_X0_append_mono {x0 : Nat} {x1 : Int} {x2 : Int} {h : Hp} {Q Q' : Int → Hp → Prop} (k : C_X0_append x0 x1 x2 h Q) (f : ∀ r h1, Q r h1 → Q' r h1) : C_X0_append x0 x1 x2 h Q' := Go.mono k (fun r h1 q => q.elim fun z hz => ⟨z, hz.1, f z h1 hz.2⟩)
def C_X0_firstWrong (x0 : Nat) (x1 : Nat) (h : Hp) (Q : Int → Hp → Prop) : Prop := Go i_X0_firstWrong 0 (lvA 0 [.inr (.inr x0), .inr (.inr x1)]) [] h (qI Q)
theorem C_X0_firstWrong_mono {x0 : Nat} {x1 : Nat} {h : Hp} {Q Q' : Int → Hp → Prop} (k : C_X0_firstWrong x0 x1 h Q) (f : ∀ r h1, Q r h1 → Q' r h1) : C_X0_firstWrong x0 x1 h Q' := Go.mono k (fun r h1 q => q.elim fun z hz => ⟨z, hz.1, f z h1 hz.2⟩)
def C_X1_init (x0 : Nat) (h : Hp) (Q : Hp → Prop) : Prop := Go i_X1_init 0 (lvA 0 [.inr (.inr x0)]) [] h (qV Q)
theorem C_X1_init_mono {x0 : Nat} {h : Hp} {Q Q' : Hp → Prop} (k : C_X1_init x0 h Q) (f : ∀ h1, Q h1 → Q' h1) : C_X1_init x0 h Q' := Go.mono k (fun r h1 q => ⟨q.1, f h1 q.2⟩)
def C_X1_append (x0 : Nat) (x1 : Int) (h : Hp) (Q : Int → Hp → Prop) : Prop := Go i_X1_append 0 (lvA 0 [.inr (.inr x0), .inl x1]) [] h (qI Q)
theorem C_X1_append_mono {x0 : Nat} {x1 : Int} {h : Hp} {Q Q' : Int → Hp → Prop} (k : C_X1_append x0 x1 h Q) (f : ∀ r h1, Q r h1 → Q' r h1) : C_X1_append x0 x1 h Q' := Go.mono k (fun r h1 q => q.elim fun z hz => ⟨z, hz.1, f z h1 hz.2⟩)
def C_X1_parse (x0 : Nat) (h : Hp) (Q : Hp → Prop) : Prop := Go i_X1_parse 0 (lvA 0 [.inr (.inr x0)]) [] h (qV Q)
theorem C_X1_parse_mono {x0 : Nat} {h : Hp} {Q Q' : Hp → Prop} (k : C_X1_parse x0 h Q) (f : ∀ h1, Q h1 → Q' h1) : C_X1_parse x0 h Q' := Go.mono k (fun r h1 q => ⟨q.1, f h1 q.2⟩)
def C_X1_noteFault (x0 : Nat) (x1 : Int) (x2 : Int) (h : Hp) (Q : Hp → Prop) : Prop := Go i_X1_noteFault 0 (lvA 0 [.inr (.inr x0), .inl x1, .inl x2]) [] h (qV Q)
theorem C_X1_noteFault_mono {x0 : Nat} {x1 : Int} {x2 : Int} {h : Hp} {Q Q' : Hp → Prop} (k : C_X1_noteFault x0 x1 x2 h Q) (f : ∀ h1, Q h1 → Q' h1) : C_X1_noteFault x0 x1 x2 h Q' := Go.mono k (fun r h1 q => ⟨q.1, f h1 q.2⟩)
def C_X1_takeLetter (x0 : Nat) (x1 : Int) (h : Hp) (Q : Int → Hp → Prop) : Prop := Go i_X1_takeLetter 0 (lvA 0 [.inr (.inr x0), .inl x1]) [] h (qI Q)
theorem C_X1_takeLetter_mono {x0 : Nat} {x1 : Int} {h : Hp} {Q Q' : Int → Hp → Prop} (k : C_X1_takeLetter x0 x1 h Q) (f : ∀ r h1, Q r h1 → Q' r h1) : C_X1_takeLetter x0 x1 h Q' := Go.mono k (fun r h1 q => q.elim fun z hz => ⟨z, hz.1, f z h1 hz.2⟩)
def C_X1_openClause (x0 : Nat) (x1 : Int) (h : Hp) (Q : Int → Hp → Prop) : Prop := Go i_X1_openClause 0 (lvA 0 [.inr (.inr x0), .inl x1]) [] h (qI Q)
theorem C_X1_openClause_mono {x0 : Nat} {x1 : Int} {h : Hp} {Q Q' : Int → Hp → Prop} (k : C_X1_openClause x0 x1 h Q) (f : ∀ r h1, Q r h1 → Q' r h1) : C_X1_openClause x0 x1 h Q' := Go.mono k (fun r h1 q => q.elim fun z hz => ⟨z, hz.1, f z h1 hz.2⟩)
def C_X1_goOn (x0 : Nat) (x1 : Int) (x2 : Nat) (h : Hp) (Q : Int → Hp → Prop) : Prop := Go i_X1_goOn 0 (lvA 0 [.inr (.inr x0), .inl x1, .inr (.inr x2)]) [] h (qI Q)
theorem C_X1_goOn_mono {x0 : Nat} {x1 : Int} {x2 : Nat} {h : Hp} {Q Q' : Int → Hp → Prop} (k : C_X1_goOn x0 x1 x2 h Q) (f : ∀ r h1, Q r h1 → Q' r h1) : C_X1_goOn x0 x1 x2 h Q' := Go.mono k (fun r h1 q => q.elim fun z hz => ⟨z, hz.1, f z h1 hz.2⟩)
def C_X2_init (x0 : Nat) (x1 : Int) (h : Hp) (Q : Hp → Prop) : Prop := Go i_X2_init 0 (lvA 0 [.inr (.inr x0), .inl x1]) [] h (qV Q)
theorem C_X2_init_mono {x0 : Nat} {x1 : Int} {h : Hp} {Q Q' : Hp → Prop} (k : C_X2_init x0 x1 h Q) (f : ∀ h1, Q h1 → Q' h1) : C_X2_init x0 x1 h Q' := Go.mono k (fun r h1 q => ⟨q.1, f h1 q.2⟩)
def C_X2_startOver (x0 : Nat) (x1 : Int) (h : Hp) (Q : Hp → Prop) : Prop := Go i_X2_startOver 0 (lvA 0 [.inr (.inr x0), .inl x1]) [] h (qV Q)
theorem C_X2_startOver_mono {x0 : Nat} {x1 : Int} {h : Hp} {Q Q' : Hp → Prop} (k : C_X2_startOver x0 x1 h Q) (f : ∀ h1, Q h1 → Q' h1) : C_X2_startOver x0 x1 h Q' := Go.mono k (fun r h1 q => ⟨q.1, f h1 q.2⟩)
def C_X2_get (x0 : Nat) (x1 : Int) (h : Hp) (Q : Int → Hp → Prop) : Prop := Go i_X2_get 0 (lvA 0 [.inr (.inr x0), .inl x1]) [] h (qI Q)
theorem C_X2_get_mono {x0 : Nat} {x1 : Int} {h : Hp} {Q Q' : Int → Hp → Prop} (k : C_X2_get x0 x1 h Q) (f : ∀ r h1, Q r h1 → Q' r h1) : C_X2_get x0 x1 h Q' := Go.mono k (fun r h1 q => q.elim fun z hz => ⟨z, hz.1, f z h1 hz.2⟩)
def C_X2_set (x0 : Nat) (x1 : Int) (x2 : Int) (h : Hp) (Q : Hp → Prop) : Prop := Go i_X2_set 0 (lvA 0 [.inr (.inr x0), .inl x1, .inl x2]) [] h (qV Q)
theorem C_X2_set_mono {x0 : Nat} {x1 : Int} {x2 : Int} {h : Hp} {Q Q' : Hp → Prop} (k : C_X2_set x0 x1 x2 h Q) (f : ∀ h1, Q h1 → Q' h1) : C_X2_set x0 x1 x2 h Q' := Go.mono k (fun r h1 q => ⟨q.1, f h1 q.2⟩)
def C_X2_add (x0 : Nat) (x1 : Int) (h : Hp) (Q : Int → Hp → Prop) : Prop := Go i_X2_add 0 (lvA 0 [.inr (.inr x0), .inl x1]) [] h (qI Q)
theorem C_X2_add_mono {x0 : Nat} {x1 : Int} {h : Hp} {Q Q' : Int → Hp → Prop} (k : C_X2_add x0 x1 h Q) (f : ∀ r h1, Q r h1 → Q' r h1) : C_X2_add x0 x1 h Q' := Go.mono k (fun r h1 q => q.elim fun z hz => ⟨z, hz.1, f z h1 hz.2⟩)
def C_X2_addAll (x0 : Nat) (x1 : Nat) (h : Hp) (Q : Hp → Prop) : Prop := Go i_X2_addAll 0 (lvA 0 [.inr (.inr x0), .inr (.inr x1)]) [] h (qV Q)
theorem C_X2_addAll_mono {x0 : Nat} {x1 : Nat} {h : Hp} {Q Q' : Hp → Prop} (k : C_X2_addAll x0 x1 h Q) (f : ∀ h1, Q h1 → Q' h1) : C_X2_addAll x0 x1 h Q' := Go.mono k (fun r h1 q => ⟨q.1, f h1 q.2⟩)
def C_X2_cut (x0 : Nat) (x1 : Int) (h : Hp) (Q : Hp → Prop) : Prop := Go i_X2_cut 0 (lvA 0 [.inr (.inr x0), .inl x1]) [] h (qV Q)
theorem C_X2_cut_mono {x0 : Nat} {x1 : Int} {h : Hp} {Q Q' : Hp → Prop} (k : C_X2_cut x0 x1 h Q) (f : ∀ h1, Q h1 → Q' h1) : C_X2_cut x0 x1 h Q' := Go.mono k (fun r h1 q => ⟨q.1, f h1 q.2⟩)
def C_X2_reverse (x0 : Nat) (h : Hp) (Q : Hp → Prop) : Prop := Go i_X2_reverse 0 (lvA 0 [.inr (.inr x0)]) [] h (qV Q)
theorem C_X2_reverse_mono {x0 : Nat} {h : Hp} {Q Q' : Hp → Prop} (k : C_X2_reverse x0 h Q) (f : ∀ h1, Q h1 → Q' h1) : C_X2_reverse x0 h Q' := Go.mono k (fun r h1 q => ⟨q.1, f h1 q.2⟩)
def C_X2_copyFrom (x0 : Nat) (x1 : Nat) (h : Hp) (Q : Hp → Prop) : Prop := Go i_X2_copyFrom 0 (lvA 0 [.inr (.inr x0), .inr (.inr x1)]) [] h (qV Q)
theorem C_X2_copyFrom_mono {x0 : Nat} {x1 : Nat} {h : Hp} {Q Q' : Hp → Prop} (k : C_X2_copyFrom x0 x1 h Q) (f : ∀ h1, Q h1 → Q' h1) : C_X2_copyFrom x0 x1 h Q' := Go.mono k (fun r h1 q => ⟨q.1, f h1 q.2⟩)
def C_X2_same (x0 : Nat) (x1 : Nat) (h : Hp) (Q : Int → Hp → Prop) : Prop := Go i_X2_same 0 (lvA 0 [.inr (.inr x0), .inr (.inr x1)]) [] h (qI Q)
theorem C_X2_same_mono {x0 : Nat} {x1 : Nat} {h : Hp} {Q Q' : Int → Hp → Prop} (k : C_X2_same x0 x1 h Q) (f : ∀ r h1, Q r h1 → Q' r h1) : C_X2_same x0 x1 h Q' := Go.mono k (fun r h1 q => q.elim fun z hz => ⟨z, hz.1, f z h1 hz.2⟩)
def C_X2_standsAt (x0 : Nat) (x1 : Int) (x2 : Nat) (h : Hp) (Q : Int → Hp → Prop) : Prop := Go i_X2_standsAt 0 (lvA 0 [.inr (.inr x0), .inl x1, .inr (.inr x2)]) [] h (qI Q)
theorem C_X2_standsAt_mono {x0 : Nat} {x1 : Int} {x2 : Nat} {h : Hp} {Q Q' : Int → Hp → Prop} (k : C_X2_standsAt x0 x1 x2 h Q) (f : ∀ r h1, Q r h1 → Q' r h1) : C_X2_standsAt x0 x1 x2 h Q' := Go.mono k (fun r h1 q => q.elim fun z hz => ⟨z, hz.1, f z h1 hz.2⟩)
def C_X2_placeOf (x0 : Nat) (x1 : Nat) (h : Hp) (Q : Int → Hp → Prop) : Prop := Go i_X2_placeOf 0 (lvA 0 [.inr (.inr x0), .inr (.inr x1)]) [] h (qI Q)
theorem C_X2_placeOf_mono {x0 : Nat} {x1 : Nat} {h : Hp} {Q Q' : Int → Hp → Prop} (k : C_X2_placeOf x0 x1 h Q) (f : ∀ r h1, Q r h1 → Q' r h1) : C_X2_placeOf x0 x1 h Q' := Go.mono k (fun r h1 q => q.elim fun z hz => ⟨z, hz.1, f z h1 hz.2⟩)
def C_X2_countOf (x0 : Nat) (x1 : Int) (h : Hp) (Q : Int → Hp → Prop) : Prop := Go i_X2_countOf 0 (lvA 0 [.inr (.inr x0), .inl x1]) [] h (qI Q)
theorem C_X2_countOf_mono {x0 : Nat} {x1 : Int} {h : Hp} {Q Q' : Int → Hp → Prop} (k : C_X2_countOf x0 x1 h Q) (f : ∀ r h1, Q r h1 → Q' r h1) : C_X2_countOf x0 x1 h Q' := Go.mono k (fun r h1 q => q.elim fun z hz => ⟨z, hz.1, f z h1 hz.2⟩)
def C_X2_has (x0 : Nat) (x1 : Int) (h : Hp) (Q : Int → Hp → Prop) : Prop := Go i_X2_has 0 (lvA 0 [.inr (.inr x0), .inl x1]) [] h (qI Q)
theorem C_X2_has_mono {x0 : Nat} {x1 : Int} {h : Hp} {Q Q' : Int → Hp → Prop} (k : C_X2_has x0 x1 h Q) (f : ∀ r h1, Q r h1 → Q' r h1) : C_X2_has x0 x1 h Q' := Go.mono k (fun r h1 q => q.elim fun z hz => ⟨z, hz.1, f z h1 hz.2⟩)
def C_X2_unlike (x0 : Nat) (h : Hp) (Q : Int → Hp → Prop) : Prop := Go i_X2_unlike 0 (lvA 0 [.inr (.inr x0)]) [] h (qI Q)
theorem C_X2_unlike_mono {x0 : Nat} {h : Hp} {Q Q' : Int → Hp → Prop} (k : C_X2_unlike x0 h Q) (f : ∀ r h1, Q r h1 → Q' r h1) : C_X2_unlike x0 h Q' := Go.mono k (fun r h1 q => q.elim fun z hz => ⟨z, hz.1, f z h1 hz.2⟩)
def C_X2_runs (x0 : Nat) (h : Hp) (Q : Int → Hp → Prop) : Prop := Go i_X2_runs 0 (lvA 0 [.inr (.inr x0)]) [] h (qI Q)
theorem C_X2_runs_mono {x0 : Nat} {h : Hp} {Q Q' : Int → Hp → Prop} (k : C_X2_runs x0 h Q) (f : ∀ r h1, Q r h1 → Q' r h1) : C_X2_runs x0 h Q' := Go.mono k (fun r h1 q => q.elim fun z hz => ⟨z, hz.1, f z h1 hz.2⟩)
def C_X2_runFrom (x0 : Nat) (x1 : Int) (h : Hp) (Q : Int → Hp → Prop) : Prop := Go i_X2_runFrom 0 (lvA 0 [.inr (.inr x0), .inl x1]) [] h (qI Q)
theorem C_X2_runFrom_mono {x0 : Nat} {x1 : Int} {h : Hp} {Q Q' : Int → Hp → Prop} (k : C_X2_runFrom x0 x1 h Q) (f : ∀ r h1, Q r h1 → Q' r h1) : C_X2_runFrom x0 x1 h Q' := Go.mono k (fun r h1 q => q.elim fun z hz => ⟨z, hz.1, f z h1 hz.2⟩)
def C_X2_longestRun (x0 : Nat) (h : Hp) (Q : Int → Hp → Prop) : Prop := Go i_X2_longestRun 0 (lvA 0 [.inr (.inr x0)]) [] h (qI Q)
theorem C_X2_longestRun_mono {x0 : Nat} {h : Hp} {Q Q' : Int → Hp → Prop} (k : C_X2_longestRun x0 h Q) (f : ∀ r h1, Q r h1 → Q' r h1) : C_X2_longestRun x0 h Q' := Go.mono k (fun r h1 q => q.elim fun z hz => ⟨z, hz.1, f z h1 hz.2⟩)
def C_X2_longestRunStart (x0 : Nat) (h : Hp) (Q : Int → Hp → Prop) : Prop := Go i_X2_longestRunStart 0 (lvA 0 [.inr (.inr x0)]) [] h (qI Q)
theorem C_X2_longestRunStart_mono {x0 : Nat} {h : Hp} {Q Q' : Int → Hp → Prop} (k : C_X2_longestRunStart x0 h Q) (f : ∀ r h1, Q r h1 → Q' r h1) : C_X2_longestRunStart x0 h Q' := Go.mono k (fun r h1 q => q.elim fun z hz => ⟨z, hz.1, f z h1 hz.2⟩)
def C_X3_init (x0 : Nat) (h : Hp) (Q : Hp → Prop) : Prop := Go i_X3_init 0 (lvA 0 [.inr (.inr x0)]) [] h (qV Q)
theorem C_X3_init_mono {x0 : Nat} {h : Hp} {Q Q' : Hp → Prop} (k : C_X3_init x0 h Q) (f : ∀ h1, Q h1 → Q' h1) : C_X3_init x0 h Q' := Go.mono k (fun r h1 q => ⟨q.1, f h1 q.2⟩)
def C_X3_append (x0 : Nat) (x1 : Int) (x2 : Int) (x3 : Int) (h : Hp) (Q : Int → Hp → Prop) : Prop := Go i_X3_append 0 (lvA 0 [.inr (.inr x0), .inl x1, .inl x2, .inl x3]) [] h (qI Q)
theorem C_X3_append_mono {x0 : Nat} {x1 : Int} {x2 : Int} {x3 : Int} {h : Hp} {Q Q' : Int → Hp → Prop} (k : C_X3_append x0 x1 x2 x3 h Q) (f : ∀ r h1, Q r h1 → Q' r h1) : C_X3_append x0 x1 x2 x3 h Q' := Go.mono k (fun r h1 q => q.elim fun z hz => ⟨z, hz.1, f z h1 hz.2⟩)
def C_X3_kindsThatFit (x0 : Nat) (x1 : Nat) (h : Hp) (Q : Int → Hp → Prop) : Prop := Go i_X3_kindsThatFit 0 (lvA 0 [.inr (.inr x0), .inr (.inr x1)]) [] h (qI Q)
theorem C_X3_kindsThatFit_mono {x0 : Nat} {x1 : Nat} {h : Hp} {Q Q' : Int → Hp → Prop} (k : C_X3_kindsThatFit x0 x1 h Q) (f : ∀ r h1, Q r h1 → Q' r h1) : C_X3_kindsThatFit x0 x1 h Q' := Go.mono k (fun r h1 q => q.elim fun z hz => ⟨z, hz.1, f z h1 hz.2⟩)
def C_X3_fits (x0 : Nat) (x1 : Int) (x2 : Nat) (h : Hp) (Q : Int → Hp → Prop) : Prop := Go i_X3_fits 0 (lvA 0 [.inr (.inr x0), .inl x1, .inr (.inr x2)]) [] h (qI Q)
theorem C_X3_fits_mono {x0 : Nat} {x1 : Int} {x2 : Nat} {h : Hp} {Q Q' : Int → Hp → Prop} (k : C_X3_fits x0 x1 x2 h Q) (f : ∀ r h1, Q r h1 → Q' r h1) : C_X3_fits x0 x1 x2 h Q' := Go.mono k (fun r h1 q => q.elim fun z hz => ⟨z, hz.1, f z h1 hz.2⟩)
def C_X3_bestToAsk (x0 : Nat) (x1 : Nat) (x2 : Int) (h : Hp) (Q : Int → Hp → Prop) : Prop := Go i_X3_bestToAsk 0 (lvA 0 [.inr (.inr x0), .inr (.inr x1), .inl x2]) [] h (qI Q)
theorem C_X3_bestToAsk_mono {x0 : Nat} {x1 : Nat} {x2 : Int} {h : Hp} {Q Q' : Int → Hp → Prop} (k : C_X3_bestToAsk x0 x1 x2 h Q) (f : ∀ r h1, Q r h1 → Q' r h1) : C_X3_bestToAsk x0 x1 x2 h Q' := Go.mono k (fun r h1 q => q.elim fun z hz => ⟨z, hz.1, f z h1 hz.2⟩)
def C_X3_greatestPart (x0 : Nat) (x1 : Nat) (x2 : Int) (h : Hp) (Q : Int → Hp → Prop) : Prop := Go i_X3_greatestPart 0 (lvA 0 [.inr (.inr x0), .inr (.inr x1), .inl x2]) [] h (qI Q)
theorem C_X3_greatestPart_mono {x0 : Nat} {x1 : Nat} {x2 : Int} {h : Hp} {Q Q' : Int → Hp → Prop} (k : C_X3_greatestPart x0 x1 x2 h Q) (f : ∀ r h1, Q r h1 → Q' r h1) : C_X3_greatestPart x0 x1 x2 h Q' := Go.mono k (fun r h1 q => q.elim fun z hz => ⟨z, hz.1, f z h1 hz.2⟩)
def C_X3_howManyLike (x0 : Nat) (x1 : Int) (x2 : Int) (h : Hp) (Q : Int → Hp → Prop) : Prop := Go i_X3_howManyLike 0 (lvA 0 [.inr (.inr x0), .inl x1, .inl x2]) [] h (qI Q)
theorem C_X3_howManyLike_mono {x0 : Nat} {x1 : Int} {x2 : Int} {h : Hp} {Q Q' : Int → Hp → Prop} (k : C_X3_howManyLike x0 x1 x2 h Q) (f : ∀ r h1, Q r h1 → Q' r h1) : C_X3_howManyLike x0 x1 x2 h Q' := Go.mono k (fun r h1 q => q.elim fun z hz => ⟨z, hz.1, f z h1 hz.2⟩)
def C_X4_init (x0 : Nat) (h : Hp) (Q : Hp → Prop) : Prop := Go i_X4_init 0 (lvA 0 [.inr (.inr x0)]) [] h (qV Q)
theorem C_X4_init_mono {x0 : Nat} {h : Hp} {Q Q' : Hp → Prop} (k : C_X4_init x0 h Q) (f : ∀ h1, Q h1 → Q' h1) : C_X4_init x0 h Q' := Go.mono k (fun r h1 q => ⟨q.1, f h1 q.2⟩)
def C_X4_clear (x0 : Nat) (h : Hp) (Q : Hp → Prop) : Prop := Go i_X4_clear 0 (lvA 0 [.inr (.inr x0)]) [] h (qV Q)
theorem C_X4_clear_mono {x0 : Nat} {h : Hp} {Q Q' : Hp → Prop} (k : C_X4_clear x0 h Q) (f : ∀ h1, Q h1 → Q' h1) : C_X4_clear x0 h Q' := Go.mono k (fun r h1 q => ⟨q.1, f h1 q.2⟩)
def C_X4_has (x0 : Nat) (x1 : Int) (h : Hp) (Q : Int → Hp → Prop) : Prop := Go i_X4_has 0 (lvA 0 [.inr (.inr x0), .inl x1]) [] h (qI Q)
theorem C_X4_has_mono {x0 : Nat} {x1 : Int} {h : Hp} {Q Q' : Int → Hp → Prop} (k : C_X4_has x0 x1 h Q) (f : ∀ r h1, Q r h1 → Q' r h1) : C_X4_has x0 x1 h Q' := Go.mono k (fun r h1 q => q.elim fun z hz => ⟨z, hz.1, f z h1 hz.2⟩)
def C_X4_isKept (x0 : Nat) (x1 : Int) (h : Hp) (Q : Int → Hp → Prop) : Prop := Go i_X4_isKept 0 (lvA 0 [.inr (.inr x0), .inl x1]) [] h (qI Q)
theorem C_X4_isKept_mono {x0 : Nat} {x1 : Int} {h : Hp} {Q Q' : Int → Hp → Prop} (k : C_X4_isKept x0 x1 h Q) (f : ∀ r h1, Q r h1 → Q' r h1) : C_X4_isKept x0 x1 h Q' := Go.mono k (fun r h1 q => q.elim fun z hz => ⟨z, hz.1, f z h1 hz.2⟩)
def C_X4_take (x0 : Nat) (x1 : Int) (x2 : Nat) (x3 : Int) (h : Hp) (Q : Hp → Prop) : Prop := Go i_X4_take 0 (lvA 0 [.inr (.inr x0), .inl x1, .inr (.inr x2), .inl x3]) [] h (qV Q)
theorem C_X4_take_mono {x0 : Nat} {x1 : Int} {x2 : Nat} {x3 : Int} {h : Hp} {Q Q' : Hp → Prop} (k : C_X4_take x0 x1 x2 x3 h Q) (f : ∀ h1, Q h1 → Q' h1) : C_X4_take x0 x1 x2 x3 h Q' := Go.mono k (fun r h1 q => ⟨q.1, f h1 q.2⟩)
def C_X4_give (x0 : Nat) (x1 : Int) (x2 : Nat) (h : Hp) (Q : Hp → Prop) : Prop := Go i_X4_give 0 (lvA 0 [.inr (.inr x0), .inl x1, .inr (.inr x2)]) [] h (qV Q)
theorem C_X4_give_mono {x0 : Nat} {x1 : Int} {x2 : Nat} {h : Hp} {Q Q' : Hp → Prop} (k : C_X4_give x0 x1 x2 h Q) (f : ∀ h1, Q h1 → Q' h1) : C_X4_give x0 x1 x2 h Q' := Go.mono k (fun r h1 q => ⟨q.1, f h1 q.2⟩)
def C_X4_seedOf (x0 : Nat) (x1 : Int) (h : Hp) (Q : Int → Hp → Prop) : Prop := Go i_X4_seedOf 0 (lvA 0 [.inr (.inr x0), .inl x1]) [] h (qI Q)
theorem C_X4_seedOf_mono {x0 : Nat} {x1 : Int} {h : Hp} {Q Q' : Int → Hp → Prop} (k : C_X4_seedOf x0 x1 h Q) (f : ∀ r h1, Q r h1 → Q' r h1) : C_X4_seedOf x0 x1 h Q' := Go.mono k (fun r h1 q => q.elim fun z hz => ⟨z, hz.1, f z h1 hz.2⟩)
def C_X5_init (x0 : Nat) (h : Hp) (Q : Hp → Prop) : Prop := Go i_X5_init 0 (lvA 0 [.inr (.inr x0)]) [] h (qV Q)
theorem C_X5_init_mono {x0 : Nat} {h : Hp} {Q Q' : Hp → Prop} (k : C_X5_init x0 h Q) (f : ∀ h1, Q h1 → Q' h1) : C_X5_init x0 h Q' := Go.mono k (fun r h1 q => ⟨q.1, f h1 q.2⟩)
def C_X5_find (x0 : Nat) (x1 : Nat) (x2 : Nat) (h : Hp) (Q : Hp → Prop) : Prop := Go i_X5_find 0 (lvA 0 [.inr (.inr x0), .inr (.inr x1), .inr (.inr x2)]) [] h (qV Q)
theorem C_X5_find_mono {x0 : Nat} {x1 : Nat} {x2 : Nat} {h : Hp} {Q Q' : Hp → Prop} (k : C_X5_find x0 x1 x2 h Q) (f : ∀ h1, Q h1 → Q' h1) : C_X5_find x0 x1 x2 h Q' := Go.mono k (fun r h1 q => ⟨q.1, f h1 q.2⟩)
def C_X5_follow (x0 : Nat) (x1 : Nat) (h : Hp) (Q : Hp → Prop) : Prop := Go i_X5_follow 0 (lvA 0 [.inr (.inr x0), .inr (.inr x1)]) [] h (qV Q)
theorem C_X5_follow_mono {x0 : Nat} {x1 : Nat} {h : Hp} {Q Q' : Hp → Prop} (k : C_X5_follow x0 x1 h Q) (f : ∀ h1, Q h1 → Q' h1) : C_X5_follow x0 x1 h Q' := Go.mono k (fun r h1 q => ⟨q.1, f h1 q.2⟩)
def C_X5_firstPlace (x0 : Nat) (h : Hp) (Q : Int → Hp → Prop) : Prop := Go i_X5_firstPlace 0 (lvA 0 [.inr (.inr x0)]) [] h (qI Q)
theorem C_X5_firstPlace_mono {x0 : Nat} {h : Hp} {Q Q' : Int → Hp → Prop} (k : C_X5_firstPlace x0 h Q) (f : ∀ r h1, Q r h1 → Q' r h1) : C_X5_firstPlace x0 h Q' := Go.mono k (fun r h1 q => q.elim fun z hz => ⟨z, hz.1, f z h1 hz.2⟩)
def C_X5_longestPart (x0 : Nat) (x1 : Int) (h : Hp) (Q : Int → Hp → Prop) : Prop := Go i_X5_longestPart 0 (lvA 0 [.inr (.inr x0), .inl x1]) [] h (qI Q)
theorem C_X5_longestPart_mono {x0 : Nat} {x1 : Int} {h : Hp} {Q Q' : Int → Hp → Prop} (k : C_X5_longestPart x0 x1 h Q) (f : ∀ r h1, Q r h1 → Q' r h1) : C_X5_longestPart x0 x1 h Q' := Go.mono k (fun r h1 q => q.elim fun z hz => ⟨z, hz.1, f z h1 hz.2⟩)
def C_X6_init (x0 : Nat) (h : Hp) (Q : Hp → Prop) : Prop := Go i_X6_init 0 (lvA 0 [.inr (.inr x0)]) [] h (qV Q)
theorem C_X6_init_mono {x0 : Nat} {h : Hp} {Q Q' : Hp → Prop} (k : C_X6_init x0 h Q) (f : ∀ h1, Q h1 → Q' h1) : C_X6_init x0 h Q' := Go.mono k (fun r h1 q => ⟨q.1, f h1 q.2⟩)
def C_X6_clear (x0 : Nat) (h : Hp) (Q : Hp → Prop) : Prop := Go i_X6_clear 0 (lvA 0 [.inr (.inr x0)]) [] h (qV Q)
theorem C_X6_clear_mono {x0 : Nat} {h : Hp} {Q Q' : Hp → Prop} (k : C_X6_clear x0 h Q) (f : ∀ h1, Q h1 → Q' h1) : C_X6_clear x0 h Q' := Go.mono k (fun r h1 q => ⟨q.1, f h1 q.2⟩)
def C_X6_remember (x0 : Nat) (x1 : Nat) (h : Hp) (Q : Hp → Prop) : Prop := Go i_X6_remember 0 (lvA 0 [.inr (.inr x0), .inr (.inr x1)]) [] h (qV Q)
theorem C_X6_remember_mono {x0 : Nat} {x1 : Nat} {h : Hp} {Q Q' : Hp → Prop} (k : C_X6_remember x0 x1 h Q) (f : ∀ h1, Q h1 → Q' h1) : C_X6_remember x0 x1 h Q' := Go.mono k (fun r h1 q => ⟨q.1, f h1 q.2⟩)
def C_X6_restore (x0 : Nat) (x1 : Int) (x2 : Nat) (h : Hp) (Q : Hp → Prop) : Prop := Go i_X6_restore 0 (lvA 0 [.inr (.inr x0), .inl x1, .inr (.inr x2)]) [] h (qV Q)
theorem C_X6_restore_mono {x0 : Nat} {x1 : Int} {x2 : Nat} {h : Hp} {Q Q' : Hp → Prop} (k : C_X6_restore x0 x1 x2 h Q) (f : ∀ h1, Q h1 → Q' h1) : C_X6_restore x0 x1 x2 h Q' := Go.mono k (fun r h1 q => ⟨q.1, f h1 q.2⟩)
def C_X7_say (x0 : Int) (x1 : Nat) (x2 : Nat) (h : Hp) (Q : Hp → Prop) : Prop := Go i_X7_say 0 (lvA 0 [.inl x0, .inr (.inr x1), .inr (.inr x2)]) [] h (qV Q)
theorem C_X7_say_mono {x0 : Int} {x1 : Nat} {x2 : Nat} {h : Hp} {Q Q' : Hp → Prop} (k : C_X7_say x0 x1 x2 h Q) (f : ∀ h1, Q h1 → Q' h1) : C_X7_say x0 x1 x2 h Q' := Go.mono k (fun r h1 q => ⟨q.1, f h1 q.2⟩)
def C_X7_sayCounts (x0 : Nat) (x1 : Nat) (h : Hp) (Q : Hp → Prop) : Prop := Go i_X7_sayCounts 0 (lvA 0 [.inr (.inr x0), .inr (.inr x1)]) [] h (qV Q)
theorem C_X7_sayCounts_mono {x0 : Nat} {x1 : Nat} {h : Hp} {Q Q' : Hp → Prop} (k : C_X7_sayCounts x0 x1 h Q) (f : ∀ h1, Q h1 → Q' h1) : C_X7_sayCounts x0 x1 h Q' := Go.mono k (fun r h1 q => ⟨q.1, f h1 q.2⟩)
def C_X7_sayRuns (x0 : Int) (x1 : Nat) (x2 : Nat) (h : Hp) (Q : Hp → Prop) : Prop := Go i_X7_sayRuns 0 (lvA 0 [.inl x0, .inr (.inr x1), .inr (.inr x2)]) [] h (qV Q)
theorem C_X7_sayRuns_mono {x0 : Int} {x1 : Nat} {x2 : Nat} {h : Hp} {Q Q' : Hp → Prop} (k : C_X7_sayRuns x0 x1 x2 h Q) (f : ∀ h1, Q h1 → Q' h1) : C_X7_sayRuns x0 x1 x2 h Q' := Go.mono k (fun r h1 q => ⟨q.1, f h1 q.2⟩)
def C_X7_sayMany (x0 : Int) (x1 : Int) (x2 : Int) (x3 : Nat) (h : Hp) (Q : Hp → Prop) : Prop := Go i_X7_sayMany 0 (lvA 0 [.inl x0, .inl x1, .inl x2, .inr (.inr x3)]) [] h (qV Q)
theorem C_X7_sayMany_mono {x0 : Int} {x1 : Int} {x2 : Int} {x3 : Nat} {h : Hp} {Q Q' : Hp → Prop} (k : C_X7_sayMany x0 x1 x2 x3 h Q) (f : ∀ h1, Q h1 → Q' h1) : C_X7_sayMany x0 x1 x2 x3 h Q' := Go.mono k (fun r h1 q => ⟨q.1, f h1 q.2⟩)
def C_X7_sizeUnsaid (x0 : Nat) (h : Hp) (Q : Int → Hp → Prop) : Prop := Go i_X7_sizeUnsaid 0 (lvA 0 [.inr (.inr x0)]) [] h (qI Q)
theorem C_X7_sizeUnsaid_mono {x0 : Nat} {h : Hp} {Q Q' : Int → Hp → Prop} (k : C_X7_sizeUnsaid x0 h Q) (f : ∀ r h1, Q r h1 → Q' r h1) : C_X7_sizeUnsaid x0 h Q' := Go.mono k (fun r h1 q => q.elim fun z hz => ⟨z, hz.1, f z h1 hz.2⟩)
def C_X7_unsay (x0 : Nat) (x1 : Nat) (h : Hp) (Q : Hp → Prop) : Prop := Go i_X7_unsay 0 (lvA 0 [.inr (.inr x0), .inr (.inr x1)]) [] h (qV Q)
theorem C_X7_unsay_mono {x0 : Nat} {x1 : Nat} {h : Hp} {Q Q' : Hp → Prop} (k : C_X7_unsay x0 x1 h Q) (f : ∀ h1, Q h1 → Q' h1) : C_X7_unsay x0 x1 h Q' := Go.mono k (fun r h1 q => ⟨q.1, f h1 q.2⟩)
def C_X8_init (x0 : Nat) (h : Hp) (Q : Hp → Prop) : Prop := Go i_X8_init 0 (lvA 0 [.inr (.inr x0)]) [] h (qV Q)
theorem C_X8_init_mono {x0 : Nat} {h : Hp} {Q Q' : Hp → Prop} (k : C_X8_init x0 h Q) (f : ∀ h1, Q h1 → Q' h1) : C_X8_init x0 h Q' := Go.mono k (fun r h1 q => ⟨q.1, f h1 q.2⟩)
def C_X8_begin (x0 : Nat) (x1 : Nat) (h : Hp) (Q : Hp → Prop) : Prop := Go i_X8_begin 0 (lvA 0 [.inr (.inr x0), .inr (.inr x1)]) [] h (qV Q)
theorem C_X8_begin_mono {x0 : Nat} {x1 : Nat} {h : Hp} {Q Q' : Hp → Prop} (k : C_X8_begin x0 x1 h Q) (f : ∀ h1, Q h1 → Q' h1) : C_X8_begin x0 x1 h Q' := Go.mono k (fun r h1 q => ⟨q.1, f h1 q.2⟩)
def C_X8_copyFrom (x0 : Nat) (x1 : Nat) (h : Hp) (Q : Hp → Prop) : Prop := Go i_X8_copyFrom 0 (lvA 0 [.inr (.inr x0), .inr (.inr x1)]) [] h (qV Q)
theorem C_X8_copyFrom_mono {x0 : Nat} {x1 : Nat} {h : Hp} {Q Q' : Hp → Prop} (k : C_X8_copyFrom x0 x1 h Q) (f : ∀ h1, Q h1 → Q' h1) : C_X8_copyFrom x0 x1 h Q' := Go.mono k (fun r h1 q => ⟨q.1, f h1 q.2⟩)
def C_X8_becomeReading (x0 : Nat) (x1 : Int) (x2 : Nat) (h : Hp) (Q : Hp → Prop) : Prop := Go i_X8_becomeReading 0 (lvA 0 [.inr (.inr x0), .inl x1, .inr (.inr x2)]) [] h (qV Q)
theorem C_X8_becomeReading_mono {x0 : Nat} {x1 : Int} {x2 : Nat} {h : Hp} {Q Q' : Hp → Prop} (k : C_X8_becomeReading x0 x1 x2 h Q) (f : ∀ h1, Q h1 → Q' h1) : C_X8_becomeReading x0 x1 x2 h Q' := Go.mono k (fun r h1 q => ⟨q.1, f h1 q.2⟩)
def C_X8_logReading (x0 : Nat) (x1 : Int) (h : Hp) (Q : Hp → Prop) : Prop := Go i_X8_logReading 0 (lvA 0 [.inr (.inr x0), .inl x1]) [] h (qV Q)
theorem C_X8_logReading_mono {x0 : Nat} {x1 : Int} {h : Hp} {Q Q' : Hp → Prop} (k : C_X8_logReading x0 x1 h Q) (f : ∀ h1, Q h1 → Q' h1) : C_X8_logReading x0 x1 h Q' := Go.mono k (fun r h1 q => ⟨q.1, f h1 q.2⟩)
def C_X8_loggedKind (x0 : Nat) (x1 : Int) (h : Hp) (Q : Int → Hp → Prop) : Prop := Go i_X8_loggedKind 0 (lvA 0 [.inr (.inr x0), .inl x1]) [] h (qI Q)
theorem C_X8_loggedKind_mono {x0 : Nat} {x1 : Int} {h : Hp} {Q Q' : Int → Hp → Prop} (k : C_X8_loggedKind x0 x1 h Q) (f : ∀ r h1, Q r h1 → Q' r h1) : C_X8_loggedKind x0 x1 h Q' := Go.mono k (fun r h1 q => q.elim fun z hz => ⟨z, hz.1, f z h1 hz.2⟩)
def C_X8_loggedSize (x0 : Nat) (x1 : Int) (h : Hp) (Q : Int → Hp → Prop) : Prop := Go i_X8_loggedSize 0 (lvA 0 [.inr (.inr x0), .inl x1]) [] h (qI Q)
theorem C_X8_loggedSize_mono {x0 : Nat} {x1 : Int} {h : Hp} {Q Q' : Int → Hp → Prop} (k : C_X8_loggedSize x0 x1 h Q) (f : ∀ r h1, Q r h1 → Q' r h1) : C_X8_loggedSize x0 x1 h Q' := Go.mono k (fun r h1 q => q.elim fun z hz => ⟨z, hz.1, f z h1 hz.2⟩)
def C_X9_init (x0 : Nat) (h : Hp) (Q : Hp → Prop) : Prop := Go i_X9_init 0 (lvA 0 [.inr (.inr x0)]) [] h (qV Q)
theorem C_X9_init_mono {x0 : Nat} {h : Hp} {Q Q' : Hp → Prop} (k : C_X9_init x0 h Q) (f : ∀ h1, Q h1 → Q' h1) : C_X9_init x0 h Q' := Go.mono k (fun r h1 q => ⟨q.1, f h1 q.2⟩)
def C_X9_begin (x0 : Nat) (x1 : Nat) (h : Hp) (Q : Hp → Prop) : Prop := Go i_X9_begin 0 (lvA 0 [.inr (.inr x0), .inr (.inr x1)]) [] h (qV Q)
theorem C_X9_begin_mono {x0 : Nat} {x1 : Nat} {h : Hp} {Q Q' : Hp → Prop} (k : C_X9_begin x0 x1 h Q) (f : ∀ h1, Q h1 → Q' h1) : C_X9_begin x0 x1 h Q' := Go.mono k (fun r h1 q => ⟨q.1, f h1 q.2⟩)
def C_X9_readOn (x0 : Nat) (x1 : Int) (x2 : Int) (x3 : Nat) (h : Hp) (Q : Nat → Hp → Prop) : Prop := Go i_X9_readOn 0 (lvA 0 [.inr (.inr x0), .inl x1, .inl x2, .inr (.inr x3)]) [] h (qR Q)
theorem C_X9_readOn_mono {x0 : Nat} {x1 : Int} {x2 : Int} {x3 : Nat} {h : Hp} {Q Q' : Nat → Hp → Prop} (k : C_X9_readOn x0 x1 x2 x3 h Q) (f : ∀ r h1, Q r h1 → Q' r h1) : C_X9_readOn x0 x1 x2 x3 h Q' := Go.mono k (fun r h1 q => q.elim fun z hz => ⟨z, hz.1, f z h1 hz.2⟩)
def C_X9_step (x0 : Nat) (x1 : Int) (h : Hp) (Q : Hp → Prop) : Prop := Go i_X9_step 0 (lvA 0 [.inr (.inr x0), .inl x1]) [] h (qV Q)
theorem C_X9_step_mono {x0 : Nat} {x1 : Int} {h : Hp} {Q Q' : Hp → Prop} (k : C_X9_step x0 x1 h Q) (f : ∀ h1, Q h1 → Q' h1) : C_X9_step x0 x1 h Q' := Go.mono k (fun r h1 q => ⟨q.1, f h1 q.2⟩)
def C_X9_swap (x0 : Nat) (h : Hp) (Q : Hp → Prop) : Prop := Go i_X9_swap 0 (lvA 0 [.inr (.inr x0)]) [] h (qV Q)
theorem C_X9_swap_mono {x0 : Nat} {h : Hp} {Q Q' : Hp → Prop} (k : C_X9_swap x0 h Q) (f : ∀ h1, Q h1 → Q' h1) : C_X9_swap x0 h Q' := Go.mono k (fun r h1 q => ⟨q.1, f h1 q.2⟩)
def C_X9_firstWith (x0 : Nat) (x1 : Int) (x2 : Int) (x3 : Nat) (h : Hp) (Q : Int → Hp → Prop) : Prop := Go i_X9_firstWith 0 (lvA 0 [.inr (.inr x0), .inl x1, .inl x2, .inr (.inr x3)]) [] h (qI Q)
theorem C_X9_firstWith_mono {x0 : Nat} {x1 : Int} {x2 : Int} {x3 : Nat} {h : Hp} {Q Q' : Int → Hp → Prop} (k : C_X9_firstWith x0 x1 x2 x3 h Q) (f : ∀ r h1, Q r h1 → Q' r h1) : C_X9_firstWith x0 x1 x2 x3 h Q' := Go.mono k (fun r h1 q => q.elim fun z hz => ⟨z, hz.1, f z h1 hz.2⟩)
def C_X9_comesAgain (x0 : Nat) (x1 : Nat) (h : Hp) (Q : Int → Hp → Prop) : Prop := Go i_X9_comesAgain 0 (lvA 0 [.inr (.inr x0), .inr (.inr x1)]) [] h (qI Q)
theorem C_X9_comesAgain_mono {x0 : Nat} {x1 : Nat} {h : Hp} {Q Q' : Int → Hp → Prop} (k : C_X9_comesAgain x0 x1 h Q) (f : ∀ r h1, Q r h1 → Q' r h1) : C_X9_comesAgain x0 x1 h Q' := Go.mono k (fun r h1 q => q.elim fun z hz => ⟨z, hz.1, f z h1 hz.2⟩)
def C_X9_firstLike (x0 : Nat) (x1 : Int) (h : Hp) (Q : Int → Hp → Prop) : Prop := Go i_X9_firstLike 0 (lvA 0 [.inr (.inr x0), .inl x1]) [] h (qI Q)
theorem C_X9_firstLike_mono {x0 : Nat} {x1 : Int} {h : Hp} {Q Q' : Int → Hp → Prop} (k : C_X9_firstLike x0 x1 h Q) (f : ∀ r h1, Q r h1 → Q' r h1) : C_X9_firstLike x0 x1 h Q' := Go.mono k (fun r h1 q => q.elim fun z hz => ⟨z, hz.1, f z h1 hz.2⟩)
def C_X9_goOld (x0 : Nat) (x1 : Nat) (h : Hp) (Q : Int → Hp → Prop) : Prop := Go i_X9_goOld 0 (lvA 0 [.inr (.inr x0), .inr (.inr x1)]) [] h (qI Q)
theorem C_X9_goOld_mono {x0 : Nat} {x1 : Nat} {h : Hp} {Q Q' : Int → Hp → Prop} (k : C_X9_goOld x0 x1 h Q) (f : ∀ r h1, Q r h1 → Q' r h1) : C_X9_goOld x0 x1 h Q' := Go.mono k (fun r h1 q => q.elim fun z hz => ⟨z, hz.1, f z h1 hz.2⟩)
def C_X10_init (x0 : Nat) (h : Hp) (Q : Hp → Prop) : Prop := Go i_X10_init 0 (lvA 0 [.inr (.inr x0)]) [] h (qV Q)
theorem C_X10_init_mono {x0 : Nat} {h : Hp} {Q Q' : Hp → Prop} (k : C_X10_init x0 h Q) (f : ∀ h1, Q h1 → Q' h1) : C_X10_init x0 h Q' := Go.mono k (fun r h1 q => ⟨q.1, f h1 q.2⟩)
def C_X10_get (x0 : Nat) (x1 : Int) (h : Hp) (Q : Nat → Hp → Prop) : Prop := Go i_X10_get 0 (lvA 0 [.inr (.inr x0), .inl x1]) [] h (qR Q)
theorem C_X10_get_mono {x0 : Nat} {x1 : Int} {h : Hp} {Q Q' : Nat → Hp → Prop} (k : C_X10_get x0 x1 h Q) (f : ∀ r h1, Q r h1 → Q' r h1) : C_X10_get x0 x1 h Q' := Go.mono k (fun r h1 q => q.elim fun z hz => ⟨z, hz.1, f z h1 hz.2⟩)
def C_X10_open (x0 : Nat) (h : Hp) (Q : Nat → Hp → Prop) : Prop := Go i_X10_open 0 (lvA 0 [.inr (.inr x0)]) [] h (qR Q)
theorem C_X10_open_mono {x0 : Nat} {h : Hp} {Q Q' : Nat → Hp → Prop} (k : C_X10_open x0 h Q) (f : ∀ r h1, Q r h1 → Q' r h1) : C_X10_open x0 h Q' := Go.mono k (fun r h1 q => q.elim fun z hz => ⟨z, hz.1, f z h1 hz.2⟩)
def C_X10_copyFrom (x0 : Nat) (x1 : Nat) (h : Hp) (Q : Hp → Prop) : Prop := Go i_X10_copyFrom 0 (lvA 0 [.inr (.inr x0), .inr (.inr x1)]) [] h (qV Q)
theorem C_X10_copyFrom_mono {x0 : Nat} {x1 : Nat} {h : Hp} {Q Q' : Hp → Prop} (k : C_X10_copyFrom x0 x1 h Q) (f : ∀ h1, Q h1 → Q' h1) : C_X10_copyFrom x0 x1 h Q' := Go.mono k (fun r h1 q => ⟨q.1, f h1 q.2⟩)
def C_X10_waysToTell (x0 : Nat) (x1 : Nat) (h : Hp) (Q : Int → Hp → Prop) : Prop := Go i_X10_waysToTell 0 (lvA 0 [.inr (.inr x0), .inr (.inr x1)]) [] h (qI Q)
theorem C_X10_waysToTell_mono {x0 : Nat} {x1 : Nat} {h : Hp} {Q Q' : Int → Hp → Prop} (k : C_X10_waysToTell x0 x1 h Q) (f : ∀ r h1, Q r h1 → Q' r h1) : C_X10_waysToTell x0 x1 h Q' := Go.mono k (fun r h1 q => q.elim fun z hz => ⟨z, hz.1, f z h1 hz.2⟩)
def C_X10_waysToEnd (x0 : Nat) (x1 : Nat) (x2 : Int) (h : Hp) (Q : Int → Hp → Prop) : Prop := Go i_X10_waysToEnd 0 (lvA 0 [.inr (.inr x0), .inr (.inr x1), .inl x2]) [] h (qI Q)
theorem C_X10_waysToEnd_mono {x0 : Nat} {x1 : Nat} {x2 : Int} {h : Hp} {Q Q' : Int → Hp → Prop} (k : C_X10_waysToEnd x0 x1 x2 h Q) (f : ∀ r h1, Q r h1 → Q' r h1) : C_X10_waysToEnd x0 x1 x2 h Q' := Go.mono k (fun r h1 q => q.elim fun z hz => ⟨z, hz.1, f z h1 hz.2⟩)
def C_X10_fewestChanges (x0 : Nat) (x1 : Nat) (x2 : Nat) (h : Hp) (Q : Int → Hp → Prop) : Prop := Go i_X10_fewestChanges 0 (lvA 0 [.inr (.inr x0), .inr (.inr x1), .inr (.inr x2)]) [] h (qI Q)
theorem C_X10_fewestChanges_mono {x0 : Nat} {x1 : Nat} {x2 : Nat} {h : Hp} {Q Q' : Int → Hp → Prop} (k : C_X10_fewestChanges x0 x1 x2 h Q) (f : ∀ r h1, Q r h1 → Q' r h1) : C_X10_fewestChanges x0 x1 x2 h Q' := Go.mono k (fun r h1 q => q.elim fun z hz => ⟨z, hz.1, f z h1 hz.2⟩)
def C_X10_takeIn (x0 : Nat) (x1 : Int) (x2 : Nat) (x3 : Int) (h : Hp) (Q : Hp → Prop) : Prop := Go i_X10_takeIn 0 (lvA 0 [.inr (.inr x0), .inl x1, .inr (.inr x2), .inl x3]) [] h (qV Q)
theorem C_X10_takeIn_mono {x0 : Nat} {x1 : Int} {x2 : Nat} {x3 : Int} {h : Hp} {Q Q' : Hp → Prop} (k : C_X10_takeIn x0 x1 x2 x3 h Q) (f : ∀ h1, Q h1 → Q' h1) : C_X10_takeIn x0 x1 x2 x3 h Q' := Go.mono k (fun r h1 q => ⟨q.1, f h1 q.2⟩)
def C_X11_init (x0 : Nat) (h : Hp) (Q : Hp → Prop) : Prop := Go i_X11_init 0 (lvA 0 [.inr (.inr x0)]) [] h (qV Q)
theorem C_X11_init_mono {x0 : Nat} {h : Hp} {Q Q' : Hp → Prop} (k : C_X11_init x0 h Q) (f : ∀ h1, Q h1 → Q' h1) : C_X11_init x0 h Q' := Go.mono k (fun r h1 q => ⟨q.1, f h1 q.2⟩)
def C_X11_feed (x0 : Nat) (x1 : Int) (h : Hp) (Q : Int → Hp → Prop) : Prop := Go i_X11_feed 0 (lvA 0 [.inr (.inr x0), .inl x1]) [] h (qI Q)
theorem C_X11_feed_mono {x0 : Nat} {x1 : Int} {h : Hp} {Q Q' : Int → Hp → Prop} (k : C_X11_feed x0 x1 h Q) (f : ∀ r h1, Q r h1 → Q' r h1) : C_X11_feed x0 x1 h Q' := Go.mono k (fun r h1 q => q.elim fun z hz => ⟨z, hz.1, f z h1 hz.2⟩)
def C_X11_desk (x0 : Nat) (h : Hp) (Q : Int → Hp → Prop) : Prop := Go i_X11_desk 0 (lvA 0 [.inr (.inr x0)]) [] h (qI Q)
theorem C_X11_desk_mono {x0 : Nat} {h : Hp} {Q Q' : Int → Hp → Prop} (k : C_X11_desk x0 h Q) (f : ∀ r h1, Q r h1 → Q' r h1) : C_X11_desk x0 h Q' := Go.mono k (fun r h1 q => q.elim fun z hz => ⟨z, hz.1, f z h1 hz.2⟩)
def C_X11_layDesk (x0 : Nat) (h : Hp) (Q : Hp → Prop) : Prop := Go i_X11_layDesk 0 (lvA 0 [.inr (.inr x0)]) [] h (qV Q)
theorem C_X11_layDesk_mono {x0 : Nat} {h : Hp} {Q Q' : Hp → Prop} (k : C_X11_layDesk x0 h Q) (f : ∀ h1, Q h1 → Q' h1) : C_X11_layDesk x0 h Q' := Go.mono k (fun r h1 q => ⟨q.1, f h1 q.2⟩)
def C_X11_fault (x0 : Nat) (h : Hp) (Q : Int → Hp → Prop) : Prop := Go i_X11_fault 0 (lvA 0 [.inr (.inr x0)]) [] h (qI Q)
theorem C_X11_fault_mono {x0 : Nat} {h : Hp} {Q Q' : Int → Hp → Prop} (k : C_X11_fault x0 h Q) (f : ∀ r h1, Q r h1 → Q' r h1) : C_X11_fault x0 h Q' := Go.mono k (fun r h1 q => q.elim fun z hz => ⟨z, hz.1, f z h1 hz.2⟩)
def C_X11_told (x0 : Nat) (x1 : Int) (h : Hp) (Q : Int → Hp → Prop) : Prop := Go i_X11_told 0 (lvA 0 [.inr (.inr x0), .inl x1]) [] h (qI Q)
theorem C_X11_told_mono {x0 : Nat} {x1 : Int} {h : Hp} {Q Q' : Int → Hp → Prop} (k : C_X11_told x0 x1 h Q) (f : ∀ r h1, Q r h1 → Q' r h1) : C_X11_told x0 x1 h Q' := Go.mono k (fun r h1 q => q.elim fun z hz => ⟨z, hz.1, f z h1 hz.2⟩)
def C_X11_at (x0 : Nat) (x1 : Int) (h : Hp) (Q : Int → Hp → Prop) : Prop := Go i_X11_at 0 (lvA 0 [.inr (.inr x0), .inl x1]) [] h (qI Q)
theorem C_X11_at_mono {x0 : Nat} {x1 : Int} {h : Hp} {Q Q' : Int → Hp → Prop} (k : C_X11_at x0 x1 h Q) (f : ∀ r h1, Q r h1 → Q' r h1) : C_X11_at x0 x1 h Q' := Go.mono k (fun r h1 q => q.elim fun z hz => ⟨z, hz.1, f z h1 hz.2⟩)
def C_X11_spelt (x0 : Nat) (x1 : Int) (x2 : Int) (h : Hp) (Q : Int → Hp → Prop) : Prop := Go i_X11_spelt 0 (lvA 0 [.inr (.inr x0), .inl x1, .inl x2]) [] h (qI Q)
theorem C_X11_spelt_mono {x0 : Nat} {x1 : Int} {x2 : Int} {h : Hp} {Q Q' : Int → Hp → Prop} (k : C_X11_spelt x0 x1 x2 h Q) (f : ∀ r h1, Q r h1 → Q' r h1) : C_X11_spelt x0 x1 x2 h Q' := Go.mono k (fun r h1 q => q.elim fun z hz => ⟨z, hz.1, f z h1 hz.2⟩)
def C_X11_logged (x0 : Nat) (x1 : Int) (x2 : Int) (h : Hp) (Q : Int → Hp → Prop) : Prop := Go i_X11_logged 0 (lvA 0 [.inr (.inr x0), .inl x1, .inl x2]) [] h (qI Q)
theorem C_X11_logged_mono {x0 : Nat} {x1 : Int} {x2 : Int} {h : Hp} {Q Q' : Int → Hp → Prop} (k : C_X11_logged x0 x1 x2 h Q) (f : ∀ r h1, Q r h1 → Q' r h1) : C_X11_logged x0 x1 x2 h Q' := Go.mono k (fun r h1 q => q.elim fun z hz => ⟨z, hz.1, f z h1 hz.2⟩)
def C_X11_read (x0 : Nat) (x1 : Int) (h : Hp) (Q : Int → Hp → Prop) : Prop := Go i_X11_read 0 (lvA 0 [.inr (.inr x0), .inl x1]) [] h (qI Q)
theorem C_X11_read_mono {x0 : Nat} {x1 : Int} {h : Hp} {Q Q' : Int → Hp → Prop} (k : C_X11_read x0 x1 h Q) (f : ∀ r h1, Q r h1 → Q' r h1) : C_X11_read x0 x1 h Q' := Go.mono k (fun r h1 q => q.elim fun z hz => ⟨z, hz.1, f z h1 hz.2⟩)
def C_X11_unread (x0 : Nat) (h : Hp) (Q : Int → Hp → Prop) : Prop := Go i_X11_unread 0 (lvA 0 [.inr (.inr x0)]) [] h (qI Q)
theorem C_X11_unread_mono {x0 : Nat} {h : Hp} {Q Q' : Int → Hp → Prop} (k : C_X11_unread x0 h Q) (f : ∀ r h1, Q r h1 → Q' r h1) : C_X11_unread x0 h Q' := Go.mono k (fun r h1 q => q.elim fun z hz => ⟨z, hz.1, f z h1 hz.2⟩)
def C_X11_put (x0 : Nat) (x1 : Int) (h : Hp) (Q : Int → Hp → Prop) : Prop := Go i_X11_put 0 (lvA 0 [.inr (.inr x0), .inl x1]) [] h (qI Q)
theorem C_X11_put_mono {x0 : Nat} {x1 : Int} {h : Hp} {Q Q' : Int → Hp → Prop} (k : C_X11_put x0 x1 h Q) (f : ∀ r h1, Q r h1 → Q' r h1) : C_X11_put x0 x1 h Q' := Go.mono k (fun r h1 q => q.elim fun z hz => ⟨z, hz.1, f z h1 hz.2⟩)
def C_X11_word (x0 : Nat) (x1 : Int) (h : Hp) (Q : Int → Hp → Prop) : Prop := Go i_X11_word 0 (lvA 0 [.inr (.inr x0), .inl x1]) [] h (qI Q)
theorem C_X11_word_mono {x0 : Nat} {x1 : Int} {h : Hp} {Q Q' : Int → Hp → Prop} (k : C_X11_word x0 x1 h Q) (f : ∀ r h1, Q r h1 → Q' r h1) : C_X11_word x0 x1 h Q' := Go.mono k (fun r h1 q => q.elim fun z hz => ⟨z, hz.1, f z h1 hz.2⟩)
def C_X11_change (x0 : Nat) (x1 : Int) (x2 : Int) (h : Hp) (Q : Int → Hp → Prop) : Prop := Go i_X11_change 0 (lvA 0 [.inr (.inr x0), .inl x1, .inl x2]) [] h (qI Q)
theorem C_X11_change_mono {x0 : Nat} {x1 : Int} {x2 : Int} {h : Hp} {Q Q' : Int → Hp → Prop} (k : C_X11_change x0 x1 x2 h Q) (f : ∀ r h1, Q r h1 → Q' r h1) : C_X11_change x0 x1 x2 h Q' := Go.mono k (fun r h1 q => q.elim fun z hz => ⟨z, hz.1, f z h1 hz.2⟩)
def C_X11_drop (x0 : Nat) (x1 : Int) (h : Hp) (Q : Int → Hp → Prop) : Prop := Go i_X11_drop 0 (lvA 0 [.inr (.inr x0), .inl x1]) [] h (qI Q)
theorem C_X11_drop_mono {x0 : Nat} {x1 : Int} {h : Hp} {Q Q' : Int → Hp → Prop} (k : C_X11_drop x0 x1 h Q) (f : ∀ r h1, Q r h1 → Q' r h1) : C_X11_drop x0 x1 h Q' := Go.mono k (fun r h1 q => q.elim fun z hz => ⟨z, hz.1, f z h1 hz.2⟩)
def C_X11_turn (x0 : Nat) (h : Hp) (Q : Int → Hp → Prop) : Prop := Go i_X11_turn 0 (lvA 0 [.inr (.inr x0)]) [] h (qI Q)
theorem C_X11_turn_mono {x0 : Nat} {h : Hp} {Q Q' : Int → Hp → Prop} (k : C_X11_turn x0 h Q) (f : ∀ r h1, Q r h1 → Q' r h1) : C_X11_turn x0 h Q' := Go.mono k (fun r h1 q => q.elim fun z hz => ⟨z, hz.1, f z h1 hz.2⟩)
def C_X11_drift (x0 : Nat) (x1 : Int) (h : Hp) (Q : Int → Hp → Prop) : Prop := Go i_X11_drift 0 (lvA 0 [.inr (.inr x0), .inl x1]) [] h (qI Q)
theorem C_X11_drift_mono {x0 : Nat} {x1 : Int} {h : Hp} {Q Q' : Int → Hp → Prop} (k : C_X11_drift x0 x1 h Q) (f : ∀ r h1, Q r h1 → Q' r h1) : C_X11_drift x0 x1 h Q' := Go.mono k (fun r h1 q => q.elim fun z hz => ⟨z, hz.1, f z h1 hz.2⟩)
def C_X11_driftOnce (x0 : Nat) (h : Hp) (Q : Hp → Prop) : Prop := Go i_X11_driftOnce 0 (lvA 0 [.inr (.inr x0)]) [] h (qV Q)
theorem C_X11_driftOnce_mono {x0 : Nat} {h : Hp} {Q Q' : Hp → Prop} (k : C_X11_driftOnce x0 h Q) (f : ∀ h1, Q h1 → Q' h1) : C_X11_driftOnce x0 h Q' := Go.mono k (fun r h1 q => ⟨q.1, f h1 q.2⟩)
def C_X11_draw (x0 : Nat) (x1 : Int) (h : Hp) (Q : Int → Hp → Prop) : Prop := Go i_X11_draw 0 (lvA 0 [.inr (.inr x0), .inl x1]) [] h (qI Q)
theorem C_X11_draw_mono {x0 : Nat} {x1 : Int} {h : Hp} {Q Q' : Int → Hp → Prop} (k : C_X11_draw x0 x1 h Q) (f : ∀ r h1, Q r h1 → Q' r h1) : C_X11_draw x0 x1 h Q' := Go.mono k (fun r h1 q => q.elim fun z hz => ⟨z, hz.1, f z h1 hz.2⟩)
def C_X11_undo (x0 : Nat) (x1 : Int) (h : Hp) (Q : Int → Hp → Prop) : Prop := Go i_X11_undo 0 (lvA 0 [.inr (.inr x0), .inl x1]) [] h (qI Q)
theorem C_X11_undo_mono {x0 : Nat} {x1 : Int} {h : Hp} {Q Q' : Int → Hp → Prop} (k : C_X11_undo x0 x1 h Q) (f : ∀ r h1, Q r h1 → Q' r h1) : C_X11_undo x0 x1 h Q' := Go.mono k (fun r h1 q => q.elim fun z hz => ⟨z, hz.1, f z h1 hz.2⟩)
def C_X11_length (x0 : Nat) (x1 : Int) (x2 : Int) (h : Hp) (Q : Int → Hp → Prop) : Prop := Go i_X11_length 0 (lvA 0 [.inr (.inr x0), .inl x1, .inl x2]) [] h (qI Q)
theorem C_X11_length_mono {x0 : Nat} {x1 : Int} {x2 : Int} {h : Hp} {Q Q' : Int → Hp → Prop} (k : C_X11_length x0 x1 x2 h Q) (f : ∀ r h1, Q r h1 → Q' r h1) : C_X11_length x0 x1 x2 h Q' := Go.mono k (fun r h1 q => q.elim fun z hz => ⟨z, hz.1, f z h1 hz.2⟩)
def C_X11_figure (x0 : Nat) (x1 : Int) (x2 : Int) (x3 : Int) (h : Hp) (Q : Int → Hp → Prop) : Prop := Go i_X11_figure 0 (lvA 0 [.inr (.inr x0), .inl x1, .inl x2, .inl x3]) [] h (qI Q)
theorem C_X11_figure_mono {x0 : Nat} {x1 : Int} {x2 : Int} {x3 : Int} {h : Hp} {Q Q' : Int → Hp → Prop} (k : C_X11_figure x0 x1 x2 x3 h Q) (f : ∀ r h1, Q r h1 → Q' r h1) : C_X11_figure x0 x1 x2 x3 h Q' := Go.mono k (fun r h1 q => q.elim fun z hz => ⟨z, hz.1, f z h1 hz.2⟩)
def C_X11_often (x0 : Nat) (x1 : Int) (x2 : Int) (x3 : Int) (h : Hp) (Q : Int → Hp → Prop) : Prop := Go i_X11_often 0 (lvA 0 [.inr (.inr x0), .inl x1, .inl x2, .inl x3]) [] h (qI Q)
theorem C_X11_often_mono {x0 : Nat} {x1 : Int} {x2 : Int} {x3 : Int} {h : Hp} {Q Q' : Int → Hp → Prop} (k : C_X11_often x0 x1 x2 x3 h Q) (f : ∀ r h1, Q r h1 → Q' r h1) : C_X11_often x0 x1 x2 x3 h Q' := Go.mono k (fun r h1 q => q.elim fun z hz => ⟨z, hz.1, f z h1 hz.2⟩)
def C_X11_first (x0 : Nat) (x1 : Int) (x2 : Int) (h : Hp) (Q : Int → Hp → Prop) : Prop := Go i_X11_first 0 (lvA 0 [.inr (.inr x0), .inl x1, .inl x2]) [] h (qI Q)
theorem C_X11_first_mono {x0 : Nat} {x1 : Int} {x2 : Int} {h : Hp} {Q Q' : Int → Hp → Prop} (k : C_X11_first x0 x1 x2 h Q) (f : ∀ r h1, Q r h1 → Q' r h1) : C_X11_first x0 x1 x2 h Q' := Go.mono k (fun r h1 q => q.elim fun z hz => ⟨z, hz.1, f z h1 hz.2⟩)
def C_X11_again (x0 : Nat) (x1 : Int) (h : Hp) (Q : Int → Hp → Prop) : Prop := Go i_X11_again 0 (lvA 0 [.inr (.inr x0), .inl x1]) [] h (qI Q)
theorem C_X11_again_mono {x0 : Nat} {x1 : Int} {h : Hp} {Q Q' : Int → Hp → Prop} (k : C_X11_again x0 x1 h Q) (f : ∀ r h1, Q r h1 → Q' r h1) : C_X11_again x0 x1 h Q' := Go.mono k (fun r h1 q => q.elim fun z hz => ⟨z, hz.1, f z h1 hz.2⟩)
def C_X11_apart (x0 : Nat) (x1 : Int) (h : Hp) (Q : Int → Hp → Prop) : Prop := Go i_X11_apart 0 (lvA 0 [.inr (.inr x0), .inl x1]) [] h (qI Q)
theorem C_X11_apart_mono {x0 : Nat} {x1 : Int} {h : Hp} {Q Q' : Int → Hp → Prop} (k : C_X11_apart x0 x1 h Q) (f : ∀ r h1, Q r h1 → Q' r h1) : C_X11_apart x0 x1 h Q' := Go.mono k (fun r h1 q => q.elim fun z hz => ⟨z, hz.1, f z h1 hz.2⟩)
def C_X11_back (x0 : Nat) (x1 : Int) (h : Hp) (Q : Int → Hp → Prop) : Prop := Go i_X11_back 0 (lvA 0 [.inr (.inr x0), .inl x1]) [] h (qI Q)
theorem C_X11_back_mono {x0 : Nat} {x1 : Int} {h : Hp} {Q Q' : Int → Hp → Prop} (k : C_X11_back x0 x1 h Q) (f : ∀ r h1, Q r h1 → Q' r h1) : C_X11_back x0 x1 h Q' := Go.mono k (fun r h1 q => q.elim fun z hz => ⟨z, hz.1, f z h1 hz.2⟩)
def C_X11_in (x0 : Nat) (x1 : Int) (h : Hp) (Q : Int → Hp → Prop) : Prop := Go i_X11_in 0 (lvA 0 [.inr (.inr x0), .inl x1]) [] h (qI Q)
theorem C_X11_in_mono {x0 : Nat} {x1 : Int} {h : Hp} {Q Q' : Int → Hp → Prop} (k : C_X11_in x0 x1 h Q) (f : ∀ r h1, Q r h1 → Q' r h1) : C_X11_in x0 x1 h Q' := Go.mono k (fun r h1 q => q.elim fun z hz => ⟨z, hz.1, f z h1 hz.2⟩)
def C_X11_changes (x0 : Nat) (x1 : Int) (h : Hp) (Q : Int → Hp → Prop) : Prop := Go i_X11_changes 0 (lvA 0 [.inr (.inr x0), .inl x1]) [] h (qI Q)
theorem C_X11_changes_mono {x0 : Nat} {x1 : Int} {h : Hp} {Q Q' : Int → Hp → Prop} (k : C_X11_changes x0 x1 h Q) (f : ∀ r h1, Q r h1 → Q' r h1) : C_X11_changes x0 x1 h Q' := Go.mono k (fun r h1 q => q.elim fun z hz => ⟨z, hz.1, f z h1 hz.2⟩)
def C_X11_noSlip (x0 : Nat) (x1 : Int) (x2 : Int) (h : Hp) (Q : Int → Hp → Prop) : Prop := Go i_X11_noSlip 0 (lvA 0 [.inr (.inr x0), .inl x1, .inl x2]) [] h (qI Q)
theorem C_X11_noSlip_mono {x0 : Nat} {x1 : Int} {x2 : Int} {h : Hp} {Q Q' : Int → Hp → Prop} (k : C_X11_noSlip x0 x1 x2 h Q) (f : ∀ r h1, Q r h1 → Q' r h1) : C_X11_noSlip x0 x1 x2 h Q' := Go.mono k (fun r h1 q => q.elim fun z hz => ⟨z, hz.1, f z h1 hz.2⟩)
def C_X11_hear (x0 : Nat) (x1 : Int) (x2 : Int) (x3 : Int) (h : Hp) (Q : Int → Hp → Prop) : Prop := Go i_X11_hear 0 (lvA 0 [.inr (.inr x0), .inl x1, .inl x2, .inl x3]) [] h (qI Q)
theorem C_X11_hear_mono {x0 : Nat} {x1 : Int} {x2 : Int} {x3 : Int} {h : Hp} {Q Q' : Int → Hp → Prop} (k : C_X11_hear x0 x1 x2 x3 h Q) (f : ∀ r h1, Q r h1 → Q' r h1) : C_X11_hear x0 x1 x2 x3 h Q' := Go.mono k (fun r h1 q => q.elim fun z hz => ⟨z, hz.1, f z h1 hz.2⟩)
def C_X11_couldBe (x0 : Nat) (h : Hp) (Q : Int → Hp → Prop) : Prop := Go i_X11_couldBe 0 (lvA 0 [.inr (.inr x0)]) [] h (qI Q)
theorem C_X11_couldBe_mono {x0 : Nat} {h : Hp} {Q Q' : Int → Hp → Prop} (k : C_X11_couldBe x0 h Q) (f : ∀ r h1, Q r h1 → Q' r h1) : C_X11_couldBe x0 h Q' := Go.mono k (fun r h1 q => q.elim fun z hz => ⟨z, hz.1, f z h1 hz.2⟩)
def C_X11_ask (x0 : Nat) (h : Hp) (Q : Int → Hp → Prop) : Prop := Go i_X11_ask 0 (lvA 0 [.inr (.inr x0)]) [] h (qI Q)
theorem C_X11_ask_mono {x0 : Nat} {h : Hp} {Q Q' : Int → Hp → Prop} (k : C_X11_ask x0 h Q) (f : ∀ r h1, Q r h1 → Q' r h1) : C_X11_ask x0 h Q' := Go.mono k (fun r h1 q => q.elim fun z hz => ⟨z, hz.1, f z h1 hz.2⟩)
def C_X11_write (x0 : Nat) (x1 : Int) (x2 : Int) (h : Hp) (Q : Int → Hp → Prop) : Prop := Go i_X11_write 0 (lvA 0 [.inr (.inr x0), .inl x1, .inl x2]) [] h (qI Q)
theorem C_X11_write_mono {x0 : Nat} {x1 : Int} {x2 : Int} {h : Hp} {Q Q' : Int → Hp → Prop} (k : C_X11_write x0 x1 x2 h Q) (f : ∀ r h1, Q r h1 → Q' r h1) : C_X11_write x0 x1 x2 h Q' := Go.mono k (fun r h1 q => q.elim fun z hz => ⟨z, hz.1, f z h1 hz.2⟩)
def C_X11_judge (x0 : Nat) (h : Hp) (Q : Int → Hp → Prop) : Prop := Go i_X11_judge 0 (lvA 0 [.inr (.inr x0)]) [] h (qI Q)
theorem C_X11_judge_mono {x0 : Nat} {h : Hp} {Q Q' : Int → Hp → Prop} (k : C_X11_judge x0 h Q) (f : ∀ r h1, Q r h1 → Q' r h1) : C_X11_judge x0 h Q' := Go.mono k (fun r h1 q => q.elim fun z hz => ⟨z, hz.1, f z h1 hz.2⟩)
def C_X11_tear (x0 : Nat) (h : Hp) (Q : Int → Hp → Prop) : Prop := Go i_X11_tear 0 (lvA 0 [.inr (.inr x0)]) [] h (qI Q)
theorem C_X11_tear_mono {x0 : Nat} {h : Hp} {Q Q' : Int → Hp → Prop} (k : C_X11_tear x0 h Q) (f : ∀ r h1, Q r h1 → Q' r h1) : C_X11_tear x0 h Q' := Go.mono k (fun r h1 q => q.elim fun z hz => ⟨z, hz.1, f z h1 hz.2⟩)
def C_X11_seed (x0 : Nat) (x1 : Int) (h : Hp) (Q : Int → Hp → Prop) : Prop := Go i_X11_seed 0 (lvA 0 [.inr (.inr x0), .inl x1]) [] h (qI Q)
theorem C_X11_seed_mono {x0 : Nat} {x1 : Int} {h : Hp} {Q Q' : Int → Hp → Prop} (k : C_X11_seed x0 x1 h Q) (f : ∀ r h1, Q r h1 → Q' r h1) : C_X11_seed x0 x1 h Q' := Go.mono k (fun r h1 q => q.elim fun z hz => ⟨z, hz.1, f z h1 hz.2⟩)
def C_X11_keep (x0 : Nat) (x1 : Int) (h : Hp) (Q : Int → Hp → Prop) : Prop := Go i_X11_keep 0 (lvA 0 [.inr (.inr x0), .inl x1]) [] h (qI Q)
theorem C_X11_keep_mono {x0 : Nat} {x1 : Int} {h : Hp} {Q Q' : Int → Hp → Prop} (k : C_X11_keep x0 x1 h Q) (f : ∀ r h1, Q r h1 → Q' r h1) : C_X11_keep x0 x1 h Q' := Go.mono k (fun r h1 q => q.elim fun z hz => ⟨z, hz.1, f z h1 hz.2⟩)
def C_X11_goBack (x0 : Nat) (x1 : Int) (h : Hp) (Q : Int → Hp → Prop) : Prop := Go i_X11_goBack 0 (lvA 0 [.inr (.inr x0), .inl x1]) [] h (qI Q)
theorem C_X11_goBack_mono {x0 : Nat} {x1 : Int} {h : Hp} {Q Q' : Int → Hp → Prop} (k : C_X11_goBack x0 x1 h Q) (f : ∀ r h1, Q r h1 → Q' r h1) : C_X11_goBack x0 x1 h Q' := Go.mono k (fun r h1 q => q.elim fun z hz => ⟨z, hz.1, f z h1 hz.2⟩)
def C_X11_isKind (x0 : Int) (h : Hp) (Q : Int → Hp → Prop) : Prop := Go i_X11_isKind 0 (lvA 0 [.inl x0]) [] h (qI Q)
theorem C_X11_isKind_mono {x0 : Int} {h : Hp} {Q Q' : Int → Hp → Prop} (k : C_X11_isKind x0 h Q) (f : ∀ r h1, Q r h1 → Q' r h1) : C_X11_isKind x0 h Q' := Go.mono k (fun r h1 q => q.elim fun z hz => ⟨z, hz.1, f z h1 hz.2⟩)
def C_X11_isFigure (x0 : Int) (h : Hp) (Q : Int → Hp → Prop) : Prop := Go i_X11_isFigure 0 (lvA 0 [.inl x0]) [] h (qI Q)
theorem C_X11_isFigure_mono {x0 : Int} {h : Hp} {Q Q' : Int → Hp → Prop} (k : C_X11_isFigure x0 h Q) (f : ∀ r h1, Q r h1 → Q' r h1) : C_X11_isFigure x0 h Q' := Go.mono k (fun r h1 q => q.elim fun z hz => ⟨z, hz.1, f z h1 hz.2⟩)
def C_X11_isPlace (x0 : Int) (h : Hp) (Q : Int → Hp → Prop) : Prop := Go i_X11_isPlace 0 (lvA 0 [.inl x0]) [] h (qI Q)
theorem C_X11_isPlace_mono {x0 : Int} {h : Hp} {Q Q' : Int → Hp → Prop} (k : C_X11_isPlace x0 h Q) (f : ∀ r h1, Q r h1 → Q' r h1) : C_X11_isPlace x0 h Q' := Go.mono k (fun r h1 q => q.elim fun z hz => ⟨z, hz.1, f z h1 hz.2⟩)
def C_X11_isTried (x0 : Int) (x1 : Int) (h : Hp) (Q : Int → Hp → Prop) : Prop := Go i_X11_isTried 0 (lvA 0 [.inl x0, .inl x1]) [] h (qI Q)
theorem C_X11_isTried_mono {x0 : Int} {x1 : Int} {h : Hp} {Q Q' : Int → Hp → Prop} (k : C_X11_isTried x0 x1 h Q) (f : ∀ r h1, Q r h1 → Q' r h1) : C_X11_isTried x0 x1 h Q' := Go.mono k (fun r h1 q => q.elim fun z hz => ⟨z, hz.1, f z h1 hz.2⟩)
def C_X12_init (x0 : Nat) (h : Hp) (Q : Hp → Prop) : Prop := Go i_X12_init 0 (lvA 0 [.inr (.inr x0)]) [] h (qV Q)
theorem C_X12_init_mono {x0 : Nat} {h : Hp} {Q Q' : Hp → Prop} (k : C_X12_init x0 h Q) (f : ∀ h1, Q h1 → Q' h1) : C_X12_init x0 h Q' := Go.mono k (fun r h1 q => ⟨q.1, f h1 q.2⟩)
def C_X12_is (x0 : Int) (x1 : Int) (x2 : Int) (h : Hp) (Q : Int → Hp → Prop) : Prop := Go i_X12_is 0 (lvA 0 [.inl x0, .inl x1, .inl x2]) [] h (qI Q)
theorem C_X12_is_mono {x0 : Int} {x1 : Int} {x2 : Int} {h : Hp} {Q Q' : Int → Hp → Prop} (k : C_X12_is x0 x1 x2 h Q) (f : ∀ r h1, Q r h1 → Q' r h1) : C_X12_is x0 x1 x2 h Q' := Go.mono k (fun r h1 q => q.elim fun z hz => ⟨z, hz.1, f z h1 hz.2⟩)
def C_X12_has (x0 : Int) (x1 : Int) (h : Hp) (Q : Int → Hp → Prop) : Prop := Go i_X12_has 0 (lvA 0 [.inl x0, .inl x1]) [] h (qI Q)
theorem C_X12_has_mono {x0 : Int} {x1 : Int} {h : Hp} {Q Q' : Int → Hp → Prop} (k : C_X12_has x0 x1 h Q) (f : ∀ r h1, Q r h1 → Q' r h1) : C_X12_has x0 x1 h Q' := Go.mono k (fun r h1 q => q.elim fun z hz => ⟨z, hz.1, f z h1 hz.2⟩)
def C_X12_bring (x0 : Nat) (x1 : Int) (x2 : Nat) (x3 : Int) (x4 : Int) (h : Hp) (Q : Hp → Prop) : Prop := Go i_X12_bring 0 (lvA 0 [.inr (.inr x0), .inl x1, .inr (.inr x2), .inl x3, .inl x4]) [] h (qV Q)
theorem C_X12_bring_mono {x0 : Nat} {x1 : Int} {x2 : Nat} {x3 : Int} {x4 : Int} {h : Hp} {Q Q' : Hp → Prop} (k : C_X12_bring x0 x1 x2 x3 x4 h Q) (f : ∀ h1, Q h1 → Q' h1) : C_X12_bring x0 x1 x2 x3 x4 h Q' := Go.mono k (fun r h1 q => ⟨q.1, f h1 q.2⟩)
def C_X12_feed (x0 : Nat) (x1 : Int) (h : Hp) (Q : Int → Hp → Prop) : Prop := Go i_X12_feed 0 (lvA 0 [.inr (.inr x0), .inl x1]) [] h (qI Q)
theorem C_X12_feed_mono {x0 : Nat} {x1 : Int} {h : Hp} {Q Q' : Int → Hp → Prop} (k : C_X12_feed x0 x1 h Q) (f : ∀ r h1, Q r h1 → Q' r h1) : C_X12_feed x0 x1 h Q' := Go.mono k (fun r h1 q => q.elim fun z hz => ⟨z, hz.1, f z h1 hz.2⟩)
def C_X12_peek (x0 : Nat) (h : Hp) (Q : Int → Hp → Prop) : Prop := Go i_X12_peek 0 (lvA 0 [.inr (.inr x0)]) [] h (qI Q)
theorem C_X12_peek_mono {x0 : Nat} {h : Hp} {Q Q' : Int → Hp → Prop} (k : C_X12_peek x0 h Q) (f : ∀ r h1, Q r h1 → Q' r h1) : C_X12_peek x0 h Q' := Go.mono k (fun r h1 q => q.elim fun z hz => ⟨z, hz.1, f z h1 hz.2⟩)
def C_X12_isBad (x0 : Nat) (x1 : Int) (h : Hp) (Q : Int → Hp → Prop) : Prop := Go i_X12_isBad 0 (lvA 0 [.inr (.inr x0), .inl x1]) [] h (qI Q)
theorem C_X12_isBad_mono {x0 : Nat} {x1 : Int} {h : Hp} {Q Q' : Int → Hp → Prop} (k : C_X12_isBad x0 x1 h Q) (f : ∀ r h1, Q r h1 → Q' r h1) : C_X12_isBad x0 x1 h Q' := Go.mono k (fun r h1 q => q.elim fun z hz => ⟨z, hz.1, f z h1 hz.2⟩)
def C_X12_isFigures (x0 : Nat) (x1 : Nat) (x2 : Int) (x3 : Int) (h : Hp) (Q : Int → Hp → Prop) : Prop := Go i_X12_isFigures 0 (lvA 0 [.inr (.inr x0), .inr (.inr x1), .inl x2, .inl x3]) [] h (qI Q)
theorem C_X12_isFigures_mono {x0 : Nat} {x1 : Nat} {x2 : Int} {x3 : Int} {h : Hp} {Q Q' : Int → Hp → Prop} (k : C_X12_isFigures x0 x1 x2 x3 h Q) (f : ∀ r h1, Q r h1 → Q' r h1) : C_X12_isFigures x0 x1 x2 x3 h Q' := Go.mono k (fun r h1 q => q.elim fun z hz => ⟨z, hz.1, f z h1 hz.2⟩)
def C_X12_isClause (x0 : Nat) (h : Hp) (Q : Int → Hp → Prop) : Prop := Go i_X12_isClause 0 (lvA 0 [.inr (.inr x0)]) [] h (qI Q)
theorem C_X12_isClause_mono {x0 : Nat} {h : Hp} {Q Q' : Int → Hp → Prop} (k : C_X12_isClause x0 h Q) (f : ∀ r h1, Q r h1 → Q' r h1) : C_X12_isClause x0 h Q' := Go.mono k (fun r h1 q => q.elim fun z hz => ⟨z, hz.1, f z h1 hz.2⟩)
def C_X12_isRead (x0 : Nat) (h : Hp) (Q : Int → Hp → Prop) : Prop := Go i_X12_isRead 0 (lvA 0 [.inr (.inr x0)]) [] h (qI Q)
theorem C_X12_isRead_mono {x0 : Nat} {h : Hp} {Q Q' : Int → Hp → Prop} (k : C_X12_isRead x0 h Q) (f : ∀ r h1, Q r h1 → Q' r h1) : C_X12_isRead x0 h Q' := Go.mono k (fun r h1 q => q.elim fun z hz => ⟨z, hz.1, f z h1 hz.2⟩)
def C_X12_desk (x0 : Nat) (h : Hp) (Q : Int → Hp → Prop) : Prop := Go i_X12_desk 0 (lvA 0 [.inr (.inr x0)]) [] h (qI Q)
theorem C_X12_desk_mono {x0 : Nat} {h : Hp} {Q Q' : Int → Hp → Prop} (k : C_X12_desk x0 h Q) (f : ∀ r h1, Q r h1 → Q' r h1) : C_X12_desk x0 h Q' := Go.mono k (fun r h1 q => q.elim fun z hz => ⟨z, hz.1, f z h1 hz.2⟩)
def C_X12_fault (x0 : Nat) (h : Hp) (Q : Int → Hp → Prop) : Prop := Go i_X12_fault 0 (lvA 0 [.inr (.inr x0)]) [] h (qI Q)
theorem C_X12_fault_mono {x0 : Nat} {h : Hp} {Q Q' : Int → Hp → Prop} (k : C_X12_fault x0 h Q) (f : ∀ r h1, Q r h1 → Q' r h1) : C_X12_fault x0 h Q' := Go.mono k (fun r h1 q => q.elim fun z hz => ⟨z, hz.1, f z h1 hz.2⟩)
def C_X12_runs (x0 : Nat) (h : Hp) (Q : Int → Hp → Prop) : Prop := Go i_X12_runs 0 (lvA 0 [.inr (.inr x0)]) [] h (qI Q)
theorem C_X12_runs_mono {x0 : Nat} {h : Hp} {Q Q' : Int → Hp → Prop} (k : C_X12_runs x0 h Q) (f : ∀ r h1, Q r h1 → Q' r h1) : C_X12_runs x0 h Q' := Go.mono k (fun r h1 q => q.elim fun z hz => ⟨z, hz.1, f z h1 hz.2⟩)
def C_X12_longest (x0 : Nat) (x1 : Int) (h : Hp) (Q : Int → Hp → Prop) : Prop := Go i_X12_longest 0 (lvA 0 [.inr (.inr x0), .inl x1]) [] h (qI Q)
theorem C_X12_longest_mono {x0 : Nat} {x1 : Int} {h : Hp} {Q Q' : Int → Hp → Prop} (k : C_X12_longest x0 x1 h Q) (f : ∀ r h1, Q r h1 → Q' r h1) : C_X12_longest x0 x1 h Q' := Go.mono k (fun r h1 q => q.elim fun z hz => ⟨z, hz.1, f z h1 hz.2⟩)
def C_X12_unlikeOnes (x0 : Nat) (h : Hp) (Q : Int → Hp → Prop) : Prop := Go i_X12_unlikeOnes 0 (lvA 0 [.inr (.inr x0)]) [] h (qI Q)
theorem C_X12_unlikeOnes_mono {x0 : Nat} {h : Hp} {Q Q' : Int → Hp → Prop} (k : C_X12_unlikeOnes x0 h Q) (f : ∀ r h1, Q r h1 → Q' r h1) : C_X12_unlikeOnes x0 h Q' := Go.mono k (fun r h1 q => q.elim fun z hz => ⟨z, hz.1, f z h1 hz.2⟩)
def C_X12_stands (x0 : Nat) (x1 : Int) (x2 : Int) (h : Hp) (Q : Int → Hp → Prop) : Prop := Go i_X12_stands 0 (lvA 0 [.inr (.inr x0), .inl x1, .inl x2]) [] h (qI Q)
theorem C_X12_stands_mono {x0 : Nat} {x1 : Int} {x2 : Int} {h : Hp} {Q Q' : Int → Hp → Prop} (k : C_X12_stands x0 x1 x2 h Q) (f : ∀ r h1, Q r h1 → Q' r h1) : C_X12_stands x0 x1 x2 h Q' := Go.mono k (fun r h1 q => q.elim fun z hz => ⟨z, hz.1, f z h1 hz.2⟩)
def C_X12_waysToTell (x0 : Nat) (h : Hp) (Q : Int → Hp → Prop) : Prop := Go i_X12_waysToTell 0 (lvA 0 [.inr (.inr x0)]) [] h (qI Q)
theorem C_X12_waysToTell_mono {x0 : Nat} {h : Hp} {Q Q' : Int → Hp → Prop} (k : C_X12_waysToTell x0 h Q) (f : ∀ r h1, Q r h1 → Q' r h1) : C_X12_waysToTell x0 h Q' := Go.mono k (fun r h1 q => q.elim fun z hz => ⟨z, hz.1, f z h1 hz.2⟩)
def C_X12_told (x0 : Nat) (x1 : Int) (h : Hp) (Q : Int → Hp → Prop) : Prop := Go i_X12_told 0 (lvA 0 [.inr (.inr x0), .inl x1]) [] h (qI Q)
theorem C_X12_told_mono {x0 : Nat} {x1 : Int} {h : Hp} {Q Q' : Int → Hp → Prop} (k : C_X12_told x0 x1 h Q) (f : ∀ r h1, Q r h1 → Q' r h1) : C_X12_told x0 x1 h Q' := Go.mono k (fun r h1 q => q.elim fun z hz => ⟨z, hz.1, f z h1 hz.2⟩)
def C_X12_figureAt (x0 : Nat) (x1 : Int) (h : Hp) (Q : Int → Hp → Prop) : Prop := Go i_X12_figureAt 0 (lvA 0 [.inr (.inr x0), .inl x1]) [] h (qI Q)
theorem C_X12_figureAt_mono {x0 : Nat} {x1 : Int} {h : Hp} {Q Q' : Int → Hp → Prop} (k : C_X12_figureAt x0 x1 h Q) (f : ∀ r h1, Q r h1 → Q' r h1) : C_X12_figureAt x0 x1 h Q' := Go.mono k (fun r h1 q => q.elim fun z hz => ⟨z, hz.1, f z h1 hz.2⟩)
def C_X12_at (x0 : Nat) (x1 : Int) (h : Hp) (Q : Int → Hp → Prop) : Prop := Go i_X12_at 0 (lvA 0 [.inr (.inr x0), .inl x1]) [] h (qI Q)
theorem C_X12_at_mono {x0 : Nat} {x1 : Int} {h : Hp} {Q Q' : Int → Hp → Prop} (k : C_X12_at x0 x1 h Q) (f : ∀ r h1, Q r h1 → Q' r h1) : C_X12_at x0 x1 h Q' := Go.mono k (fun r h1 q => q.elim fun z hz => ⟨z, hz.1, f z h1 hz.2⟩)
def C_X12_isWord (x0 : Nat) (x1 : Int) (h : Hp) (Q : Int → Hp → Prop) : Prop := Go i_X12_isWord 0 (lvA 0 [.inr (.inr x0), .inl x1]) [] h (qI Q)
theorem C_X12_isWord_mono {x0 : Nat} {x1 : Int} {h : Hp} {Q Q' : Int → Hp → Prop} (k : C_X12_isWord x0 x1 h Q) (f : ∀ r h1, Q r h1 → Q' r h1) : C_X12_isWord x0 x1 h Q' := Go.mono k (fun r h1 q => q.elim fun z hz => ⟨z, hz.1, f z h1 hz.2⟩)
def C_X12_spelt (x0 : Nat) (x1 : Int) (x2 : Int) (h : Hp) (Q : Int → Hp → Prop) : Prop := Go i_X12_spelt 0 (lvA 0 [.inr (.inr x0), .inl x1, .inl x2]) [] h (qI Q)
theorem C_X12_spelt_mono {x0 : Nat} {x1 : Int} {x2 : Int} {h : Hp} {Q Q' : Int → Hp → Prop} (k : C_X12_spelt x0 x1 x2 h Q) (f : ∀ r h1, Q r h1 → Q' r h1) : C_X12_spelt x0 x1 x2 h Q' := Go.mono k (fun r h1 q => q.elim fun z hz => ⟨z, hz.1, f z h1 hz.2⟩)
def C_X12_logged (x0 : Nat) (x1 : Int) (x2 : Int) (h : Hp) (Q : Int → Hp → Prop) : Prop := Go i_X12_logged 0 (lvA 0 [.inr (.inr x0), .inl x1, .inl x2]) [] h (qI Q)
theorem C_X12_logged_mono {x0 : Nat} {x1 : Int} {x2 : Int} {h : Hp} {Q Q' : Int → Hp → Prop} (k : C_X12_logged x0 x1 x2 h Q) (f : ∀ r h1, Q r h1 → Q' r h1) : C_X12_logged x0 x1 x2 h Q' := Go.mono k (fun r h1 q => q.elim fun z hz => ⟨z, hz.1, f z h1 hz.2⟩)
def C_X12_say (x0 : Nat) (x1 : Int) (h : Hp) (Q : Hp → Prop) : Prop := Go i_X12_say 0 (lvA 0 [.inr (.inr x0), .inl x1]) [] h (qV Q)
theorem C_X12_say_mono {x0 : Nat} {x1 : Int} {h : Hp} {Q Q' : Hp → Prop} (k : C_X12_say x0 x1 h Q) (f : ∀ h1, Q h1 → Q' h1) : C_X12_say x0 x1 h Q' := Go.mono k (fun r h1 q => ⟨q.1, f h1 q.2⟩)
def C_X12_sayRun (x0 : Nat) (x1 : Int) (x2 : Int) (x3 : Int) (h : Hp) (Q : Hp → Prop) : Prop := Go i_X12_sayRun 0 (lvA 0 [.inr (.inr x0), .inl x1, .inl x2, .inl x3]) [] h (qV Q)
theorem C_X12_sayRun_mono {x0 : Nat} {x1 : Int} {x2 : Int} {x3 : Int} {h : Hp} {Q Q' : Hp → Prop} (k : C_X12_sayRun x0 x1 x2 x3 h Q) (f : ∀ h1, Q h1 → Q' h1) : C_X12_sayRun x0 x1 x2 x3 h Q' := Go.mono k (fun r h1 q => ⟨q.1, f h1 q.2⟩)
def C_X12_sayRuns (x0 : Nat) (x1 : Int) (h : Hp) (Q : Hp → Prop) : Prop := Go i_X12_sayRuns 0 (lvA 0 [.inr (.inr x0), .inl x1]) [] h (qV Q)
theorem C_X12_sayRuns_mono {x0 : Nat} {x1 : Int} {h : Hp} {Q Q' : Hp → Prop} (k : C_X12_sayRuns x0 x1 h Q) (f : ∀ h1, Q h1 → Q' h1) : C_X12_sayRuns x0 x1 h Q' := Go.mono k (fun r h1 q => ⟨q.1, f h1 q.2⟩)
def C_X12_sayBackward (x0 : Nat) (h : Hp) (Q : Hp → Prop) : Prop := Go i_X12_sayBackward 0 (lvA 0 [.inr (.inr x0)]) [] h (qV Q)
theorem C_X12_sayBackward_mono {x0 : Nat} {h : Hp} {Q Q' : Hp → Prop} (k : C_X12_sayBackward x0 h Q) (f : ∀ h1, Q h1 → Q' h1) : C_X12_sayBackward x0 h Q' := Go.mono k (fun r h1 q => ⟨q.1, f h1 q.2⟩)
def C_X12_sayAll (x0 : Nat) (h : Hp) (Q : Hp → Prop) : Prop := Go i_X12_sayAll 0 (lvA 0 [.inr (.inr x0)]) [] h (qV Q)
theorem C_X12_sayAll_mono {x0 : Nat} {h : Hp} {Q Q' : Hp → Prop} (k : C_X12_sayAll x0 h Q) (f : ∀ h1, Q h1 → Q' h1) : C_X12_sayAll x0 h Q' := Go.mono k (fun r h1 q => ⟨q.1, f h1 q.2⟩)
def C_X12_reads (x0 : Nat) (x1 : Int) (h : Hp) (Q : Hp → Prop) : Prop := Go i_X12_reads 0 (lvA 0 [.inr (.inr x0), .inl x1]) [] h (qV Q)
theorem C_X12_reads_mono {x0 : Nat} {x1 : Int} {h : Hp} {Q Q' : Hp → Prop} (k : C_X12_reads x0 x1 h Q) (f : ∀ h1, Q h1 → Q' h1) : C_X12_reads x0 x1 h Q' := Go.mono k (fun r h1 q => ⟨q.1, f h1 q.2⟩)
def C_X12_begin (x0 : Nat) (h : Hp) (Q : Hp → Prop) : Prop := Go i_X12_begin 0 (lvA 0 [.inr (.inr x0)]) [] h (qV Q)
theorem C_X12_begin_mono {x0 : Nat} {h : Hp} {Q Q' : Hp → Prop} (k : C_X12_begin x0 h Q) (f : ∀ h1, Q h1 → Q' h1) : C_X12_begin x0 h Q' := Go.mono k (fun r h1 q => ⟨q.1, f h1 q.2⟩)
def C_X12_note (x0 : Nat) (h : Hp) (Q : Hp → Prop) : Prop := Go i_X12_note 0 (lvA 0 [.inr (.inr x0)]) [] h (qV Q)
theorem C_X12_note_mono {x0 : Nat} {h : Hp} {Q Q' : Hp → Prop} (k : C_X12_note x0 h Q) (f : ∀ h1, Q h1 → Q' h1) : C_X12_note x0 h Q' := Go.mono k (fun r h1 q => ⟨q.1, f h1 q.2⟩)
def C_X12_become (x0 : Nat) (h : Hp) (Q : Hp → Prop) : Prop := Go i_X12_become 0 (lvA 0 [.inr (.inr x0)]) [] h (qV Q)
theorem C_X12_become_mono {x0 : Nat} {h : Hp} {Q Q' : Hp → Prop} (k : C_X12_become x0 h Q) (f : ∀ h1, Q h1 → Q' h1) : C_X12_become x0 h Q' := Go.mono k (fun r h1 q => ⟨q.1, f h1 q.2⟩)
def C_X12_logs (x0 : Nat) (x1 : Int) (h : Hp) (Q : Hp → Prop) : Prop := Go i_X12_logs 0 (lvA 0 [.inr (.inr x0), .inl x1]) [] h (qV Q)
theorem C_X12_logs_mono {x0 : Nat} {x1 : Int} {h : Hp} {Q Q' : Hp → Prop} (k : C_X12_logs x0 x1 h Q) (f : ∀ h1, Q h1 → Q' h1) : C_X12_logs x0 x1 h Q' := Go.mono k (fun r h1 q => ⟨q.1, f h1 q.2⟩)
def C_X12_read (x0 : Nat) (x1 : Int) (h : Hp) (Q : Int → Hp → Prop) : Prop := Go i_X12_read 0 (lvA 0 [.inr (.inr x0), .inl x1]) [] h (qI Q)
theorem C_X12_read_mono {x0 : Nat} {x1 : Int} {h : Hp} {Q Q' : Int → Hp → Prop} (k : C_X12_read x0 x1 h Q) (f : ∀ r h1, Q r h1 → Q' r h1) : C_X12_read x0 x1 h Q' := Go.mono k (fun r h1 q => q.elim fun z hz => ⟨z, hz.1, f z h1 hz.2⟩)
def C_X12_isUnread (x0 : Nat) (h : Hp) (Q : Int → Hp → Prop) : Prop := Go i_X12_isUnread 0 (lvA 0 [.inr (.inr x0)]) [] h (qI Q)
theorem C_X12_isUnread_mono {x0 : Nat} {h : Hp} {Q Q' : Int → Hp → Prop} (k : C_X12_isUnread x0 h Q) (f : ∀ r h1, Q r h1 → Q' r h1) : C_X12_isUnread x0 h Q' := Go.mono k (fun r h1 q => q.elim fun z hz => ⟨z, hz.1, f z h1 hz.2⟩)
def C_X12_unread (x0 : Nat) (h : Hp) (Q : Int → Hp → Prop) : Prop := Go i_X12_unread 0 (lvA 0 [.inr (.inr x0)]) [] h (qI Q)
theorem C_X12_unread_mono {x0 : Nat} {h : Hp} {Q Q' : Int → Hp → Prop} (k : C_X12_unread x0 h Q) (f : ∀ r h1, Q r h1 → Q' r h1) : C_X12_unread x0 h Q' := Go.mono k (fun r h1 q => q.elim fun z hz => ⟨z, hz.1, f z h1 hz.2⟩)
def C_X12_put (x0 : Nat) (x1 : Int) (h : Hp) (Q : Int → Hp → Prop) : Prop := Go i_X12_put 0 (lvA 0 [.inr (.inr x0), .inl x1]) [] h (qI Q)
theorem C_X12_put_mono {x0 : Nat} {x1 : Int} {h : Hp} {Q Q' : Int → Hp → Prop} (k : C_X12_put x0 x1 h Q) (f : ∀ r h1, Q r h1 → Q' r h1) : C_X12_put x0 x1 h Q' := Go.mono k (fun r h1 q => q.elim fun z hz => ⟨z, hz.1, f z h1 hz.2⟩)
def C_X12_word (x0 : Nat) (x1 : Int) (h : Hp) (Q : Int → Hp → Prop) : Prop := Go i_X12_word 0 (lvA 0 [.inr (.inr x0), .inl x1]) [] h (qI Q)
theorem C_X12_word_mono {x0 : Nat} {x1 : Int} {h : Hp} {Q Q' : Int → Hp → Prop} (k : C_X12_word x0 x1 h Q) (f : ∀ r h1, Q r h1 → Q' r h1) : C_X12_word x0 x1 h Q' := Go.mono k (fun r h1 q => q.elim fun z hz => ⟨z, hz.1, f z h1 hz.2⟩)
def C_X12_change (x0 : Nat) (x1 : Int) (x2 : Int) (h : Hp) (Q : Int → Hp → Prop) : Prop := Go i_X12_change 0 (lvA 0 [.inr (.inr x0), .inl x1, .inl x2]) [] h (qI Q)
theorem C_X12_change_mono {x0 : Nat} {x1 : Int} {x2 : Int} {h : Hp} {Q Q' : Int → Hp → Prop} (k : C_X12_change x0 x1 x2 h Q) (f : ∀ r h1, Q r h1 → Q' r h1) : C_X12_change x0 x1 x2 h Q' := Go.mono k (fun r h1 q => q.elim fun z hz => ⟨z, hz.1, f z h1 hz.2⟩)
def C_X12_drop (x0 : Nat) (x1 : Int) (h : Hp) (Q : Int → Hp → Prop) : Prop := Go i_X12_drop 0 (lvA 0 [.inr (.inr x0), .inl x1]) [] h (qI Q)
theorem C_X12_drop_mono {x0 : Nat} {x1 : Int} {h : Hp} {Q Q' : Int → Hp → Prop} (k : C_X12_drop x0 x1 h Q) (f : ∀ r h1, Q r h1 → Q' r h1) : C_X12_drop x0 x1 h Q' := Go.mono k (fun r h1 q => q.elim fun z hz => ⟨z, hz.1, f z h1 hz.2⟩)
def C_X12_turn (x0 : Nat) (h : Hp) (Q : Int → Hp → Prop) : Prop := Go i_X12_turn 0 (lvA 0 [.inr (.inr x0)]) [] h (qI Q)
theorem C_X12_turn_mono {x0 : Nat} {h : Hp} {Q Q' : Int → Hp → Prop} (k : C_X12_turn x0 h Q) (f : ∀ r h1, Q r h1 → Q' r h1) : C_X12_turn x0 h Q' := Go.mono k (fun r h1 q => q.elim fun z hz => ⟨z, hz.1, f z h1 hz.2⟩)
def C_X12_draw (x0 : Nat) (x1 : Int) (h : Hp) (Q : Int → Hp → Prop) : Prop := Go i_X12_draw 0 (lvA 0 [.inr (.inr x0), .inl x1]) [] h (qI Q)
theorem C_X12_draw_mono {x0 : Nat} {x1 : Int} {h : Hp} {Q Q' : Int → Hp → Prop} (k : C_X12_draw x0 x1 h Q) (f : ∀ r h1, Q r h1 → Q' r h1) : C_X12_draw x0 x1 h Q' := Go.mono k (fun r h1 q => q.elim fun z hz => ⟨z, hz.1, f z h1 hz.2⟩)
def C_X12_drifts (x0 : Nat) (h : Hp) (Q : Hp → Prop) : Prop := Go i_X12_drifts 0 (lvA 0 [.inr (.inr x0)]) [] h (qV Q)
theorem C_X12_drifts_mono {x0 : Nat} {h : Hp} {Q Q' : Hp → Prop} (k : C_X12_drifts x0 h Q) (f : ∀ h1, Q h1 → Q' h1) : C_X12_drifts x0 h Q' := Go.mono k (fun r h1 q => ⟨q.1, f h1 q.2⟩)
def C_X12_drift (x0 : Nat) (x1 : Int) (h : Hp) (Q : Int → Hp → Prop) : Prop := Go i_X12_drift 0 (lvA 0 [.inr (.inr x0), .inl x1]) [] h (qI Q)
theorem C_X12_drift_mono {x0 : Nat} {x1 : Int} {h : Hp} {Q Q' : Int → Hp → Prop} (k : C_X12_drift x0 x1 h Q) (f : ∀ r h1, Q r h1 → Q' r h1) : C_X12_drift x0 x1 h Q' := Go.mono k (fun r h1 q => q.elim fun z hz => ⟨z, hz.1, f z h1 hz.2⟩)
def C_X12_undo (x0 : Nat) (x1 : Int) (h : Hp) (Q : Int → Hp → Prop) : Prop := Go i_X12_undo 0 (lvA 0 [.inr (.inr x0), .inl x1]) [] h (qI Q)
theorem C_X12_undo_mono {x0 : Nat} {x1 : Int} {h : Hp} {Q Q' : Int → Hp → Prop} (k : C_X12_undo x0 x1 h Q) (f : ∀ r h1, Q r h1 → Q' r h1) : C_X12_undo x0 x1 h Q' := Go.mono k (fun r h1 q => q.elim fun z hz => ⟨z, hz.1, f z h1 hz.2⟩)
def C_X12_readOn (x0 : Nat) (x1 : Int) (x2 : Int) (h : Hp) (Q : Hp → Prop) : Prop := Go i_X12_readOn 0 (lvA 0 [.inr (.inr x0), .inl x1, .inl x2]) [] h (qV Q)
theorem C_X12_readOn_mono {x0 : Nat} {x1 : Int} {x2 : Int} {h : Hp} {Q Q' : Hp → Prop} (k : C_X12_readOn x0 x1 x2 h Q) (f : ∀ h1, Q h1 → Q' h1) : C_X12_readOn x0 x1 x2 h Q' := Go.mono k (fun r h1 q => ⟨q.1, f h1 q.2⟩)
def C_X12_isTried (x0 : Int) (x1 : Int) (h : Hp) (Q : Int → Hp → Prop) : Prop := Go i_X12_isTried 0 (lvA 0 [.inl x0, .inl x1]) [] h (qI Q)
theorem C_X12_isTried_mono {x0 : Int} {x1 : Int} {h : Hp} {Q Q' : Int → Hp → Prop} (k : C_X12_isTried x0 x1 h Q) (f : ∀ r h1, Q r h1 → Q' r h1) : C_X12_isTried x0 x1 h Q' := Go.mono k (fun r h1 q => q.elim fun z hz => ⟨z, hz.1, f z h1 hz.2⟩)
def C_X12_length (x0 : Nat) (x1 : Int) (x2 : Int) (h : Hp) (Q : Int → Hp → Prop) : Prop := Go i_X12_length 0 (lvA 0 [.inr (.inr x0), .inl x1, .inl x2]) [] h (qI Q)
theorem C_X12_length_mono {x0 : Nat} {x1 : Int} {x2 : Int} {h : Hp} {Q Q' : Int → Hp → Prop} (k : C_X12_length x0 x1 x2 h Q) (f : ∀ r h1, Q r h1 → Q' r h1) : C_X12_length x0 x1 x2 h Q' := Go.mono k (fun r h1 q => q.elim fun z hz => ⟨z, hz.1, f z h1 hz.2⟩)
def C_X12_figure (x0 : Nat) (x1 : Int) (x2 : Int) (x3 : Int) (h : Hp) (Q : Int → Hp → Prop) : Prop := Go i_X12_figure 0 (lvA 0 [.inr (.inr x0), .inl x1, .inl x2, .inl x3]) [] h (qI Q)
theorem C_X12_figure_mono {x0 : Nat} {x1 : Int} {x2 : Int} {x3 : Int} {h : Hp} {Q Q' : Int → Hp → Prop} (k : C_X12_figure x0 x1 x2 x3 h Q) (f : ∀ r h1, Q r h1 → Q' r h1) : C_X12_figure x0 x1 x2 x3 h Q' := Go.mono k (fun r h1 q => q.elim fun z hz => ⟨z, hz.1, f z h1 hz.2⟩)
def C_X12_oftenThere (x0 : Nat) (x1 : Int) (h : Hp) (Q : Int → Hp → Prop) : Prop := Go i_X12_oftenThere 0 (lvA 0 [.inr (.inr x0), .inl x1]) [] h (qI Q)
theorem C_X12_oftenThere_mono {x0 : Nat} {x1 : Int} {h : Hp} {Q Q' : Int → Hp → Prop} (k : C_X12_oftenThere x0 x1 h Q) (f : ∀ r h1, Q r h1 → Q' r h1) : C_X12_oftenThere x0 x1 h Q' := Go.mono k (fun r h1 q => q.elim fun z hz => ⟨z, hz.1, f z h1 hz.2⟩)
def C_X12_often (x0 : Nat) (x1 : Int) (x2 : Int) (x3 : Int) (h : Hp) (Q : Int → Hp → Prop) : Prop := Go i_X12_often 0 (lvA 0 [.inr (.inr x0), .inl x1, .inl x2, .inl x3]) [] h (qI Q)
theorem C_X12_often_mono {x0 : Nat} {x1 : Int} {x2 : Int} {x3 : Int} {h : Hp} {Q Q' : Int → Hp → Prop} (k : C_X12_often x0 x1 x2 x3 h Q) (f : ∀ r h1, Q r h1 → Q' r h1) : C_X12_often x0 x1 x2 x3 h Q' := Go.mono k (fun r h1 q => q.elim fun z hz => ⟨z, hz.1, f z h1 hz.2⟩)
def C_X12_first (x0 : Nat) (x1 : Int) (x2 : Int) (h : Hp) (Q : Int → Hp → Prop) : Prop := Go i_X12_first 0 (lvA 0 [.inr (.inr x0), .inl x1, .inl x2]) [] h (qI Q)
theorem C_X12_first_mono {x0 : Nat} {x1 : Int} {x2 : Int} {h : Hp} {Q Q' : Int → Hp → Prop} (k : C_X12_first x0 x1 x2 h Q) (f : ∀ r h1, Q r h1 → Q' r h1) : C_X12_first x0 x1 x2 h Q' := Go.mono k (fun r h1 q => q.elim fun z hz => ⟨z, hz.1, f z h1 hz.2⟩)
def C_X12_isPast (x0 : Nat) (x1 : Int) (h : Hp) (Q : Int → Hp → Prop) : Prop := Go i_X12_isPast 0 (lvA 0 [.inr (.inr x0), .inl x1]) [] h (qI Q)
theorem C_X12_isPast_mono {x0 : Nat} {x1 : Int} {h : Hp} {Q Q' : Int → Hp → Prop} (k : C_X12_isPast x0 x1 h Q) (f : ∀ r h1, Q r h1 → Q' r h1) : C_X12_isPast x0 x1 h Q' := Go.mono k (fun r h1 q => q.elim fun z hz => ⟨z, hz.1, f z h1 hz.2⟩)
def C_X12_earlier (x0 : Nat) (x1 : Int) (h : Hp) (Q : Int → Hp → Prop) : Prop := Go i_X12_earlier 0 (lvA 0 [.inr (.inr x0), .inl x1]) [] h (qI Q)
theorem C_X12_earlier_mono {x0 : Nat} {x1 : Int} {h : Hp} {Q Q' : Int → Hp → Prop} (k : C_X12_earlier x0 x1 h Q) (f : ∀ r h1, Q r h1 → Q' r h1) : C_X12_earlier x0 x1 h Q' := Go.mono k (fun r h1 q => q.elim fun z hz => ⟨z, hz.1, f z h1 hz.2⟩)
def C_X12_again (x0 : Nat) (x1 : Int) (h : Hp) (Q : Int → Hp → Prop) : Prop := Go i_X12_again 0 (lvA 0 [.inr (.inr x0), .inl x1]) [] h (qI Q)
theorem C_X12_again_mono {x0 : Nat} {x1 : Int} {h : Hp} {Q Q' : Int → Hp → Prop} (k : C_X12_again x0 x1 h Q) (f : ∀ r h1, Q r h1 → Q' r h1) : C_X12_again x0 x1 h Q' := Go.mono k (fun r h1 q => q.elim fun z hz => ⟨z, hz.1, f z h1 hz.2⟩)
def C_X12_addPart (x0 : Nat) (x1 : Int) (x2 : Int) (x3 : Int) (h : Hp) (Q : Hp → Prop) : Prop := Go i_X12_addPart 0 (lvA 0 [.inr (.inr x0), .inl x1, .inl x2, .inl x3]) [] h (qV Q)
theorem C_X12_addPart_mono {x0 : Nat} {x1 : Int} {x2 : Int} {x3 : Int} {h : Hp} {Q Q' : Hp → Prop} (k : C_X12_addPart x0 x1 x2 x3 h Q) (f : ∀ h1, Q h1 → Q' h1) : C_X12_addPart x0 x1 x2 x3 h Q' := Go.mono k (fun r h1 q => ⟨q.1, f h1 q.2⟩)
def C_X12_isApart (x0 : Nat) (x1 : Int) (h : Hp) (Q : Int → Hp → Prop) : Prop := Go i_X12_isApart 0 (lvA 0 [.inr (.inr x0), .inl x1]) [] h (qI Q)
theorem C_X12_isApart_mono {x0 : Nat} {x1 : Int} {h : Hp} {Q Q' : Int → Hp → Prop} (k : C_X12_isApart x0 x1 h Q) (f : ∀ r h1, Q r h1 → Q' r h1) : C_X12_isApart x0 x1 h Q' := Go.mono k (fun r h1 q => q.elim fun z hz => ⟨z, hz.1, f z h1 hz.2⟩)
def C_X12_apart (x0 : Nat) (x1 : Int) (h : Hp) (Q : Int → Hp → Prop) : Prop := Go i_X12_apart 0 (lvA 0 [.inr (.inr x0), .inl x1]) [] h (qI Q)
theorem C_X12_apart_mono {x0 : Nat} {x1 : Int} {h : Hp} {Q Q' : Int → Hp → Prop} (k : C_X12_apart x0 x1 h Q) (f : ∀ r h1, Q r h1 → Q' r h1) : C_X12_apart x0 x1 h Q' := Go.mono k (fun r h1 q => q.elim fun z hz => ⟨z, hz.1, f z h1 hz.2⟩)
def C_X12_isItself (x0 : Nat) (h : Hp) (Q : Int → Hp → Prop) : Prop := Go i_X12_isItself 0 (lvA 0 [.inr (.inr x0)]) [] h (qI Q)
theorem C_X12_isItself_mono {x0 : Nat} {h : Hp} {Q Q' : Int → Hp → Prop} (k : C_X12_isItself x0 h Q) (f : ∀ r h1, Q r h1 → Q' r h1) : C_X12_isItself x0 h Q' := Go.mono k (fun r h1 q => q.elim fun z hz => ⟨z, hz.1, f z h1 hz.2⟩)
def C_X12_back (x0 : Nat) (x1 : Int) (h : Hp) (Q : Int → Hp → Prop) : Prop := Go i_X12_back 0 (lvA 0 [.inr (.inr x0), .inl x1]) [] h (qI Q)
theorem C_X12_back_mono {x0 : Nat} {x1 : Int} {h : Hp} {Q Q' : Int → Hp → Prop} (k : C_X12_back x0 x1 h Q) (f : ∀ r h1, Q r h1 → Q' r h1) : C_X12_back x0 x1 h Q' := Go.mono k (fun r h1 q => q.elim fun z hz => ⟨z, hz.1, f z h1 hz.2⟩)
def C_X12_in (x0 : Nat) (x1 : Int) (h : Hp) (Q : Int → Hp → Prop) : Prop := Go i_X12_in 0 (lvA 0 [.inr (.inr x0), .inl x1]) [] h (qI Q)
theorem C_X12_in_mono {x0 : Nat} {x1 : Int} {h : Hp} {Q Q' : Int → Hp → Prop} (k : C_X12_in x0 x1 h Q) (f : ∀ r h1, Q r h1 → Q' r h1) : C_X12_in x0 x1 h Q' := Go.mono k (fun r h1 q => q.elim fun z hz => ⟨z, hz.1, f z h1 hz.2⟩)
def C_X12_changes (x0 : Nat) (x1 : Int) (h : Hp) (Q : Int → Hp → Prop) : Prop := Go i_X12_changes 0 (lvA 0 [.inr (.inr x0), .inl x1]) [] h (qI Q)
theorem C_X12_changes_mono {x0 : Nat} {x1 : Int} {h : Hp} {Q Q' : Int → Hp → Prop} (k : C_X12_changes x0 x1 h Q) (f : ∀ r h1, Q r h1 → Q' r h1) : C_X12_changes x0 x1 h Q' := Go.mono k (fun r h1 q => q.elim fun z hz => ⟨z, hz.1, f z h1 hz.2⟩)
def C_X12_noSlip (x0 : Nat) (x1 : Int) (x2 : Int) (h : Hp) (Q : Int → Hp → Prop) : Prop := Go i_X12_noSlip 0 (lvA 0 [.inr (.inr x0), .inl x1, .inl x2]) [] h (qI Q)
theorem C_X12_noSlip_mono {x0 : Nat} {x1 : Int} {x2 : Int} {h : Hp} {Q Q' : Int → Hp → Prop} (k : C_X12_noSlip x0 x1 x2 h Q) (f : ∀ r h1, Q r h1 → Q' r h1) : C_X12_noSlip x0 x1 x2 h Q' := Go.mono k (fun r h1 q => q.elim fun z hz => ⟨z, hz.1, f z h1 hz.2⟩)
def C_X12_hear (x0 : Nat) (x1 : Int) (x2 : Int) (x3 : Int) (h : Hp) (Q : Int → Hp → Prop) : Prop := Go i_X12_hear 0 (lvA 0 [.inr (.inr x0), .inl x1, .inl x2, .inl x3]) [] h (qI Q)
theorem C_X12_hear_mono {x0 : Nat} {x1 : Int} {x2 : Int} {x3 : Int} {h : Hp} {Q Q' : Int → Hp → Prop} (k : C_X12_hear x0 x1 x2 x3 h Q) (f : ∀ r h1, Q r h1 → Q' r h1) : C_X12_hear x0 x1 x2 x3 h Q' := Go.mono k (fun r h1 q => q.elim fun z hz => ⟨z, hz.1, f z h1 hz.2⟩)
def C_X12_readWord (x0 : Nat) (x1 : Int) (x2 : Int) (h : Hp) (Q : Hp → Prop) : Prop := Go i_X12_readWord 0 (lvA 0 [.inr (.inr x0), .inl x1, .inl x2]) [] h (qV Q)
theorem C_X12_readWord_mono {x0 : Nat} {x1 : Int} {x2 : Int} {h : Hp} {Q Q' : Hp → Prop} (k : C_X12_readWord x0 x1 x2 h Q) (f : ∀ h1, Q h1 → Q' h1) : C_X12_readWord x0 x1 x2 h Q' := Go.mono k (fun r h1 q => ⟨q.1, f h1 q.2⟩)
def C_X12_isSaid (x0 : Nat) (x1 : Int) (h : Hp) (Q : Int → Hp → Prop) : Prop := Go i_X12_isSaid 0 (lvA 0 [.inr (.inr x0), .inl x1]) [] h (qI Q)
theorem C_X12_isSaid_mono {x0 : Nat} {x1 : Int} {h : Hp} {Q Q' : Int → Hp → Prop} (k : C_X12_isSaid x0 x1 h Q) (f : ∀ r h1, Q r h1 → Q' r h1) : C_X12_isSaid x0 x1 h Q' := Go.mono k (fun r h1 q => q.elim fun z hz => ⟨z, hz.1, f z h1 hz.2⟩)
def C_X12_couldBe (x0 : Nat) (h : Hp) (Q : Int → Hp → Prop) : Prop := Go i_X12_couldBe 0 (lvA 0 [.inr (.inr x0)]) [] h (qI Q)
theorem C_X12_couldBe_mono {x0 : Nat} {h : Hp} {Q Q' : Int → Hp → Prop} (k : C_X12_couldBe x0 h Q) (f : ∀ r h1, Q r h1 → Q' r h1) : C_X12_couldBe x0 h Q' := Go.mono k (fun r h1 q => q.elim fun z hz => ⟨z, hz.1, f z h1 hz.2⟩)
def C_X12_alikeOnes (x0 : Nat) (x1 : Int) (x2 : Int) (h : Hp) (Q : Int → Hp → Prop) : Prop := Go i_X12_alikeOnes 0 (lvA 0 [.inr (.inr x0), .inl x1, .inl x2]) [] h (qI Q)
theorem C_X12_alikeOnes_mono {x0 : Nat} {x1 : Int} {x2 : Int} {h : Hp} {Q Q' : Int → Hp → Prop} (k : C_X12_alikeOnes x0 x1 x2 h Q) (f : ∀ r h1, Q r h1 → Q' r h1) : C_X12_alikeOnes x0 x1 x2 h Q' := Go.mono k (fun r h1 q => q.elim fun z hz => ⟨z, hz.1, f z h1 hz.2⟩)
def C_X12_ask (x0 : Nat) (h : Hp) (Q : Int → Hp → Prop) : Prop := Go i_X12_ask 0 (lvA 0 [.inr (.inr x0)]) [] h (qI Q)
theorem C_X12_ask_mono {x0 : Nat} {h : Hp} {Q Q' : Int → Hp → Prop} (k : C_X12_ask x0 h Q) (f : ∀ r h1, Q r h1 → Q' r h1) : C_X12_ask x0 h Q' := Go.mono k (fun r h1 q => q.elim fun z hz => ⟨z, hz.1, f z h1 hz.2⟩)
def C_X12_write (x0 : Nat) (x1 : Int) (x2 : Int) (h : Hp) (Q : Int → Hp → Prop) : Prop := Go i_X12_write 0 (lvA 0 [.inr (.inr x0), .inl x1, .inl x2]) [] h (qI Q)
theorem C_X12_write_mono {x0 : Nat} {x1 : Int} {x2 : Int} {h : Hp} {Q Q' : Int → Hp → Prop} (k : C_X12_write x0 x1 x2 h Q) (f : ∀ r h1, Q r h1 → Q' r h1) : C_X12_write x0 x1 x2 h Q' := Go.mono k (fun r h1 q => q.elim fun z hz => ⟨z, hz.1, f z h1 hz.2⟩)
def C_X12_judge (x0 : Nat) (h : Hp) (Q : Int → Hp → Prop) : Prop := Go i_X12_judge 0 (lvA 0 [.inr (.inr x0)]) [] h (qI Q)
theorem C_X12_judge_mono {x0 : Nat} {h : Hp} {Q Q' : Int → Hp → Prop} (k : C_X12_judge x0 h Q) (f : ∀ r h1, Q r h1 → Q' r h1) : C_X12_judge x0 h Q' := Go.mono k (fun r h1 q => q.elim fun z hz => ⟨z, hz.1, f z h1 hz.2⟩)
def C_X12_tear (x0 : Nat) (h : Hp) (Q : Int → Hp → Prop) : Prop := Go i_X12_tear 0 (lvA 0 [.inr (.inr x0)]) [] h (qI Q)
theorem C_X12_tear_mono {x0 : Nat} {h : Hp} {Q Q' : Int → Hp → Prop} (k : C_X12_tear x0 h Q) (f : ∀ r h1, Q r h1 → Q' r h1) : C_X12_tear x0 h Q' := Go.mono k (fun r h1 q => q.elim fun z hz => ⟨z, hz.1, f z h1 hz.2⟩)
def C_X12_seed (x0 : Nat) (x1 : Int) (h : Hp) (Q : Int → Hp → Prop) : Prop := Go i_X12_seed 0 (lvA 0 [.inr (.inr x0), .inl x1]) [] h (qI Q)
theorem C_X12_seed_mono {x0 : Nat} {x1 : Int} {h : Hp} {Q Q' : Int → Hp → Prop} (k : C_X12_seed x0 x1 h Q) (f : ∀ r h1, Q r h1 → Q' r h1) : C_X12_seed x0 x1 h Q' := Go.mono k (fun r h1 q => q.elim fun z hz => ⟨z, hz.1, f z h1 hz.2⟩)
def C_X12_keep (x0 : Nat) (x1 : Int) (h : Hp) (Q : Int → Hp → Prop) : Prop := Go i_X12_keep 0 (lvA 0 [.inr (.inr x0), .inl x1]) [] h (qI Q)
theorem C_X12_keep_mono {x0 : Nat} {x1 : Int} {h : Hp} {Q Q' : Int → Hp → Prop} (k : C_X12_keep x0 x1 h Q) (f : ∀ r h1, Q r h1 → Q' r h1) : C_X12_keep x0 x1 h Q' := Go.mono k (fun r h1 q => q.elim fun z hz => ⟨z, hz.1, f z h1 hz.2⟩)
def C_X12_goBack (x0 : Nat) (x1 : Int) (h : Hp) (Q : Int → Hp → Prop) : Prop := Go i_X12_goBack 0 (lvA 0 [.inr (.inr x0), .inl x1]) [] h (qI Q)
theorem C_X12_goBack_mono {x0 : Nat} {x1 : Int} {h : Hp} {Q Q' : Int → Hp → Prop} (k : C_X12_goBack x0 x1 h Q) (f : ∀ r h1, Q r h1 → Q' r h1) : C_X12_goBack x0 x1 h Q' := Go.mono k (fun r h1 q => q.elim fun z hz => ⟨z, hz.1, f z h1 hz.2⟩)
def C_J_bitCount (x0 : Int) (h : Hp) (Q : Int → Hp → Prop) : Prop := Go i_J_bitCount 0 (lvA 0 [.inl x0]) [] h (qI Q)
theorem C_J_bitCount_mono {x0 : Int} {h : Hp} {Q Q' : Int → Hp → Prop} (k : C_J_bitCount x0 h Q) (f : ∀ r h1, Q r h1 → Q' r h1) : C_J_bitCount x0 h Q' := Go.mono k (fun r h1 q => q.elim fun z hz => ⟨z, hz.1, f z h1 hz.2⟩)
def C_L_law (h : Hp) (Q : Int → Hp → Prop) : Prop := Go i_L_law 0 (lvA 0 [.inr (.inr 1)]) [] h (qI Q)
theorem C_L_law_mono {h : Hp} {Q Q' : Int → Hp → Prop} (k : C_L_law h Q) (f : ∀ r h1, Q r h1 → Q' r h1) : C_L_law h Q' := Go.mono k (fun r h1 q => q.elim fun z hz => ⟨z, hz.1, f z h1 hz.2⟩)
