/-! What the tables say: words by their places (written by program). -/
theorem am_mem {w : Cond} (i : Nat) (h : lw_tbl[i]? = some w) (hg : goodWord w = true) : w ∈ am_tbl := List.mem_filter.mpr ⟨List.mem_of_getElem? h, hg⟩
theorem am_memN {a b : String} {k : Nat} {y : MethodName} (i : Nat) (h : lw_tbl[i]? = some (.methodLinkNest a k y b)) : Cond.methodLinkNest a k y b ∈ am_nest := List.mem_filter.mpr ⟨List.mem_of_getElem? h, rfl⟩
theorem cl_0 : am_cls 0 (RX0, TX0, 6) := ⟨by decide, rfl, by decide +kernel, tyX0, tyX0_ok, nmX0⟩
theorem cl_1 : am_cls 1 (RX1, TX1, 7) := ⟨by decide, rfl, by decide +kernel, tyX1, tyX1_ok, nmX1⟩
theorem cl_2 : am_cls 2 (RX2, TX2, 4) := ⟨by decide, rfl, by decide +kernel, tyX2, tyX2_ok, nmX2⟩
theorem cl_3 : am_cls 3 (RX3, TX3, 5) := ⟨by decide, rfl, by decide +kernel, tyX3, tyX3_ok, nmX3⟩
theorem cl_4 : am_cls 4 (RX4, TX4, 6) := ⟨by decide, rfl, by decide +kernel, tyX4, tyX4_ok, nmX4⟩
theorem cl_5 : am_cls 5 (RX5, TX5, 7) := ⟨by decide, rfl, by decide +kernel, tyX5, tyX5_ok, nmX5⟩
theorem cl_6 : am_cls 6 (RX6, TX6, 8) := ⟨by decide, rfl, by decide +kernel, tyX6, tyX6_ok, nmX6⟩
theorem cl_7 : am_cls 7 (RX7, TX7, 2) := ⟨by decide, rfl, by decide +kernel, tyX7, tyX7_ok, nmX7⟩
theorem cl_8 : am_cls 8 (RX8, TX8, 2) := ⟨by decide, rfl, by decide +kernel, tyX8, tyX8_ok, nmX8⟩
theorem cl_9 : am_cls 9 (RX9, TX9, 12) := ⟨by decide, rfl, by decide +kernel, tyX9, tyX9_ok, nmX9⟩
theorem cl_10 : am_cls 10 (RX10, TX10, 59) := ⟨by decide, rfl, by decide +kernel, tyX10, tyX10_ok, nmX10⟩
abbrev eX0_init : am_E := (yX0_init, cX0_init, 2, none)
theorem me_X0_init : am_me eX0_init 0 := ⟨am_mem 211 (by decide +kernel) rfl, am_mem 88 (by decide +kernel) rfl, ⟨by decide, by decide, by decide +kernel⟩, by decide⟩
theorem mn_X0_init : eX0_init.1.name = "<init>" ∧ Cond.instanceMethod eX0_init.1 ∈ am_tbl ∧ eX0_init.2.2.2 = none := ⟨rfl, am_mem 210 (by decide +kernel) rfl, rfl⟩
abbrev eX0_isKept : am_E := (yX0_isKept, cX0_isKept, 2, (some .boolean))
theorem me_X0_isKept : am_me eX0_isKept 1 := ⟨am_mem 806 (by decide +kernel) rfl, am_mem 88 (by decide +kernel) rfl, ⟨by decide, by decide, by decide +kernel⟩, by decide⟩
theorem mi_X0_isKept : am_mi eX0_isKept 0 := ⟨by decide, am_mem 804 (by decide +kernel) rfl, am_mem 805 (by decide +kernel) rfl, (RX0, TX0, 6), rfl, rfl⟩
abbrev eX0_dropUnkept : am_E := (yX0_dropUnkept, cX0_dropUnkept, 1, none)
theorem me_X0_dropUnkept : am_me eX0_dropUnkept 0 := ⟨am_mem 787 (by decide +kernel) rfl, am_mem 88 (by decide +kernel) rfl, ⟨by decide, by decide, by decide +kernel⟩, by decide⟩
theorem mi_X0_dropUnkept : am_mi eX0_dropUnkept 0 := ⟨by decide, am_mem 785 (by decide +kernel) rfl, am_mem 786 (by decide +kernel) rfl, (RX0, TX0, 6), rfl, rfl⟩
abbrev eX0_dropAll : am_E := (yX0_dropAll, cX0_dropAll, 1, none)
theorem me_X0_dropAll : am_me eX0_dropAll 0 := ⟨am_mem 302 (by decide +kernel) rfl, am_mem 88 (by decide +kernel) rfl, ⟨by decide, by decide, by decide +kernel⟩, by decide⟩
theorem mi_X0_dropAll : am_mi eX0_dropAll 0 := ⟨by decide, am_mem 300 (by decide +kernel) rfl, am_mem 301 (by decide +kernel) rfl, (RX0, TX0, 6), rfl, rfl⟩
abbrev eX0_keepNumber : am_E := (yX0_keepNumber, cX0_keepNumber, 2, (some .int))
theorem me_X0_keepNumber : am_me eX0_keepNumber 1 := ⟨am_mem 783 (by decide +kernel) rfl, am_mem 88 (by decide +kernel) rfl, ⟨by decide, by decide, by decide +kernel⟩, by decide⟩
theorem mi_X0_keepNumber : am_mi eX0_keepNumber 0 := ⟨by decide, am_mem 781 (by decide +kernel) rfl, am_mem 782 (by decide +kernel) rfl, (RX0, TX0, 6), rfl, rfl⟩
abbrev eX0_keepPair : am_E := (yX0_keepPair, cX0_keepPair, 3, (some .int))
theorem me_X0_keepPair : am_me eX0_keepPair 2 := ⟨am_mem 810 (by decide +kernel) rfl, am_mem 88 (by decide +kernel) rfl, ⟨by decide, by decide, by decide +kernel⟩, by decide⟩
theorem mi_X0_keepPair : am_mi eX0_keepPair 0 := ⟨by decide, am_mem 808 (by decide +kernel) rfl, am_mem 809 (by decide +kernel) rfl, (RX0, TX0, 6), rfl, rfl⟩
abbrev eX0_addNumber : am_E := (yX0_addNumber, cX0_addNumber, 2, (some .int))
theorem me_X0_addNumber : am_me eX0_addNumber 1 := ⟨am_mem 791 (by decide +kernel) rfl, am_mem 88 (by decide +kernel) rfl, ⟨by decide, by decide, by decide +kernel⟩, by decide⟩
theorem mi_X0_addNumber : am_mi eX0_addNumber 0 := ⟨by decide, am_mem 789 (by decide +kernel) rfl, am_mem 790 (by decide +kernel) rfl, (RX0, TX0, 6), rfl, rfl⟩
abbrev eX0_addPair : am_E := (yX0_addPair, cX0_addPair, 3, (some .int))
theorem me_X0_addPair : am_me eX0_addPair 2 := ⟨am_mem 814 (by decide +kernel) rfl, am_mem 88 (by decide +kernel) rfl, ⟨by decide, by decide, by decide +kernel⟩, by decide⟩
theorem mi_X0_addPair : am_mi eX0_addPair 0 := ⟨by decide, am_mem 812 (by decide +kernel) rfl, am_mem 813 (by decide +kernel) rfl, (RX0, TX0, 6), rfl, rfl⟩
abbrev eX0_add : am_E := (yX0_add, cX0_add, 6, (some .int))
theorem me_X0_add : am_me eX0_add 4 := ⟨am_mem 795 (by decide +kernel) rfl, am_mem 88 (by decide +kernel) rfl, ⟨by decide, by decide, by decide +kernel⟩, by decide⟩
theorem mi_X0_add : am_mi eX0_add 0 := ⟨by decide, am_mem 794 (by decide +kernel) rfl, am_mem 28 (by decide +kernel) rfl, (RX0, TX0, 6), rfl, rfl⟩
abbrev eX0_part : am_E := (yX0_part, cX0_part, 3, (some .int))
theorem me_X0_part : am_me eX0_part 2 := ⟨am_mem 900 (by decide +kernel) rfl, am_mem 88 (by decide +kernel) rfl, ⟨by decide, by decide, by decide +kernel⟩, by decide⟩
theorem mi_X0_part : am_mi eX0_part 0 := ⟨by decide, am_mem 898 (by decide +kernel) rfl, am_mem 899 (by decide +kernel) rfl, (RX0, TX0, 6), rfl, rfl⟩
abbrev eX0_isOf : am_E := (yX0_isOf, cX0_isOf, 3, (some .boolean))
theorem me_X0_isOf : am_me eX0_isOf 2 := ⟨am_mem 896 (by decide +kernel) rfl, am_mem 88 (by decide +kernel) rfl, ⟨by decide, by decide, by decide +kernel⟩, by decide⟩
theorem mi_X0_isOf : am_mi eX0_isOf 0 := ⟨by decide, am_mem 894 (by decide +kernel) rfl, am_mem 895 (by decide +kernel) rfl, (RX0, TX0, 6), rfl, rfl⟩
abbrev eX1_init : am_E := (yX1_init, cX1_init, 2, none)
theorem me_X1_init : am_me eX1_init 0 := ⟨am_mem 130 (by decide +kernel) rfl, am_mem 85 (by decide +kernel) rfl, ⟨by decide, by decide, by decide +kernel⟩, by decide⟩
theorem mn_X1_init : eX1_init.1.name = "<init>" ∧ Cond.instanceMethod eX1_init.1 ∈ am_tbl ∧ eX1_init.2.2.2 = none := ⟨rfl, am_mem 129 (by decide +kernel) rfl, rfl⟩
abbrev eX1_examineAll : am_E := (yX1_examineAll, cX1_examineAll, 5, (some (.object "TypedLisp$Finding")))
theorem me_X1_examineAll : am_me eX1_examineAll 3 := ⟨am_mem 531 (by decide +kernel) rfl, am_mem 85 (by decide +kernel) rfl, ⟨by decide, by decide, by decide +kernel⟩, by decide⟩
theorem mi_X1_examineAll : am_mi eX1_examineAll 1 := ⟨by decide, am_mem 529 (by decide +kernel) rfl, am_mem 530 (by decide +kernel) rfl, (RX1, TX1, 7), rfl, rfl⟩
abbrev eX1_examine : am_E := (yX1_examine, cX1_examine, 5, (some (.object "TypedLisp$Finding")))
theorem me_X1_examine : am_me eX1_examine 3 := ⟨am_mem 552 (by decide +kernel) rfl, am_mem 85 (by decide +kernel) rfl, ⟨by decide, by decide, by decide +kernel⟩, by decide⟩
theorem mi_X1_examine : am_mi eX1_examine 1 := ⟨by decide, am_mem 551 (by decide +kernel) rfl, am_mem 12 (by decide +kernel) rfl, (RX1, TX1, 7), rfl, rfl⟩
abbrev eX1_examineKind : am_E := (yX1_examineKind, cX1_examineKind, 5, (some .boolean))
theorem me_X1_examineKind : am_me eX1_examineKind 4 := ⟨am_mem 561 (by decide +kernel) rfl, am_mem 85 (by decide +kernel) rfl, ⟨by decide, by decide, by decide +kernel⟩, by decide⟩
theorem mi_X1_examineKind : am_mi eX1_examineKind 1 := ⟨by decide, am_mem 560 (by decide +kernel) rfl, am_mem 13 (by decide +kernel) rfl, (RX1, TX1, 7), rfl, rfl⟩
abbrev eX1_examineConstant : am_E := (yX1_examineConstant, cX1_examineConstant, 5, (some .boolean))
theorem me_X1_examineConstant : am_me eX1_examineConstant 3 := ⟨am_mem 643 (by decide +kernel) rfl, am_mem 85 (by decide +kernel) rfl, ⟨by decide, by decide, by decide +kernel⟩, by decide⟩
theorem mi_X1_examineConstant : am_mi eX1_examineConstant 1 := ⟨by decide, am_mem 642 (by decide +kernel) rfl, am_mem 25 (by decide +kernel) rfl, (RX1, TX1, 7), rfl, rfl⟩
abbrev eX1_examineVariable : am_E := (yX1_examineVariable, cX1_examineVariable, 5, (some .boolean))
theorem me_X1_examineVariable : am_me eX1_examineVariable 3 := ⟨am_mem 647 (by decide +kernel) rfl, am_mem 85 (by decide +kernel) rfl, ⟨by decide, by decide, by decide +kernel⟩, by decide⟩
theorem mi_X1_examineVariable : am_mi eX1_examineVariable 1 := ⟨by decide, am_mem 646 (by decide +kernel) rfl, am_mem 26 (by decide +kernel) rfl, (RX1, TX1, 7), rfl, rfl⟩
abbrev eX1_assignPlace : am_E := (yX1_assignPlace, cX1_assignPlace, 4, none)
theorem me_X1_assignPlace : am_me eX1_assignPlace 3 := ⟨am_mem 596 (by decide +kernel) rfl, am_mem 85 (by decide +kernel) rfl, ⟨by decide, by decide, by decide +kernel⟩, by decide⟩
theorem mi_X1_assignPlace : am_mi eX1_assignPlace 1 := ⟨by decide, am_mem 595 (by decide +kernel) rfl, am_mem 18 (by decide +kernel) rfl, (RX1, TX1, 7), rfl, rfl⟩
abbrev eX1_examineTest : am_E := (yX1_examineTest, cX1_examineTest, 8, (some .boolean))
theorem me_X1_examineTest : am_me eX1_examineTest 4 := ⟨am_mem 565 (by decide +kernel) rfl, am_mem 85 (by decide +kernel) rfl, ⟨by decide, by decide, by decide +kernel⟩, by decide⟩
theorem mi_X1_examineTest : am_mi eX1_examineTest 1 := ⟨by decide, am_mem 564 (by decide +kernel) rfl, am_mem 14 (by decide +kernel) rfl, (RX1, TX1, 7), rfl, rfl⟩
abbrev eX1_examineNot : am_E := (yX1_examineNot, cX1_examineNot, 6, (some .boolean))
theorem me_X1_examineNot : am_me eX1_examineNot 4 := ⟨am_mem 580 (by decide +kernel) rfl, am_mem 85 (by decide +kernel) rfl, ⟨by decide, by decide, by decide +kernel⟩, by decide⟩
theorem mi_X1_examineNot : am_mi eX1_examineNot 1 := ⟨by decide, am_mem 579 (by decide +kernel) rfl, am_mem 15 (by decide +kernel) rfl, (RX1, TX1, 7), rfl, rfl⟩
abbrev eX1_examineHalf : am_E := (yX1_examineHalf, cX1_examineHalf, 7, (some .boolean))
theorem me_X1_examineHalf : am_me eX1_examineHalf 4 := ⟨am_mem 585 (by decide +kernel) rfl, am_mem 85 (by decide +kernel) rfl, ⟨by decide, by decide, by decide +kernel⟩, by decide⟩
theorem mi_X1_examineHalf : am_mi eX1_examineHalf 1 := ⟨by decide, am_mem 584 (by decide +kernel) rfl, am_mem 16 (by decide +kernel) rfl, (RX1, TX1, 7), rfl, rfl⟩
abbrev eX1_examineTwo : am_E := (yX1_examineTwo, cX1_examineTwo, 7, (some .boolean))
theorem me_X1_examineTwo : am_me eX1_examineTwo 4 := ⟨am_mem 608 (by decide +kernel) rfl, am_mem 85 (by decide +kernel) rfl, ⟨by decide, by decide, by decide +kernel⟩, by decide⟩
theorem mi_X1_examineTwo : am_mi eX1_examineTwo 1 := ⟨by decide, am_mem 607 (by decide +kernel) rfl, am_mem 19 (by decide +kernel) rfl, (RX1, TX1, 7), rfl, rfl⟩
abbrev eX1_examineChoice : am_E := (yX1_examineChoice, cX1_examineChoice, 8, (some .boolean))
theorem me_X1_examineChoice : am_me eX1_examineChoice 4 := ⟨am_mem 612 (by decide +kernel) rfl, am_mem 85 (by decide +kernel) rfl, ⟨by decide, by decide, by decide +kernel⟩, by decide⟩
theorem mi_X1_examineChoice : am_mi eX1_examineChoice 1 := ⟨by decide, am_mem 611 (by decide +kernel) rfl, am_mem 20 (by decide +kernel) rfl, (RX1, TX1, 7), rfl, rfl⟩
abbrev eX1_examineAnd : am_E := (yX1_examineAnd, cX1_examineAnd, 7, (some .boolean))
theorem me_X1_examineAnd : am_me eX1_examineAnd 4 := ⟨am_mem 620 (by decide +kernel) rfl, am_mem 85 (by decide +kernel) rfl, ⟨by decide, by decide, by decide +kernel⟩, by decide⟩
theorem mi_X1_examineAnd : am_mi eX1_examineAnd 1 := ⟨by decide, am_mem 619 (by decide +kernel) rfl, am_mem 21 (by decide +kernel) rfl, (RX1, TX1, 7), rfl, rfl⟩
abbrev eX1_examineOr : am_E := (yX1_examineOr, cX1_examineOr, 7, (some .boolean))
theorem me_X1_examineOr : am_me eX1_examineOr 4 := ⟨am_mem 624 (by decide +kernel) rfl, am_mem 85 (by decide +kernel) rfl, ⟨by decide, by decide, by decide +kernel⟩, by decide⟩
theorem mi_X1_examineOr : am_mi eX1_examineOr 1 := ⟨by decide, am_mem 623 (by decide +kernel) rfl, am_mem 22 (by decide +kernel) rfl, (RX1, TX1, 7), rfl, rfl⟩
abbrev eX1_examineBinding : am_E := (yX1_examineBinding, cX1_examineBinding, 11, (some .boolean))
theorem me_X1_examineBinding : am_me eX1_examineBinding 4 := ⟨am_mem 628 (by decide +kernel) rfl, am_mem 85 (by decide +kernel) rfl, ⟨by decide, by decide, by decide +kernel⟩, by decide⟩
theorem mi_X1_examineBinding : am_mi eX1_examineBinding 1 := ⟨by decide, am_mem 627 (by decide +kernel) rfl, am_mem 23 (by decide +kernel) rfl, (RX1, TX1, 7), rfl, rfl⟩
abbrev eX1_examineCall : am_E := (yX1_examineCall, cX1_examineCall, 7, (some .boolean))
theorem me_X1_examineCall : am_me eX1_examineCall 4 := ⟨am_mem 632 (by decide +kernel) rfl, am_mem 85 (by decide +kernel) rfl, ⟨by decide, by decide, by decide +kernel⟩, by decide⟩
theorem mi_X1_examineCall : am_mi eX1_examineCall 1 := ⟨by decide, am_mem 631 (by decide +kernel) rfl, am_mem 24 (by decide +kernel) rfl, (RX1, TX1, 7), rfl, rfl⟩
abbrev eX1_refuse : am_E := (yX1_refuse, cX1_refuse, 2, (some .boolean))
theorem me_X1_refuse : am_me eX1_refuse 1 := ⟨am_mem 589 (by decide +kernel) rfl, am_mem 85 (by decide +kernel) rfl, ⟨by decide, by decide, by decide +kernel⟩, by decide⟩
theorem mi_X1_refuse : am_mi eX1_refuse 1 := ⟨by decide, am_mem 588 (by decide +kernel) rfl, am_mem 17 (by decide +kernel) rfl, (RX1, TX1, 7), rfl, rfl⟩
abbrev eX2_init : am_E := (yX2_init, cX2_init, 1, none)
theorem me_X2_init : am_me eX2_init 0 := ⟨am_mem 155 (by decide +kernel) rfl, am_mem 87 (by decide +kernel) rfl, ⟨by decide, by decide, by decide +kernel⟩, by decide⟩
theorem mn_X2_init : eX2_init.1.name = "<init>" ∧ Cond.instanceMethod eX2_init.1 ∈ am_tbl ∧ eX2_init.2.2.2 = none := ⟨rfl, am_mem 154 (by decide +kernel) rfl, rfl⟩
abbrev eX2_assign : am_E := (yX2_assign, cX2_assign, 4, none)
theorem me_X2_assign : am_me eX2_assign 3 := ⟨am_mem 572 (by decide +kernel) rfl, am_mem 87 (by decide +kernel) rfl, ⟨by decide, by decide, by decide +kernel⟩, by decide⟩
theorem mi_X2_assign : am_mi eX2_assign 2 := ⟨by decide, am_mem 570 (by decide +kernel) rfl, am_mem 571 (by decide +kernel) rfl, (RX2, TX2, 4), rfl, rfl⟩
abbrev eX2_beUnchecked : am_E := (yX2_beUnchecked, cX2_beUnchecked, 1, none)
theorem me_X2_beUnchecked : am_me eX2_beUnchecked 0 := ⟨am_mem 556 (by decide +kernel) rfl, am_mem 87 (by decide +kernel) rfl, ⟨by decide, by decide, by decide +kernel⟩, by decide⟩
theorem mi_X2_beUnchecked : am_mi eX2_beUnchecked 2 := ⟨by decide, am_mem 554 (by decide +kernel) rfl, am_mem 555 (by decide +kernel) rfl, (RX2, TX2, 4), rfl, rfl⟩
abbrev eX2_settle : am_E := (yX2_settle, cX2_settle, 1, none)
theorem me_X2_settle : am_me eX2_settle 0 := ⟨am_mem 658 (by decide +kernel) rfl, am_mem 87 (by decide +kernel) rfl, ⟨by decide, by decide, by decide +kernel⟩, by decide⟩
theorem mi_X2_settle : am_mi eX2_settle 2 := ⟨by decide, am_mem 656 (by decide +kernel) rfl, am_mem 657 (by decide +kernel) rfl, (RX2, TX2, 4), rfl, rfl⟩
abbrev eX3_init : am_E := (yX3_init, cX3_init, 4, none)
theorem me_X3_init : am_me eX3_init 3 := ⟨am_mem 677 (by decide +kernel) rfl, am_mem 97 (by decide +kernel) rfl, ⟨by decide, by decide, by decide +kernel⟩, by decide⟩
theorem mn_X3_init : eX3_init.1.name = "<init>" ∧ Cond.instanceMethod eX3_init.1 ∈ am_tbl ∧ eX3_init.2.2.2 = none := ⟨rfl, am_mem 676 (by decide +kernel) rfl, rfl⟩
abbrev eX4_init : am_E := (yX4_init, cX4_init, 4, none)
theorem me_X4_init : am_me eX4_init 3 := ⟨am_mem 834 (by decide +kernel) rfl, am_mem 101 (by decide +kernel) rfl, ⟨by decide, by decide, by decide +kernel⟩, by decide⟩
theorem mn_X4_init : eX4_init.1.name = "<init>" ∧ Cond.instanceMethod eX4_init.1 ∈ am_tbl ∧ eX4_init.2.2.2 = none := ⟨rfl, am_mem 833 (by decide +kernel) rfl, rfl⟩
abbrev eX4_evaluateAll : am_E := (yX4_evaluateAll, cX4_evaluateAll, 5, (some .int))
theorem me_X4_evaluateAll : am_me eX4_evaluateAll 3 := ⟨am_mem 862 (by decide +kernel) rfl, am_mem 101 (by decide +kernel) rfl, ⟨by decide, by decide, by decide +kernel⟩, by decide⟩
theorem mi_X4_evaluateAll : am_mi eX4_evaluateAll 4 := ⟨by decide, am_mem 860 (by decide +kernel) rfl, am_mem 861 (by decide +kernel) rfl, (RX4, TX4, 6), rfl, rfl⟩
abbrev eX4_evaluate : am_E := (yX4_evaluate, cX4_evaluate, 5, (some .int))
theorem me_X4_evaluate : am_me eX4_evaluate 3 := ⟨am_mem 866 (by decide +kernel) rfl, am_mem 101 (by decide +kernel) rfl, ⟨by decide, by decide, by decide +kernel⟩, by decide⟩
theorem mi_X4_evaluate : am_mi eX4_evaluate 4 := ⟨by decide, am_mem 865 (by decide +kernel) rfl, am_mem 29 (by decide +kernel) rfl, (RX4, TX4, 6), rfl, rfl⟩
abbrev eX4_evaluateBody : am_E := (yX4_evaluateBody, cX4_evaluateBody, 5, (some .int))
theorem me_X4_evaluateBody : am_me eX4_evaluateBody 4 := ⟨am_mem 879 (by decide +kernel) rfl, am_mem 101 (by decide +kernel) rfl, ⟨by decide, by decide, by decide +kernel⟩, by decide⟩
theorem mi_X4_evaluateBody : am_mi eX4_evaluateBody 4 := ⟨by decide, am_mem 878 (by decide +kernel) rfl, am_mem 32 (by decide +kernel) rfl, (RX4, TX4, 6), rfl, rfl⟩
abbrev eX4_leafValue : am_E := (yX4_leafValue, cX4_leafValue, 3, (some .int))
theorem me_X4_leafValue : am_me eX4_leafValue 2 := ⟨am_mem 870 (by decide +kernel) rfl, am_mem 101 (by decide +kernel) rfl, ⟨by decide, by decide, by decide +kernel⟩, by decide⟩
theorem mi_X4_leafValue : am_mi eX4_leafValue 4 := ⟨by decide, am_mem 869 (by decide +kernel) rfl, am_mem 30 (by decide +kernel) rfl, (RX4, TX4, 6), rfl, rfl⟩
abbrev eX4_assign : am_E := (yX4_assign, cX4_assign, 4, (some .boolean))
theorem me_X4_assign : am_me eX4_assign 3 := ⟨am_mem 874 (by decide +kernel) rfl, am_mem 101 (by decide +kernel) rfl, ⟨by decide, by decide, by decide +kernel⟩, by decide⟩
theorem mi_X4_assign : am_mi eX4_assign 4 := ⟨by decide, am_mem 873 (by decide +kernel) rfl, am_mem 31 (by decide +kernel) rfl, (RX4, TX4, 6), rfl, rfl⟩
abbrev eX4_applyToOne : am_E := (yX4_applyToOne, cX4_applyToOne, 3, (some .int))
theorem me_X4_applyToOne : am_me eX4_applyToOne 2 := ⟨am_mem 905 (by decide +kernel) rfl, am_mem 101 (by decide +kernel) rfl, ⟨by decide, by decide, by decide +kernel⟩, by decide⟩
theorem mi_X4_applyToOne : am_mi eX4_applyToOne 4 := ⟨by decide, am_mem 904 (by decide +kernel) rfl, am_mem 36 (by decide +kernel) rfl, (RX4, TX4, 6), rfl, rfl⟩
abbrev eX4_applyToTwo : am_E := (yX4_applyToTwo, cX4_applyToTwo, 6, (some .int))
theorem me_X4_applyToTwo : am_me eX4_applyToTwo 3 := ⟨am_mem 883 (by decide +kernel) rfl, am_mem 101 (by decide +kernel) rfl, ⟨by decide, by decide, by decide +kernel⟩, by decide⟩
theorem mi_X4_applyToTwo : am_mi eX4_applyToTwo 4 := ⟨by decide, am_mem 882 (by decide +kernel) rfl, am_mem 33 (by decide +kernel) rfl, (RX4, TX4, 6), rfl, rfl⟩
abbrev eX4_madeOrFailed : am_E := (yX4_madeOrFailed, cX4_madeOrFailed, 2, (some .int))
theorem me_X4_madeOrFailed : am_me eX4_madeOrFailed 1 := ⟨am_mem 888 (by decide +kernel) rfl, am_mem 101 (by decide +kernel) rfl, ⟨by decide, by decide, by decide +kernel⟩, by decide⟩
theorem mi_X4_madeOrFailed : am_mi eX4_madeOrFailed 4 := ⟨by decide, am_mem 887 (by decide +kernel) rfl, am_mem 34 (by decide +kernel) rfl, (RX4, TX4, 6), rfl, rfl⟩
abbrev eX4_fail : am_E := (yX4_fail, cX4_fail, 2, (some .int))
theorem me_X4_fail : am_me eX4_fail 1 := ⟨am_mem 892 (by decide +kernel) rfl, am_mem 101 (by decide +kernel) rfl, ⟨by decide, by decide, by decide +kernel⟩, by decide⟩
theorem mi_X4_fail : am_mi eX4_fail 4 := ⟨by decide, am_mem 891 (by decide +kernel) rfl, am_mem 35 (by decide +kernel) rfl, (RX4, TX4, 6), rfl, rfl⟩
abbrev eX5_init : am_E := (yX5_init, cX5_init, 8, none)
theorem me_X5_init : am_me eX5_init 7 := ⟨am_mem 416 (by decide +kernel) rfl, am_mem 91 (by decide +kernel) rfl, ⟨by decide, by decide, by decide +kernel⟩, by decide⟩
theorem mn_X5_init : eX5_init.1.name = "<init>" ∧ Cond.instanceMethod eX5_init.1 ∈ am_tbl ∧ eX5_init.2.2.2 = none := ⟨rfl, am_mem 415 (by decide +kernel) rfl, rfl⟩
abbrev eX6_init : am_E := (yX6_init, cX6_init, 3, none)
theorem me_X6_init : am_me eX6_init 2 := ⟨am_mem 328 (by decide +kernel) rfl, am_mem 90 (by decide +kernel) rfl, ⟨by decide, by decide, by decide +kernel⟩, by decide⟩
theorem mn_X6_init : eX6_init.1.name = "<init>" ∧ Cond.instanceMethod eX6_init.1 ∈ am_tbl ∧ eX6_init.2.2.2 = none := ⟨rfl, am_mem 327 (by decide +kernel) rfl, rfl⟩
abbrev eX6_readExpression : am_E := (yX6_readExpression, cX6_readExpression, 1, (some (.object "TypedLisp$Node")))
theorem me_X6_readExpression : am_me eX6_readExpression 0 := ⟨am_mem 715 (by decide +kernel) rfl, am_mem 90 (by decide +kernel) rfl, ⟨by decide, by decide, by decide +kernel⟩, by decide⟩
theorem mi_X6_readExpression : am_mi eX6_readExpression 6 := ⟨by decide, am_mem 713 (by decide +kernel) rfl, am_mem 714 (by decide +kernel) rfl, (RX6, TX6, 8), rfl, rfl⟩
abbrev eX6_readDefinition : am_E := (yX6_readDefinition, cX6_readDefinition, 2, (some (.object "TypedLisp$Node")))
theorem me_X6_readDefinition : am_me eX6_readDefinition 0 := ⟨am_mem 361 (by decide +kernel) rfl, am_mem 90 (by decide +kernel) rfl, ⟨by decide, by decide, by decide +kernel⟩, by decide⟩
theorem mi_X6_readDefinition : am_mi eX6_readDefinition 6 := ⟨by decide, am_mem 359 (by decide +kernel) rfl, am_mem 360 (by decide +kernel) rfl, (RX6, TX6, 8), rfl, rfl⟩
abbrev eX6_readToEnd : am_E := (yX6_readToEnd, cX6_readToEnd, 2, (some (.object "TypedLisp$Node")))
theorem me_X6_readToEnd : am_me eX6_readToEnd 0 := ⟨am_mem 387 (by decide +kernel) rfl, am_mem 90 (by decide +kernel) rfl, ⟨by decide, by decide, by decide +kernel⟩, by decide⟩
theorem mi_X6_readToEnd : am_mi eX6_readToEnd 6 := ⟨by decide, am_mem 386 (by decide +kernel) rfl, am_mem 2 (by decide +kernel) rfl, (RX6, TX6, 8), rfl, rfl⟩
abbrev eX6_readPart : am_E := (yX6_readPart, cX6_readPart, 4, (some (.object "TypedLisp$Node")))
theorem me_X6_readPart : am_me eX6_readPart 1 := ⟨am_mem 391 (by decide +kernel) rfl, am_mem 90 (by decide +kernel) rfl, ⟨by decide, by decide, by decide +kernel⟩, by decide⟩
theorem mi_X6_readPart : am_mi eX6_readPart 6 := ⟨by decide, am_mem 390 (by decide +kernel) rfl, am_mem 3 (by decide +kernel) rfl, (RX6, TX6, 8), rfl, rfl⟩
abbrev eX6_readBracket : am_E := (yX6_readBracket, cX6_readBracket, 6, (some (.object "TypedLisp$Node")))
theorem me_X6_readBracket : am_me eX6_readBracket 1 := ⟨am_mem 395 (by decide +kernel) rfl, am_mem 90 (by decide +kernel) rfl, ⟨by decide, by decide, by decide +kernel⟩, by decide⟩
theorem mi_X6_readBracket : am_mi eX6_readBracket 6 := ⟨by decide, am_mem 394 (by decide +kernel) rfl, am_mem 4 (by decide +kernel) rfl, (RX6, TX6, 8), rfl, rfl⟩
abbrev eX6_readOperation : am_E := (yX6_readOperation, cX6_readOperation, 8, (some (.object "TypedLisp$Node")))
theorem me_X6_readOperation : am_me eX6_readOperation 4 := ⟨am_mem 455 (by decide +kernel) rfl, am_mem 90 (by decide +kernel) rfl, ⟨by decide, by decide, by decide +kernel⟩, by decide⟩
theorem mi_X6_readOperation : am_mi eX6_readOperation 6 := ⟨by decide, am_mem 454 (by decide +kernel) rfl, am_mem 9 (by decide +kernel) rfl, (RX6, TX6, 8), rfl, rfl⟩
abbrev eX6_readBinding : am_E := (yX6_readBinding, cX6_readBinding, 7, (some (.object "TypedLisp$Node")))
theorem me_X6_readBinding : am_me eX6_readBinding 2 := ⟨am_mem 407 (by decide +kernel) rfl, am_mem 90 (by decide +kernel) rfl, ⟨by decide, by decide, by decide +kernel⟩, by decide⟩
theorem mi_X6_readBinding : am_mi eX6_readBinding 6 := ⟨by decide, am_mem 406 (by decide +kernel) rfl, am_mem 7 (by decide +kernel) rfl, (RX6, TX6, 8), rfl, rfl⟩
abbrev eX6_newNode : am_E := (yX6_newNode, cX6_newNode, 8, (some (.object "TypedLisp$Node")))
theorem me_X6_newNode : am_me eX6_newNode 6 := ⟨am_mem 411 (by decide +kernel) rfl, am_mem 90 (by decide +kernel) rfl, ⟨by decide, by decide, by decide +kernel⟩, by decide⟩
theorem mi_X6_newNode : am_mi eX6_newNode 6 := ⟨by decide, am_mem 410 (by decide +kernel) rfl, am_mem 8 (by decide +kernel) rfl, (RX6, TX6, 8), rfl, rfl⟩
abbrev eX6_peek : am_E := (yX6_peek, cX6_peek, 1, (some .int))
theorem me_X6_peek : am_me eX6_peek 0 := ⟨am_mem 365 (by decide +kernel) rfl, am_mem 90 (by decide +kernel) rfl, ⟨by decide, by decide, by decide +kernel⟩, by decide⟩
theorem mi_X6_peek : am_mi eX6_peek 6 := ⟨by decide, am_mem 364 (by decide +kernel) rfl, am_mem 0 (by decide +kernel) rfl, (RX6, TX6, 8), rfl, rfl⟩
abbrev eX6_slotOf : am_E := (yX6_slotOf, cX6_slotOf, 2, (some .int))
theorem me_X6_slotOf : am_me eX6_slotOf 1 := ⟨am_mem 459 (by decide +kernel) rfl, am_mem 90 (by decide +kernel) rfl, ⟨by decide, by decide, by decide +kernel⟩, by decide⟩
theorem mi_X6_slotOf : am_mi eX6_slotOf 6 := ⟨by decide, am_mem 458 (by decide +kernel) rfl, am_mem 10 (by decide +kernel) rfl, (RX6, TX6, 8), rfl, rfl⟩
abbrev eX6_freeName : am_E := (yX6_freeName, cX6_freeName, 3, (some .int))
theorem me_X6_freeName : am_me eX6_freeName 1 := ⟨am_mem 380 (by decide +kernel) rfl, am_mem 90 (by decide +kernel) rfl, ⟨by decide, by decide, by decide +kernel⟩, by decide⟩
theorem mi_X6_freeName : am_mi eX6_freeName 6 := ⟨by decide, am_mem 379 (by decide +kernel) rfl, am_mem 1 (by decide +kernel) rfl, (RX6, TX6, 8), rfl, rfl⟩
abbrev eX6_hasFreeName : am_E := (yX6_hasFreeName, cX6_hasFreeName, 2, (some .boolean))
theorem me_X6_hasFreeName : am_me eX6_hasFreeName 0 := ⟨am_mem 403 (by decide +kernel) rfl, am_mem 90 (by decide +kernel) rfl, ⟨by decide, by decide, by decide +kernel⟩, by decide⟩
theorem mi_X6_hasFreeName : am_mi eX6_hasFreeName 6 := ⟨by decide, am_mem 402 (by decide +kernel) rfl, am_mem 6 (by decide +kernel) rfl, (RX6, TX6, 8), rfl, rfl⟩
abbrev eX6_isConstant : am_E := (yX6_isConstant, cX6_isConstant, 1, (some .boolean))
theorem me_X6_isConstant : am_me eX6_isConstant 1 := ⟨am_mem 462 (by decide +kernel) rfl, am_mem 90 (by decide +kernel) rfl, ⟨by decide, by decide, by decide +kernel⟩, by decide⟩
theorem ms_X6_isConstant : Cond.static eX6_isConstant.1 ∈ am_tbl := am_mem 461 (by decide +kernel) rfl
abbrev eX6_typeOf : am_E := (yX6_typeOf, cX6_typeOf, 1, (some .int))
theorem me_X6_typeOf : am_me eX6_typeOf 1 := ⟨am_mem 383 (by decide +kernel) rfl, am_mem 90 (by decide +kernel) rfl, ⟨by decide, by decide, by decide +kernel⟩, by decide⟩
theorem ms_X6_typeOf : Cond.static eX6_typeOf.1 ∈ am_tbl := am_mem 382 (by decide +kernel) rfl
abbrev eX6_partsOf : am_E := (yX6_partsOf, cX6_partsOf, 2, (some .int))
theorem me_X6_partsOf : am_me eX6_partsOf 1 := ⟨am_mem 399 (by decide +kernel) rfl, am_mem 90 (by decide +kernel) rfl, ⟨by decide, by decide, by decide +kernel⟩, by decide⟩
theorem mi_X6_partsOf : am_mi eX6_partsOf 6 := ⟨by decide, am_mem 398 (by decide +kernel) rfl, am_mem 5 (by decide +kernel) rfl, (RX6, TX6, 8), rfl, rfl⟩
abbrev eX7_init : am_E := (yX7_init, cX7_init, 1, none)
theorem me_X7_init : am_me eX7_init 0 := ⟨am_mem 114 (by decide +kernel) rfl, am_mem 84 (by decide +kernel) rfl, ⟨by decide, by decide, by decide +kernel⟩, by decide⟩
theorem mn_X7_init : eX7_init.1.name = "<init>" ∧ Cond.instanceMethod eX7_init.1 ∈ am_tbl ∧ eX7_init.2.2.2 = none := ⟨rfl, am_mem 113 (by decide +kernel) rfl, rfl⟩
abbrev eX7_append : am_E := (yX7_append, cX7_append, 2, (some .boolean))
theorem me_X7_append : am_me eX7_append 1 := ⟨am_mem 278 (by decide +kernel) rfl, am_mem 84 (by decide +kernel) rfl, ⟨by decide, by decide, by decide +kernel⟩, by decide⟩
theorem mi_X7_append : am_mi eX7_append 7 := ⟨by decide, am_mem 276 (by decide +kernel) rfl, am_mem 277 (by decide +kernel) rfl, (RX7, TX7, 2), rfl, rfl⟩
abbrev eX7_empty : am_E := (yX7_empty, cX7_empty, 1, none)
theorem me_X7_empty : am_me eX7_empty 0 := ⟨am_mem 286 (by decide +kernel) rfl, am_mem 84 (by decide +kernel) rfl, ⟨by decide, by decide, by decide +kernel⟩, by decide⟩
theorem mi_X7_empty : am_mi eX7_empty 7 := ⟨by decide, am_mem 284 (by decide +kernel) rfl, am_mem 285 (by decide +kernel) rfl, (RX7, TX7, 2), rfl, rfl⟩
abbrev eX7_characterAt : am_E := (yX7_characterAt, cX7_characterAt, 2, (some .int))
theorem me_X7_characterAt : am_me eX7_characterAt 1 := ⟨am_mem 369 (by decide +kernel) rfl, am_mem 84 (by decide +kernel) rfl, ⟨by decide, by decide, by decide +kernel⟩, by decide⟩
theorem mi_X7_characterAt : am_mi eX7_characterAt 7 := ⟨by decide, am_mem 367 (by decide +kernel) rfl, am_mem 368 (by decide +kernel) rfl, (RX7, TX7, 2), rfl, rfl⟩
abbrev eX8_init : am_E := (yX8_init, cX8_init, 1, none)
theorem me_X8_init : am_me eX8_init 0 := ⟨am_mem 139 (by decide +kernel) rfl, am_mem 86 (by decide +kernel) rfl, ⟨by decide, by decide, by decide +kernel⟩, by decide⟩
theorem mn_X8_init : eX8_init.1.name = "<init>" ∧ Cond.instanceMethod eX8_init.1 ∈ am_tbl ∧ eX8_init.2.2.2 = none := ⟨rfl, am_mem 138 (by decide +kernel) rfl, rfl⟩
abbrev eX8_sayAnything : am_E := (yX8_sayAnything, cX8_sayAnything, 2, none)
theorem me_X8_sayAnything : am_me eX8_sayAnything 0 := ⟨am_mem 535 (by decide +kernel) rfl, am_mem 86 (by decide +kernel) rfl, ⟨by decide, by decide, by decide +kernel⟩, by decide⟩
theorem mi_X8_sayAnything : am_mi eX8_sayAnything 8 := ⟨by decide, am_mem 533 (by decide +kernel) rfl, am_mem 534 (by decide +kernel) rfl, (RX8, TX8, 2), rfl, rfl⟩
abbrev eX8_sayNothing : am_E := (yX8_sayNothing, cX8_sayNothing, 2, none)
theorem me_X8_sayNothing : am_me eX8_sayNothing 0 := ⟨am_mem 548 (by decide +kernel) rfl, am_mem 86 (by decide +kernel) rfl, ⟨by decide, by decide, by decide +kernel⟩, by decide⟩
theorem mi_X8_sayNothing : am_mi eX8_sayNothing 8 := ⟨by decide, am_mem 546 (by decide +kernel) rfl, am_mem 547 (by decide +kernel) rfl, (RX8, TX8, 2), rfl, rfl⟩
abbrev eX8_copy : am_E := (yX8_copy, cX8_copy, 3, none)
theorem me_X8_copy : am_me eX8_copy 1 := ⟨am_mem 576 (by decide +kernel) rfl, am_mem 86 (by decide +kernel) rfl, ⟨by decide, by decide, by decide +kernel⟩, by decide⟩
theorem mi_X8_copy : am_mi eX8_copy 8 := ⟨by decide, am_mem 574 (by decide +kernel) rfl, am_mem 575 (by decide +kernel) rfl, (RX8, TX8, 2), rfl, rfl⟩
abbrev eX8_word : am_E := (yX8_word, cX8_word, 2, (some .long))
theorem me_X8_word : am_me eX8_word 1 := ⟨am_mem 604 (by decide +kernel) rfl, am_mem 86 (by decide +kernel) rfl, ⟨by decide, by decide, by decide +kernel⟩, by decide⟩
theorem mi_X8_word : am_mi eX8_word 8 := ⟨by decide, am_mem 602 (by decide +kernel) rfl, am_mem 603 (by decide +kernel) rfl, (RX8, TX8, 2), rfl, rfl⟩
abbrev eX8_says : am_E := (yX8_says, cX8_says, 2, (some .int))
theorem me_X8_says : am_me eX8_says 1 := ⟨am_mem 600 (by decide +kernel) rfl, am_mem 86 (by decide +kernel) rfl, ⟨by decide, by decide, by decide +kernel⟩, by decide⟩
theorem mi_X8_says : am_mi eX8_says 8 := ⟨by decide, am_mem 598 (by decide +kernel) rfl, am_mem 599 (by decide +kernel) rfl, (RX8, TX8, 2), rfl, rfl⟩
abbrev eX8_restrict : am_E := (yX8_restrict, cX8_restrict, 7, none)
theorem me_X8_restrict : am_me eX8_restrict 2 := ⟨am_mem 540 (by decide +kernel) rfl, am_mem 86 (by decide +kernel) rfl, ⟨by decide, by decide, by decide +kernel⟩, by decide⟩
theorem mi_X8_restrict : am_mi eX8_restrict 8 := ⟨by decide, am_mem 538 (by decide +kernel) rfl, am_mem 539 (by decide +kernel) rfl, (RX8, TX8, 2), rfl, rfl⟩
abbrev eX8_restrictFrom : am_E := (yX8_restrictFrom, cX8_restrictFrom, 6, none)
theorem me_X8_restrictFrom : am_me eX8_restrictFrom 2 := ⟨am_mem 637 (by decide +kernel) rfl, am_mem 86 (by decide +kernel) rfl, ⟨by decide, by decide, by decide +kernel⟩, by decide⟩
theorem mi_X8_restrictFrom : am_mi eX8_restrictFrom 8 := ⟨by decide, am_mem 635 (by decide +kernel) rfl, am_mem 636 (by decide +kernel) rfl, (RX8, TX8, 2), rfl, rfl⟩
abbrev eX8_keepBoth : am_E := (yX8_keepBoth, cX8_keepBoth, 4, none)
theorem me_X8_keepBoth : am_me eX8_keepBoth 1 := ⟨am_mem 651 (by decide +kernel) rfl, am_mem 86 (by decide +kernel) rfl, ⟨by decide, by decide, by decide +kernel⟩, by decide⟩
theorem mi_X8_keepBoth : am_mi eX8_keepBoth 8 := ⟨by decide, am_mem 649 (by decide +kernel) rfl, am_mem 650 (by decide +kernel) rfl, (RX8, TX8, 2), rfl, rfl⟩
abbrev eX8_allowEither : am_E := (yX8_allowEither, cX8_allowEither, 3, none)
theorem me_X8_allowEither : am_me eX8_allowEither 1 := ⟨am_mem 616 (by decide +kernel) rfl, am_mem 86 (by decide +kernel) rfl, ⟨by decide, by decide, by decide +kernel⟩, by decide⟩
theorem mi_X8_allowEither : am_mi eX8_allowEither 8 := ⟨by decide, am_mem 614 (by decide +kernel) rfl, am_mem 615 (by decide +kernel) rfl, (RX8, TX8, 2), rfl, rfl⟩
abbrev eX8_kindsIn : am_E := (yX8_kindsIn, cX8_kindsIn, 3, (some .int))
theorem me_X8_kindsIn : am_me eX8_kindsIn 2 := ⟨am_mem 544 (by decide +kernel) rfl, am_mem 86 (by decide +kernel) rfl, ⟨by decide, by decide, by decide +kernel⟩, by decide⟩
theorem ms_X8_kindsIn : Cond.static eX8_kindsIn.1 ∈ am_tbl := am_mem 543 (by decide +kernel) rfl
abbrev eX8_lacksKinds : am_E := (yX8_lacksKinds, cX8_lacksKinds, 3, (some .boolean))
theorem me_X8_lacksKinds : am_me eX8_lacksKinds 1 := ⟨am_mem 654 (by decide +kernel) rfl, am_mem 86 (by decide +kernel) rfl, ⟨by decide, by decide, by decide +kernel⟩, by decide⟩
theorem ms_X8_lacksKinds : Cond.static eX8_lacksKinds.1 ∈ am_tbl := am_mem 653 (by decide +kernel) rfl
abbrev eX9_init : am_E := (yX9_init, cX9_init, 1, none)
theorem me_X9_init : am_me eX9_init 0 := ⟨am_mem 106 (by decide +kernel) rfl, am_mem 83 (by decide +kernel) rfl, ⟨by decide, by decide, by decide +kernel⟩, by decide⟩
theorem mn_X9_init : eX9_init.1.name = "<init>" ∧ Cond.instanceMethod eX9_init.1 ∈ am_tbl ∧ eX9_init.2.2.2 = none := ⟨rfl, am_mem 105 (by decide +kernel) rfl, rfl⟩
abbrev eX9_type : am_E := (yX9_type, cX9_type, 2, (some .boolean))
theorem me_X9_type : am_me eX9_type 1 := ⟨am_mem 274 (by decide +kernel) rfl, am_mem 83 (by decide +kernel) rfl, ⟨by decide, by decide, by decide +kernel⟩, by decide⟩
theorem mi_X9_type : am_mi eX9_type 9 := ⟨by decide, am_mem 272 (by decide +kernel) rfl, am_mem 273 (by decide +kernel) rfl, (RX9, TX9, 12), rfl, rfl⟩
abbrev eX9_wipe : am_E := (yX9_wipe, cX9_wipe, 1, none)
theorem me_X9_wipe : am_me eX9_wipe 0 := ⟨am_mem 282 (by decide +kernel) rfl, am_mem 83 (by decide +kernel) rfl, ⟨by decide, by decide, by decide +kernel⟩, by decide⟩
theorem mi_X9_wipe : am_mi eX9_wipe 9 := ⟨by decide, am_mem 280 (by decide +kernel) rfl, am_mem 281 (by decide +kernel) rfl, (RX9, TX9, 12), rfl, rfl⟩
abbrev eX9_define : am_E := (yX9_define, cX9_define, 4, (some .int))
theorem me_X9_define : am_me eX9_define 0 := ⟨am_mem 323 (by decide +kernel) rfl, am_mem 83 (by decide +kernel) rfl, ⟨by decide, by decide, by decide +kernel⟩, by decide⟩
theorem mi_X9_define : am_mi eX9_define 9 := ⟨by decide, am_mem 321 (by decide +kernel) rfl, am_mem 322 (by decide +kernel) rfl, (RX9, TX9, 12), rfl, rfl⟩
abbrev eX9_check : am_E := (yX9_check, cX9_check, 4, (some .int))
theorem me_X9_check : am_me eX9_check 0 := ⟨am_mem 711 (by decide +kernel) rfl, am_mem 83 (by decide +kernel) rfl, ⟨by decide, by decide, by decide +kernel⟩, by decide⟩
theorem mi_X9_check : am_mi eX9_check 9 := ⟨by decide, am_mem 709 (by decide +kernel) rfl, am_mem 710 (by decide +kernel) rfl, (RX9, TX9, 12), rfl, rfl⟩
abbrev eX9_fault : am_E := (yX9_fault, cX9_fault, 1, (some .int))
theorem me_X9_fault : am_me eX9_fault 0 := ⟨am_mem 290 (by decide +kernel) rfl, am_mem 83 (by decide +kernel) rfl, ⟨by decide, by decide, by decide +kernel⟩, by decide⟩
theorem mi_X9_fault : am_mi eX9_fault 9 := ⟨by decide, am_mem 288 (by decide +kernel) rfl, am_mem 289 (by decide +kernel) rfl, (RX9, TX9, 12), rfl, rfl⟩
abbrev eX9_view : am_E := (yX9_view, cX9_view, 5, (some .int))
theorem me_X9_view : am_me eX9_view 3 := ⟨am_mem 725 (by decide +kernel) rfl, am_mem 83 (by decide +kernel) rfl, ⟨by decide, by decide, by decide +kernel⟩, by decide⟩
theorem mi_X9_view : am_mi eX9_view 9 := ⟨by decide, am_mem 723 (by decide +kernel) rfl, am_mem 724 (by decide +kernel) rfl, (RX9, TX9, 12), rfl, rfl⟩
abbrev eX9_forget : am_E := (yX9_forget, cX9_forget, 2, none)
theorem me_X9_forget : am_me eX9_forget 0 := ⟨am_mem 294 (by decide +kernel) rfl, am_mem 83 (by decide +kernel) rfl, ⟨by decide, by decide, by decide +kernel⟩, by decide⟩
theorem mi_X9_forget : am_mi eX9_forget 9 := ⟨by decide, am_mem 292 (by decide +kernel) rfl, am_mem 293 (by decide +kernel) rfl, (RX9, TX9, 12), rfl, rfl⟩
abbrev eX9_number : am_E := (yX9_number, cX9_number, 2, (some .int))
theorem me_X9_number : am_me eX9_number 1 := ⟨am_mem 764 (by decide +kernel) rfl, am_mem 83 (by decide +kernel) rfl, ⟨by decide, by decide, by decide +kernel⟩, by decide⟩
theorem mi_X9_number : am_mi eX9_number 9 := ⟨by decide, am_mem 762 (by decide +kernel) rfl, am_mem 763 (by decide +kernel) rfl, (RX9, TX9, 12), rfl, rfl⟩
abbrev eX9_pair : am_E := (yX9_pair, cX9_pair, 3, (some .int))
theorem me_X9_pair : am_me eX9_pair 2 := ⟨am_mem 802 (by decide +kernel) rfl, am_mem 83 (by decide +kernel) rfl, ⟨by decide, by decide, by decide +kernel⟩, by decide⟩
theorem mi_X9_pair : am_mi eX9_pair 9 := ⟨by decide, am_mem 800 (by decide +kernel) rfl, am_mem 801 (by decide +kernel) rfl, (RX9, TX9, 12), rfl, rfl⟩
abbrev eX9_input : am_E := (yX9_input, cX9_input, 3, none)
theorem me_X9_input : am_me eX9_input 2 := ⟨am_mem 821 (by decide +kernel) rfl, am_mem 83 (by decide +kernel) rfl, ⟨by decide, by decide, by decide +kernel⟩, by decide⟩
theorem mi_X9_input : am_mi eX9_input 9 := ⟨by decide, am_mem 819 (by decide +kernel) rfl, am_mem 820 (by decide +kernel) rfl, (RX9, TX9, 12), rfl, rfl⟩
abbrev eX9_clear : am_E := (yX9_clear, cX9_clear, 1, none)
theorem me_X9_clear : am_me eX9_clear 0 := ⟨am_mem 298 (by decide +kernel) rfl, am_mem 83 (by decide +kernel) rfl, ⟨by decide, by decide, by decide +kernel⟩, by decide⟩
theorem mi_X9_clear : am_mi eX9_clear 9 := ⟨by decide, am_mem 296 (by decide +kernel) rfl, am_mem 297 (by decide +kernel) rfl, (RX9, TX9, 12), rfl, rfl⟩
abbrev eX9_run : am_E := (yX9_run, cX9_run, 3, (some .int))
theorem me_X9_run : am_me eX9_run 1 := ⟨am_mem 828 (by decide +kernel) rfl, am_mem 83 (by decide +kernel) rfl, ⟨by decide, by decide, by decide +kernel⟩, by decide⟩
theorem mi_X9_run : am_mi eX9_run 9 := ⟨by decide, am_mem 826 (by decide +kernel) rfl, am_mem 827 (by decide +kernel) rfl, (RX9, TX9, 12), rfl, rfl⟩
abbrev eX9_steps : am_E := (yX9_steps, cX9_steps, 1, (some .int))
theorem me_X9_steps : am_me eX9_steps 0 := ⟨am_mem 306 (by decide +kernel) rfl, am_mem 83 (by decide +kernel) rfl, ⟨by decide, by decide, by decide +kernel⟩, by decide⟩
theorem mi_X9_steps : am_mi eX9_steps 9 := ⟨by decide, am_mem 304 (by decide +kernel) rfl, am_mem 305 (by decide +kernel) rfl, (RX9, TX9, 12), rfl, rfl⟩
abbrev eX9_result : am_E := (yX9_result, cX9_result, 1, (some .int))
theorem me_X9_result : am_me eX9_result 0 := ⟨am_mem 310 (by decide +kernel) rfl, am_mem 83 (by decide +kernel) rfl, ⟨by decide, by decide, by decide +kernel⟩, by decide⟩
theorem mi_X9_result : am_mi eX9_result 9 := ⟨by decide, am_mem 308 (by decide +kernel) rfl, am_mem 309 (by decide +kernel) rfl, (RX9, TX9, 12), rfl, rfl⟩
abbrev eX9_count : am_E := (yX9_count, cX9_count, 1, (some .int))
theorem me_X9_count : am_me eX9_count 0 := ⟨am_mem 314 (by decide +kernel) rfl, am_mem 83 (by decide +kernel) rfl, ⟨by decide, by decide, by decide +kernel⟩, by decide⟩
theorem mi_X9_count : am_mi eX9_count 9 := ⟨by decide, am_mem 312 (by decide +kernel) rfl, am_mem 313 (by decide +kernel) rfl, (RX9, TX9, 12), rfl, rfl⟩
abbrev eX9_cell : am_E := (yX9_cell, cX9_cell, 3, (some .int))
theorem me_X9_cell : am_me eX9_cell 2 := ⟨am_mem 913 (by decide +kernel) rfl, am_mem 83 (by decide +kernel) rfl, ⟨by decide, by decide, by decide +kernel⟩, by decide⟩
theorem mi_X9_cell : am_mi eX9_cell 9 := ⟨by decide, am_mem 911 (by decide +kernel) rfl, am_mem 912 (by decide +kernel) rfl, (RX9, TX9, 12), rfl, rfl⟩
abbrev eX9_keepFunction : am_E := (yX9_keepFunction, cX9_keepFunction, 3, none)
theorem me_X9_keepFunction : am_me eX9_keepFunction 2 := ⟨am_mem 704 (by decide +kernel) rfl, am_mem 83 (by decide +kernel) rfl, ⟨by decide, by decide, by decide +kernel⟩, by decide⟩
theorem mi_X9_keepFunction : am_mi eX9_keepFunction 9 := ⟨by decide, am_mem 703 (by decide +kernel) rfl, am_mem 27 (by decide +kernel) rfl, (RX9, TX9, 12), rfl, rfl⟩
abbrev eX9_functionIndex : am_E := (yX9_functionIndex, cX9_functionIndex, 1, (some .int))
theorem me_X9_functionIndex : am_me eX9_functionIndex 1 := ⟨am_mem 372 (by decide +kernel) rfl, am_mem 83 (by decide +kernel) rfl, ⟨by decide, by decide, by decide +kernel⟩, by decide⟩
theorem ms_X9_functionIndex : Cond.static eX9_functionIndex.1 ∈ am_tbl := am_mem 371 (by decide +kernel) rfl
abbrev eX9_functionOf : am_E := (yX9_functionOf, cX9_functionOf, 3, (some (.object "TypedLisp$Function")))
theorem me_X9_functionOf : am_me eX9_functionOf 2 := ⟨am_mem 375 (by decide +kernel) rfl, am_mem 83 (by decide +kernel) rfl, ⟨by decide, by decide, by decide +kernel⟩, by decide⟩
theorem ms_X9_functionOf : Cond.static eX9_functionOf.1 ∈ am_tbl := am_mem 374 (by decide +kernel) rfl
abbrev eX9_testedKinds : am_E := (yX9_testedKinds, cX9_testedKinds, 1, (some .int))
theorem me_X9_testedKinds : am_me eX9_testedKinds 1 := ⟨am_mem 568 (by decide +kernel) rfl, am_mem 83 (by decide +kernel) rfl, ⟨by decide, by decide, by decide +kernel⟩, by decide⟩
theorem ms_X9_testedKinds : Cond.static eX9_testedKinds.1 ∈ am_tbl := am_mem 567 (by decide +kernel) rfl
abbrev eX9_reach : am_E := (yX9_reach, cX9_reach, 3, (some .int))
theorem me_X9_reach : am_me eX9_reach 2 := ⟨am_mem 592 (by decide +kernel) rfl, am_mem 83 (by decide +kernel) rfl, ⟨by decide, by decide, by decide +kernel⟩, by decide⟩
theorem ms_X9_reach : Cond.static eX9_reach.1 ∈ am_tbl := am_mem 591 (by decide +kernel) rfl
abbrev eX10_init : am_E := (yX10_init, cX10_init, 2, none)
theorem me_X10_init : am_me eX10_init 0 := ⟨am_mem 919 (by decide +kernel) rfl, am_mem 89 (by decide +kernel) rfl, ⟨by decide, by decide, by decide +kernel⟩, by decide⟩
theorem mn_X10_init : eX10_init.1.name = "<init>" ∧ Cond.instanceMethod eX10_init.1 ∈ am_tbl ∧ eX10_init.2.2.2 = none := ⟨rfl, am_mem 918 (by decide +kernel) rfl, rfl⟩
abbrev eX10_thrown : am_E := (yX10_thrown, cX10_thrown, 1, (some .int))
theorem me_X10_thrown : am_me eX10_thrown 0 := ⟨am_mem 1103 (by decide +kernel) rfl, am_mem 89 (by decide +kernel) rfl, ⟨by decide, by decide, by decide +kernel⟩, by decide⟩
theorem mi_X10_thrown : am_mi eX10_thrown 10 := ⟨by decide, am_mem 1101 (by decide +kernel) rfl, am_mem 1102 (by decide +kernel) rfl, (RX10, TX10, 59), rfl, rfl⟩
abbrev eX10_fail : am_E := (yX10_fail, cX10_fail, 2, (some .int))
theorem me_X10_fail : am_me eX10_fail 1 := ⟨am_mem 1161 (by decide +kernel) rfl, am_mem 89 (by decide +kernel) rfl, ⟨by decide, by decide, by decide +kernel⟩, by decide⟩
theorem mi_X10_fail : am_mi eX10_fail 10 := ⟨by decide, am_mem 1160 (by decide +kernel) rfl, am_mem 46 (by decide +kernel) rfl, (RX10, TX10, 59), rfl, rfl⟩
abbrev eX10_type : am_E := (yX10_type, cX10_type, 2, (some .boolean))
theorem me_X10_type : am_me eX10_type 1 := ⟨am_mem 1107 (by decide +kernel) rfl, am_mem 89 (by decide +kernel) rfl, ⟨by decide, by decide, by decide +kernel⟩, by decide⟩
theorem mi_X10_type : am_mi eX10_type 10 := ⟨by decide, am_mem 1105 (by decide +kernel) rfl, am_mem 1106 (by decide +kernel) rfl, (RX10, TX10, 59), rfl, rfl⟩
abbrev eX10_wipe : am_E := (yX10_wipe, cX10_wipe, 1, none)
theorem me_X10_wipe : am_me eX10_wipe 0 := ⟨am_mem 1111 (by decide +kernel) rfl, am_mem 89 (by decide +kernel) rfl, ⟨by decide, by decide, by decide +kernel⟩, by decide⟩
theorem mi_X10_wipe : am_mi eX10_wipe 10 := ⟨by decide, am_mem 1109 (by decide +kernel) rfl, am_mem 1110 (by decide +kernel) rfl, (RX10, TX10, 59), rfl, rfl⟩
abbrev eX10_peek : am_E := (yX10_peek, cX10_peek, 1, (some .int))
theorem me_X10_peek : am_me eX10_peek 0 := ⟨am_mem 1119 (by decide +kernel) rfl, am_mem 89 (by decide +kernel) rfl, ⟨by decide, by decide, by decide +kernel⟩, by decide⟩
theorem mi_X10_peek : am_mi eX10_peek 10 := ⟨by decide, am_mem 1118 (by decide +kernel) rfl, am_mem 37 (by decide +kernel) rfl, (RX10, TX10, 59), rfl, rfl⟩
abbrev eX10_isLocal : am_E := (yX10_isLocal, cX10_isLocal, 1, (some .boolean))
theorem me_X10_isLocal : am_me eX10_isLocal 1 := ⟨am_mem 1146 (by decide +kernel) rfl, am_mem 89 (by decide +kernel) rfl, ⟨by decide, by decide, by decide +kernel⟩, by decide⟩
theorem ms_X10_isLocal : Cond.static eX10_isLocal.1 ∈ am_tbl := am_mem 1145 (by decide +kernel) rfl
abbrev eX10_create : am_E := (yX10_create, cX10_create, 5, (some .int))
theorem me_X10_create : am_me eX10_create 3 := ⟨am_mem 1135 (by decide +kernel) rfl, am_mem 89 (by decide +kernel) rfl, ⟨by decide, by decide, by decide +kernel⟩, by decide⟩
theorem mi_X10_create : am_mi eX10_create 10 := ⟨by decide, am_mem 1134 (by decide +kernel) rfl, am_mem 41 (by decide +kernel) rfl, (RX10, TX10, 59), rfl, rfl⟩
abbrev eX10_partsOf : am_E := (yX10_partsOf, cX10_partsOf, 2, (some .int))
theorem me_X10_partsOf : am_me eX10_partsOf 1 := ⟨am_mem 1143 (by decide +kernel) rfl, am_mem 89 (by decide +kernel) rfl, ⟨by decide, by decide, by decide +kernel⟩, by decide⟩
theorem mi_X10_partsOf : am_mi eX10_partsOf 10 := ⟨by decide, am_mem 1142 (by decide +kernel) rfl, am_mem 43 (by decide +kernel) rfl, (RX10, TX10, 59), rfl, rfl⟩
abbrev eX10_partsHad : am_E := (yX10_partsHad, cX10_partsHad, 4, (some .int))
theorem me_X10_partsHad : am_me eX10_partsHad 4 := ⟨am_mem 1157 (by decide +kernel) rfl, am_mem 89 (by decide +kernel) rfl, ⟨by decide, by decide, by decide +kernel⟩, by decide⟩
theorem ms_X10_partsHad : Cond.static eX10_partsHad.1 ∈ am_tbl := am_mem 1156 (by decide +kernel) rfl
abbrev eX10_give : am_E := (yX10_give, cX10_give, 4, none)
theorem me_X10_give : am_me eX10_give 2 := ⟨am_mem 1154 (by decide +kernel) rfl, am_mem 89 (by decide +kernel) rfl, ⟨by decide, by decide, by decide +kernel⟩, by decide⟩
theorem mi_X10_give : am_mi eX10_give 10 := ⟨by decide, am_mem 1153 (by decide +kernel) rfl, am_mem 45 (by decide +kernel) rfl, (RX10, TX10, 59), rfl, rfl⟩
abbrev eX10_readExpression : am_E := (yX10_readExpression, cX10_readExpression, 3, (some .int))
theorem me_X10_readExpression : am_me eX10_readExpression 0 := ⟨am_mem 1127 (by decide +kernel) rfl, am_mem 89 (by decide +kernel) rfl, ⟨by decide, by decide, by decide +kernel⟩, by decide⟩
theorem mi_X10_readExpression : am_mi eX10_readExpression 10 := ⟨by decide, am_mem 1126 (by decide +kernel) rfl, am_mem 39 (by decide +kernel) rfl, (RX10, TX10, 59), rfl, rfl⟩
abbrev eX10_readPart : am_E := (yX10_readPart, cX10_readPart, 3, (some .int))
theorem me_X10_readPart : am_me eX10_readPart 0 := ⟨am_mem 1131 (by decide +kernel) rfl, am_mem 89 (by decide +kernel) rfl, ⟨by decide, by decide, by decide +kernel⟩, by decide⟩
theorem mi_X10_readPart : am_mi eX10_readPart 10 := ⟨by decide, am_mem 1130 (by decide +kernel) rfl, am_mem 40 (by decide +kernel) rfl, (RX10, TX10, 59), rfl, rfl⟩
abbrev eX10_readBracket : am_E := (yX10_readBracket, cX10_readBracket, 5, none)
theorem me_X10_readBracket : am_me eX10_readBracket 0 := ⟨am_mem 1139 (by decide +kernel) rfl, am_mem 89 (by decide +kernel) rfl, ⟨by decide, by decide, by decide +kernel⟩, by decide⟩
theorem mi_X10_readBracket : am_mi eX10_readBracket 10 := ⟨by decide, am_mem 1138 (by decide +kernel) rfl, am_mem 42 (by decide +kernel) rfl, (RX10, TX10, 59), rfl, rfl⟩
abbrev eX10_close : am_E := (yX10_close, cX10_close, 4, (some .int))
theorem me_X10_close : am_me eX10_close 1 := ⟨am_mem 1150 (by decide +kernel) rfl, am_mem 89 (by decide +kernel) rfl, ⟨by decide, by decide, by decide +kernel⟩, by decide⟩
theorem mi_X10_close : am_mi eX10_close 10 := ⟨by decide, am_mem 1149 (by decide +kernel) rfl, am_mem 44 (by decide +kernel) rfl, (RX10, TX10, 59), rfl, rfl⟩
abbrev eX10_readRest : am_E := (yX10_readRest, cX10_readRest, 3, (some .boolean))
theorem me_X10_readRest : am_me eX10_readRest 1 := ⟨am_mem 1123 (by decide +kernel) rfl, am_mem 89 (by decide +kernel) rfl, ⟨by decide, by decide, by decide +kernel⟩, by decide⟩
theorem mi_X10_readRest : am_mi eX10_readRest 10 := ⟨by decide, am_mem 1122 (by decide +kernel) rfl, am_mem 38 (by decide +kernel) rfl, (RX10, TX10, 59), rfl, rfl⟩
abbrev eX10_move : am_E := (yX10_move, cX10_move, 5, none)
theorem me_X10_move : am_me eX10_move 1 := ⟨am_mem 1291 (by decide +kernel) rfl, am_mem 89 (by decide +kernel) rfl, ⟨by decide, by decide, by decide +kernel⟩, by decide⟩
theorem mi_X10_move : am_mi eX10_move 10 := ⟨by decide, am_mem 1290 (by decide +kernel) rfl, am_mem 69 (by decide +kernel) rfl, (RX10, TX10, 59), rfl, rfl⟩
abbrev eX10_moved : am_E := (yX10_moved, cX10_moved, 2, (some .int))
theorem me_X10_moved : am_me eX10_moved 2 := ⟨am_mem 1294 (by decide +kernel) rfl, am_mem 89 (by decide +kernel) rfl, ⟨by decide, by decide, by decide +kernel⟩, by decide⟩
theorem ms_X10_moved : Cond.static eX10_moved.1 ∈ am_tbl := am_mem 1293 (by decide +kernel) rfl
abbrev eX10_copy : am_E := (yX10_copy, cX10_copy, 5, none)
theorem me_X10_copy : am_me eX10_copy 4 := ⟨am_mem 1181 (by decide +kernel) rfl, am_mem 89 (by decide +kernel) rfl, ⟨by decide, by decide, by decide +kernel⟩, by decide⟩
theorem ms_X10_copy : Cond.static eX10_copy.1 ∈ am_tbl := am_mem 1180 (by decide +kernel) rfl
abbrev eX10_clear : am_E := (yX10_clear, cX10_clear, 3, none)
theorem me_X10_clear : am_me eX10_clear 2 := ⟨am_mem 1191 (by decide +kernel) rfl, am_mem 89 (by decide +kernel) rfl, ⟨by decide, by decide, by decide +kernel⟩, by decide⟩
theorem ms_X10_clear : Cond.static eX10_clear.1 ∈ am_tbl := am_mem 1190 (by decide +kernel) rfl
abbrev eX10_isImpossible : am_E := (yX10_isImpossible, cX10_isImpossible, 2, (some .boolean))
theorem me_X10_isImpossible : am_me eX10_isImpossible 2 := ⟨am_mem 1188 (by decide +kernel) rfl, am_mem 89 (by decide +kernel) rfl, ⟨by decide, by decide, by decide +kernel⟩, by decide⟩
theorem ms_X10_isImpossible : Cond.static eX10_isImpossible.1 ∈ am_tbl := am_mem 1187 (by decide +kernel) rfl
abbrev eX10_restrict : am_E := (yX10_restrict, cX10_restrict, 5, none)
theorem me_X10_restrict : am_me eX10_restrict 4 := ⟨am_mem 1217 (by decide +kernel) rfl, am_mem 89 (by decide +kernel) rfl, ⟨by decide, by decide, by decide +kernel⟩, by decide⟩
theorem ms_X10_restrict : Cond.static eX10_restrict.1 ∈ am_tbl := am_mem 1216 (by decide +kernel) rfl
abbrev eX10_say : am_E := (yX10_say, cX10_say, 5, none)
theorem me_X10_say : am_me eX10_say 4 := ⟨am_mem 1169 (by decide +kernel) rfl, am_mem 89 (by decide +kernel) rfl, ⟨by decide, by decide, by decide +kernel⟩, by decide⟩
theorem ms_X10_say : Cond.static eX10_say.1 ∈ am_tbl := am_mem 1168 (by decide +kernel) rfl
abbrev eX10_said : am_E := (yX10_said, cX10_said, 5, (some .int))
theorem me_X10_said : am_me eX10_said 3 := ⟨am_mem 1223 (by decide +kernel) rfl, am_mem 89 (by decide +kernel) rfl, ⟨by decide, by decide, by decide +kernel⟩, by decide⟩
theorem ms_X10_said : Cond.static eX10_said.1 ∈ am_tbl := am_mem 1222 (by decide +kernel) rfl
abbrev eX10_both : am_E := (yX10_both, cX10_both, 5, none)
theorem me_X10_both : am_me eX10_both 4 := ⟨am_mem 1220 (by decide +kernel) rfl, am_mem 89 (by decide +kernel) rfl, ⟨by decide, by decide, by decide +kernel⟩, by decide⟩
theorem ms_X10_both : Cond.static eX10_both.1 ∈ am_tbl := am_mem 1219 (by decide +kernel) rfl
abbrev eX10_either : am_E := (yX10_either, cX10_either, 5, none)
theorem me_X10_either : am_me eX10_either 4 := ⟨am_mem 1261 (by decide +kernel) rfl, am_mem 89 (by decide +kernel) rfl, ⟨by decide, by decide, by decide +kernel⟩, by decide⟩
theorem ms_X10_either : Cond.static eX10_either.1 ∈ am_tbl := am_mem 1260 (by decide +kernel) rfl
abbrev eX10_settle : am_E := (yX10_settle, cX10_settle, 2, none)
theorem me_X10_settle : am_me eX10_settle 2 := ⟨am_mem 1198 (by decide +kernel) rfl, am_mem 89 (by decide +kernel) rfl, ⟨by decide, by decide, by decide +kernel⟩, by decide⟩
theorem ms_X10_settle : Cond.static eX10_settle.1 ∈ am_tbl := am_mem 1197 (by decide +kernel) rfl
abbrev eX10_further : am_E := (yX10_further, cX10_further, 3, (some .int))
theorem me_X10_further : am_me eX10_further 2 := ⟨am_mem 1250 (by decide +kernel) rfl, am_mem 89 (by decide +kernel) rfl, ⟨by decide, by decide, by decide +kernel⟩, by decide⟩
theorem ms_X10_further : Cond.static eX10_further.1 ∈ am_tbl := am_mem 1249 (by decide +kernel) rfl
abbrev eX10_five : am_E := (yX10_five, cX10_five, 2, (some .int))
theorem me_X10_five : am_me eX10_five 1 := ⟨am_mem 1178 (by decide +kernel) rfl, am_mem 89 (by decide +kernel) rfl, ⟨by decide, by decide, by decide +kernel⟩, by decide⟩
theorem mi_X10_five : am_mi eX10_five 10 := ⟨by decide, am_mem 1177 (by decide +kernel) rfl, am_mem 49 (by decide +kernel) rfl, (RX10, TX10, 59), rfl, rfl⟩
abbrev eX10_finish : am_E := (yX10_finish, cX10_finish, 5, none)
theorem me_X10_finish : am_me eX10_finish 3 := ⟨am_mem 1195 (by decide +kernel) rfl, am_mem 89 (by decide +kernel) rfl, ⟨by decide, by decide, by decide +kernel⟩, by decide⟩
theorem mi_X10_finish : am_mi eX10_finish 10 := ⟨by decide, am_mem 1194 (by decide +kernel) rfl, am_mem 51 (by decide +kernel) rfl, (RX10, TX10, 59), rfl, rfl⟩
abbrev eX10_typeOf : am_E := (yX10_typeOf, cX10_typeOf, 2, (some .int))
theorem me_X10_typeOf : am_me eX10_typeOf 1 := ⟨am_mem 1235 (by decide +kernel) rfl, am_mem 89 (by decide +kernel) rfl, ⟨by decide, by decide, by decide +kernel⟩, by decide⟩
theorem mi_X10_typeOf : am_mi eX10_typeOf 10 := ⟨by decide, am_mem 1234 (by decide +kernel) rfl, am_mem 58 (by decide +kernel) rfl, (RX10, TX10, 59), rfl, rfl⟩
abbrev eX10_placeOf : am_E := (yX10_placeOf, cX10_placeOf, 2, (some .int))
theorem me_X10_placeOf : am_me eX10_placeOf 1 := ⟨am_mem 1231 (by decide +kernel) rfl, am_mem 89 (by decide +kernel) rfl, ⟨by decide, by decide, by decide +kernel⟩, by decide⟩
theorem mi_X10_placeOf : am_mi eX10_placeOf 10 := ⟨by decide, am_mem 1230 (by decide +kernel) rfl, am_mem 57 (by decide +kernel) rfl, (RX10, TX10, 59), rfl, rfl⟩
abbrev eX10_start : am_E := (yX10_start, cX10_start, 2, none)
theorem me_X10_start : am_me eX10_start 1 := ⟨am_mem 1206 (by decide +kernel) rfl, am_mem 89 (by decide +kernel) rfl, ⟨by decide, by decide, by decide +kernel⟩, by decide⟩
theorem mi_X10_start : am_mi eX10_start 10 := ⟨by decide, am_mem 1205 (by decide +kernel) rfl, am_mem 53 (by decide +kernel) rfl, (RX10, TX10, 59), rfl, rfl⟩
abbrev eX10_accepts : am_E := (yX10_accepts, cX10_accepts, 7, (some .boolean))
theorem me_X10_accepts : am_me eX10_accepts 2 := ⟨am_mem 1174 (by decide +kernel) rfl, am_mem 89 (by decide +kernel) rfl, ⟨by decide, by decide, by decide +kernel⟩, by decide⟩
theorem mi_X10_accepts : am_mi eX10_accepts 10 := ⟨by decide, am_mem 1173 (by decide +kernel) rfl, am_mem 48 (by decide +kernel) rfl, (RX10, TX10, 59), rfl, rfl⟩
abbrev eX10_nextPart : am_E := (yX10_nextPart, cX10_nextPart, 5, (some .int))
theorem me_X10_nextPart : am_me eX10_nextPart 2 := ⟨am_mem 1185 (by decide +kernel) rfl, am_mem 89 (by decide +kernel) rfl, ⟨by decide, by decide, by decide +kernel⟩, by decide⟩
theorem mi_X10_nextPart : am_mi eX10_nextPart 10 := ⟨by decide, am_mem 1184 (by decide +kernel) rfl, am_mem 50 (by decide +kernel) rfl, (RX10, TX10, 59), rfl, rfl⟩
abbrev eX10_enter : am_E := (yX10_enter, cX10_enter, 6, none)
theorem me_X10_enter : am_me eX10_enter 2 := ⟨am_mem 1287 (by decide +kernel) rfl, am_mem 89 (by decide +kernel) rfl, ⟨by decide, by decide, by decide +kernel⟩, by decide⟩
theorem mi_X10_enter : am_mi eX10_enter 10 := ⟨by decide, am_mem 1286 (by decide +kernel) rfl, am_mem 68 (by decide +kernel) rfl, (RX10, TX10, 59), rfl, rfl⟩
abbrev eX10_refuse : am_E := (yX10_refuse, cX10_refuse, 2, none)
theorem me_X10_refuse : am_me eX10_refuse 1 := ⟨am_mem 1247 (by decide +kernel) rfl, am_mem 89 (by decide +kernel) rfl, ⟨by decide, by decide, by decide +kernel⟩, by decide⟩
theorem mi_X10_refuse : am_mi eX10_refuse 10 := ⟨by decide, am_mem 1246 (by decide +kernel) rfl, am_mem 61 (by decide +kernel) rfl, (RX10, TX10, 59), rfl, rfl⟩
abbrev eX10_conclude : am_E := (yX10_conclude, cX10_conclude, 2, none)
theorem me_X10_conclude : am_me eX10_conclude 1 := ⟨am_mem 1202 (by decide +kernel) rfl, am_mem 89 (by decide +kernel) rfl, ⟨by decide, by decide, by decide +kernel⟩, by decide⟩
theorem mi_X10_conclude : am_mi eX10_conclude 10 := ⟨by decide, am_mem 1201 (by decide +kernel) rfl, am_mem 52 (by decide +kernel) rfl, (RX10, TX10, 59), rfl, rfl⟩
abbrev eX10_split : am_E := (yX10_split, cX10_split, 2, none)
theorem me_X10_split : am_me eX10_split 1 := ⟨am_mem 1214 (by decide +kernel) rfl, am_mem 89 (by decide +kernel) rfl, ⟨by decide, by decide, by decide +kernel⟩, by decide⟩
theorem mi_X10_split : am_mi eX10_split 10 := ⟨by decide, am_mem 1213 (by decide +kernel) rfl, am_mem 55 (by decide +kernel) rfl, (RX10, TX10, 59), rfl, rfl⟩
abbrev eX10_concludeVariable : am_E := (yX10_concludeVariable, cX10_concludeVariable, 4, none)
theorem me_X10_concludeVariable : am_me eX10_concludeVariable 1 := ⟨am_mem 1210 (by decide +kernel) rfl, am_mem 89 (by decide +kernel) rfl, ⟨by decide, by decide, by decide +kernel⟩, by decide⟩
theorem mi_X10_concludeVariable : am_mi eX10_concludeVariable 10 := ⟨by decide, am_mem 1209 (by decide +kernel) rfl, am_mem 54 (by decide +kernel) rfl, (RX10, TX10, 59), rfl, rfl⟩
abbrev eX10_concludeTest : am_E := (yX10_concludeTest, cX10_concludeTest, 5, none)
theorem me_X10_concludeTest : am_me eX10_concludeTest 2 := ⟨am_mem 1227 (by decide +kernel) rfl, am_mem 89 (by decide +kernel) rfl, ⟨by decide, by decide, by decide +kernel⟩, by decide⟩
theorem mi_X10_concludeTest : am_mi eX10_concludeTest 10 := ⟨by decide, am_mem 1226 (by decide +kernel) rfl, am_mem 56 (by decide +kernel) rfl, (RX10, TX10, 59), rfl, rfl⟩
abbrev eX10_concludeNot : am_E := (yX10_concludeNot, cX10_concludeNot, 3, none)
theorem me_X10_concludeNot : am_me eX10_concludeNot 1 := ⟨am_mem 1239 (by decide +kernel) rfl, am_mem 89 (by decide +kernel) rfl, ⟨by decide, by decide, by decide +kernel⟩, by decide⟩
theorem mi_X10_concludeNot : am_mi eX10_concludeNot 10 := ⟨by decide, am_mem 1238 (by decide +kernel) rfl, am_mem 59 (by decide +kernel) rfl, (RX10, TX10, 59), rfl, rfl⟩
abbrev eX10_concludeHalf : am_E := (yX10_concludeHalf, cX10_concludeHalf, 4, none)
theorem me_X10_concludeHalf : am_me eX10_concludeHalf 1 := ⟨am_mem 1243 (by decide +kernel) rfl, am_mem 89 (by decide +kernel) rfl, ⟨by decide, by decide, by decide +kernel⟩, by decide⟩
theorem mi_X10_concludeHalf : am_mi eX10_concludeHalf 10 := ⟨by decide, am_mem 1242 (by decide +kernel) rfl, am_mem 60 (by decide +kernel) rfl, (RX10, TX10, 59), rfl, rfl⟩
abbrev eX10_concludeSum : am_E := (yX10_concludeSum, cX10_concludeSum, 2, none)
theorem me_X10_concludeSum : am_me eX10_concludeSum 1 := ⟨am_mem 1254 (by decide +kernel) rfl, am_mem 89 (by decide +kernel) rfl, ⟨by decide, by decide, by decide +kernel⟩, by decide⟩
theorem mi_X10_concludeSum : am_mi eX10_concludeSum 10 := ⟨by decide, am_mem 1253 (by decide +kernel) rfl, am_mem 62 (by decide +kernel) rfl, (RX10, TX10, 59), rfl, rfl⟩
abbrev eX10_concludeIf : am_E := (yX10_concludeIf, cX10_concludeIf, 4, none)
theorem me_X10_concludeIf : am_me eX10_concludeIf 1 := ⟨am_mem 1258 (by decide +kernel) rfl, am_mem 89 (by decide +kernel) rfl, ⟨by decide, by decide, by decide +kernel⟩, by decide⟩
theorem mi_X10_concludeIf : am_mi eX10_concludeIf 10 := ⟨by decide, am_mem 1257 (by decide +kernel) rfl, am_mem 63 (by decide +kernel) rfl, (RX10, TX10, 59), rfl, rfl⟩
abbrev eX10_concludeAnd : am_E := (yX10_concludeAnd, cX10_concludeAnd, 4, none)
theorem me_X10_concludeAnd : am_me eX10_concludeAnd 1 := ⟨am_mem 1265 (by decide +kernel) rfl, am_mem 89 (by decide +kernel) rfl, ⟨by decide, by decide, by decide +kernel⟩, by decide⟩
theorem mi_X10_concludeAnd : am_mi eX10_concludeAnd 10 := ⟨by decide, am_mem 1264 (by decide +kernel) rfl, am_mem 64 (by decide +kernel) rfl, (RX10, TX10, 59), rfl, rfl⟩
abbrev eX10_concludeOr : am_E := (yX10_concludeOr, cX10_concludeOr, 4, none)
theorem me_X10_concludeOr : am_me eX10_concludeOr 1 := ⟨am_mem 1269 (by decide +kernel) rfl, am_mem 89 (by decide +kernel) rfl, ⟨by decide, by decide, by decide +kernel⟩, by decide⟩
theorem mi_X10_concludeOr : am_mi eX10_concludeOr 10 := ⟨by decide, am_mem 1268 (by decide +kernel) rfl, am_mem 65 (by decide +kernel) rfl, (RX10, TX10, 59), rfl, rfl⟩
abbrev eX10_drop : am_E := (yX10_drop, cX10_drop, 3, none)
theorem me_X10_drop : am_me eX10_drop 2 := ⟨am_mem 1276 (by decide +kernel) rfl, am_mem 89 (by decide +kernel) rfl, ⟨by decide, by decide, by decide +kernel⟩, by decide⟩
theorem ms_X10_drop : Cond.static eX10_drop.1 ∈ am_tbl := am_mem 1275 (by decide +kernel) rfl
abbrev eX10_concludeLet : am_E := (yX10_concludeLet, cX10_concludeLet, 5, none)
theorem me_X10_concludeLet : am_me eX10_concludeLet 1 := ⟨am_mem 1273 (by decide +kernel) rfl, am_mem 89 (by decide +kernel) rfl, ⟨by decide, by decide, by decide +kernel⟩, by decide⟩
theorem mi_X10_concludeLet : am_mi eX10_concludeLet 10 := ⟨by decide, am_mem 1272 (by decide +kernel) rfl, am_mem 66 (by decide +kernel) rfl, (RX10, TX10, 59), rfl, rfl⟩
abbrev eX10_concludeCall : am_E := (yX10_concludeCall, cX10_concludeCall, 7, none)
theorem me_X10_concludeCall : am_me eX10_concludeCall 1 := ⟨am_mem 1280 (by decide +kernel) rfl, am_mem 89 (by decide +kernel) rfl, ⟨by decide, by decide, by decide +kernel⟩, by decide⟩
theorem mi_X10_concludeCall : am_mi eX10_concludeCall 10 := ⟨by decide, am_mem 1279 (by decide +kernel) rfl, am_mem 67 (by decide +kernel) rfl, (RX10, TX10, 59), rfl, rfl⟩
abbrev eX10_joined : am_E := (yX10_joined, cX10_joined, 3, (some .int))
theorem me_X10_joined : am_me eX10_joined 2 := ⟨am_mem 1283 (by decide +kernel) rfl, am_mem 89 (by decide +kernel) rfl, ⟨by decide, by decide, by decide +kernel⟩, by decide⟩
theorem ms_X10_joined : Cond.static eX10_joined.1 ∈ am_tbl := am_mem 1282 (by decide +kernel) rfl
abbrev eX10_everything : am_E := (yX10_everything, cX10_everything, 3, none)
theorem me_X10_everything : am_me eX10_everything 1 := ⟨am_mem 1165 (by decide +kernel) rfl, am_mem 89 (by decide +kernel) rfl, ⟨by decide, by decide, by decide +kernel⟩, by decide⟩
theorem mi_X10_everything : am_mi eX10_everything 10 := ⟨by decide, am_mem 1164 (by decide +kernel) rfl, am_mem 47 (by decide +kernel) rfl, (RX10, TX10, 59), rfl, rfl⟩
abbrev eX10_define : am_E := (yX10_define, cX10_define, 7, (some .int))
theorem me_X10_define : am_me eX10_define 0 := ⟨am_mem 1115 (by decide +kernel) rfl, am_mem 89 (by decide +kernel) rfl, ⟨by decide, by decide, by decide +kernel⟩, by decide⟩
theorem mi_X10_define : am_mi eX10_define 10 := ⟨by decide, am_mem 1113 (by decide +kernel) rfl, am_mem 1114 (by decide +kernel) rfl, (RX10, TX10, 59), rfl, rfl⟩
abbrev eX10_check : am_E := (yX10_check, cX10_check, 2, (some .int))
theorem me_X10_check : am_me eX10_check 0 := ⟨am_mem 1298 (by decide +kernel) rfl, am_mem 89 (by decide +kernel) rfl, ⟨by decide, by decide, by decide +kernel⟩, by decide⟩
theorem mi_X10_check : am_mi eX10_check 10 := ⟨by decide, am_mem 1296 (by decide +kernel) rfl, am_mem 1297 (by decide +kernel) rfl, (RX10, TX10, 59), rfl, rfl⟩
abbrev eX10_fault : am_E := (yX10_fault, cX10_fault, 1, (some .int))
theorem me_X10_fault : am_me eX10_fault 0 := ⟨am_mem 1302 (by decide +kernel) rfl, am_mem 89 (by decide +kernel) rfl, ⟨by decide, by decide, by decide +kernel⟩, by decide⟩
theorem mi_X10_fault : am_mi eX10_fault 10 := ⟨by decide, am_mem 1300 (by decide +kernel) rfl, am_mem 1301 (by decide +kernel) rfl, (RX10, TX10, 59), rfl, rfl⟩
abbrev eX10_view : am_E := (yX10_view, cX10_view, 4, (some .int))
theorem me_X10_view : am_me eX10_view 3 := ⟨am_mem 1306 (by decide +kernel) rfl, am_mem 89 (by decide +kernel) rfl, ⟨by decide, by decide, by decide +kernel⟩, by decide⟩
theorem mi_X10_view : am_mi eX10_view 10 := ⟨by decide, am_mem 1304 (by decide +kernel) rfl, am_mem 1305 (by decide +kernel) rfl, (RX10, TX10, 59), rfl, rfl⟩
abbrev eX10_forget : am_E := (yX10_forget, cX10_forget, 2, none)
theorem me_X10_forget : am_me eX10_forget 0 := ⟨am_mem 1310 (by decide +kernel) rfl, am_mem 89 (by decide +kernel) rfl, ⟨by decide, by decide, by decide +kernel⟩, by decide⟩
theorem mi_X10_forget : am_mi eX10_forget 10 := ⟨by decide, am_mem 1308 (by decide +kernel) rfl, am_mem 1309 (by decide +kernel) rfl, (RX10, TX10, 59), rfl, rfl⟩
abbrev eX10_removeRun : am_E := (yX10_removeRun, cX10_removeRun, 1, none)
theorem me_X10_removeRun : am_me eX10_removeRun 0 := ⟨am_mem 1318 (by decide +kernel) rfl, am_mem 89 (by decide +kernel) rfl, ⟨by decide, by decide, by decide +kernel⟩, by decide⟩
theorem mi_X10_removeRun : am_mi eX10_removeRun 10 := ⟨by decide, am_mem 1317 (by decide +kernel) rfl, am_mem 70 (by decide +kernel) rfl, (RX10, TX10, 59), rfl, rfl⟩
abbrev eX10_make : am_E := (yX10_make, cX10_make, 5, (some .int))
theorem me_X10_make : am_me eX10_make 4 := ⟨am_mem 1322 (by decide +kernel) rfl, am_mem 89 (by decide +kernel) rfl, ⟨by decide, by decide, by decide +kernel⟩, by decide⟩
theorem mi_X10_make : am_mi eX10_make 10 := ⟨by decide, am_mem 1321 (by decide +kernel) rfl, am_mem 71 (by decide +kernel) rfl, (RX10, TX10, 59), rfl, rfl⟩
abbrev eX10_isMade : am_E := (yX10_isMade, cX10_isMade, 2, (some .boolean))
theorem me_X10_isMade : am_me eX10_isMade 1 := ⟨am_mem 1330 (by decide +kernel) rfl, am_mem 89 (by decide +kernel) rfl, ⟨by decide, by decide, by decide +kernel⟩, by decide⟩
theorem mi_X10_isMade : am_mi eX10_isMade 10 := ⟨by decide, am_mem 1329 (by decide +kernel) rfl, am_mem 72 (by decide +kernel) rfl, (RX10, TX10, 59), rfl, rfl⟩
abbrev eX10_number : am_E := (yX10_number, cX10_number, 2, (some .int))
theorem me_X10_number : am_me eX10_number 1 := ⟨am_mem 1314 (by decide +kernel) rfl, am_mem 89 (by decide +kernel) rfl, ⟨by decide, by decide, by decide +kernel⟩, by decide⟩
theorem mi_X10_number : am_mi eX10_number 10 := ⟨by decide, am_mem 1312 (by decide +kernel) rfl, am_mem 1313 (by decide +kernel) rfl, (RX10, TX10, 59), rfl, rfl⟩
abbrev eX10_pair : am_E := (yX10_pair, cX10_pair, 3, (some .int))
theorem me_X10_pair : am_me eX10_pair 2 := ⟨am_mem 1326 (by decide +kernel) rfl, am_mem 89 (by decide +kernel) rfl, ⟨by decide, by decide, by decide +kernel⟩, by decide⟩
theorem mi_X10_pair : am_mi eX10_pair 10 := ⟨by decide, am_mem 1324 (by decide +kernel) rfl, am_mem 1325 (by decide +kernel) rfl, (RX10, TX10, 59), rfl, rfl⟩
abbrev eX10_input : am_E := (yX10_input, cX10_input, 3, none)
theorem me_X10_input : am_me eX10_input 2 := ⟨am_mem 1334 (by decide +kernel) rfl, am_mem 89 (by decide +kernel) rfl, ⟨by decide, by decide, by decide +kernel⟩, by decide⟩
theorem mi_X10_input : am_mi eX10_input 10 := ⟨by decide, am_mem 1332 (by decide +kernel) rfl, am_mem 1333 (by decide +kernel) rfl, (RX10, TX10, 59), rfl, rfl⟩
abbrev eX10_clear_ : am_E := (yX10_clear_, cX10_clear_, 1, none)
theorem me_X10_clear_ : am_me eX10_clear_ 0 := ⟨am_mem 1338 (by decide +kernel) rfl, am_mem 89 (by decide +kernel) rfl, ⟨by decide, by decide, by decide +kernel⟩, by decide⟩
theorem mi_X10_clear_ : am_mi eX10_clear_ 10 := ⟨by decide, am_mem 1336 (by decide +kernel) rfl, am_mem 1337 (by decide +kernel) rfl, (RX10, TX10, 59), rfl, rfl⟩
abbrev eX10_begin : am_E := (yX10_begin, cX10_begin, 3, none)
theorem me_X10_begin : am_me eX10_begin 2 := ⟨am_mem 1346 (by decide +kernel) rfl, am_mem 89 (by decide +kernel) rfl, ⟨by decide, by decide, by decide +kernel⟩, by decide⟩
theorem mi_X10_begin : am_mi eX10_begin 10 := ⟨by decide, am_mem 1345 (by decide +kernel) rfl, am_mem 73 (by decide +kernel) rfl, (RX10, TX10, 59), rfl, rfl⟩
abbrev eX10_truth : am_E := (yX10_truth, cX10_truth, 1, (some .int))
theorem me_X10_truth : am_me eX10_truth 1 := ⟨am_mem 1369 (by decide +kernel) rfl, am_mem 89 (by decide +kernel) rfl, ⟨by decide, by decide, by decide +kernel⟩, by decide⟩
theorem ms_X10_truth : Cond.static eX10_truth.1 ∈ am_tbl := am_mem 1368 (by decide +kernel) rfl
abbrev eX10_end : am_E := (yX10_end, cX10_end, 2, none)
theorem me_X10_end : am_me eX10_end 1 := ⟨am_mem 1358 (by decide +kernel) rfl, am_mem 89 (by decide +kernel) rfl, ⟨by decide, by decide, by decide +kernel⟩, by decide⟩
theorem mi_X10_end : am_mi eX10_end 10 := ⟨by decide, am_mem 1357 (by decide +kernel) rfl, am_mem 76 (by decide +kernel) rfl, (RX10, TX10, 59), rfl, rfl⟩
abbrev eX10_stop : am_E := (yX10_stop, cX10_stop, 2, none)
theorem me_X10_stop : am_me eX10_stop 1 := ⟨am_mem 1373 (by decide +kernel) rfl, am_mem 89 (by decide +kernel) rfl, ⟨by decide, by decide, by decide +kernel⟩, by decide⟩
theorem mi_X10_stop : am_mi eX10_stop 10 := ⟨by decide, am_mem 1372 (by decide +kernel) rfl, am_mem 79 (by decide +kernel) rfl, (RX10, TX10, 59), rfl, rfl⟩
abbrev eX10_goOn : am_E := (yX10_goOn, cX10_goOn, 6, none)
theorem me_X10_goOn : am_me eX10_goOn 0 := ⟨am_mem 1350 (by decide +kernel) rfl, am_mem 89 (by decide +kernel) rfl, ⟨by decide, by decide, by decide +kernel⟩, by decide⟩
theorem mi_X10_goOn : am_mi eX10_goOn 10 := ⟨by decide, am_mem 1349 (by decide +kernel) rfl, am_mem 74 (by decide +kernel) rfl, (RX10, TX10, 59), rfl, rfl⟩
abbrev eX10_leaf : am_E := (yX10_leaf, cX10_leaf, 3, none)
theorem me_X10_leaf : am_me eX10_leaf 2 := ⟨am_mem 1354 (by decide +kernel) rfl, am_mem 89 (by decide +kernel) rfl, ⟨by decide, by decide, by decide +kernel⟩, by decide⟩
theorem mi_X10_leaf : am_mi eX10_leaf 10 := ⟨by decide, am_mem 1353 (by decide +kernel) rfl, am_mem 75 (by decide +kernel) rfl, (RX10, TX10, 59), rfl, rfl⟩
abbrev eX10_callOn : am_E := (yX10_callOn, cX10_callOn, 5, none)
theorem me_X10_callOn : am_me eX10_callOn 3 := ⟨am_mem 1362 (by decide +kernel) rfl, am_mem 89 (by decide +kernel) rfl, ⟨by decide, by decide, by decide +kernel⟩, by decide⟩
theorem mi_X10_callOn : am_mi eX10_callOn 10 := ⟨by decide, am_mem 1361 (by decide +kernel) rfl, am_mem 77 (by decide +kernel) rfl, (RX10, TX10, 59), rfl, rfl⟩
abbrev eX10_unary : am_E := (yX10_unary, cX10_unary, 4, none)
theorem me_X10_unary : am_me eX10_unary 2 := ⟨am_mem 1366 (by decide +kernel) rfl, am_mem 89 (by decide +kernel) rfl, ⟨by decide, by decide, by decide +kernel⟩, by decide⟩
theorem mi_X10_unary : am_mi eX10_unary 10 := ⟨by decide, am_mem 1365 (by decide +kernel) rfl, am_mem 78 (by decide +kernel) rfl, (RX10, TX10, 59), rfl, rfl⟩
abbrev eX10_choose : am_E := (yX10_choose, cX10_choose, 6, none)
theorem me_X10_choose : am_me eX10_choose 3 := ⟨am_mem 1377 (by decide +kernel) rfl, am_mem 89 (by decide +kernel) rfl, ⟨by decide, by decide, by decide +kernel⟩, by decide⟩
theorem mi_X10_choose : am_mi eX10_choose 10 := ⟨by decide, am_mem 1376 (by decide +kernel) rfl, am_mem 80 (by decide +kernel) rfl, (RX10, TX10, 59), rfl, rfl⟩
abbrev eX10_binary : am_E := (yX10_binary, cX10_binary, 5, none)
theorem me_X10_binary : am_me eX10_binary 3 := ⟨am_mem 1381 (by decide +kernel) rfl, am_mem 89 (by decide +kernel) rfl, ⟨by decide, by decide, by decide +kernel⟩, by decide⟩
theorem mi_X10_binary : am_mi eX10_binary 10 := ⟨by decide, am_mem 1380 (by decide +kernel) rfl, am_mem 81 (by decide +kernel) rfl, (RX10, TX10, 59), rfl, rfl⟩
abbrev eX10_run : am_E := (yX10_run, cX10_run, 3, (some .int))
theorem me_X10_run : am_me eX10_run 1 := ⟨am_mem 1342 (by decide +kernel) rfl, am_mem 89 (by decide +kernel) rfl, ⟨by decide, by decide, by decide +kernel⟩, by decide⟩
theorem mi_X10_run : am_mi eX10_run 10 := ⟨by decide, am_mem 1340 (by decide +kernel) rfl, am_mem 1341 (by decide +kernel) rfl, (RX10, TX10, 59), rfl, rfl⟩
abbrev eX10_steps : am_E := (yX10_steps, cX10_steps, 1, (some .int))
theorem me_X10_steps : am_me eX10_steps 0 := ⟨am_mem 1385 (by decide +kernel) rfl, am_mem 89 (by decide +kernel) rfl, ⟨by decide, by decide, by decide +kernel⟩, by decide⟩
theorem mi_X10_steps : am_mi eX10_steps 10 := ⟨by decide, am_mem 1383 (by decide +kernel) rfl, am_mem 1384 (by decide +kernel) rfl, (RX10, TX10, 59), rfl, rfl⟩
abbrev eX10_result : am_E := (yX10_result, cX10_result, 1, (some .int))
theorem me_X10_result : am_me eX10_result 0 := ⟨am_mem 1389 (by decide +kernel) rfl, am_mem 89 (by decide +kernel) rfl, ⟨by decide, by decide, by decide +kernel⟩, by decide⟩
theorem mi_X10_result : am_mi eX10_result 10 := ⟨by decide, am_mem 1387 (by decide +kernel) rfl, am_mem 1388 (by decide +kernel) rfl, (RX10, TX10, 59), rfl, rfl⟩
abbrev eX10_count : am_E := (yX10_count, cX10_count, 1, (some .int))
theorem me_X10_count : am_me eX10_count 0 := ⟨am_mem 1393 (by decide +kernel) rfl, am_mem 89 (by decide +kernel) rfl, ⟨by decide, by decide, by decide +kernel⟩, by decide⟩
theorem mi_X10_count : am_mi eX10_count 10 := ⟨by decide, am_mem 1391 (by decide +kernel) rfl, am_mem 1392 (by decide +kernel) rfl, (RX10, TX10, 59), rfl, rfl⟩
abbrev eX10_cell : am_E := (yX10_cell, cX10_cell, 3, (some .int))
theorem me_X10_cell : am_me eX10_cell 2 := ⟨am_mem 1397 (by decide +kernel) rfl, am_mem 89 (by decide +kernel) rfl, ⟨by decide, by decide, by decide +kernel⟩, by decide⟩
theorem mi_X10_cell : am_mi eX10_cell 10 := ⟨by decide, am_mem 1395 (by decide +kernel) rfl, am_mem 1396 (by decide +kernel) rfl, (RX10, TX10, 59), rfl, rfl⟩
abbrev eL_define : am_E := (yL_define, cL_define, 3, (some .int))
abbrev eL_check : am_E := (yL_check, cL_check, 3, (some .int))
abbrev eL_view : am_E := (yL_view, cL_view, 6, (some .int))
abbrev eL_number : am_E := (yL_number, cL_number, 4, (some .int))
abbrev eL_pair : am_E := (yL_pair, cL_pair, 5, (some .int))
abbrev eL_input : am_E := (yL_input, cL_input, 4, (some .int))
abbrev eL_run : am_E := (yL_run, cL_run, 4, (some .int))
abbrev eL_cell : am_E := (yL_cell, cL_cell, 5, (some .int))
theorem lo_9_3 : Cond.methodLink RX9 3 Lib.objectInit ∈ am_tbl := am_mem 107 (by decide +kernel) rfl
theorem nw_9_9 : am_nwd RX9 9 7 (RX7, TX7, 2) := ⟨cl_7, am_mem 110 (by decide +kernel) rfl, am_mem 111 (by decide +kernel) rfl, am_mem 84 (by decide +kernel) rfl⟩
theorem ln_9_11 : am_ln RX9 11 eX7_init := ⟨"TypedLisp", am_memN 112 (by decide +kernel)⟩
theorem pw_9_12 : am_pw RX9 12 9 0 true (.object "TypedLisp$Text") := ⟨(RX9, TX9, 12), cl_9, by decide, am_mem 234 (by decide +kernel) rfl, rfl, by decide +kernel, fun _ => rfl⟩
theorem na_9_16 : Cond.classLink RX9 16 "TypedLisp$Function" ∈ am_tbl := am_mem 124 (by decide +kernel) rfl
theorem pw_9_18 : am_pw RX9 18 9 1 true (.array (.object "TypedLisp$Function")) := ⟨(RX9, TX9, 12), cl_9, by decide, am_mem 235 (by decide +kernel) rfl, rfl, by decide +kernel, fun _ => rfl⟩
theorem nw_9_22 : am_nwd RX9 22 1 (RX1, TX1, 7) := ⟨cl_1, am_mem 126 (by decide +kernel) rfl, am_mem 127 (by decide +kernel) rfl, am_mem 85 (by decide +kernel) rfl⟩
theorem lk_9_24 : am_lk RX9 24 eX1_init := am_mem 128 (by decide +kernel) rfl
theorem pw_9_25 : am_pw RX9 25 9 2 true (.object "TypedLisp$Checker") := ⟨(RX9, TX9, 12), cl_9, by decide, am_mem 236 (by decide +kernel) rfl, rfl, by decide +kernel, fun _ => rfl⟩
theorem nw_9_29 : am_nwd RX9 29 8 (RX8, TX8, 2) := ⟨cl_8, am_mem 205 (by decide +kernel) rfl, am_mem 136 (by decide +kernel) rfl, am_mem 86 (by decide +kernel) rfl⟩
theorem ln_9_31 : am_ln RX9 31 eX8_init := ⟨"TypedLisp", am_memN 206 (by decide +kernel)⟩
theorem pw_9_32 : am_pw RX9 32 9 3 true (.object "TypedLisp$View") := ⟨(RX9, TX9, 12), cl_9, by decide, am_mem 237 (by decide +kernel) rfl, rfl, by decide +kernel, fun _ => rfl⟩
theorem pw_9_36 : am_pw RX9 36 9 4 true (.object "TypedLisp$View") := ⟨(RX9, TX9, 12), cl_9, by decide, am_mem 238 (by decide +kernel) rfl, rfl, by decide +kernel, fun _ => rfl⟩
theorem nw_9_39 : am_nwd RX9 39 0 (RX0, TX0, 6) := ⟨cl_0, am_mem 207 (by decide +kernel) rfl, am_mem 208 (by decide +kernel) rfl, am_mem 88 (by decide +kernel) rfl⟩
theorem lk_9_41 : am_lk RX9 41 eX0_init := am_mem 209 (by decide +kernel) rfl
theorem pw_9_42 : am_pw RX9 42 9 5 true (.object "TypedLisp$Cells") := ⟨(RX9, TX9, 12), cl_9, by decide, am_mem 239 (by decide +kernel) rfl, rfl, by decide +kernel, fun _ => rfl⟩
theorem pw_9_46 : am_pw RX9 46 9 6 true (.array .int) := ⟨(RX9, TX9, 12), cl_9, by decide, am_mem 240 (by decide +kernel) rfl, rfl, by decide +kernel, fun _ => rfl⟩
theorem pw_9_50 : am_pw RX9 50 9 7 false (.object "TypedLisp$Node") := ⟨(RX9, TX9, 12), cl_9, by decide, am_mem 241 (by decide +kernel) rfl, rfl, by decide +kernel, fun h => nomatch h⟩
theorem pw_9_54 : am_pw RX9 54 9 8 false .boolean := ⟨(RX9, TX9, 12), cl_9, by decide, am_mem 242 (by decide +kernel) rfl, rfl, by decide +kernel, fun h => nomatch h⟩
theorem pw_9_58 : am_pw RX9 58 9 9 false .int := ⟨(RX9, TX9, 12), cl_9, by decide, am_mem 243 (by decide +kernel) rfl, rfl, by decide +kernel, fun h => nomatch h⟩
theorem pw_9_62 : am_pw RX9 62 9 10 false .int := ⟨(RX9, TX9, 12), cl_9, by decide, am_mem 244 (by decide +kernel) rfl, rfl, by decide +kernel, fun h => nomatch h⟩
theorem pw_9_65 : am_pw RX9 65 9 11 false .int := ⟨(RX9, TX9, 12), cl_9, by decide, am_mem 245 (by decide +kernel) rfl, rfl, by decide +kernel, fun h => nomatch h⟩
theorem fw_9_12 : am_fw RX9 12 9 0 := ⟨(RX9, TX9, 12), cl_9, by decide, am_mem 234 (by decide +kernel) rfl⟩
theorem lk_9_68 : am_lk RX9 68 eX7_append := am_mem 275 (by decide +kernel) rfl
theorem lk_9_72 : am_lk RX9 72 eX7_empty := am_mem 283 (by decide +kernel) rfl
theorem nw_9_75 : am_nwd RX9 75 6 (RX6, TX6, 8) := ⟨cl_6, am_mem 324 (by decide +kernel) rfl, am_mem 325 (by decide +kernel) rfl, am_mem 90 (by decide +kernel) rfl⟩
theorem fw_9_18 : am_fw RX9 18 9 1 := ⟨(RX9, TX9, 12), cl_9, by decide, am_mem 235 (by decide +kernel) rfl⟩
theorem lk_9_77 : am_lk RX9 77 eX6_init := am_mem 326 (by decide +kernel) rfl
theorem lk_9_80 : am_lk RX9 80 eX6_readDefinition := am_mem 358 (by decide +kernel) rfl
theorem fw_9_84 : am_fw RX9 84 6 5 := ⟨(RX6, TX6, 8), cl_6, by decide, am_mem 336 (by decide +kernel) rfl⟩
theorem fw_9_25 : am_fw RX9 25 9 2 := ⟨(RX9, TX9, 12), cl_9, by decide, am_mem 236 (by decide +kernel) rfl⟩
theorem fw_9_90 : am_fw RX9 90 6 7 := ⟨(RX6, TX6, 8), cl_6, by decide, am_mem 340 (by decide +kernel) rfl⟩
theorem lk_9_93 : am_lk RX9 93 eX1_examineAll := am_mem 528 (by decide +kernel) rfl
theorem fw_9_97 : am_fw RX9 97 1 6 := ⟨(RX1, TX1, 7), cl_1, by decide, am_mem 189 (by decide +kernel) rfl⟩
theorem fw_9_101 : am_fw RX9 101 6 6 := ⟨(RX6, TX6, 8), cl_6, by decide, am_mem 338 (by decide +kernel) rfl⟩
theorem nw_9_16 : am_nwd RX9 16 3 (RX3, TX3, 5) := ⟨cl_3, am_mem 124 (by decide +kernel) rfl, am_mem 674 (by decide +kernel) rfl, am_mem 97 (by decide +kernel) rfl⟩
theorem lk_9_104 : am_lk RX9 104 eX3_init := am_mem 675 (by decide +kernel) rfl
theorem lk_9_107 : am_lk RX9 107 eX9_keepFunction := am_mem 701 (by decide +kernel) rfl
theorem fw_9_111 : am_fw RX9 111 2 0 := ⟨(RX2, TX2, 4), cl_2, by decide, am_mem 161 (by decide +kernel) rfl⟩
theorem lk_9_116 : am_lk RX9 116 eX6_readExpression := am_mem 712 (by decide +kernel) rfl
theorem fw_9_32 : am_fw RX9 32 9 3 := ⟨(RX9, TX9, 12), cl_9, by decide, am_mem 237 (by decide +kernel) rfl⟩
theorem fw_9_119 : am_fw RX9 119 2 2 := ⟨(RX2, TX2, 4), cl_2, by decide, am_mem 167 (by decide +kernel) rfl⟩
theorem lk_9_122 : am_lk RX9 122 eX8_copy := am_mem 716 (by decide +kernel) rfl
theorem fw_9_36 : am_fw RX9 36 9 4 := ⟨(RX9, TX9, 12), cl_9, by decide, am_mem 238 (by decide +kernel) rfl⟩
theorem fw_9_126 : am_fw RX9 126 2 3 := ⟨(RX2, TX2, 4), cl_2, by decide, am_mem 171 (by decide +kernel) rfl⟩
theorem fw_9_58 : am_fw RX9 58 9 9 := ⟨(RX9, TX9, 12), cl_9, by decide, am_mem 243 (by decide +kernel) rfl⟩
theorem fw_9_50 : am_fw RX9 50 9 7 := ⟨(RX9, TX9, 12), cl_9, by decide, am_mem 241 (by decide +kernel) rfl⟩
theorem fw_9_54 : am_fw RX9 54 9 8 := ⟨(RX9, TX9, 12), cl_9, by decide, am_mem 242 (by decide +kernel) rfl⟩
theorem fw_9_135 : am_fw RX9 135 8 1 := ⟨(RX8, TX8, 2), cl_8, by decide, am_mem 144 (by decide +kernel) rfl⟩
theorem lk_9_138 : am_lk RX9 138 eX8_says := am_mem 756 (by decide +kernel) rfl
theorem fw_9_42 : am_fw RX9 42 9 5 := ⟨(RX9, TX9, 12), cl_9, by decide, am_mem 239 (by decide +kernel) rfl⟩
theorem fw_9_142 : am_fw RX9 142 0 4 := ⟨(RX0, TX0, 6), cl_0, by decide, am_mem 218 (by decide +kernel) rfl⟩
theorem lk_9_148 : am_lk RX9 148 eX0_keepNumber := am_mem 780 (by decide +kernel) rfl
theorem lk_9_151 : am_lk RX9 151 eX0_isKept := am_mem 803 (by decide +kernel) rfl
theorem lk_9_155 : am_lk RX9 155 eX0_keepPair := am_mem 807 (by decide +kernel) rfl
theorem fw_9_46 : am_fw RX9 46 9 6 := ⟨(RX9, TX9, 12), cl_9, by decide, am_mem 240 (by decide +kernel) rfl⟩
theorem lk_9_159 : am_lk RX9 159 eX0_dropAll := am_mem 299 (by decide +kernel) rfl
theorem lk_9_162 : am_lk RX9 162 eX0_dropUnkept := am_mem 829 (by decide +kernel) rfl
theorem nw_9_165 : am_nwd RX9 165 4 (RX4, TX4, 6) := ⟨cl_4, am_mem 830 (by decide +kernel) rfl, am_mem 831 (by decide +kernel) rfl, am_mem 101 (by decide +kernel) rfl⟩
theorem lk_9_167 : am_lk RX9 167 eX4_init := am_mem 832 (by decide +kernel) rfl
theorem lk_9_170 : am_lk RX9 170 eX4_evaluateAll := am_mem 859 (by decide +kernel) rfl
theorem fw_9_174 : am_fw RX9 174 4 4 := ⟨(RX4, TX4, 6), cl_4, by decide, am_mem 843 (by decide +kernel) rfl⟩
theorem fw_9_177 : am_fw RX9 177 4 5 := ⟨(RX4, TX4, 6), cl_4, by decide, am_mem 845 (by decide +kernel) rfl⟩
theorem fw_9_62 : am_fw RX9 62 9 10 := ⟨(RX9, TX9, 12), cl_9, by decide, am_mem 244 (by decide +kernel) rfl⟩
theorem fw_9_65 : am_fw RX9 65 9 11 := ⟨(RX9, TX9, 12), cl_9, by decide, am_mem 245 (by decide +kernel) rfl⟩
theorem fw_9_180 : am_fw RX9 180 0 5 := ⟨(RX0, TX0, 6), cl_0, by decide, am_mem 220 (by decide +kernel) rfl⟩
theorem lk_9_183 : am_lk RX9 183 eX0_part := am_mem 914 (by decide +kernel) rfl
theorem lk_9_186 : am_lk RX9 186 eX9_functionIndex := am_mem 376 (by decide +kernel) rfl
theorem lo_10_1 : Cond.methodLink RX10 1 Lib.objectInit ∈ am_tbl := am_mem 920 (by decide +kernel) rfl
theorem pw_10_9 : am_pw RX10 9 10 1 false .int := ⟨(RX10, TX10, 59), cl_10, by decide, am_mem 922 (by decide +kernel) rfl, rfl, by decide +kernel, fun h => nomatch h⟩
theorem pw_10_13 : am_pw RX10 13 10 3 true (.array .int) := ⟨(RX10, TX10, 59), cl_10, by decide, am_mem 924 (by decide +kernel) rfl, rfl, by decide +kernel, fun _ => rfl⟩
theorem pw_10_17 : am_pw RX10 17 10 4 true (.array .int) := ⟨(RX10, TX10, 59), cl_10, by decide, am_mem 925 (by decide +kernel) rfl, rfl, by decide +kernel, fun _ => rfl⟩
theorem pw_10_20 : am_pw RX10 20 10 5 true (.array .int) := ⟨(RX10, TX10, 59), cl_10, by decide, am_mem 926 (by decide +kernel) rfl, rfl, by decide +kernel, fun _ => rfl⟩
theorem pw_10_23 : am_pw RX10 23 10 6 true (.array .int) := ⟨(RX10, TX10, 59), cl_10, by decide, am_mem 927 (by decide +kernel) rfl, rfl, by decide +kernel, fun _ => rfl⟩
theorem pw_10_26 : am_pw RX10 26 10 7 true (.array .int) := ⟨(RX10, TX10, 59), cl_10, by decide, am_mem 928 (by decide +kernel) rfl, rfl, by decide +kernel, fun _ => rfl⟩
theorem pw_10_29 : am_pw RX10 29 10 8 true (.array .int) := ⟨(RX10, TX10, 59), cl_10, by decide, am_mem 929 (by decide +kernel) rfl, rfl, by decide +kernel, fun _ => rfl⟩
theorem pw_10_32 : am_pw RX10 32 10 9 true (.array .int) := ⟨(RX10, TX10, 59), cl_10, by decide, am_mem 930 (by decide +kernel) rfl, rfl, by decide +kernel, fun _ => rfl⟩
theorem pw_10_35 : am_pw RX10 35 10 10 true (.array .int) := ⟨(RX10, TX10, 59), cl_10, by decide, am_mem 931 (by decide +kernel) rfl, rfl, by decide +kernel, fun _ => rfl⟩
theorem pw_10_38 : am_pw RX10 38 10 11 true (.array .int) := ⟨(RX10, TX10, 59), cl_10, by decide, am_mem 932 (by decide +kernel) rfl, rfl, by decide +kernel, fun _ => rfl⟩
theorem pw_10_41 : am_pw RX10 41 10 12 true (.array .boolean) := ⟨(RX10, TX10, 59), cl_10, by decide, am_mem 933 (by decide +kernel) rfl, rfl, by decide +kernel, fun _ => rfl⟩
theorem pw_10_45 : am_pw RX10 45 10 13 true (.array .int) := ⟨(RX10, TX10, 59), cl_10, by decide, am_mem 934 (by decide +kernel) rfl, rfl, by decide +kernel, fun _ => rfl⟩
theorem pw_10_48 : am_pw RX10 48 10 14 true (.array .int) := ⟨(RX10, TX10, 59), cl_10, by decide, am_mem 935 (by decide +kernel) rfl, rfl, by decide +kernel, fun _ => rfl⟩
theorem pw_10_51 : am_pw RX10 51 10 15 true (.array .int) := ⟨(RX10, TX10, 59), cl_10, by decide, am_mem 936 (by decide +kernel) rfl, rfl, by decide +kernel, fun _ => rfl⟩
theorem pw_10_54 : am_pw RX10 54 10 16 true (.array .int) := ⟨(RX10, TX10, 59), cl_10, by decide, am_mem 937 (by decide +kernel) rfl, rfl, by decide +kernel, fun _ => rfl⟩
theorem pw_10_57 : am_pw RX10 57 10 17 true (.array .int) := ⟨(RX10, TX10, 59), cl_10, by decide, am_mem 938 (by decide +kernel) rfl, rfl, by decide +kernel, fun _ => rfl⟩
theorem pw_10_60 : am_pw RX10 60 10 24 true (.array .int) := ⟨(RX10, TX10, 59), cl_10, by decide, am_mem 945 (by decide +kernel) rfl, rfl, by decide +kernel, fun _ => rfl⟩
theorem pw_10_63 : am_pw RX10 63 10 25 true (.array .int) := ⟨(RX10, TX10, 59), cl_10, by decide, am_mem 946 (by decide +kernel) rfl, rfl, by decide +kernel, fun _ => rfl⟩
theorem pw_10_66 : am_pw RX10 66 10 26 true (.array .long) := ⟨(RX10, TX10, 59), cl_10, by decide, am_mem 947 (by decide +kernel) rfl, rfl, by decide +kernel, fun _ => rfl⟩
theorem pw_10_70 : am_pw RX10 70 10 27 true (.array .long) := ⟨(RX10, TX10, 59), cl_10, by decide, am_mem 948 (by decide +kernel) rfl, rfl, by decide +kernel, fun _ => rfl⟩
theorem pw_10_73 : am_pw RX10 73 10 28 true (.array .long) := ⟨(RX10, TX10, 59), cl_10, by decide, am_mem 949 (by decide +kernel) rfl, rfl, by decide +kernel, fun _ => rfl⟩
theorem pw_10_76 : am_pw RX10 76 10 29 true (.array .int) := ⟨(RX10, TX10, 59), cl_10, by decide, am_mem 950 (by decide +kernel) rfl, rfl, by decide +kernel, fun _ => rfl⟩
theorem pw_10_79 : am_pw RX10 79 10 30 true (.array .int) := ⟨(RX10, TX10, 59), cl_10, by decide, am_mem 951 (by decide +kernel) rfl, rfl, by decide +kernel, fun _ => rfl⟩
theorem pw_10_82 : am_pw RX10 82 10 31 true (.array .int) := ⟨(RX10, TX10, 59), cl_10, by decide, am_mem 952 (by decide +kernel) rfl, rfl, by decide +kernel, fun _ => rfl⟩
theorem pw_10_85 : am_pw RX10 85 10 32 true (.array .int) := ⟨(RX10, TX10, 59), cl_10, by decide, am_mem 953 (by decide +kernel) rfl, rfl, by decide +kernel, fun _ => rfl⟩
theorem pw_10_88 : am_pw RX10 88 10 33 true (.array .boolean) := ⟨(RX10, TX10, 59), cl_10, by decide, am_mem 954 (by decide +kernel) rfl, rfl, by decide +kernel, fun _ => rfl⟩
theorem pw_10_91 : am_pw RX10 91 10 34 true (.array .long) := ⟨(RX10, TX10, 59), cl_10, by decide, am_mem 955 (by decide +kernel) rfl, rfl, by decide +kernel, fun _ => rfl⟩
theorem pw_10_94 : am_pw RX10 94 10 35 true (.array .long) := ⟨(RX10, TX10, 59), cl_10, by decide, am_mem 956 (by decide +kernel) rfl, rfl, by decide +kernel, fun _ => rfl⟩
theorem pw_10_97 : am_pw RX10 97 10 36 true (.array .long) := ⟨(RX10, TX10, 59), cl_10, by decide, am_mem 957 (by decide +kernel) rfl, rfl, by decide +kernel, fun _ => rfl⟩
theorem pw_10_100 : am_pw RX10 100 10 37 true (.array .long) := ⟨(RX10, TX10, 59), cl_10, by decide, am_mem 958 (by decide +kernel) rfl, rfl, by decide +kernel, fun _ => rfl⟩
theorem pw_10_103 : am_pw RX10 103 10 40 false .int := ⟨(RX10, TX10, 59), cl_10, by decide, am_mem 961 (by decide +kernel) rfl, rfl, by decide +kernel, fun h => nomatch h⟩
theorem pw_10_106 : am_pw RX10 106 10 41 true (.array .int) := ⟨(RX10, TX10, 59), cl_10, by decide, am_mem 962 (by decide +kernel) rfl, rfl, by decide +kernel, fun _ => rfl⟩
theorem pw_10_109 : am_pw RX10 109 10 42 true (.array .int) := ⟨(RX10, TX10, 59), cl_10, by decide, am_mem 963 (by decide +kernel) rfl, rfl, by decide +kernel, fun _ => rfl⟩
theorem pw_10_112 : am_pw RX10 112 10 43 true (.array .int) := ⟨(RX10, TX10, 59), cl_10, by decide, am_mem 964 (by decide +kernel) rfl, rfl, by decide +kernel, fun _ => rfl⟩
theorem pw_10_115 : am_pw RX10 115 10 44 true (.array .int) := ⟨(RX10, TX10, 59), cl_10, by decide, am_mem 965 (by decide +kernel) rfl, rfl, by decide +kernel, fun _ => rfl⟩
theorem pw_10_118 : am_pw RX10 118 10 45 true (.array .int) := ⟨(RX10, TX10, 59), cl_10, by decide, am_mem 966 (by decide +kernel) rfl, rfl, by decide +kernel, fun _ => rfl⟩
theorem pw_10_121 : am_pw RX10 121 10 47 false .int := ⟨(RX10, TX10, 59), cl_10, by decide, am_mem 968 (by decide +kernel) rfl, rfl, by decide +kernel, fun h => nomatch h⟩
theorem pw_10_124 : am_pw RX10 124 10 51 true (.array .int) := ⟨(RX10, TX10, 59), cl_10, by decide, am_mem 972 (by decide +kernel) rfl, rfl, by decide +kernel, fun _ => rfl⟩
theorem pw_10_127 : am_pw RX10 127 10 52 true (.array .int) := ⟨(RX10, TX10, 59), cl_10, by decide, am_mem 973 (by decide +kernel) rfl, rfl, by decide +kernel, fun _ => rfl⟩
theorem pw_10_130 : am_pw RX10 130 10 53 true (.array .int) := ⟨(RX10, TX10, 59), cl_10, by decide, am_mem 974 (by decide +kernel) rfl, rfl, by decide +kernel, fun _ => rfl⟩
theorem pw_10_133 : am_pw RX10 133 10 54 true (.array .int) := ⟨(RX10, TX10, 59), cl_10, by decide, am_mem 975 (by decide +kernel) rfl, rfl, by decide +kernel, fun _ => rfl⟩
theorem pw_10_136 : am_pw RX10 136 10 55 true (.array .int) := ⟨(RX10, TX10, 59), cl_10, by decide, am_mem 976 (by decide +kernel) rfl, rfl, by decide +kernel, fun _ => rfl⟩
theorem pw_10_139 : am_pw RX10 139 10 56 true (.array .long) := ⟨(RX10, TX10, 59), cl_10, by decide, am_mem 977 (by decide +kernel) rfl, rfl, by decide +kernel, fun _ => rfl⟩
theorem pw_10_142 : am_pw RX10 142 10 57 true (.array .long) := ⟨(RX10, TX10, 59), cl_10, by decide, am_mem 978 (by decide +kernel) rfl, rfl, by decide +kernel, fun _ => rfl⟩
theorem pw_10_145 : am_pw RX10 145 10 58 true (.array .long) := ⟨(RX10, TX10, 59), cl_10, by decide, am_mem 979 (by decide +kernel) rfl, rfl, by decide +kernel, fun _ => rfl⟩
theorem fw_10_106 : am_fw RX10 106 10 41 := ⟨(RX10, TX10, 59), cl_10, by decide, am_mem 962 (by decide +kernel) rfl⟩
theorem fw_10_109 : am_fw RX10 109 10 42 := ⟨(RX10, TX10, 59), cl_10, by decide, am_mem 963 (by decide +kernel) rfl⟩
theorem fw_10_112 : am_fw RX10 112 10 43 := ⟨(RX10, TX10, 59), cl_10, by decide, am_mem 964 (by decide +kernel) rfl⟩
theorem fw_10_115 : am_fw RX10 115 10 44 := ⟨(RX10, TX10, 59), cl_10, by decide, am_mem 965 (by decide +kernel) rfl⟩
theorem fw_10_148 : am_fw RX10 148 10 0 := ⟨(RX10, TX10, 59), cl_10, by decide, am_mem 921 (by decide +kernel) rfl⟩
theorem pw_10_148 : am_pw RX10 148 10 0 false .int := ⟨(RX10, TX10, 59), cl_10, by decide, am_mem 921 (by decide +kernel) rfl, rfl, by decide +kernel, fun h => nomatch h⟩
theorem fw_10_151 : am_fw RX10 151 10 2 := ⟨(RX10, TX10, 59), cl_10, by decide, am_mem 923 (by decide +kernel) rfl⟩
theorem fw_10_13 : am_fw RX10 13 10 3 := ⟨(RX10, TX10, 59), cl_10, by decide, am_mem 924 (by decide +kernel) rfl⟩
theorem pw_10_151 : am_pw RX10 151 10 2 false .int := ⟨(RX10, TX10, 59), cl_10, by decide, am_mem 923 (by decide +kernel) rfl, rfl, by decide +kernel, fun h => nomatch h⟩
theorem fw_10_154 : am_fw RX10 154 10 20 := ⟨(RX10, TX10, 59), cl_10, by decide, am_mem 941 (by decide +kernel) rfl⟩
theorem fw_10_38 : am_fw RX10 38 10 11 := ⟨(RX10, TX10, 59), cl_10, by decide, am_mem 932 (by decide +kernel) rfl⟩
theorem fw_10_17 : am_fw RX10 17 10 4 := ⟨(RX10, TX10, 59), cl_10, by decide, am_mem 925 (by decide +kernel) rfl⟩
theorem fw_10_29 : am_fw RX10 29 10 8 := ⟨(RX10, TX10, 59), cl_10, by decide, am_mem 929 (by decide +kernel) rfl⟩
theorem fw_10_32 : am_fw RX10 32 10 9 := ⟨(RX10, TX10, 59), cl_10, by decide, am_mem 930 (by decide +kernel) rfl⟩
theorem fw_10_20 : am_fw RX10 20 10 5 := ⟨(RX10, TX10, 59), cl_10, by decide, am_mem 926 (by decide +kernel) rfl⟩
theorem fw_10_23 : am_fw RX10 23 10 6 := ⟨(RX10, TX10, 59), cl_10, by decide, am_mem 927 (by decide +kernel) rfl⟩
theorem fw_10_26 : am_fw RX10 26 10 7 := ⟨(RX10, TX10, 59), cl_10, by decide, am_mem 928 (by decide +kernel) rfl⟩
theorem fw_10_41 : am_fw RX10 41 10 12 := ⟨(RX10, TX10, 59), cl_10, by decide, am_mem 933 (by decide +kernel) rfl⟩
theorem lk_10_157 : am_lk RX10 157 eX10_partsHad := am_mem 1155 (by decide +kernel) rfl
theorem fw_10_161 : am_fw RX10 161 10 22 := ⟨(RX10, TX10, 59), cl_10, by decide, am_mem 943 (by decide +kernel) rfl⟩
theorem pw_10_161 : am_pw RX10 161 10 22 false .int := ⟨(RX10, TX10, 59), cl_10, by decide, am_mem 943 (by decide +kernel) rfl, rfl, by decide +kernel, fun h => nomatch h⟩
theorem pw_10_164 : am_pw RX10 164 10 21 false .int := ⟨(RX10, TX10, 59), cl_10, by decide, am_mem 942 (by decide +kernel) rfl, rfl, by decide +kernel, fun h => nomatch h⟩
theorem fw_10_167 : am_fw RX10 167 10 23 := ⟨(RX10, TX10, 59), cl_10, by decide, am_mem 944 (by decide +kernel) rfl⟩
theorem lk_10_171 : am_lk RX10 171 eX10_readPart := am_mem 1128 (by decide +kernel) rfl
theorem lk_10_175 : am_lk RX10 175 eX10_peek := am_mem 1116 (by decide +kernel) rfl
theorem lk_10_178 : am_lk RX10 178 eX10_create := am_mem 1132 (by decide +kernel) rfl
theorem fw_10_164 : am_fw RX10 164 10 21 := ⟨(RX10, TX10, 59), cl_10, by decide, am_mem 942 (by decide +kernel) rfl⟩
theorem lk_10_182 : am_lk RX10 182 eX10_readBracket := am_mem 1136 (by decide +kernel) rfl
theorem pw_10_167 : am_pw RX10 167 10 23 false .boolean := ⟨(RX10, TX10, 59), cl_10, by decide, am_mem 944 (by decide +kernel) rfl, rfl, by decide +kernel, fun h => nomatch h⟩
theorem pw_10_154 : am_pw RX10 154 10 20 false .int := ⟨(RX10, TX10, 59), cl_10, by decide, am_mem 941 (by decide +kernel) rfl, rfl, by decide +kernel, fun h => nomatch h⟩
theorem lk_10_185 : am_lk RX10 185 eX10_close := am_mem 1147 (by decide +kernel) rfl
theorem lk_10_189 : am_lk RX10 189 eX10_partsOf := am_mem 1140 (by decide +kernel) rfl
theorem lk_10_192 : am_lk RX10 192 eX10_isLocal := am_mem 1144 (by decide +kernel) rfl
theorem fw_10_60 : am_fw RX10 60 10 24 := ⟨(RX10, TX10, 59), cl_10, by decide, am_mem 945 (by decide +kernel) rfl⟩
theorem lk_10_196 : am_lk RX10 196 eX10_give := am_mem 1151 (by decide +kernel) rfl
theorem lk_10_200 : am_lk RX10 200 eX10_readExpression := am_mem 1124 (by decide +kernel) rfl
theorem fw_10_35 : am_fw RX10 35 10 10 := ⟨(RX10, TX10, 59), cl_10, by decide, am_mem 931 (by decide +kernel) rfl⟩
theorem lk_10_203 : am_lk RX10 203 eX10_moved := am_mem 1292 (by decide +kernel) rfl
theorem kl_10_207 : Cond.constantLong RX10 207 72057594037927935 ∈ am_tbl := am_mem 1166 (by decide +kernel) rfl
theorem kl_10_209 : Cond.constantLong RX10 209 (-1) ∈ am_tbl := am_mem 1170 (by decide +kernel) rfl
theorem lk_10_211 : am_lk RX10 211 eX10_isImpossible := am_mem 1186 (by decide +kernel) rfl
theorem lk_10_215 : am_lk RX10 215 eX10_clear := am_mem 1189 (by decide +kernel) rfl
theorem lk_10_219 : am_lk RX10 219 eX10_five := am_mem 1175 (by decide +kernel) rfl
theorem fw_10_76 : am_fw RX10 76 10 29 := ⟨(RX10, TX10, 59), cl_10, by decide, am_mem 950 (by decide +kernel) rfl⟩
theorem fw_10_79 : am_fw RX10 79 10 30 := ⟨(RX10, TX10, 59), cl_10, by decide, am_mem 951 (by decide +kernel) rfl⟩
theorem fw_10_97 : am_fw RX10 97 10 36 := ⟨(RX10, TX10, 59), cl_10, by decide, am_mem 957 (by decide +kernel) rfl⟩
theorem fw_10_70 : am_fw RX10 70 10 27 := ⟨(RX10, TX10, 59), cl_10, by decide, am_mem 948 (by decide +kernel) rfl⟩
theorem lk_10_222 : am_lk RX10 222 eX10_copy := am_mem 1179 (by decide +kernel) rfl
theorem fw_10_100 : am_fw RX10 100 10 37 := ⟨(RX10, TX10, 59), cl_10, by decide, am_mem 958 (by decide +kernel) rfl⟩
theorem fw_10_73 : am_fw RX10 73 10 28 := ⟨(RX10, TX10, 59), cl_10, by decide, am_mem 949 (by decide +kernel) rfl⟩
theorem lk_10_226 : am_lk RX10 226 eX10_settle := am_mem 1196 (by decide +kernel) rfl
theorem fw_10_66 : am_fw RX10 66 10 26 := ⟨(RX10, TX10, 59), cl_10, by decide, am_mem 947 (by decide +kernel) rfl⟩
theorem fw_10_82 : am_fw RX10 82 10 31 := ⟨(RX10, TX10, 59), cl_10, by decide, am_mem 952 (by decide +kernel) rfl⟩
theorem fw_10_63 : am_fw RX10 63 10 25 := ⟨(RX10, TX10, 59), cl_10, by decide, am_mem 946 (by decide +kernel) rfl⟩
theorem pw_10_229 : am_pw RX10 229 10 38 false .boolean := ⟨(RX10, TX10, 59), cl_10, by decide, am_mem 959 (by decide +kernel) rfl, rfl, by decide +kernel, fun h => nomatch h⟩
theorem fw_10_229 : am_fw RX10 229 10 38 := ⟨(RX10, TX10, 59), cl_10, by decide, am_mem 959 (by decide +kernel) rfl⟩
theorem lk_10_232 : am_lk RX10 232 eX10_nextPart := am_mem 1182 (by decide +kernel) rfl
theorem lk_10_235 : am_lk RX10 235 eX10_finish := am_mem 1192 (by decide +kernel) rfl
theorem lk_10_239 : am_lk RX10 239 eX10_conclude := am_mem 1199 (by decide +kernel) rfl
theorem lk_10_243 : am_lk RX10 243 eX10_enter := am_mem 1284 (by decide +kernel) rfl
theorem fw_10_88 : am_fw RX10 88 10 33 := ⟨(RX10, TX10, 59), cl_10, by decide, am_mem 954 (by decide +kernel) rfl⟩
theorem lk_10_246 : am_lk RX10 246 eX10_placeOf := am_mem 1228 (by decide +kernel) rfl
theorem fw_10_85 : am_fw RX10 85 10 32 := ⟨(RX10, TX10, 59), cl_10, by decide, am_mem 953 (by decide +kernel) rfl⟩
theorem lk_10_249 : am_lk RX10 249 eX10_typeOf := am_mem 1232 (by decide +kernel) rfl
theorem lk_10_252 : am_lk RX10 252 eX10_say := am_mem 1167 (by decide +kernel) rfl
theorem fw_10_91 : am_fw RX10 91 10 34 := ⟨(RX10, TX10, 59), cl_10, by decide, am_mem 955 (by decide +kernel) rfl⟩
theorem fw_10_94 : am_fw RX10 94 10 35 := ⟨(RX10, TX10, 59), cl_10, by decide, am_mem 956 (by decide +kernel) rfl⟩
theorem lk_10_256 : am_lk RX10 256 eX10_start := am_mem 1203 (by decide +kernel) rfl
theorem lk_10_259 : am_lk RX10 259 eX10_concludeVariable := am_mem 1207 (by decide +kernel) rfl
theorem lk_10_262 : am_lk RX10 262 eX10_concludeTest := am_mem 1224 (by decide +kernel) rfl
theorem lk_10_265 : am_lk RX10 265 eX10_concludeNot := am_mem 1236 (by decide +kernel) rfl
theorem lk_10_268 : am_lk RX10 268 eX10_concludeHalf := am_mem 1240 (by decide +kernel) rfl
theorem lk_10_271 : am_lk RX10 271 eX10_concludeSum := am_mem 1251 (by decide +kernel) rfl
theorem lk_10_274 : am_lk RX10 274 eX10_concludeIf := am_mem 1255 (by decide +kernel) rfl
theorem lk_10_277 : am_lk RX10 277 eX10_concludeAnd := am_mem 1262 (by decide +kernel) rfl
theorem lk_10_280 : am_lk RX10 280 eX10_concludeOr := am_mem 1266 (by decide +kernel) rfl
theorem lk_10_283 : am_lk RX10 283 eX10_concludeLet := am_mem 1270 (by decide +kernel) rfl
theorem lk_10_286 : am_lk RX10 286 eX10_concludeCall := am_mem 1277 (by decide +kernel) rfl
theorem lk_10_289 : am_lk RX10 289 eX10_restrict := am_mem 1215 (by decide +kernel) rfl
theorem lk_10_292 : am_lk RX10 292 eX10_split := am_mem 1211 (by decide +kernel) rfl
theorem lk_10_295 : am_lk RX10 295 eX10_both := am_mem 1218 (by decide +kernel) rfl
theorem lk_10_298 : am_lk RX10 298 eX10_said := am_mem 1221 (by decide +kernel) rfl
theorem lk_10_302 : am_lk RX10 302 eX10_refuse := am_mem 1244 (by decide +kernel) rfl
theorem lk_10_305 : am_lk RX10 305 eX10_further := am_mem 1248 (by decide +kernel) rfl
theorem lk_10_309 : am_lk RX10 309 eX10_either := am_mem 1259 (by decide +kernel) rfl
theorem lk_10_312 : am_lk RX10 312 eX10_drop := am_mem 1274 (by decide +kernel) rfl
theorem fw_10_48 : am_fw RX10 48 10 14 := ⟨(RX10, TX10, 59), cl_10, by decide, am_mem 935 (by decide +kernel) rfl⟩
theorem lk_10_315 : am_lk RX10 315 eX10_joined := am_mem 1281 (by decide +kernel) rfl
theorem fw_10_54 : am_fw RX10 54 10 16 := ⟨(RX10, TX10, 59), cl_10, by decide, am_mem 937 (by decide +kernel) rfl⟩
theorem fw_10_57 : am_fw RX10 57 10 17 := ⟨(RX10, TX10, 59), cl_10, by decide, am_mem 938 (by decide +kernel) rfl⟩
theorem fw_10_51 : am_fw RX10 51 10 15 := ⟨(RX10, TX10, 59), cl_10, by decide, am_mem 936 (by decide +kernel) rfl⟩
theorem lk_10_318 : am_lk RX10 318 eX10_readRest := am_mem 1120 (by decide +kernel) rfl
theorem lk_10_321 : am_lk RX10 321 eX10_fail := am_mem 1158 (by decide +kernel) rfl
theorem fw_10_139 : am_fw RX10 139 10 56 := ⟨(RX10, TX10, 59), cl_10, by decide, am_mem 977 (by decide +kernel) rfl⟩
theorem lk_10_324 : am_lk RX10 324 eX10_everything := am_mem 1162 (by decide +kernel) rfl
theorem lk_10_328 : am_lk RX10 328 eX10_accepts := am_mem 1171 (by decide +kernel) rfl
theorem fw_10_45 : am_fw RX10 45 10 13 := ⟨(RX10, TX10, 59), cl_10, by decide, am_mem 934 (by decide +kernel) rfl⟩
theorem lk_10_332 : am_lk RX10 332 eX10_move := am_mem 1288 (by decide +kernel) rfl
theorem pw_10_335 : am_pw RX10 335 10 18 false .boolean := ⟨(RX10, TX10, 59), cl_10, by decide, am_mem 939 (by decide +kernel) rfl, rfl, by decide +kernel, fun h => nomatch h⟩
theorem pw_10_338 : am_pw RX10 338 10 19 false .boolean := ⟨(RX10, TX10, 59), cl_10, by decide, am_mem 940 (by decide +kernel) rfl, rfl, by decide +kernel, fun h => nomatch h⟩
theorem fw_10_338 : am_fw RX10 338 10 19 := ⟨(RX10, TX10, 59), cl_10, by decide, am_mem 940 (by decide +kernel) rfl⟩
theorem fw_10_142 : am_fw RX10 142 10 57 := ⟨(RX10, TX10, 59), cl_10, by decide, am_mem 978 (by decide +kernel) rfl⟩
theorem fw_10_145 : am_fw RX10 145 10 58 := ⟨(RX10, TX10, 59), cl_10, by decide, am_mem 979 (by decide +kernel) rfl⟩
theorem fw_10_9 : am_fw RX10 9 10 1 := ⟨(RX10, TX10, 59), cl_10, by decide, am_mem 922 (by decide +kernel) rfl⟩
theorem fw_10_335 : am_fw RX10 335 10 18 := ⟨(RX10, TX10, 59), cl_10, by decide, am_mem 939 (by decide +kernel) rfl⟩
theorem fw_10_341 : am_fw RX10 341 10 39 := ⟨(RX10, TX10, 59), cl_10, by decide, am_mem 960 (by decide +kernel) rfl⟩
theorem fw_10_103 : am_fw RX10 103 10 40 := ⟨(RX10, TX10, 59), cl_10, by decide, am_mem 961 (by decide +kernel) rfl⟩
theorem lk_10_344 : am_lk RX10 344 eX10_removeRun := am_mem 1315 (by decide +kernel) rfl
theorem pw_10_341 : am_pw RX10 341 10 39 false .int := ⟨(RX10, TX10, 59), cl_10, by decide, am_mem 960 (by decide +kernel) rfl, rfl, by decide +kernel, fun h => nomatch h⟩
theorem lk_10_347 : am_lk RX10 347 eX10_make := am_mem 1319 (by decide +kernel) rfl
theorem lk_10_351 : am_lk RX10 351 eX10_isMade := am_mem 1327 (by decide +kernel) rfl
theorem fw_10_118 : am_fw RX10 118 10 45 := ⟨(RX10, TX10, 59), cl_10, by decide, am_mem 966 (by decide +kernel) rfl⟩
theorem fw_10_124 : am_fw RX10 124 10 51 := ⟨(RX10, TX10, 59), cl_10, by decide, am_mem 972 (by decide +kernel) rfl⟩
theorem fw_10_354 : am_fw RX10 354 10 49 := ⟨(RX10, TX10, 59), cl_10, by decide, am_mem 970 (by decide +kernel) rfl⟩
theorem fw_10_127 : am_fw RX10 127 10 52 := ⟨(RX10, TX10, 59), cl_10, by decide, am_mem 973 (by decide +kernel) rfl⟩
theorem fw_10_130 : am_fw RX10 130 10 53 := ⟨(RX10, TX10, 59), cl_10, by decide, am_mem 974 (by decide +kernel) rfl⟩
theorem pw_10_354 : am_pw RX10 354 10 49 false .int := ⟨(RX10, TX10, 59), cl_10, by decide, am_mem 970 (by decide +kernel) rfl, rfl, by decide +kernel, fun h => nomatch h⟩
theorem pw_10_357 : am_pw RX10 357 10 50 false .int := ⟨(RX10, TX10, 59), cl_10, by decide, am_mem 971 (by decide +kernel) rfl, rfl, by decide +kernel, fun h => nomatch h⟩
theorem pw_10_360 : am_pw RX10 360 10 48 false .int := ⟨(RX10, TX10, 59), cl_10, by decide, am_mem 969 (by decide +kernel) rfl, rfl, by decide +kernel, fun h => nomatch h⟩
theorem fw_10_133 : am_fw RX10 133 10 54 := ⟨(RX10, TX10, 59), cl_10, by decide, am_mem 975 (by decide +kernel) rfl⟩
theorem fw_10_357 : am_fw RX10 357 10 50 := ⟨(RX10, TX10, 59), cl_10, by decide, am_mem 971 (by decide +kernel) rfl⟩
theorem lk_10_363 : am_lk RX10 363 eX10_leaf := am_mem 1351 (by decide +kernel) rfl
theorem lk_10_366 : am_lk RX10 366 eX10_begin := am_mem 1343 (by decide +kernel) rfl
theorem lk_10_369 : am_lk RX10 369 eX10_callOn := am_mem 1359 (by decide +kernel) rfl
theorem lk_10_372 : am_lk RX10 372 eX10_unary := am_mem 1363 (by decide +kernel) rfl
theorem lk_10_375 : am_lk RX10 375 eX10_choose := am_mem 1374 (by decide +kernel) rfl
theorem fw_10_136 : am_fw RX10 136 10 55 := ⟨(RX10, TX10, 59), cl_10, by decide, am_mem 976 (by decide +kernel) rfl⟩
theorem lk_10_378 : am_lk RX10 378 eX10_end := am_mem 1355 (by decide +kernel) rfl
theorem lk_10_381 : am_lk RX10 381 eX10_binary := am_mem 1378 (by decide +kernel) rfl
theorem lk_10_384 : am_lk RX10 384 eX10_truth := am_mem 1367 (by decide +kernel) rfl
theorem lk_10_388 : am_lk RX10 388 eX10_stop := am_mem 1370 (by decide +kernel) rfl
theorem pw_10_391 : am_pw RX10 391 10 46 false .int := ⟨(RX10, TX10, 59), cl_10, by decide, am_mem 967 (by decide +kernel) rfl, rfl, by decide +kernel, fun h => nomatch h⟩
theorem fw_10_391 : am_fw RX10 391 10 46 := ⟨(RX10, TX10, 59), cl_10, by decide, am_mem 967 (by decide +kernel) rfl⟩
theorem lk_10_394 : am_lk RX10 394 eX10_goOn := am_mem 1347 (by decide +kernel) rfl
theorem fw_10_360 : am_fw RX10 360 10 48 := ⟨(RX10, TX10, 59), cl_10, by decide, am_mem 969 (by decide +kernel) rfl⟩
theorem fw_10_121 : am_fw RX10 121 10 47 := ⟨(RX10, TX10, 59), cl_10, by decide, am_mem 968 (by decide +kernel) rfl⟩
theorem lo_0_3 : Cond.methodLink RX0 3 Lib.objectInit ∈ am_tbl := am_mem 212 (by decide +kernel) rfl
theorem pw_0_9 : am_pw RX0 9 0 0 true (.array .int) := ⟨(RX0, TX0, 6), cl_0, by decide, am_mem 213 (by decide +kernel) rfl, rfl, by decide +kernel, fun _ => rfl⟩
theorem pw_0_15 : am_pw RX0 15 0 1 true (.array .int) := ⟨(RX0, TX0, 6), cl_0, by decide, am_mem 214 (by decide +kernel) rfl, rfl, by decide +kernel, fun _ => rfl⟩
theorem pw_0_18 : am_pw RX0 18 0 2 true (.array .int) := ⟨(RX0, TX0, 6), cl_0, by decide, am_mem 215 (by decide +kernel) rfl, rfl, by decide +kernel, fun _ => rfl⟩
theorem pw_0_21 : am_pw RX0 21 0 3 true (.array .int) := ⟨(RX0, TX0, 6), cl_0, by decide, am_mem 216 (by decide +kernel) rfl, rfl, by decide +kernel, fun _ => rfl⟩
theorem pw_0_24 : am_pw RX0 24 0 4 false .int := ⟨(RX0, TX0, 6), cl_0, by decide, am_mem 217 (by decide +kernel) rfl, rfl, by decide +kernel, fun h => nomatch h⟩
theorem pw_0_28 : am_pw RX0 28 0 5 false .int := ⟨(RX0, TX0, 6), cl_0, by decide, am_mem 219 (by decide +kernel) rfl, rfl, by decide +kernel, fun h => nomatch h⟩
theorem fw_0_9 : am_fw RX0 9 0 0 := ⟨(RX0, TX0, 6), cl_0, by decide, am_mem 213 (by decide +kernel) rfl⟩
theorem fw_0_18 : am_fw RX0 18 0 2 := ⟨(RX0, TX0, 6), cl_0, by decide, am_mem 215 (by decide +kernel) rfl⟩
theorem fw_0_21 : am_fw RX0 21 0 3 := ⟨(RX0, TX0, 6), cl_0, by decide, am_mem 216 (by decide +kernel) rfl⟩
theorem fw_0_15 : am_fw RX0 15 0 1 := ⟨(RX0, TX0, 6), cl_0, by decide, am_mem 214 (by decide +kernel) rfl⟩
theorem fw_0_24 : am_fw RX0 24 0 4 := ⟨(RX0, TX0, 6), cl_0, by decide, am_mem 217 (by decide +kernel) rfl⟩
theorem lk_0_31 : am_lk RX0 31 eX0_dropUnkept := am_mem 784 (by decide +kernel) rfl
theorem lk_0_34 : am_lk RX0 34 eX0_addNumber := am_mem 788 (by decide +kernel) rfl
theorem lk_0_38 : am_lk RX0 38 eX0_addPair := am_mem 811 (by decide +kernel) rfl
theorem lk_0_42 : am_lk RX0 42 eX0_add := am_mem 792 (by decide +kernel) rfl
theorem fw_0_28 : am_fw RX0 28 0 5 := ⟨(RX0, TX0, 6), cl_0, by decide, am_mem 219 (by decide +kernel) rfl⟩
theorem lo_1_3 : Cond.methodLink RX1 3 Lib.objectInit ∈ am_tbl := am_mem 131 (by decide +kernel) rfl
theorem na_1_9 : Cond.classLink RX1 9 "TypedLisp$Finding" ∈ am_tbl := am_mem 132 (by decide +kernel) rfl
theorem pw_1_11 : am_pw RX1 11 1 0 true (.array (.object "TypedLisp$Finding")) := ⟨(RX1, TX1, 7), cl_1, by decide, am_mem 182 (by decide +kernel) rfl, rfl, by decide +kernel, fun _ => rfl⟩
theorem na_1_17 : Cond.classLink RX1 17 "TypedLisp$View" ∈ am_tbl := am_mem 134 (by decide +kernel) rfl
theorem pw_1_19 : am_pw RX1 19 1 1 true (.array (.object "TypedLisp$View")) := ⟨(RX1, TX1, 7), cl_1, by decide, am_mem 183 (by decide +kernel) rfl, rfl, by decide +kernel, fun _ => rfl⟩
theorem pw_1_23 : am_pw RX1 23 1 2 true (.array .int) := ⟨(RX1, TX1, 7), cl_1, by decide, am_mem 184 (by decide +kernel) rfl, rfl, by decide +kernel, fun _ => rfl⟩
theorem pw_1_27 : am_pw RX1 27 1 3 true (.array (.object "TypedLisp$Finding")) := ⟨(RX1, TX1, 7), cl_1, by decide, am_mem 185 (by decide +kernel) rfl, rfl, by decide +kernel, fun _ => rfl⟩
theorem nw_1_17 : am_nwd RX1 17 8 (RX8, TX8, 2) := ⟨cl_8, am_mem 134 (by decide +kernel) rfl, am_mem 136 (by decide +kernel) rfl, am_mem 86 (by decide +kernel) rfl⟩
theorem ln_1_30 : am_ln RX1 30 eX8_init := ⟨"TypedLisp", am_memN 137 (by decide +kernel)⟩
theorem pw_1_31 : am_pw RX1 31 1 4 true (.object "TypedLisp$View") := ⟨(RX1, TX1, 7), cl_1, by decide, am_mem 186 (by decide +kernel) rfl, rfl, by decide +kernel, fun _ => rfl⟩
theorem pw_1_35 : am_pw RX1 35 1 5 false (.array (.object "TypedLisp$Function")) := ⟨(RX1, TX1, 7), cl_1, by decide, am_mem 187 (by decide +kernel) rfl, rfl, by decide +kernel, fun h => nomatch h⟩
theorem pw_1_39 : am_pw RX1 39 1 6 false .int := ⟨(RX1, TX1, 7), cl_1, by decide, am_mem 188 (by decide +kernel) rfl, rfl, by decide +kernel, fun h => nomatch h⟩
theorem fw_1_11 : am_fw RX1 11 1 0 := ⟨(RX1, TX1, 7), cl_1, by decide, am_mem 182 (by decide +kernel) rfl⟩
theorem nw_1_9 : am_nwd RX1 9 2 (RX2, TX2, 4) := ⟨cl_2, am_mem 132 (by decide +kernel) rfl, am_mem 152 (by decide +kernel) rfl, am_mem 87 (by decide +kernel) rfl⟩
theorem ln_1_43 : am_ln RX1 43 eX2_init := ⟨"TypedLisp", am_memN 153 (by decide +kernel)⟩
theorem fw_1_19 : am_fw RX1 19 1 1 := ⟨(RX1, TX1, 7), cl_1, by decide, am_mem 183 (by decide +kernel) rfl⟩
theorem fw_1_31 : am_fw RX1 31 1 4 := ⟨(RX1, TX1, 7), cl_1, by decide, am_mem 186 (by decide +kernel) rfl⟩
theorem lk_1_44 : am_lk RX1 44 eX8_sayAnything := am_mem 532 (by decide +kernel) rfl
theorem lk_1_47 : am_lk RX1 47 eX8_restrict := am_mem 537 (by decide +kernel) rfl
theorem fw_1_23 : am_fw RX1 23 1 2 := ⟨(RX1, TX1, 7), cl_1, by decide, am_mem 184 (by decide +kernel) rfl⟩
theorem fw_1_27 : am_fw RX1 27 1 3 := ⟨(RX1, TX1, 7), cl_1, by decide, am_mem 185 (by decide +kernel) rfl⟩
theorem lk_1_51 : am_lk RX1 51 eX1_examine := am_mem 549 (by decide +kernel) rfl
theorem fw_1_55 : am_fw RX1 55 5 2 := ⟨(RX5, TX5, 7), cl_5, by decide, am_mem 424 (by decide +kernel) rfl⟩
theorem fw_1_60 : am_fw RX1 60 8 1 := ⟨(RX8, TX8, 2), cl_8, by decide, am_mem 143 (by decide +kernel) rfl⟩
theorem lk_1_64 : am_lk RX1 64 eX2_beUnchecked := am_mem 553 (by decide +kernel) rfl
theorem lk_1_67 : am_lk RX1 67 eX1_examineKind := am_mem 558 (by decide +kernel) rfl
theorem lk_1_71 : am_lk RX1 71 eX2_settle := am_mem 655 (by decide +kernel) rfl
theorem fw_1_74 : am_fw RX1 74 5 0 := ⟨(RX5, TX5, 7), cl_5, by decide, am_mem 420 (by decide +kernel) rfl⟩
theorem lk_1_77 : am_lk RX1 77 eX1_examineTest := am_mem 562 (by decide +kernel) rfl
theorem lk_1_80 : am_lk RX1 80 eX1_examineNot := am_mem 577 (by decide +kernel) rfl
theorem lk_1_83 : am_lk RX1 83 eX1_examineHalf := am_mem 582 (by decide +kernel) rfl
theorem lk_1_86 : am_lk RX1 86 eX1_examineTwo := am_mem 605 (by decide +kernel) rfl
theorem lk_1_89 : am_lk RX1 89 eX1_examineChoice := am_mem 609 (by decide +kernel) rfl
theorem lk_1_92 : am_lk RX1 92 eX1_examineAnd := am_mem 617 (by decide +kernel) rfl
theorem lk_1_95 : am_lk RX1 95 eX1_examineOr := am_mem 621 (by decide +kernel) rfl
theorem lk_1_98 : am_lk RX1 98 eX1_examineBinding := am_mem 625 (by decide +kernel) rfl
theorem lk_1_101 : am_lk RX1 101 eX1_examineCall := am_mem 629 (by decide +kernel) rfl
theorem fw_1_104 : am_fw RX1 104 5 3 := ⟨(RX5, TX5, 7), cl_5, by decide, am_mem 427 (by decide +kernel) rfl⟩
theorem lk_1_107 : am_lk RX1 107 eX1_examineConstant := am_mem 640 (by decide +kernel) rfl
theorem lk_1_111 : am_lk RX1 111 eX1_examineVariable := am_mem 644 (by decide +kernel) rfl
theorem lk_1_114 : am_lk RX1 114 eX2_assign := am_mem 569 (by decide +kernel) rfl
theorem lk_1_118 : am_lk RX1 118 eX1_refuse := am_mem 586 (by decide +kernel) rfl
theorem lk_1_122 : am_lk RX1 122 eX1_assignPlace := am_mem 593 (by decide +kernel) rfl
theorem fw_1_126 : am_fw RX1 126 2 2 := ⟨(RX2, TX2, 4), cl_2, by decide, am_mem 168 (by decide +kernel) rfl⟩
theorem lk_1_129 : am_lk RX1 129 eX8_keepBoth := am_mem 648 (by decide +kernel) rfl
theorem fw_1_133 : am_fw RX1 133 2 3 := ⟨(RX2, TX2, 4), cl_2, by decide, am_mem 172 (by decide +kernel) rfl⟩
theorem lk_1_136 : am_lk RX1 136 eX8_says := am_mem 597 (by decide +kernel) rfl
theorem fw_1_140 : am_fw RX1 140 5 4 := ⟨(RX5, TX5, 7), cl_5, by decide, am_mem 430 (by decide +kernel) rfl⟩
theorem ln_1_144 : am_ln RX1 144 eX9_testedKinds := ⟨"TypedLisp", am_memN 566 (by decide +kernel)⟩
theorem fw_1_147 : am_fw RX1 147 2 0 := ⟨(RX2, TX2, 4), cl_2, by decide, am_mem 162 (by decide +kernel) rfl⟩
theorem fw_1_150 : am_fw RX1 150 2 1 := ⟨(RX2, TX2, 4), cl_2, by decide, am_mem 164 (by decide +kernel) rfl⟩
theorem pw_1_147 : am_pw RX1 147 2 0 false .int := ⟨(RX2, TX2, 4), cl_2, by decide, am_mem 162 (by decide +kernel) rfl, rfl, by decide +kernel, fun h => nomatch h⟩
theorem pw_1_150 : am_pw RX1 150 2 1 false .int := ⟨(RX2, TX2, 4), cl_2, by decide, am_mem 164 (by decide +kernel) rfl, rfl, by decide +kernel, fun h => nomatch h⟩
theorem lk_1_153 : am_lk RX1 153 eX8_copy := am_mem 581 (by decide +kernel) rfl
theorem ln_1_156 : am_ln RX1 156 eX9_reach := ⟨"TypedLisp", am_memN 590 (by decide +kernel)⟩
theorem fw_1_160 : am_fw RX1 160 5 5 := ⟨(RX5, TX5, 7), cl_5, by decide, am_mem 433 (by decide +kernel) rfl⟩
theorem fw_1_163 : am_fw RX1 163 5 6 := ⟨(RX5, TX5, 7), cl_5, by decide, am_mem 436 (by decide +kernel) rfl⟩
theorem lk_1_166 : am_lk RX1 166 eX8_allowEither := am_mem 613 (by decide +kernel) rfl
theorem fw_1_35 : am_fw RX1 35 1 5 := ⟨(RX1, TX1, 7), cl_1, by decide, am_mem 187 (by decide +kernel) rfl⟩
theorem ln_1_169 : am_ln RX1 169 eX9_functionOf := ⟨"TypedLisp", am_memN 633 (by decide +kernel)⟩
theorem fw_1_173 : am_fw RX1 173 3 1 := ⟨(RX3, TX3, 5), cl_3, by decide, am_mem 683 (by decide +kernel) rfl⟩
theorem fw_1_178 : am_fw RX1 178 3 2 := ⟨(RX3, TX3, 5), cl_3, by decide, am_mem 685 (by decide +kernel) rfl⟩
theorem fw_1_179 : am_fw RX1 179 3 3 := ⟨(RX3, TX3, 5), cl_3, by decide, am_mem 687 (by decide +kernel) rfl⟩
theorem lk_1_183 : am_lk RX1 183 eX8_restrictFrom := am_mem 634 (by decide +kernel) rfl
theorem fw_1_187 : am_fw RX1 187 3 4 := ⟨(RX3, TX3, 5), cl_3, by decide, am_mem 689 (by decide +kernel) rfl⟩
theorem fw_1_190 : am_fw RX1 190 5 1 := ⟨(RX5, TX5, 7), cl_5, by decide, am_mem 422 (by decide +kernel) rfl⟩
theorem lo_2_3 : Cond.methodLink RX2 3 Lib.objectInit ∈ am_tbl := am_mem 156 (by decide +kernel) rfl
theorem pw_2_9 : am_pw RX2 9 2 0 false .int := ⟨(RX2, TX2, 4), cl_2, by decide, am_mem 159 (by decide +kernel) rfl, rfl, by decide +kernel, fun h => nomatch h⟩
theorem pw_2_15 : am_pw RX2 15 2 1 false .int := ⟨(RX2, TX2, 4), cl_2, by decide, am_mem 163 (by decide +kernel) rfl, rfl, by decide +kernel, fun h => nomatch h⟩
theorem nw_2_18 : am_nwd RX2 18 8 (RX8, TX8, 2) := ⟨cl_8, am_mem 157 (by decide +kernel) rfl, am_mem 136 (by decide +kernel) rfl, am_mem 86 (by decide +kernel) rfl⟩
theorem ln_2_20 : am_ln RX2 20 eX8_init := ⟨"TypedLisp", am_memN 158 (by decide +kernel)⟩
theorem pw_2_21 : am_pw RX2 21 2 2 true (.object "TypedLisp$View") := ⟨(RX2, TX2, 4), cl_2, by decide, am_mem 165 (by decide +kernel) rfl, rfl, by decide +kernel, fun _ => rfl⟩
theorem pw_2_25 : am_pw RX2 25 2 3 true (.object "TypedLisp$View") := ⟨(RX2, TX2, 4), cl_2, by decide, am_mem 169 (by decide +kernel) rfl, rfl, by decide +kernel, fun _ => rfl⟩
theorem fw_2_21 : am_fw RX2 21 2 2 := ⟨(RX2, TX2, 4), cl_2, by decide, am_mem 165 (by decide +kernel) rfl⟩
theorem lk_2_28 : am_lk RX2 28 eX8_copy := am_mem 573 (by decide +kernel) rfl
theorem fw_2_25 : am_fw RX2 25 2 3 := ⟨(RX2, TX2, 4), cl_2, by decide, am_mem 169 (by decide +kernel) rfl⟩
theorem lk_2_32 : am_lk RX2 32 eX8_sayNothing := am_mem 557 (by decide +kernel) rfl
theorem fw_2_9 : am_fw RX2 9 2 0 := ⟨(RX2, TX2, 4), cl_2, by decide, am_mem 159 (by decide +kernel) rfl⟩
theorem lo_3_1 : Cond.methodLink RX3 1 Lib.objectInit ∈ am_tbl := am_mem 678 (by decide +kernel) rfl
theorem pw_3_7 : am_pw RX3 7 3 0 true (.object "TypedLisp$Node") := ⟨(RX3, TX3, 5), cl_3, by decide, am_mem 680 (by decide +kernel) rfl, rfl, by decide +kernel, fun _ => rfl⟩
theorem pw_3_13 : am_pw RX3 13 3 1 true .int := ⟨(RX3, TX3, 5), cl_3, by decide, am_mem 682 (by decide +kernel) rfl, rfl, by decide +kernel, fun _ => rfl⟩
theorem fw_3_17 : am_fw RX3 17 2 0 := ⟨(RX2, TX2, 4), cl_2, by decide, am_mem 160 (by decide +kernel) rfl⟩
theorem pw_3_22 : am_pw RX3 22 3 2 true .int := ⟨(RX3, TX3, 5), cl_3, by decide, am_mem 684 (by decide +kernel) rfl, rfl, by decide +kernel, fun _ => rfl⟩
theorem fw_3_23 : am_fw RX3 23 2 2 := ⟨(RX2, TX2, 4), cl_2, by decide, am_mem 166 (by decide +kernel) rfl⟩
theorem lk_3_27 : am_lk RX3 27 eX8_word := am_mem 679 (by decide +kernel) rfl
theorem pw_3_33 : am_pw RX3 33 3 3 true .long := ⟨(RX3, TX3, 5), cl_3, by decide, am_mem 686 (by decide +kernel) rfl, rfl, by decide +kernel, fun _ => rfl⟩
theorem fw_3_37 : am_fw RX3 37 2 3 := ⟨(RX2, TX2, 4), cl_2, by decide, am_mem 170 (by decide +kernel) rfl⟩
theorem pw_3_40 : am_pw RX3 40 3 4 true .long := ⟨(RX3, TX3, 5), cl_3, by decide, am_mem 688 (by decide +kernel) rfl, rfl, by decide +kernel, fun _ => rfl⟩
theorem lo_4_3 : Cond.methodLink RX4 3 Lib.objectInit ∈ am_tbl := am_mem 835 (by decide +kernel) rfl
theorem pw_4_9 : am_pw RX4 9 4 0 true (.object "TypedLisp$Cells") := ⟨(RX4, TX4, 6), cl_4, by decide, am_mem 838 (by decide +kernel) rfl, rfl, by decide +kernel, fun _ => rfl⟩
theorem pw_4_15 : am_pw RX4 15 4 1 true (.array (.object "TypedLisp$Function")) := ⟨(RX4, TX4, 6), cl_4, by decide, am_mem 839 (by decide +kernel) rfl, rfl, by decide +kernel, fun _ => rfl⟩
theorem pw_4_19 : am_pw RX4 19 4 2 true .int := ⟨(RX4, TX4, 6), cl_4, by decide, am_mem 840 (by decide +kernel) rfl, rfl, by decide +kernel, fun _ => rfl⟩
theorem pw_4_25 : am_pw RX4 25 4 3 true (.array (.array .int)) := ⟨(RX4, TX4, 6), cl_4, by decide, am_mem 841 (by decide +kernel) rfl, rfl, by decide +kernel, fun _ => rfl⟩
theorem pw_4_28 : am_pw RX4 28 4 4 false .int := ⟨(RX4, TX4, 6), cl_4, by decide, am_mem 842 (by decide +kernel) rfl, rfl, by decide +kernel, fun h => nomatch h⟩
theorem pw_4_31 : am_pw RX4 31 4 5 false .int := ⟨(RX4, TX4, 6), cl_4, by decide, am_mem 844 (by decide +kernel) rfl, rfl, by decide +kernel, fun h => nomatch h⟩
theorem fw_4_25 : am_fw RX4 25 4 3 := ⟨(RX4, TX4, 6), cl_4, by decide, am_mem 841 (by decide +kernel) rfl⟩
theorem lk_4_34 : am_lk RX4 34 eX4_evaluate := am_mem 863 (by decide +kernel) rfl
theorem fw_4_28 : am_fw RX4 28 4 4 := ⟨(RX4, TX4, 6), cl_4, by decide, am_mem 842 (by decide +kernel) rfl⟩
theorem fw_4_19 : am_fw RX4 19 4 2 := ⟨(RX4, TX4, 6), cl_4, by decide, am_mem 840 (by decide +kernel) rfl⟩
theorem fw_4_38 : am_fw RX4 38 5 4 := ⟨(RX5, TX5, 7), cl_5, by decide, am_mem 429 (by decide +kernel) rfl⟩
theorem lk_4_44 : am_lk RX4 44 eX4_leafValue := am_mem 867 (by decide +kernel) rfl
theorem fw_4_48 : am_fw RX4 48 5 0 := ⟨(RX5, TX5, 7), cl_5, by decide, am_mem 419 (by decide +kernel) rfl⟩
theorem fw_4_51 : am_fw RX4 51 5 6 := ⟨(RX5, TX5, 7), cl_5, by decide, am_mem 435 (by decide +kernel) rfl⟩
theorem fw_4_54 : am_fw RX4 54 5 5 := ⟨(RX5, TX5, 7), cl_5, by decide, am_mem 432 (by decide +kernel) rfl⟩
theorem fw_4_57 : am_fw RX4 57 5 3 := ⟨(RX5, TX5, 7), cl_5, by decide, am_mem 426 (by decide +kernel) rfl⟩
theorem lk_4_60 : am_lk RX4 60 eX4_assign := am_mem 871 (by decide +kernel) rfl
theorem fw_4_15 : am_fw RX4 15 4 1 := ⟨(RX4, TX4, 6), cl_4, by decide, am_mem 839 (by decide +kernel) rfl⟩
theorem ln_4_64 : am_ln RX4 64 eX9_functionOf := ⟨"TypedLisp", am_memN 875 (by decide +kernel)⟩
theorem lk_4_68 : am_lk RX4 68 eX4_evaluateBody := am_mem 876 (by decide +kernel) rfl
theorem lk_4_72 : am_lk RX4 72 eX4_applyToTwo := am_mem 880 (by decide +kernel) rfl
theorem lk_4_76 : am_lk RX4 76 eX4_applyToOne := am_mem 902 (by decide +kernel) rfl
theorem fw_4_80 : am_fw RX4 80 3 0 := ⟨(RX3, TX3, 5), cl_3, by decide, am_mem 681 (by decide +kernel) rfl⟩
theorem fw_4_9 : am_fw RX4 9 4 0 := ⟨(RX4, TX4, 6), cl_4, by decide, am_mem 838 (by decide +kernel) rfl⟩
theorem ln_4_85 : am_ln RX4 85 eX9_testedKinds := ⟨"TypedLisp", am_memN 906 (by decide +kernel)⟩
theorem lk_4_89 : am_lk RX4 89 eX0_isOf := am_mem 893 (by decide +kernel) rfl
theorem lk_4_95 : am_lk RX4 95 eX4_fail := am_mem 889 (by decide +kernel) rfl
theorem lk_4_98 : am_lk RX4 98 eX0_part := am_mem 897 (by decide +kernel) rfl
theorem lk_4_101 : am_lk RX4 101 eX0_addPair := am_mem 884 (by decide +kernel) rfl
theorem lk_4_104 : am_lk RX4 104 eX4_madeOrFailed := am_mem 885 (by decide +kernel) rfl
theorem lk_4_107 : am_lk RX4 107 eX0_addNumber := am_mem 901 (by decide +kernel) rfl
theorem lo_5_1 : Cond.methodLink RX5 1 Lib.objectInit ∈ am_tbl := am_mem 417 (by decide +kernel) rfl
theorem pw_5_7 : am_pw RX5 7 5 0 true .int := ⟨(RX5, TX5, 7), cl_5, by decide, am_mem 418 (by decide +kernel) rfl, rfl, by decide +kernel, fun _ => rfl⟩
theorem pw_5_13 : am_pw RX5 13 5 1 true .int := ⟨(RX5, TX5, 7), cl_5, by decide, am_mem 421 (by decide +kernel) rfl, rfl, by decide +kernel, fun _ => rfl⟩
theorem pw_5_16 : am_pw RX5 16 5 2 true .int := ⟨(RX5, TX5, 7), cl_5, by decide, am_mem 423 (by decide +kernel) rfl, rfl, by decide +kernel, fun _ => rfl⟩
theorem pw_5_19 : am_pw RX5 19 5 3 true .int := ⟨(RX5, TX5, 7), cl_5, by decide, am_mem 425 (by decide +kernel) rfl, rfl, by decide +kernel, fun _ => rfl⟩
theorem pw_5_22 : am_pw RX5 22 5 4 true (.object "TypedLisp$Node") := ⟨(RX5, TX5, 7), cl_5, by decide, am_mem 428 (by decide +kernel) rfl, rfl, by decide +kernel, fun _ => rfl⟩
theorem pw_5_26 : am_pw RX5 26 5 5 true (.object "TypedLisp$Node") := ⟨(RX5, TX5, 7), cl_5, by decide, am_mem 431 (by decide +kernel) rfl, rfl, by decide +kernel, fun _ => rfl⟩
theorem pw_5_29 : am_pw RX5 29 5 6 true (.object "TypedLisp$Node") := ⟨(RX5, TX5, 7), cl_5, by decide, am_mem 434 (by decide +kernel) rfl, rfl, by decide +kernel, fun _ => rfl⟩
theorem lo_6_3 : Cond.methodLink RX6 3 Lib.objectInit ∈ am_tbl := am_mem 329 (by decide +kernel) rfl
theorem pw_6_9 : am_pw RX6 9 6 0 true (.object "TypedLisp$Text") := ⟨(RX6, TX6, 8), cl_6, by decide, am_mem 330 (by decide +kernel) rfl, rfl, by decide +kernel, fun _ => rfl⟩
theorem pw_6_15 : am_pw RX6 15 6 1 true (.array (.object "TypedLisp$Function")) := ⟨(RX6, TX6, 8), cl_6, by decide, am_mem 331 (by decide +kernel) rfl, rfl, by decide +kernel, fun _ => rfl⟩
theorem pw_6_19 : am_pw RX6 19 6 2 true (.array .int) := ⟨(RX6, TX6, 8), cl_6, by decide, am_mem 332 (by decide +kernel) rfl, rfl, by decide +kernel, fun _ => rfl⟩
theorem pw_6_23 : am_pw RX6 23 6 3 false .int := ⟨(RX6, TX6, 8), cl_6, by decide, am_mem 333 (by decide +kernel) rfl, rfl, by decide +kernel, fun h => nomatch h⟩
theorem pw_6_27 : am_pw RX6 27 6 4 false .int := ⟨(RX6, TX6, 8), cl_6, by decide, am_mem 334 (by decide +kernel) rfl, rfl, by decide +kernel, fun h => nomatch h⟩
theorem pw_6_30 : am_pw RX6 30 6 5 false .int := ⟨(RX6, TX6, 8), cl_6, by decide, am_mem 335 (by decide +kernel) rfl, rfl, by decide +kernel, fun h => nomatch h⟩
theorem pw_6_33 : am_pw RX6 33 6 6 false .int := ⟨(RX6, TX6, 8), cl_6, by decide, am_mem 337 (by decide +kernel) rfl, rfl, by decide +kernel, fun h => nomatch h⟩
theorem pw_6_36 : am_pw RX6 36 6 7 false .int := ⟨(RX6, TX6, 8), cl_6, by decide, am_mem 339 (by decide +kernel) rfl, rfl, by decide +kernel, fun h => nomatch h⟩
theorem fw_6_19 : am_fw RX6 19 6 2 := ⟨(RX6, TX6, 8), cl_6, by decide, am_mem 332 (by decide +kernel) rfl⟩
theorem lk_6_39 : am_lk RX6 39 eX6_readToEnd := am_mem 384 (by decide +kernel) rfl
theorem lk_6_43 : am_lk RX6 43 eX6_peek := am_mem 362 (by decide +kernel) rfl
theorem ln_6_47 : am_ln RX6 47 eX9_functionIndex := ⟨"TypedLisp", am_memN 370 (by decide +kernel)⟩
theorem fw_6_33 : am_fw RX6 33 6 6 := ⟨(RX6, TX6, 8), cl_6, by decide, am_mem 337 (by decide +kernel) rfl⟩
theorem fw_6_15 : am_fw RX6 15 6 1 := ⟨(RX6, TX6, 8), cl_6, by decide, am_mem 331 (by decide +kernel) rfl⟩
theorem ln_6_51 : am_ln RX6 51 eX9_functionOf := ⟨"TypedLisp", am_memN 373 (by decide +kernel)⟩
theorem fw_6_30 : am_fw RX6 30 6 5 := ⟨(RX6, TX6, 8), cl_6, by decide, am_mem 335 (by decide +kernel) rfl⟩
theorem lk_6_55 : am_lk RX6 55 eX6_freeName := am_mem 377 (by decide +kernel) rfl
theorem lk_6_58 : am_lk RX6 58 eX6_typeOf := am_mem 381 (by decide +kernel) rfl
theorem fw_6_36 : am_fw RX6 36 6 7 := ⟨(RX6, TX6, 8), cl_6, by decide, am_mem 339 (by decide +kernel) rfl⟩
theorem lk_6_61 : am_lk RX6 61 eX6_readPart := am_mem 388 (by decide +kernel) rfl
theorem lk_6_65 : am_lk RX6 65 eX6_readBracket := am_mem 392 (by decide +kernel) rfl
theorem lk_6_68 : am_lk RX6 68 eX6_slotOf := am_mem 456 (by decide +kernel) rfl
theorem lk_6_71 : am_lk RX6 71 eX6_isConstant := am_mem 460 (by decide +kernel) rfl
theorem lk_6_75 : am_lk RX6 75 eX6_newNode := am_mem 408 (by decide +kernel) rfl
theorem lk_6_79 : am_lk RX6 79 eX6_partsOf := am_mem 396 (by decide +kernel) rfl
theorem lk_6_82 : am_lk RX6 82 eX6_readBinding := am_mem 404 (by decide +kernel) rfl
theorem lk_6_86 : am_lk RX6 86 eX6_readOperation := am_mem 452 (by decide +kernel) rfl
theorem fw_6_23 : am_fw RX6 23 6 3 := ⟨(RX6, TX6, 8), cl_6, by decide, am_mem 333 (by decide +kernel) rfl⟩
theorem fw_6_27 : am_fw RX6 27 6 4 := ⟨(RX6, TX6, 8), cl_6, by decide, am_mem 334 (by decide +kernel) rfl⟩
theorem nw_6_90 : am_nwd RX6 90 5 (RX5, TX5, 7) := ⟨cl_5, am_mem 412 (by decide +kernel) rfl, am_mem 413 (by decide +kernel) rfl, am_mem 91 (by decide +kernel) rfl⟩
theorem lk_6_92 : am_lk RX6 92 eX5_init := am_mem 414 (by decide +kernel) rfl
theorem fw_6_9 : am_fw RX6 9 6 0 := ⟨(RX6, TX6, 8), cl_6, by decide, am_mem 330 (by decide +kernel) rfl⟩
theorem lk_6_95 : am_lk RX6 95 eX7_characterAt := am_mem 366 (by decide +kernel) rfl
theorem lk_6_100 : am_lk RX6 100 eX6_hasFreeName := am_mem 400 (by decide +kernel) rfl
theorem lo_7_3 : Cond.methodLink RX7 3 Lib.objectInit ∈ am_tbl := am_mem 115 (by decide +kernel) rfl
theorem pw_7_9 : am_pw RX7 9 7 0 true (.array .char) := ⟨(RX7, TX7, 2), cl_7, by decide, am_mem 116 (by decide +kernel) rfl, rfl, by decide +kernel, fun _ => rfl⟩
theorem pw_7_15 : am_pw RX7 15 7 1 false .int := ⟨(RX7, TX7, 2), cl_7, by decide, am_mem 117 (by decide +kernel) rfl, rfl, by decide +kernel, fun h => nomatch h⟩
theorem fw_7_15 : am_fw RX7 15 7 1 := ⟨(RX7, TX7, 2), cl_7, by decide, am_mem 117 (by decide +kernel) rfl⟩
theorem fw_7_9 : am_fw RX7 9 7 0 := ⟨(RX7, TX7, 2), cl_7, by decide, am_mem 116 (by decide +kernel) rfl⟩
theorem lo_8_3 : Cond.methodLink RX8 3 Lib.objectInit ∈ am_tbl := am_mem 140 (by decide +kernel) rfl
theorem pw_8_9 : am_pw RX8 9 8 0 true (.array .long) := ⟨(RX8, TX8, 2), cl_8, by decide, am_mem 141 (by decide +kernel) rfl, rfl, by decide +kernel, fun _ => rfl⟩
theorem pw_8_15 : am_pw RX8 15 8 1 false .boolean := ⟨(RX8, TX8, 2), cl_8, by decide, am_mem 142 (by decide +kernel) rfl, rfl, by decide +kernel, fun h => nomatch h⟩
theorem fw_8_9 : am_fw RX8 9 8 0 := ⟨(RX8, TX8, 2), cl_8, by decide, am_mem 141 (by decide +kernel) rfl⟩
theorem kl_8_19 : Cond.constantLong RX8 19 34359738367 ∈ am_tbl := am_mem 536 (by decide +kernel) rfl
theorem fw_8_15 : am_fw RX8 15 8 1 := ⟨(RX8, TX8, 2), cl_8, by decide, am_mem 142 (by decide +kernel) rfl⟩
theorem lk_8_21 : am_lk RX8 21 eX8_word := am_mem 601 (by decide +kernel) rfl
theorem lk_8_25 : am_lk RX8 25 eX8_kindsIn := am_mem 542 (by decide +kernel) rfl
theorem kl_8_29 : Cond.constantLong RX8 29 (-1) ∈ am_tbl := am_mem 541 (by decide +kernel) rfl
theorem lk_8_31 : am_lk RX8 31 eX8_sayNothing := am_mem 545 (by decide +kernel) rfl
theorem ln_8_34 : am_ln RX8 34 eX9_reach := ⟨"TypedLisp", am_memN 638 (by decide +kernel)⟩
theorem lk_8_38 : am_lk RX8 38 eX8_restrict := am_mem 639 (by decide +kernel) rfl
theorem lk_8_42 : am_lk RX8 42 eX8_lacksKinds := am_mem 652 (by decide +kernel) rfl
theorem lk_L_7 : am_lk RL 7 eX9_define := am_mem 320 (by decide +kernel) rfl
theorem lk_L_17 : am_lk RL 17 eX9_check := am_mem 708 (by decide +kernel) rfl
theorem lk_L_20 : am_lk RL 20 eX9_view := am_mem 722 (by decide +kernel) rfl
theorem lk_L_28 : am_lk RL 28 eX9_number := am_mem 761 (by decide +kernel) rfl
theorem lk_L_34 : am_lk RL 34 eX9_pair := am_mem 799 (by decide +kernel) rfl
theorem lk_L_38 : am_lk RL 38 eX9_input := am_mem 818 (by decide +kernel) rfl
theorem lk_L_42 : am_lk RL 42 eX9_run := am_mem 825 (by decide +kernel) rfl
theorem lk_L_45 : am_lk RL 45 eX9_cell := am_mem 910 (by decide +kernel) rfl
theorem nw_L_8 : am_nwd RL 8 9 (RX9, TX9, 12) := ⟨cl_9, am_mem 102 (by decide +kernel) rfl, am_mem 103 (by decide +kernel) rfl, am_mem 83 (by decide +kernel) rfl⟩
theorem lk_L_48 : am_lk RL 48 eX9_init := am_mem 104 (by decide +kernel) rfl
theorem nw_L_49 : am_nwd RL 49 10 (RX10, TX10, 59) := ⟨cl_10, am_mem 915 (by decide +kernel) rfl, am_mem 916 (by decide +kernel) rfl, am_mem 89 (by decide +kernel) rfl⟩
theorem lk_L_51 : am_lk RL 51 eX10_init := am_mem 917 (by decide +kernel) rfl
theorem lk_L_52 : am_lk RL 52 eX9_type := am_mem 271 (by decide +kernel) rfl
theorem lk_L_56 : am_lk RL 56 eX10_type := am_mem 1104 (by decide +kernel) rfl
theorem lk_L_57 : am_lk RL 57 eX9_wipe := am_mem 279 (by decide +kernel) rfl
theorem lk_L_60 : am_lk RL 60 eX10_wipe := am_mem 1108 (by decide +kernel) rfl
theorem lk_L_61 : am_lk RL 61 eL_define := am_mem 315 (by decide +kernel) rfl
theorem lk_L_66 : am_lk RL 66 eX10_define := am_mem 1112 (by decide +kernel) rfl
theorem lk_L_67 : am_lk RL 67 eX10_thrown := am_mem 1100 (by decide +kernel) rfl
theorem lk_L_70 : am_lk RL 70 eL_check := am_mem 705 (by decide +kernel) rfl
theorem lk_L_72 : am_lk RL 72 eX10_check := am_mem 1295 (by decide +kernel) rfl
theorem lk_L_73 : am_lk RL 73 eX9_fault := am_mem 287 (by decide +kernel) rfl
theorem lk_L_76 : am_lk RL 76 eX10_fault := am_mem 1299 (by decide +kernel) rfl
theorem lk_L_77 : am_lk RL 77 eL_view := am_mem 717 (by decide +kernel) rfl
theorem lk_L_80 : am_lk RL 80 eX10_view := am_mem 1303 (by decide +kernel) rfl
theorem lk_L_81 : am_lk RL 81 eX9_forget := am_mem 291 (by decide +kernel) rfl
theorem lk_L_84 : am_lk RL 84 eX10_forget := am_mem 1307 (by decide +kernel) rfl
theorem lk_L_85 : am_lk RL 85 eL_number := am_mem 757 (by decide +kernel) rfl
theorem lk_L_88 : am_lk RL 88 eX10_number := am_mem 1311 (by decide +kernel) rfl
theorem lk_L_89 : am_lk RL 89 eL_pair := am_mem 796 (by decide +kernel) rfl
theorem lk_L_92 : am_lk RL 92 eX10_pair := am_mem 1323 (by decide +kernel) rfl
theorem lk_L_93 : am_lk RL 93 eL_input := am_mem 815 (by decide +kernel) rfl
theorem lk_L_96 : am_lk RL 96 eX10_input := am_mem 1331 (by decide +kernel) rfl
theorem lk_L_97 : am_lk RL 97 eX9_clear := am_mem 295 (by decide +kernel) rfl
theorem lk_L_100 : am_lk RL 100 eX10_clear_ := am_mem 1335 (by decide +kernel) rfl
theorem lk_L_101 : am_lk RL 101 eL_run := am_mem 822 (by decide +kernel) rfl
theorem lk_L_103 : am_lk RL 103 eX10_run := am_mem 1339 (by decide +kernel) rfl
theorem lk_L_104 : am_lk RL 104 eX9_steps := am_mem 303 (by decide +kernel) rfl
theorem lk_L_107 : am_lk RL 107 eX10_steps := am_mem 1382 (by decide +kernel) rfl
theorem lk_L_108 : am_lk RL 108 eX9_result := am_mem 307 (by decide +kernel) rfl
theorem lk_L_111 : am_lk RL 111 eX10_result := am_mem 1386 (by decide +kernel) rfl
theorem lk_L_112 : am_lk RL 112 eX9_count := am_mem 311 (by decide +kernel) rfl
theorem lk_L_115 : am_lk RL 115 eX10_count := am_mem 1390 (by decide +kernel) rfl
theorem lk_L_116 : am_lk RL 116 eL_cell := am_mem 907 (by decide +kernel) rfl
theorem lk_L_118 : am_lk RL 118 eX10_cell := am_mem 1394 (by decide +kernel) rfl
theorem ac_int : Cond.arrayClass .int ∈ am_tbl := am_mem 150 (by decide +kernel) rfl
theorem ac_long : Cond.arrayClass .long ∈ am_tbl := am_mem 151 (by decide +kernel) rfl
theorem ac_boolean : Cond.arrayClass .boolean ∈ am_tbl := am_mem 1099 (by decide +kernel) rfl
theorem ac_char : Cond.arrayClass .char ∈ am_tbl := am_mem 123 (by decide +kernel) rfl
theorem io_1 : Cond.instanceMethod Lib.objectInit ∈ am_tbl := am_mem 108 (by decide +kernel) rfl
theorem io_2 : Cond.code Lib.objectInit ⟨#[0xb1]⟩ 1 none ∈ am_tbl := am_mem 109 (by decide +kernel) rfl
