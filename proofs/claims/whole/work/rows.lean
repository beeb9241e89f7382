section
-- ===== PART A: goes FIRST, ahead of the names: the tables' words, and 'selects' of the private methods out of them =====
/-- a private method of a class that the tables say can be made, by its rows of tables_1 -/
def lw_okq (q : MethodName × Nat) : Prop := (q.1.cls ≠ "java/lang/invoke/MethodHandle" ∧ q.1.cls ≠ "java/lang/invoke/VarHandle") ∧ Cond.instantiable q.1.cls q.2 ∈ tables_1 ∧ Cond.privateMethod q.1 ∈ tables_1 ∧ Cond.instanceMethod q.1 ∈ tables_1
theorem lw_p0 : lw_okq (⟨"TypedLisp$Reader", "peek", "()I"⟩, 8) := ⟨⟨by decide +kernel, by decide +kernel⟩, List.mem_of_getElem? (i := 243) (by decide +kernel), List.mem_of_getElem? (i := 281) (by decide +kernel), List.mem_of_getElem? (i := 282) (by decide +kernel)⟩
theorem lw_p1 : lw_okq (⟨"TypedLisp$Reader", "freeName", "(I)I"⟩, 8) := ⟨⟨by decide +kernel, by decide +kernel⟩, List.mem_of_getElem? (i := 243) (by decide +kernel), List.mem_of_getElem? (i := 296) (by decide +kernel), List.mem_of_getElem? (i := 297) (by decide +kernel)⟩
theorem lw_p2 : lw_okq (⟨"TypedLisp$Reader", "readToEnd", "()LTypedLisp$Node;"⟩, 8) := ⟨⟨by decide +kernel, by decide +kernel⟩, List.mem_of_getElem? (i := 243) (by decide +kernel), List.mem_of_getElem? (i := 303) (by decide +kernel), List.mem_of_getElem? (i := 304) (by decide +kernel)⟩
theorem lw_p3 : lw_okq (⟨"TypedLisp$Reader", "readPart", "(I)LTypedLisp$Node;"⟩, 8) := ⟨⟨by decide +kernel, by decide +kernel⟩, List.mem_of_getElem? (i := 243) (by decide +kernel), List.mem_of_getElem? (i := 307) (by decide +kernel), List.mem_of_getElem? (i := 308) (by decide +kernel)⟩
theorem lw_p4 : lw_okq (⟨"TypedLisp$Reader", "readBracket", "(I)LTypedLisp$Node;"⟩, 8) := ⟨⟨by decide +kernel, by decide +kernel⟩, List.mem_of_getElem? (i := 243) (by decide +kernel), List.mem_of_getElem? (i := 311) (by decide +kernel), List.mem_of_getElem? (i := 312) (by decide +kernel)⟩
theorem lw_p5 : lw_okq (⟨"TypedLisp$Reader", "partsOf", "(I)I"⟩, 8) := ⟨⟨by decide +kernel, by decide +kernel⟩, List.mem_of_getElem? (i := 243) (by decide +kernel), List.mem_of_getElem? (i := 315) (by decide +kernel), List.mem_of_getElem? (i := 316) (by decide +kernel)⟩
theorem lw_p6 : lw_okq (⟨"TypedLisp$Reader", "hasFreeName", "()Z"⟩, 8) := ⟨⟨by decide +kernel, by decide +kernel⟩, List.mem_of_getElem? (i := 243) (by decide +kernel), List.mem_of_getElem? (i := 319) (by decide +kernel), List.mem_of_getElem? (i := 320) (by decide +kernel)⟩
theorem lw_p7 : lw_okq (⟨"TypedLisp$Reader", "readBinding", "(II)LTypedLisp$Node;"⟩, 8) := ⟨⟨by decide +kernel, by decide +kernel⟩, List.mem_of_getElem? (i := 243) (by decide +kernel), List.mem_of_getElem? (i := 323) (by decide +kernel), List.mem_of_getElem? (i := 324) (by decide +kernel)⟩
theorem lw_p8 : lw_okq (⟨"TypedLisp$Reader", "newNode", "(IIILTypedLisp$Node;LTypedLisp$Node;LTypedLisp$Node;)LTypedLisp$Node;"⟩, 8) := ⟨⟨by decide +kernel, by decide +kernel⟩, List.mem_of_getElem? (i := 243) (by decide +kernel), List.mem_of_getElem? (i := 327) (by decide +kernel), List.mem_of_getElem? (i := 328) (by decide +kernel)⟩
theorem lw_p9 : lw_okq (⟨"TypedLisp$Reader", "readOperation", "(IIII)LTypedLisp$Node;"⟩, 8) := ⟨⟨by decide +kernel, by decide +kernel⟩, List.mem_of_getElem? (i := 243) (by decide +kernel), List.mem_of_getElem? (i := 371) (by decide +kernel), List.mem_of_getElem? (i := 372) (by decide +kernel)⟩
theorem lw_p10 : lw_okq (⟨"TypedLisp$Reader", "slotOf", "(I)I"⟩, 8) := ⟨⟨by decide +kernel, by decide +kernel⟩, List.mem_of_getElem? (i := 243) (by decide +kernel), List.mem_of_getElem? (i := 375) (by decide +kernel), List.mem_of_getElem? (i := 376) (by decide +kernel)⟩
theorem lw_p11 : lw_okq (⟨"java/lang/Throwable", "fillInStackTrace", "(I)Ljava/lang/Throwable;"⟩, 6) := ⟨⟨by decide +kernel, by decide +kernel⟩, List.mem_of_getElem? (i := 422) (by decide +kernel), List.mem_of_getElem? (i := 420) (by decide +kernel), List.mem_of_getElem? (i := 421) (by decide +kernel)⟩
theorem lw_p12 : lw_okq (⟨"TypedLisp$Checker", "examine", "(LTypedLisp$Node;LTypedLisp$View;I)LTypedLisp$Finding;"⟩, 7) := ⟨⟨by decide +kernel, by decide +kernel⟩, List.mem_of_getElem? (i := 45) (by decide +kernel), List.mem_of_getElem? (i := 468) (by decide +kernel), List.mem_of_getElem? (i := 469) (by decide +kernel)⟩
theorem lw_p13 : lw_okq (⟨"TypedLisp$Checker", "examineKind", "(LTypedLisp$Node;LTypedLisp$View;LTypedLisp$Finding;I)Z"⟩, 7) := ⟨⟨by decide +kernel, by decide +kernel⟩, List.mem_of_getElem? (i := 45) (by decide +kernel), List.mem_of_getElem? (i := 477) (by decide +kernel), List.mem_of_getElem? (i := 478) (by decide +kernel)⟩
theorem lw_p14 : lw_okq (⟨"TypedLisp$Checker", "examineTest", "(LTypedLisp$Node;LTypedLisp$View;LTypedLisp$Finding;I)Z"⟩, 7) := ⟨⟨by decide +kernel, by decide +kernel⟩, List.mem_of_getElem? (i := 45) (by decide +kernel), List.mem_of_getElem? (i := 481) (by decide +kernel), List.mem_of_getElem? (i := 482) (by decide +kernel)⟩
theorem lw_p15 : lw_okq (⟨"TypedLisp$Checker", "examineNot", "(LTypedLisp$Node;LTypedLisp$View;LTypedLisp$Finding;I)Z"⟩, 7) := ⟨⟨by decide +kernel, by decide +kernel⟩, List.mem_of_getElem? (i := 45) (by decide +kernel), List.mem_of_getElem? (i := 496) (by decide +kernel), List.mem_of_getElem? (i := 497) (by decide +kernel)⟩
def lw_privs_1 : List (MethodName × Nat) := [(⟨"TypedLisp$Reader", "peek", "()I"⟩, 8), (⟨"TypedLisp$Reader", "freeName", "(I)I"⟩, 8), (⟨"TypedLisp$Reader", "readToEnd", "()LTypedLisp$Node;"⟩, 8), (⟨"TypedLisp$Reader", "readPart", "(I)LTypedLisp$Node;"⟩, 8), (⟨"TypedLisp$Reader", "readBracket", "(I)LTypedLisp$Node;"⟩, 8), (⟨"TypedLisp$Reader", "partsOf", "(I)I"⟩, 8), (⟨"TypedLisp$Reader", "hasFreeName", "()Z"⟩, 8), (⟨"TypedLisp$Reader", "readBinding", "(II)LTypedLisp$Node;"⟩, 8), (⟨"TypedLisp$Reader", "newNode", "(IIILTypedLisp$Node;LTypedLisp$Node;LTypedLisp$Node;)LTypedLisp$Node;"⟩, 8), (⟨"TypedLisp$Reader", "readOperation", "(IIII)LTypedLisp$Node;"⟩, 8), (⟨"TypedLisp$Reader", "slotOf", "(I)I"⟩, 8), (⟨"java/lang/Throwable", "fillInStackTrace", "(I)Ljava/lang/Throwable;"⟩, 6), (⟨"TypedLisp$Checker", "examine", "(LTypedLisp$Node;LTypedLisp$View;I)LTypedLisp$Finding;"⟩, 7), (⟨"TypedLisp$Checker", "examineKind", "(LTypedLisp$Node;LTypedLisp$View;LTypedLisp$Finding;I)Z"⟩, 7), (⟨"TypedLisp$Checker", "examineTest", "(LTypedLisp$Node;LTypedLisp$View;LTypedLisp$Finding;I)Z"⟩, 7), (⟨"TypedLisp$Checker", "examineNot", "(LTypedLisp$Node;LTypedLisp$View;LTypedLisp$Finding;I)Z"⟩, 7)]
theorem lw_r1 : ∀ q ∈ lw_privs_1, lw_okq q := List.forall_mem_cons.mpr ⟨lw_p0, List.forall_mem_cons.mpr ⟨lw_p1, List.forall_mem_cons.mpr ⟨lw_p2, List.forall_mem_cons.mpr ⟨lw_p3, List.forall_mem_cons.mpr ⟨lw_p4, List.forall_mem_cons.mpr ⟨lw_p5, List.forall_mem_cons.mpr ⟨lw_p6, List.forall_mem_cons.mpr ⟨lw_p7, List.forall_mem_cons.mpr ⟨lw_p8, List.forall_mem_cons.mpr ⟨lw_p9, List.forall_mem_cons.mpr ⟨lw_p10, List.forall_mem_cons.mpr ⟨lw_p11, List.forall_mem_cons.mpr ⟨lw_p12, List.forall_mem_cons.mpr ⟨lw_p13, List.forall_mem_cons.mpr ⟨lw_p14, List.forall_mem_cons.mpr ⟨lw_p15, fun _ h => absurd h List.not_mem_nil⟩⟩⟩⟩⟩⟩⟩⟩⟩⟩⟩⟩⟩⟩⟩⟩
theorem lw_p16 : lw_okq (⟨"TypedLisp$Checker", "examineHalf", "(LTypedLisp$Node;LTypedLisp$View;LTypedLisp$Finding;I)Z"⟩, 7) := ⟨⟨by decide +kernel, by decide +kernel⟩, List.mem_of_getElem? (i := 45) (by decide +kernel), List.mem_of_getElem? (i := 501) (by decide +kernel), List.mem_of_getElem? (i := 502) (by decide +kernel)⟩
theorem lw_p17 : lw_okq (⟨"TypedLisp$Checker", "refuse", "(LTypedLisp$Node;)Z"⟩, 7) := ⟨⟨by decide +kernel, by decide +kernel⟩, List.mem_of_getElem? (i := 45) (by decide +kernel), List.mem_of_getElem? (i := 505) (by decide +kernel), List.mem_of_getElem? (i := 506) (by decide +kernel)⟩
theorem lw_p18 : lw_okq (⟨"TypedLisp$Checker", "assignPlace", "(ILTypedLisp$View;LTypedLisp$Finding;)V"⟩, 7) := ⟨⟨by decide +kernel, by decide +kernel⟩, List.mem_of_getElem? (i := 45) (by decide +kernel), List.mem_of_getElem? (i := 512) (by decide +kernel), List.mem_of_getElem? (i := 513) (by decide +kernel)⟩
theorem lw_p19 : lw_okq (⟨"TypedLisp$Checker", "examineTwo", "(LTypedLisp$Node;LTypedLisp$View;LTypedLisp$Finding;I)Z"⟩, 7) := ⟨⟨by decide +kernel, by decide +kernel⟩, List.mem_of_getElem? (i := 45) (by decide +kernel), List.mem_of_getElem? (i := 524) (by decide +kernel), List.mem_of_getElem? (i := 525) (by decide +kernel)⟩
theorem lw_p20 : lw_okq (⟨"TypedLisp$Checker", "examineChoice", "(LTypedLisp$Node;LTypedLisp$View;LTypedLisp$Finding;I)Z"⟩, 7) := ⟨⟨by decide +kernel, by decide +kernel⟩, List.mem_of_getElem? (i := 45) (by decide +kernel), List.mem_of_getElem? (i := 528) (by decide +kernel), List.mem_of_getElem? (i := 529) (by decide +kernel)⟩
theorem lw_p21 : lw_okq (⟨"TypedLisp$Checker", "examineAnd", "(LTypedLisp$Node;LTypedLisp$View;LTypedLisp$Finding;I)Z"⟩, 7) := ⟨⟨by decide +kernel, by decide +kernel⟩, List.mem_of_getElem? (i := 45) (by decide +kernel), List.mem_of_getElem? (i := 536) (by decide +kernel), List.mem_of_getElem? (i := 537) (by decide +kernel)⟩
theorem lw_p22 : lw_okq (⟨"TypedLisp$Checker", "examineOr", "(LTypedLisp$Node;LTypedLisp$View;LTypedLisp$Finding;I)Z"⟩, 7) := ⟨⟨by decide +kernel, by decide +kernel⟩, List.mem_of_getElem? (i := 45) (by decide +kernel), List.mem_of_getElem? (i := 540) (by decide +kernel), List.mem_of_getElem? (i := 541) (by decide +kernel)⟩
theorem lw_p23 : lw_okq (⟨"TypedLisp$Checker", "examineBinding", "(LTypedLisp$Node;LTypedLisp$View;LTypedLisp$Finding;I)Z"⟩, 7) := ⟨⟨by decide +kernel, by decide +kernel⟩, List.mem_of_getElem? (i := 45) (by decide +kernel), List.mem_of_getElem? (i := 544) (by decide +kernel), List.mem_of_getElem? (i := 545) (by decide +kernel)⟩
theorem lw_p24 : lw_okq (⟨"TypedLisp$Checker", "examineCall", "(LTypedLisp$Node;LTypedLisp$View;LTypedLisp$Finding;I)Z"⟩, 7) := ⟨⟨by decide +kernel, by decide +kernel⟩, List.mem_of_getElem? (i := 45) (by decide +kernel), List.mem_of_getElem? (i := 548) (by decide +kernel), List.mem_of_getElem? (i := 549) (by decide +kernel)⟩
theorem lw_p25 : lw_okq (⟨"TypedLisp$Checker", "examineConstant", "(LTypedLisp$Node;LTypedLisp$View;LTypedLisp$Finding;)Z"⟩, 7) := ⟨⟨by decide +kernel, by decide +kernel⟩, List.mem_of_getElem? (i := 45) (by decide +kernel), List.mem_of_getElem? (i := 559) (by decide +kernel), List.mem_of_getElem? (i := 560) (by decide +kernel)⟩
theorem lw_p26 : lw_okq (⟨"TypedLisp$Checker", "examineVariable", "(LTypedLisp$Node;LTypedLisp$View;LTypedLisp$Finding;)Z"⟩, 7) := ⟨⟨by decide +kernel, by decide +kernel⟩, List.mem_of_getElem? (i := 45) (by decide +kernel), List.mem_of_getElem? (i := 563) (by decide +kernel), List.mem_of_getElem? (i := 564) (by decide +kernel)⟩
theorem lw_p27 : lw_okq (⟨"TypedLisp", "keepFunction", "(ILTypedLisp$Function;)V"⟩, 12) := ⟨⟨by decide +kernel, by decide +kernel⟩, List.mem_of_getElem? (i := 21) (by decide +kernel), List.mem_of_getElem? (i := 620) (by decide +kernel), List.mem_of_getElem? (i := 621) (by decide +kernel)⟩
theorem lw_p28 : lw_okq (⟨"TypedLisp$Cells", "add", "(IIII)I"⟩, 6) := ⟨⟨by decide +kernel, by decide +kernel⟩, List.mem_of_getElem? (i := 126) (by decide +kernel), List.mem_of_getElem? (i := 711) (by decide +kernel), List.mem_of_getElem? (i := 712) (by decide +kernel)⟩
theorem lw_p29 : lw_okq (⟨"TypedLisp$Machine", "evaluate", "(LTypedLisp$Node;II)I"⟩, 6) := ⟨⟨by decide +kernel, by decide +kernel⟩, List.mem_of_getElem? (i := 749) (by decide +kernel), List.mem_of_getElem? (i := 782) (by decide +kernel), List.mem_of_getElem? (i := 783) (by decide +kernel)⟩
theorem lw_p30 : lw_okq (⟨"TypedLisp$Machine", "leafValue", "(LTypedLisp$Node;I)I"⟩, 6) := ⟨⟨by decide +kernel, by decide +kernel⟩, List.mem_of_getElem? (i := 749) (by decide +kernel), List.mem_of_getElem? (i := 786) (by decide +kernel), List.mem_of_getElem? (i := 787) (by decide +kernel)⟩
theorem lw_p31 : lw_okq (⟨"TypedLisp$Machine", "assign", "(III)Z"⟩, 6) := ⟨⟨by decide +kernel, by decide +kernel⟩, List.mem_of_getElem? (i := 749) (by decide +kernel), List.mem_of_getElem? (i := 790) (by decide +kernel), List.mem_of_getElem? (i := 791) (by decide +kernel)⟩
def lw_privs_2 : List (MethodName × Nat) := [(⟨"TypedLisp$Checker", "examineHalf", "(LTypedLisp$Node;LTypedLisp$View;LTypedLisp$Finding;I)Z"⟩, 7), (⟨"TypedLisp$Checker", "refuse", "(LTypedLisp$Node;)Z"⟩, 7), (⟨"TypedLisp$Checker", "assignPlace", "(ILTypedLisp$View;LTypedLisp$Finding;)V"⟩, 7), (⟨"TypedLisp$Checker", "examineTwo", "(LTypedLisp$Node;LTypedLisp$View;LTypedLisp$Finding;I)Z"⟩, 7), (⟨"TypedLisp$Checker", "examineChoice", "(LTypedLisp$Node;LTypedLisp$View;LTypedLisp$Finding;I)Z"⟩, 7), (⟨"TypedLisp$Checker", "examineAnd", "(LTypedLisp$Node;LTypedLisp$View;LTypedLisp$Finding;I)Z"⟩, 7), (⟨"TypedLisp$Checker", "examineOr", "(LTypedLisp$Node;LTypedLisp$View;LTypedLisp$Finding;I)Z"⟩, 7), (⟨"TypedLisp$Checker", "examineBinding", "(LTypedLisp$Node;LTypedLisp$View;LTypedLisp$Finding;I)Z"⟩, 7), (⟨"TypedLisp$Checker", "examineCall", "(LTypedLisp$Node;LTypedLisp$View;LTypedLisp$Finding;I)Z"⟩, 7), (⟨"TypedLisp$Checker", "examineConstant", "(LTypedLisp$Node;LTypedLisp$View;LTypedLisp$Finding;)Z"⟩, 7), (⟨"TypedLisp$Checker", "examineVariable", "(LTypedLisp$Node;LTypedLisp$View;LTypedLisp$Finding;)Z"⟩, 7), (⟨"TypedLisp", "keepFunction", "(ILTypedLisp$Function;)V"⟩, 12), (⟨"TypedLisp$Cells", "add", "(IIII)I"⟩, 6), (⟨"TypedLisp$Machine", "evaluate", "(LTypedLisp$Node;II)I"⟩, 6), (⟨"TypedLisp$Machine", "leafValue", "(LTypedLisp$Node;I)I"⟩, 6), (⟨"TypedLisp$Machine", "assign", "(III)Z"⟩, 6)]
theorem lw_r2 : ∀ q ∈ lw_privs_2, lw_okq q := List.forall_mem_cons.mpr ⟨lw_p16, List.forall_mem_cons.mpr ⟨lw_p17, List.forall_mem_cons.mpr ⟨lw_p18, List.forall_mem_cons.mpr ⟨lw_p19, List.forall_mem_cons.mpr ⟨lw_p20, List.forall_mem_cons.mpr ⟨lw_p21, List.forall_mem_cons.mpr ⟨lw_p22, List.forall_mem_cons.mpr ⟨lw_p23, List.forall_mem_cons.mpr ⟨lw_p24, List.forall_mem_cons.mpr ⟨lw_p25, List.forall_mem_cons.mpr ⟨lw_p26, List.forall_mem_cons.mpr ⟨lw_p27, List.forall_mem_cons.mpr ⟨lw_p28, List.forall_mem_cons.mpr ⟨lw_p29, List.forall_mem_cons.mpr ⟨lw_p30, List.forall_mem_cons.mpr ⟨lw_p31, fun _ h => absurd h List.not_mem_nil⟩⟩⟩⟩⟩⟩⟩⟩⟩⟩⟩⟩⟩⟩⟩⟩
theorem lw_p32 : lw_okq (⟨"TypedLisp$Machine", "evaluateBody", "(LTypedLisp$Function;III)I"⟩, 6) := ⟨⟨by decide +kernel, by decide +kernel⟩, List.mem_of_getElem? (i := 749) (by decide +kernel), List.mem_of_getElem? (i := 795) (by decide +kernel), List.mem_of_getElem? (i := 796) (by decide +kernel)⟩
theorem lw_p33 : lw_okq (⟨"TypedLisp$Machine", "applyToTwo", "(III)I"⟩, 6) := ⟨⟨by decide +kernel, by decide +kernel⟩, List.mem_of_getElem? (i := 749) (by decide +kernel), List.mem_of_getElem? (i := 799) (by decide +kernel), List.mem_of_getElem? (i := 800) (by decide +kernel)⟩
theorem lw_p34 : lw_okq (⟨"TypedLisp$Machine", "madeOrFailed", "(I)I"⟩, 6) := ⟨⟨by decide +kernel, by decide +kernel⟩, List.mem_of_getElem? (i := 749) (by decide +kernel), List.mem_of_getElem? (i := 804) (by decide +kernel), List.mem_of_getElem? (i := 805) (by decide +kernel)⟩
theorem lw_p35 : lw_okq (⟨"TypedLisp$Machine", "fail", "(I)I"⟩, 6) := ⟨⟨by decide +kernel, by decide +kernel⟩, List.mem_of_getElem? (i := 749) (by decide +kernel), List.mem_of_getElem? (i := 808) (by decide +kernel), List.mem_of_getElem? (i := 809) (by decide +kernel)⟩
theorem lw_p36 : lw_okq (⟨"TypedLisp$Machine", "applyToOne", "(II)I"⟩, 6) := ⟨⟨by decide +kernel, by decide +kernel⟩, List.mem_of_getElem? (i := 749) (by decide +kernel), List.mem_of_getElem? (i := 821) (by decide +kernel), List.mem_of_getElem? (i := 822) (by decide +kernel)⟩
theorem lw_p37 : lw_okq (⟨"TypedLispModel", "peek", "()I"⟩, 59) := ⟨⟨by decide +kernel, by decide +kernel⟩, List.mem_of_getElem? (i := 834) (by decide +kernel), List.mem_of_getElem? (i := 1035) (by decide +kernel), List.mem_of_getElem? (i := 1036) (by decide +kernel)⟩
theorem lw_p38 : lw_okq (⟨"TypedLispModel", "readRest", "(I)Z"⟩, 59) := ⟨⟨by decide +kernel, by decide +kernel⟩, List.mem_of_getElem? (i := 834) (by decide +kernel), List.mem_of_getElem? (i := 1039) (by decide +kernel), List.mem_of_getElem? (i := 1040) (by decide +kernel)⟩
theorem lw_p39 : lw_okq (⟨"TypedLispModel", "readExpression", "()I"⟩, 59) := ⟨⟨by decide +kernel, by decide +kernel⟩, List.mem_of_getElem? (i := 834) (by decide +kernel), List.mem_of_getElem? (i := 1043) (by decide +kernel), List.mem_of_getElem? (i := 1044) (by decide +kernel)⟩
theorem lw_p40 : lw_okq (⟨"TypedLispModel", "readPart", "()I"⟩, 59) := ⟨⟨by decide +kernel, by decide +kernel⟩, List.mem_of_getElem? (i := 834) (by decide +kernel), List.mem_of_getElem? (i := 1047) (by decide +kernel), List.mem_of_getElem? (i := 1048) (by decide +kernel)⟩
theorem lw_p41 : lw_okq (⟨"TypedLispModel", "create", "(III)I"⟩, 59) := ⟨⟨by decide +kernel, by decide +kernel⟩, List.mem_of_getElem? (i := 834) (by decide +kernel), List.mem_of_getElem? (i := 1051) (by decide +kernel), List.mem_of_getElem? (i := 1052) (by decide +kernel)⟩
theorem lw_p42 : lw_okq (⟨"TypedLispModel", "readBracket", "()V"⟩, 59) := ⟨⟨by decide +kernel, by decide +kernel⟩, List.mem_of_getElem? (i := 834) (by decide +kernel), List.mem_of_getElem? (i := 1055) (by decide +kernel), List.mem_of_getElem? (i := 1056) (by decide +kernel)⟩
theorem lw_p43 : lw_okq (⟨"TypedLispModel", "partsOf", "(I)I"⟩, 59) := ⟨⟨by decide +kernel, by decide +kernel⟩, List.mem_of_getElem? (i := 834) (by decide +kernel), List.mem_of_getElem? (i := 1059) (by decide +kernel), List.mem_of_getElem? (i := 1060) (by decide +kernel)⟩
theorem lw_p44 : lw_okq (⟨"TypedLispModel", "close", "(I)I"⟩, 59) := ⟨⟨by decide +kernel, by decide +kernel⟩, List.mem_of_getElem? (i := 834) (by decide +kernel), List.mem_of_getElem? (i := 1066) (by decide +kernel), List.mem_of_getElem? (i := 1067) (by decide +kernel)⟩
theorem lw_p45 : lw_okq (⟨"TypedLispModel", "give", "(II)V"⟩, 59) := ⟨⟨by decide +kernel, by decide +kernel⟩, List.mem_of_getElem? (i := 834) (by decide +kernel), List.mem_of_getElem? (i := 1070) (by decide +kernel), List.mem_of_getElem? (i := 1071) (by decide +kernel)⟩
theorem lw_p46 : lw_okq (⟨"TypedLispModel", "fail", "(I)I"⟩, 59) := ⟨⟨by decide +kernel, by decide +kernel⟩, List.mem_of_getElem? (i := 834) (by decide +kernel), List.mem_of_getElem? (i := 1077) (by decide +kernel), List.mem_of_getElem? (i := 1078) (by decide +kernel)⟩
theorem lw_p47 : lw_okq (⟨"TypedLispModel", "everything", "([J)V"⟩, 59) := ⟨⟨by decide +kernel, by decide +kernel⟩, List.mem_of_getElem? (i := 834) (by decide +kernel), List.mem_of_getElem? (i := 1081) (by decide +kernel), List.mem_of_getElem? (i := 1082) (by decide +kernel)⟩
def lw_privs_3 : List (MethodName × Nat) := [(⟨"TypedLisp$Machine", "evaluateBody", "(LTypedLisp$Function;III)I"⟩, 6), (⟨"TypedLisp$Machine", "applyToTwo", "(III)I"⟩, 6), (⟨"TypedLisp$Machine", "madeOrFailed", "(I)I"⟩, 6), (⟨"TypedLisp$Machine", "fail", "(I)I"⟩, 6), (⟨"TypedLisp$Machine", "applyToOne", "(II)I"⟩, 6), (⟨"TypedLispModel", "peek", "()I"⟩, 59), (⟨"TypedLispModel", "readRest", "(I)Z"⟩, 59), (⟨"TypedLispModel", "readExpression", "()I"⟩, 59), (⟨"TypedLispModel", "readPart", "()I"⟩, 59), (⟨"TypedLispModel", "create", "(III)I"⟩, 59), (⟨"TypedLispModel", "readBracket", "()V"⟩, 59), (⟨"TypedLispModel", "partsOf", "(I)I"⟩, 59), (⟨"TypedLispModel", "close", "(I)I"⟩, 59), (⟨"TypedLispModel", "give", "(II)V"⟩, 59), (⟨"TypedLispModel", "fail", "(I)I"⟩, 59), (⟨"TypedLispModel", "everything", "([J)V"⟩, 59)]
theorem lw_r3 : ∀ q ∈ lw_privs_3, lw_okq q := List.forall_mem_cons.mpr ⟨lw_p32, List.forall_mem_cons.mpr ⟨lw_p33, List.forall_mem_cons.mpr ⟨lw_p34, List.forall_mem_cons.mpr ⟨lw_p35, List.forall_mem_cons.mpr ⟨lw_p36, List.forall_mem_cons.mpr ⟨lw_p37, List.forall_mem_cons.mpr ⟨lw_p38, List.forall_mem_cons.mpr ⟨lw_p39, List.forall_mem_cons.mpr ⟨lw_p40, List.forall_mem_cons.mpr ⟨lw_p41, List.forall_mem_cons.mpr ⟨lw_p42, List.forall_mem_cons.mpr ⟨lw_p43, List.forall_mem_cons.mpr ⟨lw_p44, List.forall_mem_cons.mpr ⟨lw_p45, List.forall_mem_cons.mpr ⟨lw_p46, List.forall_mem_cons.mpr ⟨lw_p47, fun _ h => absurd h List.not_mem_nil⟩⟩⟩⟩⟩⟩⟩⟩⟩⟩⟩⟩⟩⟩⟩⟩
theorem lw_p48 : lw_okq (⟨"TypedLispModel", "accepts", "(I[J)Z"⟩, 59) := ⟨⟨by decide +kernel, by decide +kernel⟩, List.mem_of_getElem? (i := 834) (by decide +kernel), List.mem_of_getElem? (i := 1090) (by decide +kernel), List.mem_of_getElem? (i := 1091) (by decide +kernel)⟩
theorem lw_p49 : lw_okq (⟨"TypedLispModel", "five", "(I)I"⟩, 59) := ⟨⟨by decide +kernel, by decide +kernel⟩, List.mem_of_getElem? (i := 834) (by decide +kernel), List.mem_of_getElem? (i := 1094) (by decide +kernel), List.mem_of_getElem? (i := 1095) (by decide +kernel)⟩
theorem lw_p50 : lw_okq (⟨"TypedLispModel", "nextPart", "(II)I"⟩, 59) := ⟨⟨by decide +kernel, by decide +kernel⟩, List.mem_of_getElem? (i := 834) (by decide +kernel), List.mem_of_getElem? (i := 1101) (by decide +kernel), List.mem_of_getElem? (i := 1102) (by decide +kernel)⟩
theorem lw_p51 : lw_okq (⟨"TypedLispModel", "finish", "(III)V"⟩, 59) := ⟨⟨by decide +kernel, by decide +kernel⟩, List.mem_of_getElem? (i := 834) (by decide +kernel), List.mem_of_getElem? (i := 1111) (by decide +kernel), List.mem_of_getElem? (i := 1112) (by decide +kernel)⟩
theorem lw_p52 : lw_okq (⟨"TypedLispModel", "conclude", "(I)V"⟩, 59) := ⟨⟨by decide +kernel, by decide +kernel⟩, List.mem_of_getElem? (i := 834) (by decide +kernel), List.mem_of_getElem? (i := 1118) (by decide +kernel), List.mem_of_getElem? (i := 1119) (by decide +kernel)⟩
theorem lw_p53 : lw_okq (⟨"TypedLispModel", "start", "(I)V"⟩, 59) := ⟨⟨by decide +kernel, by decide +kernel⟩, List.mem_of_getElem? (i := 834) (by decide +kernel), List.mem_of_getElem? (i := 1122) (by decide +kernel), List.mem_of_getElem? (i := 1123) (by decide +kernel)⟩
theorem lw_p54 : lw_okq (⟨"TypedLispModel", "concludeVariable", "(I)V"⟩, 59) := ⟨⟨by decide +kernel, by decide +kernel⟩, List.mem_of_getElem? (i := 834) (by decide +kernel), List.mem_of_getElem? (i := 1126) (by decide +kernel), List.mem_of_getElem? (i := 1127) (by decide +kernel)⟩
theorem lw_p55 : lw_okq (⟨"TypedLispModel", "split", "(I)V"⟩, 59) := ⟨⟨by decide +kernel, by decide +kernel⟩, List.mem_of_getElem? (i := 834) (by decide +kernel), List.mem_of_getElem? (i := 1130) (by decide +kernel), List.mem_of_getElem? (i := 1131) (by decide +kernel)⟩
theorem lw_p56 : lw_okq (⟨"TypedLispModel", "concludeTest", "(II)V"⟩, 59) := ⟨⟨by decide +kernel, by decide +kernel⟩, List.mem_of_getElem? (i := 834) (by decide +kernel), List.mem_of_getElem? (i := 1143) (by decide +kernel), List.mem_of_getElem? (i := 1144) (by decide +kernel)⟩
theorem lw_p57 : lw_okq (⟨"TypedLispModel", "placeOf", "(I)I"⟩, 59) := ⟨⟨by decide +kernel, by decide +kernel⟩, List.mem_of_getElem? (i := 834) (by decide +kernel), List.mem_of_getElem? (i := 1147) (by decide +kernel), List.mem_of_getElem? (i := 1148) (by decide +kernel)⟩
theorem lw_p58 : lw_okq (⟨"TypedLispModel", "typeOf", "(I)I"⟩, 59) := ⟨⟨by decide +kernel, by decide +kernel⟩, List.mem_of_getElem? (i := 834) (by decide +kernel), List.mem_of_getElem? (i := 1151) (by decide +kernel), List.mem_of_getElem? (i := 1152) (by decide +kernel)⟩
theorem lw_p59 : lw_okq (⟨"TypedLispModel", "concludeNot", "(I)V"⟩, 59) := ⟨⟨by decide +kernel, by decide +kernel⟩, List.mem_of_getElem? (i := 834) (by decide +kernel), List.mem_of_getElem? (i := 1155) (by decide +kernel), List.mem_of_getElem? (i := 1156) (by decide +kernel)⟩
theorem lw_p60 : lw_okq (⟨"TypedLispModel", "concludeHalf", "(I)V"⟩, 59) := ⟨⟨by decide +kernel, by decide +kernel⟩, List.mem_of_getElem? (i := 834) (by decide +kernel), List.mem_of_getElem? (i := 1159) (by decide +kernel), List.mem_of_getElem? (i := 1160) (by decide +kernel)⟩
theorem lw_p61 : lw_okq (⟨"TypedLispModel", "refuse", "(I)V"⟩, 59) := ⟨⟨by decide +kernel, by decide +kernel⟩, List.mem_of_getElem? (i := 834) (by decide +kernel), List.mem_of_getElem? (i := 1163) (by decide +kernel), List.mem_of_getElem? (i := 1164) (by decide +kernel)⟩
theorem lw_p62 : lw_okq (⟨"TypedLispModel", "concludeSum", "(I)V"⟩, 59) := ⟨⟨by decide +kernel, by decide +kernel⟩, List.mem_of_getElem? (i := 834) (by decide +kernel), List.mem_of_getElem? (i := 1170) (by decide +kernel), List.mem_of_getElem? (i := 1171) (by decide +kernel)⟩
theorem lw_p63 : lw_okq (⟨"TypedLispModel", "concludeIf", "(I)V"⟩, 59) := ⟨⟨by decide +kernel, by decide +kernel⟩, List.mem_of_getElem? (i := 834) (by decide +kernel), List.mem_of_getElem? (i := 1174) (by decide +kernel), List.mem_of_getElem? (i := 1175) (by decide +kernel)⟩
def lw_privs_4 : List (MethodName × Nat) := [(⟨"TypedLispModel", "accepts", "(I[J)Z"⟩, 59), (⟨"TypedLispModel", "five", "(I)I"⟩, 59), (⟨"TypedLispModel", "nextPart", "(II)I"⟩, 59), (⟨"TypedLispModel", "finish", "(III)V"⟩, 59), (⟨"TypedLispModel", "conclude", "(I)V"⟩, 59), (⟨"TypedLispModel", "start", "(I)V"⟩, 59), (⟨"TypedLispModel", "concludeVariable", "(I)V"⟩, 59), (⟨"TypedLispModel", "split", "(I)V"⟩, 59), (⟨"TypedLispModel", "concludeTest", "(II)V"⟩, 59), (⟨"TypedLispModel", "placeOf", "(I)I"⟩, 59), (⟨"TypedLispModel", "typeOf", "(I)I"⟩, 59), (⟨"TypedLispModel", "concludeNot", "(I)V"⟩, 59), (⟨"TypedLispModel", "concludeHalf", "(I)V"⟩, 59), (⟨"TypedLispModel", "refuse", "(I)V"⟩, 59), (⟨"TypedLispModel", "concludeSum", "(I)V"⟩, 59), (⟨"TypedLispModel", "concludeIf", "(I)V"⟩, 59)]
theorem lw_r4 : ∀ q ∈ lw_privs_4, lw_okq q := List.forall_mem_cons.mpr ⟨lw_p48, List.forall_mem_cons.mpr ⟨lw_p49, List.forall_mem_cons.mpr ⟨lw_p50, List.forall_mem_cons.mpr ⟨lw_p51, List.forall_mem_cons.mpr ⟨lw_p52, List.forall_mem_cons.mpr ⟨lw_p53, List.forall_mem_cons.mpr ⟨lw_p54, List.forall_mem_cons.mpr ⟨lw_p55, List.forall_mem_cons.mpr ⟨lw_p56, List.forall_mem_cons.mpr ⟨lw_p57, List.forall_mem_cons.mpr ⟨lw_p58, List.forall_mem_cons.mpr ⟨lw_p59, List.forall_mem_cons.mpr ⟨lw_p60, List.forall_mem_cons.mpr ⟨lw_p61, List.forall_mem_cons.mpr ⟨lw_p62, List.forall_mem_cons.mpr ⟨lw_p63, fun _ h => absurd h List.not_mem_nil⟩⟩⟩⟩⟩⟩⟩⟩⟩⟩⟩⟩⟩⟩⟩⟩
theorem lw_p64 : lw_okq (⟨"TypedLispModel", "concludeAnd", "(I)V"⟩, 59) := ⟨⟨by decide +kernel, by decide +kernel⟩, List.mem_of_getElem? (i := 834) (by decide +kernel), List.mem_of_getElem? (i := 1181) (by decide +kernel), List.mem_of_getElem? (i := 1182) (by decide +kernel)⟩
theorem lw_p65 : lw_okq (⟨"TypedLispModel", "concludeOr", "(I)V"⟩, 59) := ⟨⟨by decide +kernel, by decide +kernel⟩, List.mem_of_getElem? (i := 834) (by decide +kernel), List.mem_of_getElem? (i := 1185) (by decide +kernel), List.mem_of_getElem? (i := 1186) (by decide +kernel)⟩
theorem lw_p66 : lw_okq (⟨"TypedLispModel", "concludeLet", "(I)V"⟩, 59) := ⟨⟨by decide +kernel, by decide +kernel⟩, List.mem_of_getElem? (i := 834) (by decide +kernel), List.mem_of_getElem? (i := 1189) (by decide +kernel), List.mem_of_getElem? (i := 1190) (by decide +kernel)⟩
theorem lw_p67 : lw_okq (⟨"TypedLispModel", "concludeCall", "(I)V"⟩, 59) := ⟨⟨by decide +kernel, by decide +kernel⟩, List.mem_of_getElem? (i := 834) (by decide +kernel), List.mem_of_getElem? (i := 1196) (by decide +kernel), List.mem_of_getElem? (i := 1197) (by decide +kernel)⟩
theorem lw_p68 : lw_okq (⟨"TypedLispModel", "enter", "(II)V"⟩, 59) := ⟨⟨by decide +kernel, by decide +kernel⟩, List.mem_of_getElem? (i := 834) (by decide +kernel), List.mem_of_getElem? (i := 1203) (by decide +kernel), List.mem_of_getElem? (i := 1204) (by decide +kernel)⟩
theorem lw_p69 : lw_okq (⟨"TypedLispModel", "move", "(I)V"⟩, 59) := ⟨⟨by decide +kernel, by decide +kernel⟩, List.mem_of_getElem? (i := 834) (by decide +kernel), List.mem_of_getElem? (i := 1207) (by decide +kernel), List.mem_of_getElem? (i := 1208) (by decide +kernel)⟩
theorem lw_p70 : lw_okq (⟨"TypedLispModel", "removeRun", "()V"⟩, 59) := ⟨⟨by decide +kernel, by decide +kernel⟩, List.mem_of_getElem? (i := 834) (by decide +kernel), List.mem_of_getElem? (i := 1234) (by decide +kernel), List.mem_of_getElem? (i := 1235) (by decide +kernel)⟩
theorem lw_p71 : lw_okq (⟨"TypedLispModel", "make", "(IIII)I"⟩, 59) := ⟨⟨by decide +kernel, by decide +kernel⟩, List.mem_of_getElem? (i := 834) (by decide +kernel), List.mem_of_getElem? (i := 1238) (by decide +kernel), List.mem_of_getElem? (i := 1239) (by decide +kernel)⟩
theorem lw_p72 : lw_okq (⟨"TypedLispModel", "isMade", "(I)Z"⟩, 59) := ⟨⟨by decide +kernel, by decide +kernel⟩, List.mem_of_getElem? (i := 834) (by decide +kernel), List.mem_of_getElem? (i := 1246) (by decide +kernel), List.mem_of_getElem? (i := 1247) (by decide +kernel)⟩
theorem lw_p73 : lw_okq (⟨"TypedLispModel", "begin", "(II)V"⟩, 59) := ⟨⟨by decide +kernel, by decide +kernel⟩, List.mem_of_getElem? (i := 834) (by decide +kernel), List.mem_of_getElem? (i := 1262) (by decide +kernel), List.mem_of_getElem? (i := 1263) (by decide +kernel)⟩
theorem lw_p74 : lw_okq (⟨"TypedLispModel", "goOn", "()V"⟩, 59) := ⟨⟨by decide +kernel, by decide +kernel⟩, List.mem_of_getElem? (i := 834) (by decide +kernel), List.mem_of_getElem? (i := 1266) (by decide +kernel), List.mem_of_getElem? (i := 1267) (by decide +kernel)⟩
theorem lw_p75 : lw_okq (⟨"TypedLispModel", "leaf", "(II)V"⟩, 59) := ⟨⟨by decide +kernel, by decide +kernel⟩, List.mem_of_getElem? (i := 834) (by decide +kernel), List.mem_of_getElem? (i := 1270) (by decide +kernel), List.mem_of_getElem? (i := 1271) (by decide +kernel)⟩
theorem lw_p76 : lw_okq (⟨"TypedLispModel", "end", "(I)V"⟩, 59) := ⟨⟨by decide +kernel, by decide +kernel⟩, List.mem_of_getElem? (i := 834) (by decide +kernel), List.mem_of_getElem? (i := 1274) (by decide +kernel), List.mem_of_getElem? (i := 1275) (by decide +kernel)⟩
theorem lw_p77 : lw_okq (⟨"TypedLispModel", "callOn", "(III)V"⟩, 59) := ⟨⟨by decide +kernel, by decide +kernel⟩, List.mem_of_getElem? (i := 834) (by decide +kernel), List.mem_of_getElem? (i := 1278) (by decide +kernel), List.mem_of_getElem? (i := 1279) (by decide +kernel)⟩
theorem lw_p78 : lw_okq (⟨"TypedLispModel", "unary", "(II)V"⟩, 59) := ⟨⟨by decide +kernel, by decide +kernel⟩, List.mem_of_getElem? (i := 834) (by decide +kernel), List.mem_of_getElem? (i := 1282) (by decide +kernel), List.mem_of_getElem? (i := 1283) (by decide +kernel)⟩
theorem lw_p79 : lw_okq (⟨"TypedLispModel", "stop", "(I)V"⟩, 59) := ⟨⟨by decide +kernel, by decide +kernel⟩, List.mem_of_getElem? (i := 834) (by decide +kernel), List.mem_of_getElem? (i := 1289) (by decide +kernel), List.mem_of_getElem? (i := 1290) (by decide +kernel)⟩
def lw_privs_5 : List (MethodName × Nat) := [(⟨"TypedLispModel", "concludeAnd", "(I)V"⟩, 59), (⟨"TypedLispModel", "concludeOr", "(I)V"⟩, 59), (⟨"TypedLispModel", "concludeLet", "(I)V"⟩, 59), (⟨"TypedLispModel", "concludeCall", "(I)V"⟩, 59), (⟨"TypedLispModel", "enter", "(II)V"⟩, 59), (⟨"TypedLispModel", "move", "(I)V"⟩, 59), (⟨"TypedLispModel", "removeRun", "()V"⟩, 59), (⟨"TypedLispModel", "make", "(IIII)I"⟩, 59), (⟨"TypedLispModel", "isMade", "(I)Z"⟩, 59), (⟨"TypedLispModel", "begin", "(II)V"⟩, 59), (⟨"TypedLispModel", "goOn", "()V"⟩, 59), (⟨"TypedLispModel", "leaf", "(II)V"⟩, 59), (⟨"TypedLispModel", "end", "(I)V"⟩, 59), (⟨"TypedLispModel", "callOn", "(III)V"⟩, 59), (⟨"TypedLispModel", "unary", "(II)V"⟩, 59), (⟨"TypedLispModel", "stop", "(I)V"⟩, 59)]
theorem lw_r5 : ∀ q ∈ lw_privs_5, lw_okq q := List.forall_mem_cons.mpr ⟨lw_p64, List.forall_mem_cons.mpr ⟨lw_p65, List.forall_mem_cons.mpr ⟨lw_p66, List.forall_mem_cons.mpr ⟨lw_p67, List.forall_mem_cons.mpr ⟨lw_p68, List.forall_mem_cons.mpr ⟨lw_p69, List.forall_mem_cons.mpr ⟨lw_p70, List.forall_mem_cons.mpr ⟨lw_p71, List.forall_mem_cons.mpr ⟨lw_p72, List.forall_mem_cons.mpr ⟨lw_p73, List.forall_mem_cons.mpr ⟨lw_p74, List.forall_mem_cons.mpr ⟨lw_p75, List.forall_mem_cons.mpr ⟨lw_p76, List.forall_mem_cons.mpr ⟨lw_p77, List.forall_mem_cons.mpr ⟨lw_p78, List.forall_mem_cons.mpr ⟨lw_p79, fun _ h => absurd h List.not_mem_nil⟩⟩⟩⟩⟩⟩⟩⟩⟩⟩⟩⟩⟩⟩⟩⟩
theorem lw_p80 : lw_okq (⟨"TypedLispModel", "choose", "(III)V"⟩, 59) := ⟨⟨by decide +kernel, by decide +kernel⟩, List.mem_of_getElem? (i := 834) (by decide +kernel), List.mem_of_getElem? (i := 1293) (by decide +kernel), List.mem_of_getElem? (i := 1294) (by decide +kernel)⟩
theorem lw_p81 : lw_okq (⟨"TypedLispModel", "binary", "(III)V"⟩, 59) := ⟨⟨by decide +kernel, by decide +kernel⟩, List.mem_of_getElem? (i := 834) (by decide +kernel), List.mem_of_getElem? (i := 1297) (by decide +kernel), List.mem_of_getElem? (i := 1298) (by decide +kernel)⟩
def lw_privs_6 : List (MethodName × Nat) := [(⟨"TypedLispModel", "choose", "(III)V"⟩, 59), (⟨"TypedLispModel", "binary", "(III)V"⟩, 59)]
theorem lw_r6 : ∀ q ∈ lw_privs_6, lw_okq q := List.forall_mem_cons.mpr ⟨lw_p80, List.forall_mem_cons.mpr ⟨lw_p81, fun _ h => absurd h List.not_mem_nil⟩⟩
def lw_privs : List (MethodName × Nat) := lw_privs_1 ++ (lw_privs_2 ++ (lw_privs_3 ++ (lw_privs_4 ++ (lw_privs_5 ++ (lw_privs_6)))))
def lw_tbl : List Cond := k2_sels lw_privs ++ tables_1
theorem lw_privs_ok : ∀ q ∈ lw_privs, lw_okq q := by
  show ∀ q ∈ lw_privs_1 ++ (lw_privs_2 ++ (lw_privs_3 ++ (lw_privs_4 ++ (lw_privs_5 ++ (lw_privs_6))))), lw_okq q
  exact List.forall_mem_append.mpr ⟨lw_r1, List.forall_mem_append.mpr ⟨lw_r2, List.forall_mem_append.mpr ⟨lw_r3, List.forall_mem_append.mpr ⟨lw_r4, List.forall_mem_append.mpr ⟨lw_r5, lw_r6⟩⟩⟩⟩⟩
/-! ===== BEGIN words of one list among another's, by their places ===== -/
theorem goodIn_r {big : List Cond} (ws : List Cond) (ps : List Nat) (hp : ws = ps.filterMap (fun i => big[i]?)) (h : ws.all goodWord = true) : GoodIn big ws := by
  intro w hw
  have h1 := List.all_eq_true.mp h w hw
  rw [hp] at hw
  obtain ⟨i, -, hi⟩ := List.mem_filterMap.mp hw
  have hm : w ∈ big := by first | exact List.mem_of_getElem? hi | exact List.getElem?_mem hi
  exact ⟨hm, good_of_word h1⟩
theorem goodIn_app {big a b : List Cond} (ha : GoodIn big a) (hb : GoodIn big b) : GoodIn big (a ++ b) := fun w h => (List.mem_append.mp h).elim (ha w) (hb w)
theorem goodIn_ca {big a b : List Cond} {c : Cond} (ha : GoodIn big (c :: a)) (hb : GoodIn big b) : GoodIn big (c :: (a ++ b)) := fun w h => (List.mem_cons.mp h).elim (fun e => ha w (List.mem_cons.mpr (Or.inl e))) (fun h => (List.mem_append.mp h).elim (fun h => ha w (List.mem_cons.mpr (Or.inr h))) (hb w))
theorem goodIn_sub {big ws : List Cond} (hm : ∀ w ∈ ws, w ∈ big) (h : ws.all goodWord = true) : GoodIn big ws := fun w hw => ⟨hm w hw, good_of_word (List.all_eq_true.mp h w hw)⟩
/-! ===== END ===== -/

/-! ===== BEGIN new T[n][m]: the outer array a place, the inner ones among the pooled ===== -/
/-- f, but v at every address of l -/
def vr_up {α : Type} (f : Nat → α) (l : List Nat) (v : α) : Nat → α := fun a => if a ∈ l then v else f a
theorem vr_up_in {α : Type} {f : Nat → α} {l : List Nat} {v : α} {a : Nat} (h : a ∈ l) : vr_up f l v a = v := if_pos h
theorem vr_up_ne {α : Type} {f : Nat → α} {l : List Nat} {v : α} {a : Nat} (h : a ∉ l) : vr_up f l v a = f a := if_neg h
theorem vr_rows {L l : List Nat} {f : Nat → va_E} {e : va_E} (h : ∀ a, a ∈ l → a ∉ L) : va_pl L f ++ l.map (fun a => (a, e)) = va_pl (L ++ l) (vr_up f l e) := by
  unfold va_pl
  rw [List.map_append]
  congr 1
  · apply List.map_congr_left
    intro a ha
    rw [vr_up_ne (fun q => h a q ha)]
  · apply List.map_congr_left
    intro a ha
    rw [vr_up_in ha]
theorem vr_lay {X rows : va_W} {x : Nat × va_E} {pl : va_W} {D : va_G} {cl : List vw_C} {H : Heap} (hP : va_P D cl (((X ++ pl) ++ [x]) ++ rows) H) : va_P D cl ((X ++ [x]) ++ (pl ++ rows)) H := by
  rw [List.append_assoc (X ++ pl)] at hP
  have h := va_P.swap hP
  rw [← List.append_assoc X] at h
  have h2 := va_P.swap h
  rw [List.append_assoc (X ++ [x])] at h2
  exact h2
theorem vr_layD {X rows : va_W} {x : Nat × va_E} {pl : va_W} {A : Nat → Prop} (hD : va_D A (((X ++ pl) ++ [x]) ++ rows)) : va_D A ((X ++ [x]) ++ (pl ++ rows)) := by
  rw [List.append_assoc (X ++ pl)] at hD
  have h := va_D.swap hD
  rw [← List.append_assoc X] at h
  have h2 := va_D.swap h
  rw [List.append_assoc (X ++ [x])] at h2
  exact h2
theorem vr_outer (c : ClassId) (N h0 : Nat) : ∀ i : Nat, Jvm.Free.Multi.outerC c N h0 i = arrV c N (fun j => va_rf (if j < i then some (h0 + 1 + j) else none))
  | 0 => by
    show ({ cls := c, slots := Array.replicate N .null, vm := .none } : Cell) = _
    rw [arrV_new]
    refine congrArg (arrV c N) (funext fun j => ?_)
    simp [va_rf]
  | i + 1 => by
    show (Jvm.Free.Multi.outerC c N h0 i).setSlot i (.ref (h0 + 1 + i)) = _
    rw [vr_outer c N h0 i, arrV_store]
    refine congrArg (arrV c N) (funext fun j => ?_)
    by_cases e : j = i
    · subst e
      simp [updV, va_rf]
    · by_cases h : j < i
      · simp [updV, e, h, Nat.lt_succ_of_lt h]
      · simp [updV, e, h, show ¬ j < i + 1 by omega]
def va_AOA (t : FieldType) (U : State) : Prop := (Cond.arrayOver (.array t)).before #[] U = true
theorem va_AOA.use {t : FieldType} {A : Array Value} {U : State} (h : va_AOA t U) : (Cond.arrayOver (.array t)).before A U = true := h
section VGM
variable {p : Program} {l : Launch} {e : Env} {R : Room} {s : State} {m : MethodId} {args : Array Value} {below : List Frame} {meth : Method} {c : Code} {H : Heap} {locs : List Loc} {cells slots : Nat} {Q : State → Prop}
variable {cc : ByteArray} {pc : Nat} {ls : Array Slot} {rest : List Value} {D : va_G} {cl : List vw_C} {A : Nat → Prop} {a : Nat} {tys : List (ClassId × FieldType)} {ws : va_W} {H0 : Heap}
theorem va_mna {X : va_W} {L : List Nat} {f : Nat → va_E} {cc : ByteArray} (hexec : p.tables.exec = Jvm.exec) (hb : c.code = cc) {own : String} {index : Nat} {ty : FieldType} {cy : ClassId} (hown : s.vm.findClass own = some m.cls) (hclink : (Cond.classLink own index ("[" ++ (FieldType.array ty).toString)).before args s = true) (hover : va_AOA ty s) (harr : (Cond.arrayClass ty).before args s = true) (hcy : s.vm.findClass (FieldType.array ty).toString = some cy)
    (hK : va_K D cl tys s) (hP : va_P D cl (X ++ va_pl L f) H) (hD : va_D A (X ++ va_pl L f)) (hS : va_S A H0 H locs) (hA : ∀ q, H0.size ≤ q → A q) {n k : Int32} {N' K' : Nat} {z : vp_A} (hn : ¬ n < 0) (hk : ¬ k < 0) (hN : n.toNatClampNeg = N') (hM : k.toNatClampNeg = K')
    (hb1 : N' * 4 ≤ 536870912) (hb2 : K' * componentBytes ty ≤ 536870912) (hb3 : K' ≤ 536870912) (hdf : fits ty (defaultValue ty) = true) (hdd : (defaultValue ty).isDefault = true) (hcells : cells + (1 + N') ≤ R.cells) (hslots : slots + (N' + N' * K') ≤ R.slots) (hz : ∀ c : ClassId, Jvm.Free.Multi.innerC c K' (defaultValue ty) = vp_cell c z) (hdg : decode cc pc = .ok (.multianewarray index 2, 4))
    (kk : ∀ (q : Nat) (r : Nat → Nat) (cA : ClassId) (H1 : Heap), (∀ i j : Nat, i < N' → j < N' → r i = r j → i = j) → (∀ i : Nat, i < N' → r i ∉ L) → va_K D cl (tys ++ [(cA, .array ty)]) s →
      va_P D cl ((X ++ [(q, .inl (cA, N', .inr (.inr (.inr (.inr (fun i => if i < N' then some (r i) else none))))))]) ++ va_pl (L ++ (List.range N').map r) (vr_up f ((List.range N').map r) (.inl (cy, z)))) H1 → va_D A ((X ++ [(q, .inl (cA, N', .inr (.inr (.inr (.inr (fun i => if i < N' then some (r i) else none))))))]) ++ va_pl (L ++ (List.range N').map r) (vr_up f ((List.range N').map r) (.inl (cy, z)))) → va_S A H0 H1 locs →
      W p l e R s m args below meth c H1 locs (cells + 1 + N') (slots + N' + N' * K') Q (F0 m (pc + 4) ls (.ref q :: rest))) : W p l e R s m args below meth c H locs cells slots Q (F0 m pc ls (.int k :: .int n :: rest)) := by
  subst hN
  subst hM
  intro T hT Xs
  obtain ⟨vm₁, cA, comp, -, fA, fC, hO, -, X', step⟩ := Xs.multianewarray2F hexec hown hclink (va_AOA.use hover) harr (g := F0 m pc ls (.int k :: .int n :: rest)) rfl (by rw [hb]; exact hdg) rfl hn hk hb1 hb2 hb3 hdf hdd hcells hslots
  have ec : some cy = some comp := hcy.symm.trans fC
  cases ec
  generalize hF : Jvm.Free.Multi.fill (T.setVm vm₁) cA cy n.toNatClampNeg k.toNatClampNeg (defaultValue ty) n.toNatClampNeg = F at X' step
  have hTh : (T.setVm vm₁).heap = H := hT
  obtain ⟨f1, f2, -, -⟩ := Jvm.Free.Multi.fill_facts (T.setVm vm₁) cA cy n.toNatClampNeg k.toNatClampNeg (defaultValue ty) n.toNatClampNeg
  rw [hF, hTh] at f1 f2
  have hold : ∀ x : Nat, x < H.size → F.heap[x]? = H[x]? := fun x hx => by
    have := Jvm.Free.Multi.fill_old (T.setVm vm₁) cA cy n.toNatClampNeg k.toNatClampNeg (defaultValue ty) (a := x) (by rw [hTh]; exact hx) n.toNatClampNeg
    rw [hF, hTh] at this
    exact this
  have hrow : ∀ j : Nat, j < n.toNatClampNeg → F.heap[H.size + 1 + j]? = some (vp_cell cy z) := fun j hj => by
    have := Jvm.Free.Multi.fill_inner (T.setVm vm₁) cA cy n.toNatClampNeg k.toNatClampNeg (defaultValue ty) n.toNatClampNeg j hj
    rw [hF, hTh, hz] at this
    exact this
  have hout : Jvm.Free.Multi.outerC cA n.toNatClampNeg H.size n.toNatClampNeg = vp_cell cA (n.toNatClampNeg, .inr (.inr (.inr (.inr (fun i => if i < n.toNatClampNeg then some (H.size + 1 + i) else none))))) := by
    rw [vp_cell_q]
    exact vr_outer cA n.toNatClampNeg H.size n.toNatClampNeg
  rw [hout] at f2
  have hlt : ∀ a, a ∈ L → a < H.size := fun a ha => by
    obtain ⟨k9, hk9⟩ := va_pl_get (X := X) (f := f) ha
    exact (hP k9 _ hk9).lt
  have hnl : ∀ i : Nat, i < n.toNatClampNeg → H.size + 1 + i ∉ L := fun i _ h => by
    have := hlt _ h
    omega
  have hnm : ∀ a, a ∈ (List.range n.toNatClampNeg).map (fun i => H.size + 1 + i) → a ∉ L := fun a ha h => by
    obtain ⟨i, -, rfl⟩ := List.mem_map.mp ha
    have := hlt _ h
    omega
  have hP0 : va_P D cl (X ++ va_pl L f) F.heap := hP.kept (fun k9 x hx => hold x.1 ((hP k9 x hx).lt))
  have hP1 : va_P D cl ((X ++ va_pl L f) ++ [(H.size, .inl (cA, n.toNatClampNeg, .inr (.inr (.inr (.inr (fun i => if i < n.toNatClampNeg then some (H.size + 1 + i) else none))))))]) F.heap := hP0.app (fun k9 x hx => by
    have h0 : k9 < 1 := (List.getElem?_eq_some_iff.mp hx).1
    rw [show k9 = 0 by omega] at hx
    cases hx
    exact f2)
  have hP2 : va_P D cl (((X ++ va_pl L f) ++ [(H.size, .inl (cA, n.toNatClampNeg, .inr (.inr (.inr (.inr (fun i => if i < n.toNatClampNeg then some (H.size + 1 + i) else none))))))]) ++ ((List.range n.toNatClampNeg).map (fun i => H.size + 1 + i)).map (fun a => (a, .inl (cy, z)))) F.heap := hP1.app (fun k9 x hx => by
    obtain ⟨a, ha, rfl⟩ := List.mem_map.mp (List.mem_of_getElem? hx)
    obtain ⟨i, hi, rfl⟩ := List.mem_map.mp ha
    exact hrow i (List.mem_range.mp hi))
  have hD2 : va_D A (((X ++ va_pl L f) ++ [(H.size, .inl (cA, n.toNatClampNeg, .inr (.inr (.inr (.inr (fun i => if i < n.toNatClampNeg then some (H.size + 1 + i) else none))))))]) ++ ((List.range n.toNatClampNeg).map (fun i => H.size + 1 + i)).map (fun a => (a, .inl (cy, z)))) := by
    have hD1 := hD.push (e := .inl (cA, n.toNatClampNeg, .inr (.inr (.inr (.inr (fun i => if i < n.toNatClampNeg then some (H.size + 1 + i) else none)))))) hP rfl (hA _ hS.1)
    generalize hW1 : (X ++ va_pl L f) ++ [(H.size, .inl (cA, n.toNatClampNeg, .inr (.inr (.inr (.inr (fun i => if i < n.toNatClampNeg then some (H.size + 1 + i) else none))))))] = W1 at hD1 hP1 ⊢
    have hle : ∀ (k9 : Nat) (x : Nat × va_E), W1[k9]? = some x → x.1 ≤ H.size := fun k9 x hx => by
      rw [← hW1] at hx
      by_cases hl : k9 < (X ++ va_pl L f).length
      · rw [List.getElem?_append_left hl] at hx
        exact Nat.le_of_lt ((hP k9 x hx).lt)
      · rw [List.getElem?_append_right (by omega)] at hx
        have h0 : k9 - (X ++ va_pl L f).length < 1 := (List.getElem?_eq_some_iff.mp hx).1
        rw [show k9 - (X ++ va_pl L f).length = 0 by omega] at hx
        cases hx
        exact Nat.le_refl _
    have hr : ∀ (k9 : Nat) (x : Nat × va_E), (((List.range n.toNatClampNeg).map (fun i => H.size + 1 + i)).map (fun a => ((a, .inl (cy, z)) : Nat × va_E)))[k9]? = some x → x.1 = H.size + 1 + k9 := fun k9 x hx => by
      rw [List.getElem?_map, List.getElem?_map] at hx
      by_cases h9 : k9 < n.toNatClampNeg
      · rw [List.getElem?_range h9] at hx
        cases hx
        rfl
      · have hn0 : (List.range n.toNatClampNeg)[k9]? = none := List.getElem?_eq_none (by rw [List.length_range]; omega)
        rw [hn0] at hx
        cases hx
    refine ⟨fun i j x y hi hj hxy => ?_, fun k9 x hx => ?_⟩
    · by_cases h1 : i < W1.length <;> by_cases h2 : j < W1.length
      · rw [List.getElem?_append_left h1] at hi
        rw [List.getElem?_append_left h2] at hj
        exact hD1.1 i j x y hi hj hxy
      · rw [List.getElem?_append_left h1] at hi
        rw [List.getElem?_append_right (by omega)] at hj
        have := hle _ _ hi
        have := hr _ _ hj
        omega
      · rw [List.getElem?_append_right (by omega)] at hi
        rw [List.getElem?_append_left h2] at hj
        have := hle _ _ hj
        have := hr _ _ hi
        omega
      · rw [List.getElem?_append_right (by omega)] at hi hj
        have := hr _ _ hi
        have := hr _ _ hj
        omega
    · by_cases h1 : k9 < W1.length
      · rw [List.getElem?_append_left h1] at hx
        exact hD1.2 k9 x hx
      · rw [List.getElem?_append_right (by omega)] at hx
        have := hr _ _ hx
        exact hA _ (by have := hS.1; omega)
  have hAr : ArrOfT s cA (.array ty) := fun N9 z9 => by
    obtain ⟨-, k9, hk9, cm9, hkk9⟩ := (hO 0 0 0).1
    exact ⟨(fun q hq => by cases hq), k9, hk9, cm9, hkk9⟩
  have hK2 : va_K D cl (tys ++ [(cA, .array ty)]) s := ⟨hK.1, fun k9 x hx => by
    by_cases hl : k9 < tys.length
    · rw [List.getElem?_append_left hl] at hx
      exact hK.2 k9 x hx
    · rw [List.getElem?_append_right (by omega)] at hx
      have h0 : k9 - tys.length < 1 := (List.getElem?_eq_some_iff.mp hx).1
      rw [show k9 - tys.length = 0 by omega] at hx
      cases hx
      exact ⟨hAr, fA⟩⟩
  obtain ⟨t, a1, b1⟩ := kk H.size (fun i => H.size + 1 + i) cA F.heap (fun i j _ _ h => by have h9 : H.size + 1 + i = H.size + 1 + j := h; omega) hnl hK2 (by rw [← vr_rows hnm]; exact vr_lay hP2) (by rw [← vr_rows hnm]; exact vr_layD hD2) ⟨by rw [f1]; have := hS.1; omega, fun x h1 h2 => (hold x (Nat.lt_of_lt_of_le h1 hS.1)).trans (hS.2.1 x h1 h2), hS.2.2⟩ F rfl X'
  refine ⟨t, step t ?_, b1⟩
  have e : T.heap.size = H.size := by rw [hT]
  rw [e]
  exact a1
end VGM
/-! ===== END ===== -/

/-! ===== BEGIN exceptions that leave a method, and their catching by the caller (launches without stack traces) ===== -/
section VXA
/-! The laws vx_back, vx_callV, vx_callS, vx_callSW, vx_throw0, vx_throwS follow proofs of the library, with one case more: JvmDerived/Free/Laws.lean (Back.of_free), Shelf42/LK1.lean (callV, callS), Shelf/KitTraced.lean (throwNew0V, throwNewS). -/
-- (Bundle: named in full below)
/-- where a method has thrown q: the class by its name, the cell, what was written, the world -/
def vx_T (XC : String → State → State → Prop) (st : State) (q : Addr) (t : State) (mc ms : Nat) (free : Addr → Prop) : Prop :=
  ∃ (E : String) (ce : Cell) (L : List Loc), XC E st t ∧ t.heap[q]? = some ce ∧ ce.vm = .none ∧ st.vm.findClass E = some ce.cls ∧ st.WarmedH t.vm ∧ st.sameButNew ({ t with vm := st.vm } : State) L mc ms ∧ ∀ z ∈ L, free z.base
def vx_Q (Qc : Array Value → State → Outcome → State → Prop) (XC : String → State → State → Prop) (mc ms : Nat) (free : Addr → Prop) : Array Value → State → Outcome → State → Prop := fun a st o t =>
  (Qc a st o t ∧ ∃ L, FrameEnd st o t L mc ms ∧ ∀ q ∈ L, free q.base) ∨ ∃ q, o = .threw q ∧ vx_T XC st q t mc ms free
/-- a callee that returns or throws -/
def vx_Met (l : Launch) (y : MethodName) (ws : List Cond) (rm : Room) (Pc : Array Value → State → Prop) (Qc : Array Value → State → Outcome → State → Prop) (XC : String → State → State → Prop) (mc ms : Nat) (free : Addr → Prop) : Prop :=
  MetFree l y (headSpec ws rm) Pc (fun _ _ _ _ _ => True) (vx_Q Qc XC mc ms free)
def vx_Post (XC : String → State → State → Prop) (mc ms : Nat) (free : Addr → Prop) : Pt → Array Value → Addr → Pt → Prop := fun A a q B =>
  ∃ (g : JFrame) (mk : MethodId) (t : State) (L : List Loc) (E : String) (ce : Cell), B.U.heap = t.heap ∧ B.U.vm = t.vm ∧ XC E (A.U.calling g mk a) t ∧ t.heap[q]? = some ce ∧ ce.vm = .none ∧ A.U.vm.findClass E = some ce.cls ∧ B.locs = A.locs ++ L ∧ (∀ z ∈ L, free z.base) ∧ B.cells = A.cells + mc ∧ B.slots = A.slots + ms
def vx_Back (l : Launch) (R : Room) (p : Program) (e : Env) (below : List Frame) (s : State) (sargs : Array Value) (y : MethodName) (len W9 : Nat)
    (Pre : Pt → Array Value → Prop) (Post : Pt → Array Value → Option Value → Pt → Prop) (PostX : Pt → Array Value → Addr → Pt → Prop) : Prop :=
  ∀ (m : MethodId) (meth : Method) (c : Code) (A : Pt) (g : JFrame) (ig : Instr) (mk : MethodId) (a : Array Value),
    Stand p l e R s m sargs below meth c A.U A.locs A.cells A.slots → g.method = m → g.locals.size = c.maxLocals → decode c.code g.pc = .ok (ig, len) →
    2 * g.monitorRoom + (g.stack.map fun v => v.category).sum ≤ W9 → A.U.methodNamed? y = some mk → Pre A a →
    (∃ (v : Option Value) (B : Pt), Stand p l e R s m sargs below meth c B.U B.locs B.cells B.slots ∧ Post A a v B ∧
      Steps p.tables e below (doInvoke e (A.U.setTop g) [] mk a).1 (B.U.setTop { g with pc := g.pc + len, stack := v.toList ++ g.stack })) ∨
    (∃ (q : Addr) (B : Pt), Stand p l e R s m sargs below meth c B.U B.locs B.cells B.slots ∧ PostX A a q B ∧
      Steps p.tables e below (doInvoke e (A.U.setTop g) [] mk a).1 ((B.U.setTop g).pushFrame (.throwing q)))
section Payer
variable {l : Launch} {R : Room} {p : Program} {e : Env} {below : List Frame} {s : State} {sargs : Array Value} {y : MethodName} {len W9 : Nat}
theorem vx_back {ws : List Cond} {rm : Room} {Pc : Array Value → State → Prop} {Qc : Array Value → State → Outcome → State → Prop} {XC : String → State → State → Prop} {mc ms : Nat} {free : Addr → Prop} {bytes : ByteArray} {maxL : Nat} {ret : Option FieldType}
    (hM : vx_Met l y ws rm Pc Qc XC mc ms free) (hblind : FrameBlind Pc) (hrc : rm.cells = mc) (hrs : rm.slots = ms)
    (hframes : rm.frames + 1 ≤ R.frames) (hlocals : W9 + (maxL + 11) + rm.locals ≤ R.locals)
    (hws : ∀ w ∈ ws, ∀ a' U, s.WarmedH U.vm → w.before a' U = true) (hcode : Cond.code y bytes maxL ret ∈ ws) (hinit : ∀ a' U, s.WarmedH U.vm → (Cond.initialized y.cls).before a' U = true) :
    vx_Back l R p e below s sargs y len W9 (PreOf R mc ms Pc) (PostOf Qc mc ms free) (vx_Post XC mc ms free) := by
  intro m meth c A g ig mk a X hg hsize hdg hW hn hp
  have h1 : (headSpec ws rm).pre.before a A.U = true := atoms_intro fun w hw => hws w hw _ _ X.warmed
  have h2 : (Cond.code y bytes maxL ret).before a A.U = true := hws _ hcode _ _ X.warmed
  have h3 : (Cond.initialized y.cls).before a A.U = true := hinit _ _ X.warmed
  have h4 : A.cells + (headSpec ws rm).room.cells ≤ R.cells := by rw [show (headSpec ws rm).room.cells = mc from hrc]; exact hp.1
  have h5 : A.slots + (headSpec ws rm).room.slots ≤ R.slots := by rw [show (headSpec ws rm).room.slots = ms from hrs]; exact hp.2.1
  have hPc : Pc a (A.U.calling g mk a) := hblind _ _ _ _ hp.2.2
  obtain ⟨U, Ls, c0, s0⟩ := A
  dsimp only [Pt.U, Pt.locs, Pt.cells, Pt.slots] at h1 h2 h3 h4 h5 X hn hPc ⊢
  obtain ⟨methY, cY, hmY, hcY, -, hlY, -, -, -, -⟩ := Cond.code_spec hn h2
  obtain ⟨kY, hkY, -⟩ := className_of_methodNamed hn
  have hinitY : kY.init = .initialized := Cond.initialized_spec (findClass_of_methodNamed hn) hkY h3
  have h : At U g.method c below := by rw [hg]; exact X.here
  have hlocals9 : W9 + (maxL + 11) + (headSpec ws rm).room.locals ≤ R.locals := hlocals
  have happ : (headSpec ws rm).appliesLoose y e.platform (U.calling g mk a) = true :=
    Spec.appliesLoose_calling (g := g) h hdg hn hkY hinitY
      (X.room_calling (g := g) (R' := (headSpec ws rm).room) hsize hmY hcY hframes (by rw [hlY]; omega) h4 h5) h1
  obtain ⟨mid, hmid⟩ := h.above
  have hfr : (U.setTop g).frames = (.java g :: mid) ++ below := by rw [State.frames_setTop' g h.top, hmid]; rfl
  obtain ⟨o, s₂, hsteps, -, hend, hq⟩ := Steps.callFree hM p X.admits X.cas X.clock (acts := []) hfr happ hPc trivial
  have hq' : vx_Q Qc XC mc ms free a (U.calling g mk a) o s₂ := hq
  rw [State.frames_setTop' g h.top] at hend
  obtain ⟨g₀, hg0⟩ := Option.isSome_iff_exists.mp h.top
  obtain ⟨r, hr⟩ := State.topJava?_eq_some.mp hg0
  have hr' : (({ U with heap := s₂.heap, slotsUsed := s₂.slotsUsed } : State).setVm s₂.vm).frames = .java g₀ :: r := hr
  rcases hq' with ⟨hqc, L, hfe, hL⟩ | ⟨q, rfl, E, ce, L, hx, hce, hcv, hcl, hW₂, hsm, hL⟩
  · obtain ⟨⟨v, rfl⟩, hW₂, e2, q2, q3, q4, q5, q6⟩ := id hfe
    have e3 : s₂ = ({ (U.calling g mk a).setFrames s₂.frames with heap := s₂.heap, slotsUsed := s₂.slotsUsed } : State).setVm s₂.vm := by
      have : s₂ = ({ s₂ with vm := (U.calling g mk a).vm } : State).setVm s₂.vm := rfl
      rw [e2] at this
      exact this
    obtain ⟨c₂, i₂, len₂, hc₂, hd₂, hf₂⟩ := hend
    have hW' : U.WarmedH s₂.vm := hW₂
    have hcc : c₂ = c := by
      have h1 : s₂.code? g.method = U.code? g.method := by
        rw [State.code?_eq, State.code?_eq, hW'.alike.method?]
      exact Option.some.inj (hc₂.symm.trans (h1.trans h.code))
    subst hcc
    have hlen : len₂ = len := by rw [hdg] at hd₂; cases hd₂; rfl
    subst hlen
    have hs₂ : s₂ = (({ U with heap := s₂.heap, slotsUsed := s₂.slotsUsed } : State).setVm s₂.vm).setTop { g with pc := g.pc + len₂, stack := v.toList ++ g.stack } := by
      refine e3.trans ?_
      rw [hf₂, State.calling_eq h.top, State.setFrames_setFrames, State.setTop_of_frames _ hr', hr]
      rfl
    have hsame : U.sameButNew ({ U with heap := s₂.heap, slotsUsed := s₂.slotsUsed } : State) L mc ms := by
      refine ⟨?_, q2, q3, q4, q5, q6⟩
      obtain ⟨t, ht, -⟩ := State.frames_cons hr
      show ({ U with heap := s₂.heap, slotsUsed := s₂.slotsUsed } : State) = { U.setFrames U.frames with heap := s₂.heap, slotsUsed := s₂.slotsUsed }
      rw [State.setFrames_self ht]
    subst hg
    refine Or.inl ⟨v, ⟨(({ U with heap := s₂.heap, slotsUsed := s₂.slotsUsed } : State).setVm s₂.vm), Ls ++ L, c0 + mc, s0 + ms⟩,
      ⟨X.admits, X.cas, X.clock, X.frames, X.room, X.hears, X.method, X.code, (X.here.setHeapUsed s₂.heap s₂.slotsUsed).setVm hW'.alike, X.tail, State.WarmedH.trans X.warmed hW', X.limits, X.bytes, X.same.trans (hsame.setVm s.vm)⟩,
      ⟨g, mk, s₂, L, rfl, rfl, hqc, rfl, hL, rfl, rfl⟩, ?_⟩
    show Steps p.tables e below _ ((({ U with heap := s₂.heap, slotsUsed := s₂.slotsUsed } : State).setVm s₂.vm).setTop { g with pc := g.pc + len₂, stack := v.toList ++ g.stack })
    rw [← hs₂]
    exact hsteps
  · obtain ⟨e2, q2, q3, q4, q5, q6⟩ := id hsm
    have e3 : s₂ = ({ (U.calling g mk a).setFrames s₂.frames with heap := s₂.heap, slotsUsed := s₂.slotsUsed } : State).setVm s₂.vm := by
      have : s₂ = ({ s₂ with vm := (U.calling g mk a).vm } : State).setVm s₂.vm := rfl
      rw [e2] at this
      exact this
    have hf₂ : s₂.frames = .throwing q :: .java g :: U.frames.tail := hend
    have hW' : U.WarmedH s₂.vm := hW₂
    have hs₂ : s₂ = ((({ U with heap := s₂.heap, slotsUsed := s₂.slotsUsed } : State).setVm s₂.vm).setTop g).pushFrame (.throwing q) := by
      refine e3.trans ?_
      rw [hf₂, State.calling_eq h.top, State.setFrames_setFrames, State.pushFrame, State.frames_setTop _ hr', State.setTop_of_frames _ hr', State.setFrames_setFrames, hr]
      rfl
    have hsame : U.sameButNew ({ U with heap := s₂.heap, slotsUsed := s₂.slotsUsed } : State) L mc ms := by
      refine ⟨?_, q2, q3, q4, q5, q6⟩
      obtain ⟨t, ht, -⟩ := State.frames_cons hr
      show ({ U with heap := s₂.heap, slotsUsed := s₂.slotsUsed } : State) = { U.setFrames U.frames with heap := s₂.heap, slotsUsed := s₂.slotsUsed }
      rw [State.setFrames_self ht]
    subst hg
    refine Or.inr ⟨q, ⟨(({ U with heap := s₂.heap, slotsUsed := s₂.slotsUsed } : State).setVm s₂.vm), Ls ++ L, c0 + mc, s0 + ms⟩,
      ⟨X.admits, X.cas, X.clock, X.frames, X.room, X.hears, X.method, X.code, (X.here.setHeapUsed s₂.heap s₂.slotsUsed).setVm hW'.alike, X.tail, State.WarmedH.trans X.warmed hW', X.limits, X.bytes, X.same.trans (hsame.setVm s.vm)⟩,
      ⟨g, mk, s₂, L, E, ce, rfl, rfl, hx, hce, hcv, hcl, rfl, hL, rfl, rfl⟩, ?_⟩
    show Steps p.tables e below _ (((({ U with heap := s₂.heap, slotsUsed := s₂.slotsUsed } : State).setVm s₂.vm).setTop g).pushFrame (.throwing q))
    rw [← hs₂]
    exact hsteps
end Payer
section Calls
variable {p : Program} {l : Launch} {e : Env} {R : Room} {s : State} {m : MethodId} {args : Array Value} {below : List Frame} {meth : Method} {c : Code} {T : State} {locs : List Loc} {cells slots : Nat}
theorem vx_callV (X : Stand p l e R s m args below meth c T locs cells slots) (hexec : p.tables.exec = Jvm.exec) {own C : String} {index : Nat} {y : MethodName} {bytes : ByteArray} {maxL : Nat} {ret : Option FieldType}
    (hown : s.vm.findClass own = some m.cls) (hlink : (Cond.methodLink own index y).before args s = true) (hinst : (Cond.instanceMethod y).before args s = true) (hsel : (Cond.selects C y y).before args s = true)
    (hcode : (Cond.code y bytes maxL ret).before args s = true) (hy : y.cls ≠ "java/lang/invoke/MethodHandle" ∧ y.cls ≠ "java/lang/invoke/VarHandle")
    {W9 : Nat} {Pre : Pt → Array Value → Prop} {Post : Pt → Array Value → Option Value → Pt → Prop} {PostX : Pt → Array Value → Addr → Pt → Prop} (hK : vx_Back l R p e below s args y 3 W9 Pre Post PostX)
    {b : Addr} {cellB : Cell} (hcell : T.heap[b]? = some cellB) (hobj : cellB.vm.isStatics = false) (hcls : s.vm.findClass C = some cellB.cls)
    {g : JFrame} (hg : g.method = m) (hsize : g.locals.size = c.maxLocals) {argsL rest : List Value} (hlen : ∀ sig, parseMethodDescriptor y.desc = some sig → argsL.length = sig.parameters.length)
    (hstack : g.stack = argsL.reverse ++ .ref b :: rest) (hW : 2 * g.monitorRoom + (rest.map fun v => v.category).sum ≤ W9) (hdg : decode c.code g.pc = .ok (.invokevirtual index, 3))
    (hpre : ∀ vm₁, s.WarmedH vm₁ → Pre ⟨T.setVm vm₁, locs, cells, slots⟩ (Value.ref b :: argsL).toArray) :
    (∃ (v : Option Value) (vm₁ : Vm) (B : Pt), s.WarmedH vm₁ ∧ Stand p l e R s m args below meth c B.U B.locs B.cells B.slots ∧ Post ⟨T.setVm vm₁, locs, cells, slots⟩ (Value.ref b :: argsL).toArray v B ∧
      ∀ target, Steps p.tables e below (B.U.setTop { g with pc := g.pc + 3, stack := v.toList ++ rest }) target → Steps p.tables e below (T.setTop g) target) ∨
    (∃ (q : Addr) (vm₁ : Vm) (B : Pt), s.WarmedH vm₁ ∧ Stand p l e R s m args below meth c B.U B.locs B.cells B.slots ∧ PostX ⟨T.setVm vm₁, locs, cells, slots⟩ (Value.ref b :: argsL).toArray q B ∧
      Steps p.tables e below (T.setTop g) ((B.U.setTop { g with stack := rest }).pushFrame (.throwing q))) := by
  obtain ⟨mk, methM, hnamed, hmethM, hstM, habM⟩ := Cond.instanceMethod_spec hinst
  obtain ⟨methM', cM, hmethM', -, -, -, -, -, -, hsigM⟩ := Cond.code_spec hnamed hcode
  cases hmethM.symm.trans hmethM'
  obtain ⟨c2, r2, m2, q1, q2, q3, q4, kP, hkP, hkPi⟩ := Cond.selects_spec hsel
  cases hcls.symm.trans q1
  cases (State.methodFound?_of_named hnamed hy).symm.trans q2
  cases hnamed.symm.trans q3
  have hselP : selectMethod e.platform s.vm cellB.cls mk = .method mk := by rw [Launch.admits_selectMethod X.admits]; exact q4
  obtain ⟨vm₁, X₁, hstep₁⟩ := X.invokevirtual hexec hown hlink hnamed hmethM hstM hkP hkPi hy (a := b) (cell := cellB) hcell
    (fun z h => by rw [h] at hobj; cases hobj) hselP hmethM habM hkP hkPi (g := g) hg (argsL := argsL) (rest := rest) (hlen _ hsigM) hstack hdg
  rcases hK m meth c ⟨T.setVm vm₁, locs, cells, slots⟩ { g with stack := rest } (.invokevirtual index) mk (Value.ref b :: argsL).toArray X₁ hg hsize hdg hW (X₁.named hnamed) (hpre vm₁ X₁.warmed) with ⟨v, B, X', hpost, hsteps⟩ | ⟨q, B, X', hpost, hsteps⟩
  · exact Or.inl ⟨v, vm₁, B, X₁.warmed, X', hpost, fun target h => hstep₁ _ fun acts => by rw [doInvoke_state]; exact hsteps.trans h⟩
  · exact Or.inr ⟨q, vm₁, B, X₁.warmed, X', hpost, hstep₁ _ fun acts => by rw [doInvoke_state]; exact hsteps⟩
theorem vx_callS (X : Stand p l e R s m args below meth c T locs cells slots) (hexec : p.tables.exec = Jvm.exec) {own : String} {index : Nat} {y : MethodName} {bytes : ByteArray} {maxL : Nat} {ret : Option FieldType}
    (hown : s.vm.findClass own = some m.cls) (hlink : (Cond.methodLink own index y).before args s = true) (hstat : (Cond.static y).before args s = true) (hinit : (Cond.initialized y.cls).before args s = true)
    (hcode : (Cond.code y bytes maxL ret).before args s = true) (hy : y.cls ≠ "java/lang/invoke/MethodHandle" ∧ y.cls ≠ "java/lang/invoke/VarHandle")
    {W9 : Nat} {Pre : Pt → Array Value → Prop} {Post : Pt → Array Value → Option Value → Pt → Prop} {PostX : Pt → Array Value → Addr → Pt → Prop} (hK : vx_Back l R p e below s args y 3 W9 Pre Post PostX)
    {g : JFrame} (hg : g.method = m) (hsize : g.locals.size = c.maxLocals) {argsL rest : List Value} (hlen : ∀ sig, parseMethodDescriptor y.desc = some sig → argsL.length = sig.parameters.length)
    (hstack : g.stack = argsL.reverse ++ rest) (hW : 2 * g.monitorRoom + (rest.map fun v => v.category).sum ≤ W9) (hdg : decode c.code g.pc = .ok (.invokestatic index, 3))
    (hpre : ∀ vm₁, s.WarmedH vm₁ → Pre ⟨T.setVm vm₁, locs, cells, slots⟩ argsL.toArray) :
    (∃ (v : Option Value) (vm₁ : Vm) (B : Pt), s.WarmedH vm₁ ∧ Stand p l e R s m args below meth c B.U B.locs B.cells B.slots ∧ Post ⟨T.setVm vm₁, locs, cells, slots⟩ argsL.toArray v B ∧
      ∀ target, Steps p.tables e below (B.U.setTop { g with pc := g.pc + 3, stack := v.toList ++ rest }) target → Steps p.tables e below (T.setTop g) target) ∨
    (∃ (q : Addr) (vm₁ : Vm) (B : Pt), s.WarmedH vm₁ ∧ Stand p l e R s m args below meth c B.U B.locs B.cells B.slots ∧ PostX ⟨T.setVm vm₁, locs, cells, slots⟩ argsL.toArray q B ∧
      Steps p.tables e below (T.setTop g) ((B.U.setTop { g with stack := rest }).pushFrame (.throwing q))) := by
  obtain ⟨mk, hnamed⟩ := Cond.code_named hcode
  obtain ⟨methM, cM, hmethM, -, -, -, -, -, -, hsigM⟩ := Cond.code_spec hnamed hcode
  have hstatic : methM.isStatic = true := Cond.static_spec hnamed hmethM hstat
  obtain ⟨kP, hkP, -⟩ := className_of_methodNamed hnamed
  have hinitP : kP.init = .initialized := Cond.initialized_spec (findClass_of_methodNamed hnamed) hkP hinit
  obtain ⟨vm₁, X₁, hstep₁⟩ := X.invokestatic hexec hown hlink hnamed hmethM hstatic hkP hinitP hy (g := g) hg (argsL := argsL) (rest := rest) (hlen _ hsigM) hstack hdg
  rcases hK m meth c ⟨T.setVm vm₁, locs, cells, slots⟩ { g with stack := rest } (.invokestatic index) mk argsL.toArray X₁ hg hsize hdg hW (X₁.named hnamed) (hpre vm₁ X₁.warmed) with ⟨v, B, X', hpost, hsteps⟩ | ⟨q, B, X', hpost, hsteps⟩
  · exact Or.inl ⟨v, vm₁, B, X₁.warmed, X', hpost, fun target h => hstep₁ _ fun acts => by rw [doInvoke_state]; exact hsteps.trans h⟩
  · exact Or.inr ⟨q, vm₁, B, X₁.warmed, X', hpost, hstep₁ _ fun acts => by rw [doInvoke_state]; exact hsteps⟩
end Calls
theorem vx_cls {s : State} {T : State} {vm₁ : Vm} {E : String} {k : ClassId} (hW : s.WarmedH vm₁) (h : (T.setVm vm₁).vm.findClass E = some k) : s.vm.findClass E = some k := by
  have h1 : vm₁.findClass E = some k := h
  rw [hW.alike.findClass] at h1
  exact h1
/-- the method's frame g, with q thrown over it -/
def vx_W (p : Program) (l : Launch) (e : Env) (R : Room) (s : State) (m : MethodId) (args : Array Value) (below : List Frame) (meth : Method) (c : Code) (H : Heap) (locs : List Loc) (cells slots : Nat) (Q : State → Prop) (g : JFrame) (q : Addr) : Prop :=
  ∀ T : State, T.heap = H → Stand p l e R s m args below meth c T locs cells slots → ∃ t, Steps p.tables e below ((T.setTop g).pushFrame (.throwing q)) t ∧ Q t
def vx_Run (p : Program) (l : Launch) (e : Env) (R : Room) (s : State) (m : MethodId) (args : Array Value) (below : List Frame) (meth : Method) (c : Code) (H : Heap) (locs : List Loc) (cells slots mc ms : Nat) (g : JFrame) (rest : List Value) (Qa : State → Outcome → State → Prop) (XC : String → State → State → Prop) (free : Addr → Prop) : Prop :=
  ∀ T : State, T.heap = H → Stand p l e R s m args below meth c T locs cells slots →
    (∃ (v : Option Value) (st₀ t T' : State) (L : List Loc), st₀.heap = H ∧ Stand p l e R s m args below meth c T' (locs ++ L) (cells + mc) (slots + ms) ∧ (∀ q ∈ L, free q.base) ∧ T'.heap = t.heap ∧ T'.vm = t.vm ∧ Qa st₀ (.returned v) t ∧
      Goes p e below T g T' { g with pc := g.pc + 3, stack := v.toList ++ rest }) ∨
    (∃ (q : Addr) (st₀ t T' : State) (L : List Loc) (E : String) (ce : Cell), st₀.heap = H ∧ Stand p l e R s m args below meth c T' (locs ++ L) (cells + mc) (slots + ms) ∧ (∀ z ∈ L, free z.base) ∧ T'.heap = t.heap ∧ T'.vm = t.vm ∧ XC E st₀ t ∧ t.heap[q]? = some ce ∧ ce.vm = .none ∧ s.vm.findClass E = some ce.cls ∧
      Steps p.tables e below (T.setTop g) ((T'.setTop { g with stack := rest }).pushFrame (.throwing q)))
def vx_X {S : Type} (px : S → Prop) (B : String → S → State → Prop) (A : Nat → Prop) : String → State → State → Prop := fun E st t => ∃ u : S, px u ∧ B E u t ∧ va_F A st t
section Runs
variable {p : Program} {l : Launch} {e : Env} {R : Room} {s : State} {m : MethodId} {args : Array Value} {below : List Frame} {meth : Method} {c : Code} {H : Heap} {locs : List Loc} {cells slots : Nat}
variable {y : MethodName} {bytes cc : ByteArray} {maxL nL mc ms n index : Nat} {ret : Option FieldType} {ws : List Cond} {rm : Room} {Pc : Array Value → State → Prop} {Qc : Array Value → State → Outcome → State → Prop} {XC : String → State → State → Prop} {free : Addr → Prop} {Ts : List Cond} {own C : String} {b : Addr} {As rest : List Value} {g : JFrame}
theorem vx_callBack (cb : CallB R s args own index y bytes maxL ret ws rm mc ms n) (hM : vx_Met l y ws rm Pc Qc XC mc ms free) (hbl : FrameBlind Pc) : vx_Back l R p e below s args y 3 8 (PreOf R mc ms Pc) (PostOf Qc mc ms free) (vx_Post XC mc ms free) := by
  obtain ⟨hrc, hrs, hfr, hlo, hws, hcw, -, hini, -⟩ := cb
  exact vx_back (bytes := bytes) (maxL := maxL) (ret := ret) hM hbl hrc hrs hfr hlo hws hcw (fun a' U hW => word_at hW (Or.inl (by first | rfl | simp [Cond.onTables, Cond.keeps, Cond.steady])) hini)
theorem vx_runV (S : CallFix p m c cc nL s args Ts own) (hM : vx_Met l y ws rm Pc Qc XC mc ms free) (cw : CallW R s args own C index y bytes maxL ret ws rm mc ms n) (hp : PreV s H C b Pc As)
    (hg : g.method = m) (hn : As.length = n) (hsize : g.locals.size = nL) (hstack : g.stack = As.reverse ++ .ref b :: rest) (hW : 2 * g.monitorRoom + (rest.map fun v => v.category).sum ≤ 8) (hdg : decode cc g.pc = .ok (.invokevirtual index, 3)) (hf : cells + mc ≤ R.cells ∧ slots + ms ≤ R.slots) :
    vx_Run p l e R s m args below meth c H locs cells slots mc ms g rest (Qc (Value.ref b :: As).toArray) XC free := by
  have hK : vx_Back l R p e below s args y 3 8 (PreOf R mc ms Pc) (PostOf Qc mc ms free) (vx_Post XC mc ms free) := vx_callBack cw.1 hM hp.1
  obtain ⟨⟨-, -, -, -, -, -, hcode, -, hy, hlen, hl⟩, hin, hse⟩ := cw
  obtain ⟨hx, hb, hml, ho, -⟩ := S
  obtain ⟨-, ⟨cellB, hcB, hoB, hclB⟩, hPc⟩ := hp
  intro T hT X
  rcases vx_callV X hx (C := C) (bytes := bytes) (maxL := maxL) (ret := ret) ho hl hin hse hcode hy hK (by rw [hT]; exact hcB) hoB hclB hg (hsize.trans hml.symm) (argsL := As) (rest := rest) (fun sig h => hn.trans (hlen sig h)) hstack hW (by rw [hb]; exact hdg)
    (fun vm₁ hW₁ => ⟨hf.1, hf.2, hPc (T.setVm vm₁) hT hW₁⟩) with ⟨v, vm₁, ⟨U', l2, c2, s2⟩, hW₁, X', ⟨g', mk, t, L, e1, e2, hq, h1, hL, h2, h3⟩, st⟩ | ⟨q, vm₁, ⟨U', l2, c2, s2⟩, hW₁, X', ⟨g', mk, t, L, E, ce, e1, e2, hq, hce, hcv, hcl, h1, hL, h2, h3⟩, st⟩
  · dsimp only [Pt.U, Pt.locs, Pt.cells, Pt.slots] at X' e1 e2 h1 h2 h3 st
    subst h1; subst h2; subst h3
    exact Or.inl ⟨v, (T.setVm vm₁).calling g' mk (Value.ref b :: As).toArray, t, U', L, hT, X', hL, e1, e2, hq, st⟩
  · dsimp only [Pt.U, Pt.locs, Pt.cells, Pt.slots] at X' e1 e2 h1 h2 h3 st hcl
    subst h1; subst h2; subst h3
    exact Or.inr ⟨q, (T.setVm vm₁).calling g' mk (Value.ref b :: As).toArray, t, U', L, E, ce, hT, X', hL, e1, e2, hq, hce, hcv, vx_cls hW₁ hcl, st⟩
theorem vx_runS (S : CallFix p m c cc nL s args Ts own) (hM : vx_Met l y ws rm Pc Qc XC mc ms free) (cw : CallB R s args own index y bytes maxL ret ws rm mc ms n ∧ (Cond.static y).before args s = true) (hp : PreS s H Pc As)
    (hg : g.method = m) (hn : As.length = n) (hsize : g.locals.size = nL) (hstack : g.stack = As.reverse ++ rest) (hW : 2 * g.monitorRoom + (rest.map fun v => v.category).sum ≤ 8) (hdg : decode cc g.pc = .ok (.invokestatic index, 3)) (hf : cells + mc ≤ R.cells ∧ slots + ms ≤ R.slots) :
    vx_Run p l e R s m args below meth c H locs cells slots mc ms g rest (Qc As.toArray) XC free := by
  have hK : vx_Back l R p e below s args y 3 8 (PreOf R mc ms Pc) (PostOf Qc mc ms free) (vx_Post XC mc ms free) := vx_callBack cw.1 hM hp.1
  obtain ⟨⟨-, -, -, -, -, -, hcode, hini, hy, hlen, hl⟩, hstt⟩ := cw
  obtain ⟨hx, hb, hml, ho, -⟩ := S
  intro T hT X
  rcases vx_callS X hx (bytes := bytes) (maxL := maxL) (ret := ret) ho hl hstt hini hcode hy hK hg (hsize.trans hml.symm) (argsL := As) (rest := rest) (fun sig h => hn.trans (hlen sig h)) hstack hW (by rw [hb]; exact hdg)
    (fun vm₁ hW₁ => ⟨hf.1, hf.2, hp.2 (T.setVm vm₁) hT hW₁⟩) with ⟨v, vm₁, ⟨U', l2, c2, s2⟩, hW₁, X', ⟨g', mk, t, L, e1, e2, hq, h1, hL, h2, h3⟩, st⟩ | ⟨q, vm₁, ⟨U', l2, c2, s2⟩, hW₁, X', ⟨g', mk, t, L, E, ce, e1, e2, hq, hce, hcv, hcl, h1, hL, h2, h3⟩, st⟩
  · dsimp only [Pt.U, Pt.locs, Pt.cells, Pt.slots] at X' e1 e2 h1 h2 h3 st
    subst h1; subst h2; subst h3
    exact Or.inl ⟨v, (T.setVm vm₁).calling g' mk As.toArray, t, U', L, hT, X', hL, e1, e2, hq, st⟩
  · dsimp only [Pt.U, Pt.locs, Pt.cells, Pt.slots] at X' e1 e2 h1 h2 h3 st hcl
    subst h1; subst h2; subst h3
    exact Or.inr ⟨q, (T.setVm vm₁).calling g' mk As.toArray, t, U', L, E, ce, hT, X', hL, e1, e2, hq, hce, hcv, vx_cls hW₁ hcl, st⟩
end Runs
section Rows
variable {p : Program} {l : Launch} {e : Env} {R : Room} {s : State} {m : MethodId} {args : Array Value} {below : List Frame} {meth : Method} {c : Code} {H : Heap} {locs : List Loc} {cells slots : Nat} {Q : State → Prop}
variable {mc ms : Nat} {free : Addr → Prop} {A0 A1 : Nat → Prop} {H0 : Heap} {a : Array Value} {pc : Nat} {ls : Array Slot} {st0 rest : List Value}
theorem vx_keep {st₀ t T' : State} {L : List Loc} (h0 : st₀.heap = H) (e1 : T'.heap = t.heap) (hS : va_S A0 H0 H locs) (hA : ∀ q, q < H.size → A1 q → A0 q) (hf : ∀ q, free q → A0 q) (hL : ∀ q ∈ L, free q.base) (hF : va_F A1 st₀ t) :
    H.size ≤ T'.heap.size ∧ (∀ q : Nat, q < H.size → ¬ A1 q → T'.heap[q]? = H[q]?) ∧ va_S A0 H0 T'.heap (locs ++ L) := by
  obtain ⟨hz, hk⟩ := hF
  rw [h0] at hz hk
  exact ⟨by rw [e1]; exact hz, fun q h1 h2 => by rw [e1]; exact hk q h1 h2,
    ⟨Nat.le_trans hS.1 (by rw [e1]; exact hz), fun q h1 h2 => by rw [e1, hk q (Nat.lt_of_lt_of_le h1 hS.1) (fun z => h2 (hA q (Nat.lt_of_lt_of_le h1 hS.1) z))]; exact hS.2.1 q h1 h2, fun q hq => by
      rcases List.mem_append.mp hq with h | h
      · exact hS.2.2 q h
      · exact hf _ (hL q h)⟩⟩
theorem vx_calli {S SX : Type} {post : Int32 → S → Prop} {px : SX → Prop} {B : S → State → Prop} {BX : String → SX → State → Prop} {AX : Nat → Prop} (hr : vx_Run p l e R s m args below meth c H locs cells slots mc ms (F0 m pc ls st0) rest (va_Qi post B A1 a) (vx_X px BX AX) free) (hS : va_S A0 H0 H locs) (hA : ∀ q, q < H.size → A1 q → A0 q) (hf : ∀ q, free q → A0 q) (hAX : ∀ q, q < H.size → AX q → A0 q)
    (kx : ∀ (E : String) (ce : Cell) (q9 : Addr) (u : SX) (t : State) (H1 : Heap) (locs1 : List Loc), t.heap = H1 → s.vm.Alike t.vm → px u → BX E u t → H.size ≤ H1.size → (∀ q : Nat, q < H.size → ¬ AX q → H1[q]? = H[q]?) → va_S A0 H0 H1 locs1 → H1[q9]? = some ce → ce.vm = .none → s.vm.findClass E = some ce.cls → vx_W p l e R s m args below meth c H1 locs1 (cells + mc) (slots + ms) Q (F0 m pc ls rest) q9)
    (kk : ∀ (r : Int32) (u : S) (t : State) (H1 : Heap) (locs1 : List Loc), t.heap = H1 → s.vm.Alike t.vm → post r u → B u t → H.size ≤ H1.size → (∀ q : Nat, q < H.size → ¬ A1 q → H1[q]? = H[q]?) → va_S A0 H0 H1 locs1 → W p l e R s m args below meth c H1 locs1 (cells + mc) (slots + ms) Q (F0 m (pc + 3) ls (.int r :: rest))) : W p l e R s m args below meth c H locs cells slots Q (F0 m pc ls st0) := by
  intro T hT X
  rcases hr T hT X with ⟨v, st₀, t, T', L, h0, X', hL, e1, e2, ⟨⟨r, u, hv, hp, hb⟩, hF⟩, st⟩ | ⟨q, st₀, t, T', L, E, ce, h0, X', hL, e1, e2, ⟨u, hp, hb, hF⟩, hce, hcv, hcl, st⟩
  · cases hv
    obtain ⟨k1, k2, k3⟩ := vx_keep h0 e1 hS hA hf hL hF
    obtain ⟨t2, a1, b1⟩ := kk r u t T'.heap (locs ++ L) e1.symm (by rw [← e2]; exact X'.warmed.alike) hp hb k1 k2 k3 T' rfl X'
    exact ⟨t2, st t2 a1, b1⟩
  · obtain ⟨k1, k2, k3⟩ := vx_keep h0 e1 hS hAX hf hL hF
    obtain ⟨t2, a1, b1⟩ := kx E ce q u t T'.heap (locs ++ L) e1.symm (by rw [← e2]; exact X'.warmed.alike) hp hb k1 k2 k3 (by rw [e1]; exact hce) hcv hcl T' rfl X'
    exact ⟨t2, st.trans a1, b1⟩
theorem vx_calll {S SX : Type} {post : Int64 → S → Prop} {px : SX → Prop} {B : S → State → Prop} {BX : String → SX → State → Prop} {AX : Nat → Prop} (hr : vx_Run p l e R s m args below meth c H locs cells slots mc ms (F0 m pc ls st0) rest (va_Ql post B A1 a) (vx_X px BX AX) free) (hS : va_S A0 H0 H locs) (hA : ∀ q, q < H.size → A1 q → A0 q) (hf : ∀ q, free q → A0 q) (hAX : ∀ q, q < H.size → AX q → A0 q)
    (kx : ∀ (E : String) (ce : Cell) (q9 : Addr) (u : SX) (t : State) (H1 : Heap) (locs1 : List Loc), t.heap = H1 → s.vm.Alike t.vm → px u → BX E u t → H.size ≤ H1.size → (∀ q : Nat, q < H.size → ¬ AX q → H1[q]? = H[q]?) → va_S A0 H0 H1 locs1 → H1[q9]? = some ce → ce.vm = .none → s.vm.findClass E = some ce.cls → vx_W p l e R s m args below meth c H1 locs1 (cells + mc) (slots + ms) Q (F0 m pc ls rest) q9)
    (kk : ∀ (r : Int64) (u : S) (t : State) (H1 : Heap) (locs1 : List Loc), t.heap = H1 → s.vm.Alike t.vm → post r u → B u t → H.size ≤ H1.size → (∀ q : Nat, q < H.size → ¬ A1 q → H1[q]? = H[q]?) → va_S A0 H0 H1 locs1 → W p l e R s m args below meth c H1 locs1 (cells + mc) (slots + ms) Q (F0 m (pc + 3) ls (.long r :: rest))) : W p l e R s m args below meth c H locs cells slots Q (F0 m pc ls st0) := by
  intro T hT X
  rcases hr T hT X with ⟨v, st₀, t, T', L, h0, X', hL, e1, e2, ⟨⟨r, u, hv, hp, hb⟩, hF⟩, st⟩ | ⟨q, st₀, t, T', L, E, ce, h0, X', hL, e1, e2, ⟨u, hp, hb, hF⟩, hce, hcv, hcl, st⟩
  · cases hv
    obtain ⟨k1, k2, k3⟩ := vx_keep h0 e1 hS hA hf hL hF
    obtain ⟨t2, a1, b1⟩ := kk r u t T'.heap (locs ++ L) e1.symm (by rw [← e2]; exact X'.warmed.alike) hp hb k1 k2 k3 T' rfl X'
    exact ⟨t2, st t2 a1, b1⟩
  · obtain ⟨k1, k2, k3⟩ := vx_keep h0 e1 hS hAX hf hL hF
    obtain ⟨t2, a1, b1⟩ := kx E ce q u t T'.heap (locs ++ L) e1.symm (by rw [← e2]; exact X'.warmed.alike) hp hb k1 k2 k3 (by rw [e1]; exact hce) hcv hcl T' rfl X'
    exact ⟨t2, st.trans a1, b1⟩
theorem vx_callf {S SX : Type} {post : UInt32 → S → Prop} {px : SX → Prop} {B : S → State → Prop} {BX : String → SX → State → Prop} {AX : Nat → Prop} (hr : vx_Run p l e R s m args below meth c H locs cells slots mc ms (F0 m pc ls st0) rest (va_Qf post B A1 a) (vx_X px BX AX) free) (hS : va_S A0 H0 H locs) (hA : ∀ q, q < H.size → A1 q → A0 q) (hf : ∀ q, free q → A0 q) (hAX : ∀ q, q < H.size → AX q → A0 q)
    (kx : ∀ (E : String) (ce : Cell) (q9 : Addr) (u : SX) (t : State) (H1 : Heap) (locs1 : List Loc), t.heap = H1 → s.vm.Alike t.vm → px u → BX E u t → H.size ≤ H1.size → (∀ q : Nat, q < H.size → ¬ AX q → H1[q]? = H[q]?) → va_S A0 H0 H1 locs1 → H1[q9]? = some ce → ce.vm = .none → s.vm.findClass E = some ce.cls → vx_W p l e R s m args below meth c H1 locs1 (cells + mc) (slots + ms) Q (F0 m pc ls rest) q9)
    (kk : ∀ (r : UInt32) (u : S) (t : State) (H1 : Heap) (locs1 : List Loc), t.heap = H1 → s.vm.Alike t.vm → post r u → B u t → H.size ≤ H1.size → (∀ q : Nat, q < H.size → ¬ A1 q → H1[q]? = H[q]?) → va_S A0 H0 H1 locs1 → W p l e R s m args below meth c H1 locs1 (cells + mc) (slots + ms) Q (F0 m (pc + 3) ls (.float r :: rest))) : W p l e R s m args below meth c H locs cells slots Q (F0 m pc ls st0) := by
  intro T hT X
  rcases hr T hT X with ⟨v, st₀, t, T', L, h0, X', hL, e1, e2, ⟨⟨r, u, hv, hp, hb⟩, hF⟩, st⟩ | ⟨q, st₀, t, T', L, E, ce, h0, X', hL, e1, e2, ⟨u, hp, hb, hF⟩, hce, hcv, hcl, st⟩
  · cases hv
    obtain ⟨k1, k2, k3⟩ := vx_keep h0 e1 hS hA hf hL hF
    obtain ⟨t2, a1, b1⟩ := kk r u t T'.heap (locs ++ L) e1.symm (by rw [← e2]; exact X'.warmed.alike) hp hb k1 k2 k3 T' rfl X'
    exact ⟨t2, st t2 a1, b1⟩
  · obtain ⟨k1, k2, k3⟩ := vx_keep h0 e1 hS hAX hf hL hF
    obtain ⟨t2, a1, b1⟩ := kx E ce q u t T'.heap (locs ++ L) e1.symm (by rw [← e2]; exact X'.warmed.alike) hp hb k1 k2 k3 (by rw [e1]; exact hce) hcv hcl T' rfl X'
    exact ⟨t2, st.trans a1, b1⟩
theorem vx_calld {S SX : Type} {post : UInt64 → S → Prop} {px : SX → Prop} {B : S → State → Prop} {BX : String → SX → State → Prop} {AX : Nat → Prop} (hr : vx_Run p l e R s m args below meth c H locs cells slots mc ms (F0 m pc ls st0) rest (va_Qd post B A1 a) (vx_X px BX AX) free) (hS : va_S A0 H0 H locs) (hA : ∀ q, q < H.size → A1 q → A0 q) (hf : ∀ q, free q → A0 q) (hAX : ∀ q, q < H.size → AX q → A0 q)
    (kx : ∀ (E : String) (ce : Cell) (q9 : Addr) (u : SX) (t : State) (H1 : Heap) (locs1 : List Loc), t.heap = H1 → s.vm.Alike t.vm → px u → BX E u t → H.size ≤ H1.size → (∀ q : Nat, q < H.size → ¬ AX q → H1[q]? = H[q]?) → va_S A0 H0 H1 locs1 → H1[q9]? = some ce → ce.vm = .none → s.vm.findClass E = some ce.cls → vx_W p l e R s m args below meth c H1 locs1 (cells + mc) (slots + ms) Q (F0 m pc ls rest) q9)
    (kk : ∀ (r : UInt64) (u : S) (t : State) (H1 : Heap) (locs1 : List Loc), t.heap = H1 → s.vm.Alike t.vm → post r u → B u t → H.size ≤ H1.size → (∀ q : Nat, q < H.size → ¬ A1 q → H1[q]? = H[q]?) → va_S A0 H0 H1 locs1 → W p l e R s m args below meth c H1 locs1 (cells + mc) (slots + ms) Q (F0 m (pc + 3) ls (.double r :: rest))) : W p l e R s m args below meth c H locs cells slots Q (F0 m pc ls st0) := by
  intro T hT X
  rcases hr T hT X with ⟨v, st₀, t, T', L, h0, X', hL, e1, e2, ⟨⟨r, u, hv, hp, hb⟩, hF⟩, st⟩ | ⟨q, st₀, t, T', L, E, ce, h0, X', hL, e1, e2, ⟨u, hp, hb, hF⟩, hce, hcv, hcl, st⟩
  · cases hv
    obtain ⟨k1, k2, k3⟩ := vx_keep h0 e1 hS hA hf hL hF
    obtain ⟨t2, a1, b1⟩ := kk r u t T'.heap (locs ++ L) e1.symm (by rw [← e2]; exact X'.warmed.alike) hp hb k1 k2 k3 T' rfl X'
    exact ⟨t2, st t2 a1, b1⟩
  · obtain ⟨k1, k2, k3⟩ := vx_keep h0 e1 hS hAX hf hL hF
    obtain ⟨t2, a1, b1⟩ := kx E ce q u t T'.heap (locs ++ L) e1.symm (by rw [← e2]; exact X'.warmed.alike) hp hb k1 k2 k3 (by rw [e1]; exact hce) hcv hcl T' rfl X'
    exact ⟨t2, st.trans a1, b1⟩
theorem vx_callv {S SX : Type} {post : S → Prop} {px : SX → Prop} {B : S → State → Prop} {BX : String → SX → State → Prop} {AX : Nat → Prop} (hr : vx_Run p l e R s m args below meth c H locs cells slots mc ms (F0 m pc ls st0) rest (va_Qv post B A1 a) (vx_X px BX AX) free) (hS : va_S A0 H0 H locs) (hA : ∀ q, q < H.size → A1 q → A0 q) (hf : ∀ q, free q → A0 q) (hAX : ∀ q, q < H.size → AX q → A0 q)
    (kx : ∀ (E : String) (ce : Cell) (q9 : Addr) (u : SX) (t : State) (H1 : Heap) (locs1 : List Loc), t.heap = H1 → s.vm.Alike t.vm → px u → BX E u t → H.size ≤ H1.size → (∀ q : Nat, q < H.size → ¬ AX q → H1[q]? = H[q]?) → va_S A0 H0 H1 locs1 → H1[q9]? = some ce → ce.vm = .none → s.vm.findClass E = some ce.cls → vx_W p l e R s m args below meth c H1 locs1 (cells + mc) (slots + ms) Q (F0 m pc ls rest) q9)
    (kk : ∀ (u : S) (t : State) (H1 : Heap) (locs1 : List Loc), t.heap = H1 → s.vm.Alike t.vm → post u → B u t → H.size ≤ H1.size → (∀ q : Nat, q < H.size → ¬ A1 q → H1[q]? = H[q]?) → va_S A0 H0 H1 locs1 → W p l e R s m args below meth c H1 locs1 (cells + mc) (slots + ms) Q (F0 m (pc + 3) ls (rest))) : W p l e R s m args below meth c H locs cells slots Q (F0 m pc ls st0) := by
  intro T hT X
  rcases hr T hT X with ⟨v, st₀, t, T', L, h0, X', hL, e1, e2, ⟨⟨u, hv, hp, hb⟩, hF⟩, st⟩ | ⟨q, st₀, t, T', L, E, ce, h0, X', hL, e1, e2, ⟨u, hp, hb, hF⟩, hce, hcv, hcl, st⟩
  · cases hv
    obtain ⟨k1, k2, k3⟩ := vx_keep h0 e1 hS hA hf hL hF
    obtain ⟨t2, a1, b1⟩ := kk u t T'.heap (locs ++ L) e1.symm (by rw [← e2]; exact X'.warmed.alike) hp hb k1 k2 k3 T' rfl X'
    exact ⟨t2, st t2 a1, b1⟩
  · obtain ⟨k1, k2, k3⟩ := vx_keep h0 e1 hS hAX hf hL hF
    obtain ⟨t2, a1, b1⟩ := kx E ce q u t T'.heap (locs ++ L) e1.symm (by rw [← e2]; exact X'.warmed.alike) hp hb k1 k2 k3 (by rw [e1]; exact hce) hcv hcl T' rfl X'
    exact ⟨t2, st.trans a1, b1⟩
/-- caught by the row x of this method's table; the rows ahead don't take it -/
theorem vx_catch {own name : String} {E : String} {ce : Cell} {q : Addr} (hown : s.vm.findClass own = some m.cls) (pre : List ExceptionTableEntry) (x : ExceptionTableEntry) (suf : List ExceptionTableEntry) (hsplit : c.exceptionTable.toList = pre ++ x :: suf)
    (hpass : ∀ z ∈ pre, covers z pc = false ∨ (z.catchType ≠ 0 ∧ ∃ nm : String, (Cond.classLink own z.catchType nm).before args s = true ∧ va_Nc E nm s)) (hx : covers x pc = true) (h0 : x.catchType ≠ 0)
    (hlink : (Cond.classLink own x.catchType name).before args s = true) (hcast : (Cond.castable E name).before args s = true) (hcell : H[q]? = some ce) (hv : ce.vm = .none) (hcl : s.vm.findClass E = some ce.cls)
    (kk : W p l e R s m args below meth c H locs cells slots Q (F0 m x.handlerPc ls [.ref q])) : vx_W p l e R s m args below meth c H locs cells slots Q (F0 m pc ls rest) q := by
  intro T hT X
  have hpl : e.platform.magicAccessors = ({} : Platform).magicAccessors := by rw [X.admits.platform]
  obtain ⟨c3, c4, hc3, hc4, hasg⟩ := Cond.castable_spec hcast
  cases Option.some.inj (hc3.symm.trans hcl)
  obtain ⟨c5, hc5, hcl5⟩ := Cond.classLink_spec hown hlink e.platform hpl
  cases Option.some.inj (hc4.symm.trans hc5)
  obtain ⟨vm', X', st⟩ := X.thenCaughtThrough q (g := F0 m pc ls rest) rfl (Steps.refl _) (by rw [hT]; exact hcell) (by rw [hv]; rfl) (by obtain ⟨k9, h9, -⟩ := Vm.findClass_spec hcl; exact ⟨k9, h9⟩) pre x suf hsplit
    (fun z hz => by
      rcases hpass z hz with h | ⟨hz0, nm, hl1, hn1⟩
      · exact Or.inl h
      · obtain ⟨c6, hc6, hcl6⟩ := Cond.classLink_spec hown hl1 e.platform hpl
        obtain ⟨a8, b8, h1, h2, h3⟩ := hn1
        cases Option.some.inj (h1.symm.trans hcl)
        cases Option.some.inj (h2.symm.trans hc6)
        exact Or.inr ⟨hz0, _, hcl6, h3⟩) hx (Or.inr ⟨h0, c4, hcl5, hasg⟩)
  obtain ⟨t, a1, b1⟩ := kk (T.setVm vm') hT X'
  exact ⟨t, st.trans a1, b1⟩
end Rows
section Ends
variable {p : Program} {l : Launch} {e : Env} {R : Room} {s : State} {m : MethodId} {args : Array Value} {below : List Frame} {meth : Method} {c : Code} {H : Heap} {locs : List Loc} {cells slots : Nat} {Q : State → Prop}
variable {mc ms : Nat} {free : Addr → Prop} {A0 A1 : Nat → Prop} {H0 : Heap} {a : Array Value} {ls : Array Slot} {st0 rest : List Value}
variable {Qc : Array Value → State → Outcome → State → Prop} {XC : String → State → State → Prop}
/-- what a body that may throw owes at its end -/
def vx_MQ (below : List Frame) (Qc : Array Value → State → Outcome → State → Prop) (XC : String → State → State → Prop) (a : Array Value) (s : State) (mc ms : Nat) (free : Addr → Prop) : State → Prop := fun t =>
  ∃ o, t.status = .running ∧ Ended t below o ∧ vx_Q Qc XC mc ms free a s o t
theorem vx_ret {g : JFrame} {mc ms : Nat} (k : W p l e R s m args below meth c H locs cells slots (MQ below Qc args s mc ms free) g) : W p l e R s m args below meth c H locs cells slots (vx_MQ below Qc XC args s mc ms free) g := by
  intro T hT X
  obtain ⟨t, a1, o, b1, b2, b3, b4⟩ := k T hT X
  exact ⟨t, a1, o, b1, b2, Or.inl ⟨b3, b4⟩⟩
/-- not caught here: it goes on to the caller -/
theorem vx_widen {g : JFrame} {q : Addr} {k n : Nat} (h1 : cells ≤ k) (h2 : slots ≤ n) (kk : vx_W p l e R s m args below meth c H locs k n Q g q) : vx_W p l e R s m args below meth c H locs cells slots Q g q := fun T hT X => kk T hT (stand_widen X h1 h2)
theorem vx_out {pc : Nat} {E : String} {ce : Cell} {q : Addr} {mc ms : Nat} (hout : ∀ x ∈ c.exceptionTable.toList, covers x pc = false) (hlocks : meth.locks = false) (hcell : H[q]? = some ce) (hv : ce.vm = .none) (hcl : s.vm.findClass E = some ce.cls)
    (hx : ∀ t : State, t.heap = H → s.vm.Alike t.vm → XC E s t) (hf : ∀ z ∈ locs, free z.base) (hc : cells ≤ mc) (hs : slots ≤ ms) :
    vx_W p l e R s m args below meth c H locs cells slots (vx_MQ below Qc XC args s mc ms free) (F0 m pc ls rest) q := by
  intro T hT X
  obtain ⟨st1, hrun, hend, hW, hsm⟩ := X.leaveThrown q (g := F0 m pc ls rest) rfl rfl rfl hout hlocks
  have hcell9 : (T.setFrames (.throwing q :: below)).heap[q]? = some ce := by
    show T.heap[q]? = some ce
    rw [hT]; exact hcell
  exact ⟨_, st1, .threw q, hrun, hend, Or.inr ⟨q, rfl, E, ce, locs, hx _ hT hW.alike, hcell9, hv, hcl, hW, hsm.mono hc hs, hf⟩⟩
theorem vx_frame {U : State} {k n : Nat} (h : s.sameButNew ({ U with vm := s.vm } : State) locs k n) : s.heap.size ≤ U.heap.size ∧ ∀ q : Nat, q < s.heap.size → (∀ z ∈ locs, z.base ≠ q) → U.heap[q]? = s.heap[q]? := by
  obtain ⟨-, h2, -, -, -, h6⟩ := h
  refine ⟨h2, fun q hq hz => ?_⟩
  obtain ⟨c9, e1, e2, e3, e4⟩ := h6 q _ (Array.getElem?_eq_getElem hq)
  have hs : c9.slots = (s.heap[q]).slots := Array.ext_getElem? fun i => e4 i fun hm => hz _ hm rfl
  have h9 : c9 = s.heap[q] := by
    rw [hs] at e2
    exact e2
  have e5 : U.heap[q]? = some c9 := e1
  rw [e5, h9, Array.getElem?_eq_getElem hq]
/-- the words of a throw but the four that speak of the heap -/
def vx_no (w : Cond) : Bool := decide (w ≠ .isRef (.static Bundle.tN "UNASSIGNED_STACK" Bundle.steD)) && decide (w ≠ .isRef (.static Bundle.tN "SUPPRESSED_SENTINEL" Bundle.listD)) && decide (w ≠ .laysStatic Bundle.tN "UNASSIGNED_STACK" Bundle.steD) && decide (w ≠ .laysStatic Bundle.tN "SUPPRESSED_SENTINEL" Bundle.listD)
def vx_at0 (own : String) (ic : Nat) (X : String) (names : List String) : List Cond := (Bundle.ownAtoms0 own ic X names).filter vx_no
def vx_atS (own : String) (ic : Nat) (X : String) (names : List String) : List Cond := (Bundle.ownAtoms own ic X names).filter vx_no
/-- a word that the tables alone decide, or a good one -/
def vx_ot (w : Cond) : Bool := w.onTables || goodWord w
theorem vx_ot_at {args a' : Array Value} {s U : State} {w : Cond} (hW : s.WarmedH U.vm) (hvm : s.vm = U.vm) (hg : vx_ot w = true) (h : w.before args s = true) : w.before a' U = true := by
  simp only [vx_ot, Bool.or_eq_true] at hg
  rcases hg with hg | hg
  · exact va_tabs hg hvm h
  · exact word_at hW (good_of_word hg) h
/-- a list's words: the good ones out of the method's own list, the others by premises of their own -/
theorem vx_hat {args : Array Value} {s : State} {L B : List Cond} (h1 : ∀ w ∈ L.filter goodWord, w.before args s = true) (h2 : ∀ w ∈ L.filter (fun w => !goodWord w), w ∈ B) (h3 : ∀ w ∈ B, w.before args s = true) : ∀ w ∈ L, w.before args s = true := by
  intro w hw
  by_cases g : goodWord w = true
  · exact h1 w (List.mem_filter.mpr ⟨hw, g⟩)
  · refine h3 w (h2 w (List.mem_filter.mpr ⟨hw, ?_⟩))
    show (!goodWord w) = true
    cases hgw : goodWord w
    · rfl
    · exact absurd hgw g
theorem vx_c {args : Array Value} {s : State} {w : Cond} {B : List Cond} (h : w.before args s = true) (t : ∀ w ∈ B, w.before args s = true) : ∀ w' ∈ w :: B, w'.before args s = true := fun w' h' => (List.mem_cons.mp h').elim (fun e => by rw [e]; exact h) (t w')
theorem vx_n {args : Array Value} {s : State} : ∀ w ∈ ([] : List Cond), w.before args s = true := fun _ h => nomatch h
theorem vx_own {args : Array Value} {s : State} {L : List Cond} (h1 : ∀ w ∈ L.filter vx_no, w.before args s = true)
    (hU : (Cond.isRef (.static Bundle.tN "UNASSIGNED_STACK" Bundle.steD)).before args s = true) (hN : (Cond.isRef (.static Bundle.tN "SUPPRESSED_SENTINEL" Bundle.listD)).before args s = true)
    (lU : (Cond.laysStatic Bundle.tN "UNASSIGNED_STACK" Bundle.steD).before args s = true) (lN : (Cond.laysStatic Bundle.tN "SUPPRESSED_SENTINEL" Bundle.listD).before args s = true) : ∀ w ∈ L, w.before args s = true := by
  intro w hw
  by_cases e1 : w = .isRef (.static Bundle.tN "UNASSIGNED_STACK" Bundle.steD)
  · rw [e1]; exact hU
  · by_cases e2 : w = .isRef (.static Bundle.tN "SUPPRESSED_SENTINEL" Bundle.listD)
    · rw [e2]; exact hN
    · by_cases e3 : w = .laysStatic Bundle.tN "UNASSIGNED_STACK" Bundle.steD
      · rw [e3]; exact lU
      · by_cases e4 : w = .laysStatic Bundle.tN "SUPPRESSED_SENTINEL" Bundle.listD
        · rw [e4]; exact lN
        · exact h1 w (List.mem_filter.mpr ⟨hw, by unfold vx_no; rw [decide_eq_true e1, decide_eq_true e2, decide_eq_true e3, decide_eq_true e4]; rfl⟩)
/-- where a static field lies, its class's statics cell in H -/
def vx_L (C n d : String) (A : Nat → Prop) (U : State) (H : Heap) : Prop := ∃ (c : ClassId) (k : Class) (i : Nat) (f : Field) (a : Nat) (cell : Cell), U.vm.findClass C = some c ∧ U.fieldFound? C n d = some (c, k, i, f) ∧ f.isStatic = true ∧ k.statics = some a ∧ H[a]? = some cell ∧ cell.vm.isStatics = true ∧ cell.cls = c ∧ f.slot < cell.slots.size ∧ k.staticTypes[f.slot]? = some f.type ∧ ¬ A a
theorem vx_L.moved {C n d : String} {A : Nat → Prop} {u U : State} {H : Heap} (hvm : u.vm.Alike U.vm) (h : vx_L C n d A u H) : vx_L C n d A U H := by
  obtain ⟨c, k, i, f, a, cell, h1, h2, h3, h4, h5, h6, h7, h8, h9, h10⟩ := h
  obtain ⟨k', hi', he⟩ := State.fieldFound?_setVm hvm h2
  exact ⟨c, k', i, f, a, cell, by rw [hvm.findClass]; exact h1, hi', h3, by rw [he]; exact h4, h5, h6, h7, h8, by rw [he]; exact h9, h10⟩
theorem vx_L.kept {C n d : String} {A : Nat → Prop} {U : State} {H H1 : Heap} (h : vx_L C n d A U H) (hq : ∀ a : Nat, a < H.size → ¬ A a → H1[a]? = H[a]?) : vx_L C n d A U H1 := by
  obtain ⟨c, k, i, f, a, cell, h1, h2, h3, h4, h5, h6, h7, h8, h9, h10⟩ := h
  exact ⟨c, k, i, f, a, cell, h1, h2, h3, h4, by rw [hq a (Array.getElem?_eq_some_iff.mp h5).1 h10]; exact h5, h6, h7, h8, h9, h10⟩
theorem vx_L.narrow {C n d : String} {A B : Nat → Prop} {U : State} {H : Heap} (h : vx_L C n d A U H) (hAB : ∀ q, B q → A q) : vx_L C n d B U H := by
  obtain ⟨c, k, i, f, a, cell, h1, h2, h3, h4, h5, h6, h7, h8, h9, h10⟩ := h
  exact ⟨c, k, i, f, a, cell, h1, h2, h3, h4, h5, h6, h7, h8, h9, fun z => h10 (hAB _ z)⟩
theorem vx_L.word {C n d : String} {A : Nat → Prop} {s : State} {args : Array Value} (h : vx_L C n d A s s.heap) : (Cond.laysStatic C n d).before args s = true := by
  obtain ⟨c, k, i, f, a, cell, h1, h2, h3, h4, h5, h6, h7, h8, h9, -⟩ := h
  show (Cond.laysStatic C n d).holds args s none s [] = true
  exact Cond.laysStatic_of h1 h2 h3 h4 h5 h6 h7 h8 h9
/-- .. and what it holds: null or some reference -/
def vx_Zq (C n d : String) (A : Nat → Prop) (U : State) (H : Heap) : Prop := va_Zq C n d A U H ∧ vx_L C n d A U H
theorem vx_Zq.moved {C n d : String} {A : Nat → Prop} {u U : State} {H : Heap} (hvm : u.vm.Alike U.vm) (h : vx_Zq C n d A u H) : vx_Zq C n d A U H := ⟨va_Zq.moved hvm h.1, vx_L.moved hvm h.2⟩
theorem vx_Zq.kept {C n d : String} {A : Nat → Prop} {U : State} {H H1 : Heap} (h : vx_Zq C n d A U H) (hq : ∀ a : Nat, a < H.size → ¬ A a → H1[a]? = H[a]?) : vx_Zq C n d A U H1 := ⟨va_Zq.kept h.1 hq, vx_L.kept h.2 hq⟩
theorem vx_Zq.narrow {C n d : String} {A B : Nat → Prop} {U : State} {H : Heap} (h : vx_Zq C n d A U H) (hAB : ∀ q, B q → A q) : vx_Zq C n d B U H := ⟨va_Zq.narrow h.1 hAB, vx_L.narrow h.2 hAB⟩
theorem vx_Zqof {args : Array Value} {s : State} {C n d : String} {A : Nat → Prop} (hl : (Cond.laysStatic C n d).before args s = true) (hini : (Cond.initialized C).before args s = true) (h : (Cond.isRef (.static C n d)).before args s = true) (hA : ∀ a : Nat, a < s.heap.size → ¬ A a) : vx_Zq C n d A s s.heap := by
  refine ⟨va_Zqof hl hini h hA, ?_⟩
  obtain ⟨c, k, i, f, a, cell, h1, h2, h3, h4, h5, h6, h7, h8, h9⟩ := Cond.laysStatic_spec hl
  exact ⟨c, k, i, f, a, cell, h1, h2, h3, h4, h5, h6, h7, h8, h9, hA a (Array.getElem?_eq_some_iff.mp h5).1⟩
theorem vx_isRef {C n d : String} {v : Value} {A : Nat → Prop} {s : State} {args : Array Value} (h : va_Z C n d v A s s.heap) (hv : v.isRef = true) : (Cond.isRef (.static C n d)).before args s = true := by
  obtain ⟨cf, kf, fi, f, a, cell, h1, h2, h3, h4, h5, h6, h7, -⟩ := h
  have he : (Term.static C n d).eval args s none [] s = some v := by
    simp [Term.eval, State.fieldNamed?, h1, h2, h4, h5, h6, h7]
  simp only [Cond.before, Cond.holds, Cond.value, he]
  cases v <;> simp_all [Value.isRef]
theorem vx_isRefq {C n d : String} {A : Nat → Prop} {s : State} {args : Array Value} (h : va_Zq C n d A s s.heap) : (Cond.isRef (.static C n d)).before args s = true := by
  rcases h with h | ⟨t, h⟩
  · exact vx_isRef h rfl
  · exact vx_isRef h rfl
/-- the same frame, seen from here: as if the method were called anew in this heap -/
theorem vx_rebase {T : State} (X : Stand p l e R s m args below meth c T locs cells slots) {R' : Room} (hf : R'.frames ≤ R.frames) (hl : R'.locals ≤ R.locals) (hc : cells + R'.cells ≤ R.cells) (hs : slots + R'.slots ≤ R.slots) :
    Stand p l e R' ((T.setVm s.vm).setFrames (.invoking m args :: below)) m args below meth c T [] 0 0 := by
  have htop : (T.setVm s.vm).topJava?.isSome := X.here.top
  have hF : ((T.setVm s.vm).setFrames (.invoking m args :: below)).frames = .invoking m args :: below := State.frames_setFrames _ (State.cur_lt_of_top htop)
  obtain ⟨g₀, hg0⟩ := Option.isSome_iff_exists.mp htop
  obtain ⟨r, hr⟩ := State.topJava?_eq_some.mp hg0
  have hl9 : e.platform.stackLimits (T.setVm s.vm).me = e.platform.stackLimits s.me := X.limits
  have hb9 : (T.setVm s.vm).me.stackBytes = s.me.stackBytes := X.bytes
  refine ⟨X.admits, X.cas, X.clock, hF, ?_, X.hears, X.method, X.code, X.here, X.tail, X.warmed, ?_, ?_, ?_⟩
  · have h := X.room
    have hU : ((T.setVm s.vm).setFrames (.invoking m args :: below)).localsInUse = s.localsInUse := by
      rw [State.localsInUse_invoking hF (meth := meth) (c := c) X.method X.code, State.localsInUse_invoking X.frames X.method X.code]
    simp only [State.hasRoom, Bool.and_eq_true, decide_eq_true_eq] at h ⊢
    obtain ⟨⟨⟨⟨h1, h2, h3, h4, h5, h6⟩, h7⟩, h8⟩, h9⟩ := h
    rw [X.frames, List.length_cons] at h2 h3
    have q1 := X.heapSize
    have q2 := X.used
    simp only [hF, hU, List.length_cons, State.stackLimits_setFrames, State.stackBytes_setFrames, hl9, hb9]
    refine ⟨⟨⟨⟨by omega, by omega, by omega, by omega, by omega, h6⟩, ?_⟩, ?_⟩, X.book⟩
    · show T.heap.size + R'.cells ≤ e.platform.maxCells
      omega
    · show T.slotsUsed + R'.slots ≤ e.platform.maxSlots
      omega
  · rw [State.stackLimits_setFrames]; rfl
  · rw [State.stackBytes_setFrames]; rfl
  · refine ⟨?_, Nat.le_refl _, Nat.le_refl _, ?_, ?_, fun a c9 h9 => ⟨c9, h9, rfl, rfl, fun _ _ => rfl⟩⟩
    · obtain ⟨t, ht, -⟩ := State.frames_cons hr
      show T.setVm s.vm = { ((T.setVm s.vm).setFrames (.invoking m args :: below)).setFrames (T.setVm s.vm).frames with heap := T.heap, slotsUsed := T.slotsUsed }
      rw [State.setFrames_setFrames, State.setFrames_self ht]
      rfl
    · show T.slotsUsed = T.slotsUsed + ((T.heap.toList.drop T.heap.size).map (·.slots.size)).sum
      rw [List.drop_eq_nil_of_le (Nat.le_of_eq Array.length_toList)]
      rfl
    · show ((T.heap.toList.drop T.heap.size).map (·.slots.size)).sum ≤ 0
      rw [List.drop_eq_nil_of_le (Nat.le_of_eq Array.length_toList)]
      exact Nat.le_refl _
/-- 'throw new E()': new; dup; invokespecial; athrow -/
theorem vx_throw0 {cc : ByteArray} {pc : Nat} (hexec : p.tables.exec = Jvm.exec) (hb : c.code = cc) (hl : l.stackTraces = false) {own cls : String} {names : List String} {ik ic mc ms : Nat} {A : Nat → Prop}
    (hown : s.vm.findClass own = some m.cls) (hcls : Bundle.fit cls = true) (hnames : ∀ n ∈ names, Bundle.fit n = true)
    (hk : (Cond.classLink own ik cls).before args s = true) (hini : (Cond.initialized cls).before args s = true) (hat : ∀ w ∈ vx_at0 own ic cls names, w.before args s = true)
    (hgood : ∀ w ∈ Cond.classLink own ik cls :: Cond.initialized cls :: vx_at0 own ic cls names, vx_ot w = true)
    (hU : vx_Zq Bundle.tN "UNASSIGNED_STACK" Bundle.steD A s s.heap) (hN : vx_Zq Bundle.tN "SUPPRESSED_SENTINEL" Bundle.listD A s s.heap) (hS : va_S A s.heap H locs) (hsize : ls.size = c.maxLocals)
    (d0 : decode cc pc = .ok (.new ik, 3)) (d3 : decode cc (pc + 3) = .ok (.dup, 1)) (d4 : decode cc (pc + 4) = .ok (.invokespecial ic, 3)) (d7 : decode cc (pc + 7) = .ok (.athrow, 1))
    (hout : ∀ x ∈ c.exceptionTable.toList, covers x (pc + 7) = false)
    (hRframes : names.length + 3 < R.frames) (hRlocals : (rest.map fun v => v.category).sum + (13 * (names.length + 1) + 42) ≤ R.locals) (hRcells : cells + 1 ≤ R.cells) (hRslots : slots + 6 ≤ R.slots) (hlocks : meth.locks = false)
    (hx : ∀ t : State, s.vm.Alike t.vm → H.size ≤ t.heap.size → (∀ q : Nat, q < H.size → t.heap[q]? = H[q]?) → XC cls s t)
    (hf : ∀ z ∈ locs, free z.base) (hc : cells + 1 ≤ mc) (hs : slots + 6 ≤ ms) :
    W p l e R s m args below meth c H locs cells slots (vx_MQ below Qc XC args s mc ms free) (F0 m pc ls rest) := by
  intro T hT X
  have htr : e.platform.stackTraces = false := (show e.platform.stackTraces = l.stackTraces by rw [X.admits.platform]).trans hl
  have Y := vx_rebase X (R' := { frames := R.frames, locals := R.locals, cells := 1, slots := 6 }) (Nat.le_refl _) (Nat.le_refl _) hRcells hRslots
  obtain ⟨s', hA⟩ : ∃ z, z = (T.setVm s.vm).setFrames (.invoking m args :: below) := ⟨_, rfl⟩
  rw [← hA] at Y
  have hvm : s'.vm = s.vm := by rw [hA]; rfl
  have hhp : s'.heap = H := by rw [hA]; exact hT
  have hW0 : s.WarmedH s'.vm := by rw [hvm]; exact State.WarmedH.refl s
  have hat' : ∀ w ∈ vx_at0 own ic cls names, w.before args s' = true := fun w hw => vx_ot_at hW0 hvm.symm (hgood w (List.mem_cons_of_mem _ (List.mem_cons_of_mem _ hw))) (hat w hw)
  have hk' : (Cond.classLink own ik cls).before args s' = true := vx_ot_at hW0 hvm.symm (hgood _ List.mem_cons_self) hk
  have hini' : (Cond.initialized cls).before args s' = true := vx_ot_at hW0 hvm.symm (hgood _ (List.mem_cons_of_mem _ List.mem_cons_self)) hini
  have hU' : vx_Zq Bundle.tN "UNASSIGNED_STACK" Bundle.steD A s' s'.heap := by rw [hhp]; exact vx_Zq.moved hW0.alike (hU.kept hS.2.1)
  have hN' : vx_Zq Bundle.tN "SUPPRESSED_SENTINEL" Bundle.listD A s' s'.heap := by rw [hhp]; exact vx_Zq.moved hW0.alike (hN.kept hS.2.1)
  have h : ∀ w ∈ Bundle.ownAtoms0 own ic cls names, w.before args s' = true := vx_own hat' (vx_isRefq hU'.1) (vx_isRefq hN'.1) hU'.2.word hN'.2.word
  have hown' : s'.vm.findClass own = some m.cls := by rw [hvm]; exact hown
  have hins : (Cond.instantiable cls 6).before args s' = true := h _ (by simp [Bundle.ownAtoms0])
  obtain ⟨vm₁, cX, kX, hfX, hkX, -, -, X₁, st1⟩ := Y.newCold hexec (own := own) (C := cls) (index := ik) (n := 6) hown' hk' hins hini'
    (g := F0 m pc ls rest) rfl (by rw [hb]; exact d0) (Nat.le_refl _) (Nat.le_refl _)
  generalize hT1 : (T.setVm vm₁).pushCell { cls := cX, slots := kX.instanceTypes.map defaultValue, vm := .none } = T1 at X₁ st1
  have hcat : (Value.ref T.heap.size).category = 1 := rfl
  have hcellA : T1.heap[T.heap.size]? = some (freshCell cX kX) := by rw [← hT1]; exact State.heap_pushCell_size _ _
  have d3' : decode c.code (pc + 3) = .ok (.dup, 1) := by rw [hb]; exact d3
  obtain ⟨U, hsteps, hrun, hend, hW, hsame, ce, hce, hO⟩ := X₁.ctorThrow0 hexec htr (own := own) (cls := cls) (names := names) (ic := ic) hown' hcls hnames h (fun x hx => nomatch hx) hfX hkX hcellA (by rw [hhp, hT]; exact Nat.le_refl _)
    (g := { method := m, pc := pc + 4, locals := ls, stack := .ref T.heap.size :: .ref T.heap.size :: rest, locked := none }) rfl hsize rfl rfl (rest := rest) rfl
    (by rw [hb]; exact d4) (by rw [hb]; exact d7) hout hRframes (by simp only [List.map_cons, List.sum_cons, hcat]; omega) hlocks
  obtain ⟨f1, f2⟩ := vx_frame hsame
  rw [hhp] at f1 f2
  have hWs : s.WarmedH U.vm := State.WarmedH.trans hW0 hW
  have hcl : s.vm.findClass cls = some ce.cls := by
    have h9 := hO.cls
    rw [hvm] at h9
    exact h9
  have hall : s.sameButNew ({ U with vm := s.vm } : State) locs mc ms := by
    subst hA
    obtain ⟨e1, e2⟩ := hsame
    rw [State.setFrames_setFrames] at e1
    have h2 : (T.setVm s.vm).sameButNew ({ U with vm := s.vm } : State) [] (0 + 1) (0 + 6) := ⟨e1, e2⟩
    have h3 := X.same.trans h2
    rw [List.append_nil] at h3
    exact h3.mono hc hs
  refine ⟨U, ?_, .threw T.heap.size, hrun, hend, Or.inr ⟨T.heap.size, rfl, cls, ce, locs, hx U hWs.alike f1 (fun q hq => f2 q hq (fun z hz => nomatch hz)), hce, hO.vm, hcl, hWs, hall, hf⟩⟩
  refine st1 _ ?_
  show Steps p.tables e below (T1.setTop { method := m, pc := pc + 3, locals := ls, stack := .ref T.heap.size :: rest, locked := none }) _
  jvm_step X₁.here [X₁.here.top, hexec, d3', Value.category]
  exact hsteps
/-- 'throw new E("text")': new; dup; ldc; invokespecial; athrow -/
theorem vx_throwS {cc : ByteArray} {pc : Nat} (hexec : p.tables.exec = Jvm.exec) (hb : c.code = cc) (hl : l.stackTraces = false) {own cls text : String} {names : List String} {ik is ic mc ms sa : Nat} {A : Nat → Prop}
    (hown : s.vm.findClass own = some m.cls) (hcls : Bundle.fit cls = true) (hnames : ∀ n ∈ names, Bundle.fit n = true)
    (hk : (Cond.classLink own ik cls).before args s = true) (hini : (Cond.initialized cls).before args s = true) (hstr : vk_R own is text sa s) (hat : ∀ w ∈ vx_atS own ic cls names, w.before args s = true)
    (hgood : ∀ w ∈ Cond.classLink own ik cls :: Cond.initialized cls :: vx_atS own ic cls names, vx_ot w = true)
    (hU : vx_Zq Bundle.tN "UNASSIGNED_STACK" Bundle.steD A s s.heap) (hN : vx_Zq Bundle.tN "SUPPRESSED_SENTINEL" Bundle.listD A s s.heap) (hS : va_S A s.heap H locs) (hsize : ls.size = c.maxLocals)
    (d0 : decode cc pc = .ok (.new ik, 3)) (d3 : decode cc (pc + 3) = .ok (.dup, 1)) (d4 : decode cc (pc + 4) = .ok (.ldc is, 2)) (d6 : decode cc (pc + 6) = .ok (.invokespecial ic, 3)) (d9 : decode cc (pc + 9) = .ok (.athrow, 1))
    (hout : ∀ x ∈ c.exceptionTable.toList, covers x (pc + 9) = false)
    (hRframes : names.length + 3 < R.frames) (hRlocals : (rest.map fun v => v.category).sum + (13 * (names.length + 1) + 43) ≤ R.locals) (hRcells : cells + 1 ≤ R.cells) (hRslots : slots + 6 ≤ R.slots) (hlocks : meth.locks = false)
    (hx : ∀ t : State, s.vm.Alike t.vm → H.size ≤ t.heap.size → (∀ q : Nat, q < H.size → t.heap[q]? = H[q]?) → XC cls s t)
    (hf : ∀ z ∈ locs, free z.base) (hc : cells + 1 ≤ mc) (hs : slots + 6 ≤ ms) :
    W p l e R s m args below meth c H locs cells slots (vx_MQ below Qc XC args s mc ms free) (F0 m pc ls rest) := by
  intro T hT X
  have htr : e.platform.stackTraces = false := (show e.platform.stackTraces = l.stackTraces by rw [X.admits.platform]).trans hl
  have Y := vx_rebase X (R' := { frames := R.frames, locals := R.locals, cells := 1, slots := 6 }) (Nat.le_refl _) (Nat.le_refl _) hRcells hRslots
  obtain ⟨s', hA⟩ : ∃ z, z = (T.setVm s.vm).setFrames (.invoking m args :: below) := ⟨_, rfl⟩
  rw [← hA] at Y
  have hvm : s'.vm = s.vm := by rw [hA]; rfl
  have hhp : s'.heap = H := by rw [hA]; exact hT
  have hW0 : s.WarmedH s'.vm := by rw [hvm]; exact State.WarmedH.refl s
  have hat' : ∀ w ∈ vx_atS own ic cls names, w.before args s' = true := fun w hw => vx_ot_at hW0 hvm.symm (hgood w (List.mem_cons_of_mem _ (List.mem_cons_of_mem _ hw))) (hat w hw)
  have hk' : (Cond.classLink own ik cls).before args s' = true := vx_ot_at hW0 hvm.symm (hgood _ List.mem_cons_self) hk
  have hini' : (Cond.initialized cls).before args s' = true := vx_ot_at hW0 hvm.symm (hgood _ (List.mem_cons_of_mem _ List.mem_cons_self)) hini
  have hU' : vx_Zq Bundle.tN "UNASSIGNED_STACK" Bundle.steD A s' s'.heap := by rw [hhp]; exact vx_Zq.moved hW0.alike (hU.kept hS.2.1)
  have hN' : vx_Zq Bundle.tN "SUPPRESSED_SENTINEL" Bundle.listD A s' s'.heap := by rw [hhp]; exact vx_Zq.moved hW0.alike (hN.kept hS.2.1)
  have h : ∀ w ∈ Bundle.ownAtoms own ic cls names, w.before args s' = true := vx_own hat' (vx_isRefq hU'.1) (vx_isRefq hN'.1) hU'.2.word hN'.2.word
  have hown' : s'.vm.findClass own = some m.cls := by rw [hvm]; exact hown
  have hins : (Cond.instantiable cls 6).before args s' = true := h _ (by simp [Bundle.ownAtoms])
  obtain ⟨vm₁, cX, kX, hfX, hkX, -, -, X₁, st1⟩ := Y.newCold hexec (own := own) (C := cls) (index := ik) (n := 6) hown' hk' hins hini'
    (g := F0 m pc ls rest) rfl (by rw [hb]; exact d0) (Nat.le_refl _) (Nat.le_refl _)
  generalize hT1 : (T.setVm vm₁).pushCell { cls := cX, slots := kX.instanceTypes.map defaultValue, vm := .none } = T1 at X₁ st1
  have hcat : (Value.ref T.heap.size).category = 1 := rfl
  have hcellA : T1.heap[T.heap.size]? = some (freshCell cX kX) := by rw [← hT1]; exact State.heap_pushCell_size _ _
  have d3' : decode c.code (pc + 3) = .ok (.dup, 1) := by rw [hb]; exact d3
  have d4' : decode c.code (pc + 4) = .ok (.ldc is, 2) := by rw [hb]; exact d4
  have hstr' : vk_R own is text sa s' := vk_R.warm hW0 hstr
  obtain ⟨U, hsteps, hrun, hend, hW, hsame, ce, hce, hO⟩ := X₁.ctorThrowS hexec htr (own := own) (cls := cls) (names := names) (ic := ic) hown' hcls hnames h (fun x hx => nomatch hx) hfX hkX hcellA (by rw [hhp, hT]; exact Nat.le_refl _) (msg := .ref sa) rfl
    (g := { method := m, pc := pc + 6, locals := ls, stack := .ref sa :: .ref T.heap.size :: .ref T.heap.size :: rest, locked := none }) rfl hsize rfl rfl (rest := rest) rfl
    (by rw [hb]; exact d6) (by rw [hb]; exact d9) hout hRframes (by simp only [List.map_cons, List.sum_cons, hcat]; omega) hlocks
  obtain ⟨f1, f2⟩ := vx_frame hsame
  rw [hhp] at f1 f2
  have hWs : s.WarmedH U.vm := State.WarmedH.trans hW0 hW
  have hcl : s.vm.findClass cls = some ce.cls := by
    have h9 := hO.cls
    rw [hvm] at h9
    exact h9
  have hall : s.sameButNew ({ U with vm := s.vm } : State) locs mc ms := by
    subst hA
    obtain ⟨e1, e2⟩ := hsame
    rw [State.setFrames_setFrames] at e1
    have h2 : (T.setVm s.vm).sameButNew ({ U with vm := s.vm } : State) [] (0 + 1) (0 + 6) := ⟨e1, e2⟩
    have h3 := X.same.trans h2
    rw [List.append_nil] at h3
    exact h3.mono hc hs
  refine ⟨U, ?_, .threw T.heap.size, hrun, hend, Or.inr ⟨T.heap.size, rfl, cls, ce, locs, hx U hWs.alike f1 (fun q hq => f2 q hq (fun z hz => nomatch hz)), hce, hO.vm, hcl, hWs, hall, hf⟩⟩
  refine st1 _ ?_
  show Steps p.tables e below (T1.setTop { method := m, pc := pc + 3, locals := ls, stack := .ref T.heap.size :: rest, locked := none }) _
  jvm_step X₁.here [X₁.here.top, hexec, d3', Value.category]
  exact X₁.ldcString hexec (own := own) (text := text) (index := is) (a := sa) hown' hstr'.1 hstr'.2
    (g := { method := m, pc := pc + 4, locals := ls, stack := .ref T.heap.size :: .ref T.heap.size :: rest, locked := none }) rfl d4' _ hsteps
/-- 'throw new E("text")', the text by a wide index -/
theorem vx_throwSW {cc : ByteArray} {pc : Nat} (hexec : p.tables.exec = Jvm.exec) (hb : c.code = cc) (hl : l.stackTraces = false) {own cls text : String} {names : List String} {ik is ic mc ms sa : Nat} {A : Nat → Prop}
    (hown : s.vm.findClass own = some m.cls) (hcls : Bundle.fit cls = true) (hnames : ∀ n ∈ names, Bundle.fit n = true)
    (hk : (Cond.classLink own ik cls).before args s = true) (hini : (Cond.initialized cls).before args s = true) (hstr : vk_R own is text sa s) (hat : ∀ w ∈ vx_atS own ic cls names, w.before args s = true)
    (hgood : ∀ w ∈ Cond.classLink own ik cls :: Cond.initialized cls :: vx_atS own ic cls names, vx_ot w = true)
    (hU : vx_Zq Bundle.tN "UNASSIGNED_STACK" Bundle.steD A s s.heap) (hN : vx_Zq Bundle.tN "SUPPRESSED_SENTINEL" Bundle.listD A s s.heap) (hS : va_S A s.heap H locs) (hsize : ls.size = c.maxLocals)
    (d0 : decode cc pc = .ok (.new ik, 3)) (d3 : decode cc (pc + 3) = .ok (.dup, 1)) (d4 : decode cc (pc + 4) = .ok (.ldc_w is, 3)) (d7 : decode cc (pc + 7) = .ok (.invokespecial ic, 3)) (d10 : decode cc (pc + 10) = .ok (.athrow, 1))
    (hout : ∀ x ∈ c.exceptionTable.toList, covers x (pc + 10) = false)
    (hRframes : names.length + 3 < R.frames) (hRlocals : (rest.map fun v => v.category).sum + (13 * (names.length + 1) + 43) ≤ R.locals) (hRcells : cells + 1 ≤ R.cells) (hRslots : slots + 6 ≤ R.slots) (hlocks : meth.locks = false)
    (hx : ∀ t : State, s.vm.Alike t.vm → H.size ≤ t.heap.size → (∀ q : Nat, q < H.size → t.heap[q]? = H[q]?) → XC cls s t)
    (hf : ∀ z ∈ locs, free z.base) (hc : cells + 1 ≤ mc) (hs : slots + 6 ≤ ms) :
    W p l e R s m args below meth c H locs cells slots (vx_MQ below Qc XC args s mc ms free) (F0 m pc ls rest) := by
  intro T hT X
  have htr : e.platform.stackTraces = false := (show e.platform.stackTraces = l.stackTraces by rw [X.admits.platform]).trans hl
  have Y := vx_rebase X (R' := { frames := R.frames, locals := R.locals, cells := 1, slots := 6 }) (Nat.le_refl _) (Nat.le_refl _) hRcells hRslots
  obtain ⟨s', hA⟩ : ∃ z, z = (T.setVm s.vm).setFrames (.invoking m args :: below) := ⟨_, rfl⟩
  rw [← hA] at Y
  have hvm : s'.vm = s.vm := by rw [hA]; rfl
  have hhp : s'.heap = H := by rw [hA]; exact hT
  have hW0 : s.WarmedH s'.vm := by rw [hvm]; exact State.WarmedH.refl s
  have hat' : ∀ w ∈ vx_atS own ic cls names, w.before args s' = true := fun w hw => vx_ot_at hW0 hvm.symm (hgood w (List.mem_cons_of_mem _ (List.mem_cons_of_mem _ hw))) (hat w hw)
  have hk' : (Cond.classLink own ik cls).before args s' = true := vx_ot_at hW0 hvm.symm (hgood _ List.mem_cons_self) hk
  have hini' : (Cond.initialized cls).before args s' = true := vx_ot_at hW0 hvm.symm (hgood _ (List.mem_cons_of_mem _ List.mem_cons_self)) hini
  have hU' : vx_Zq Bundle.tN "UNASSIGNED_STACK" Bundle.steD A s' s'.heap := by rw [hhp]; exact vx_Zq.moved hW0.alike (hU.kept hS.2.1)
  have hN' : vx_Zq Bundle.tN "SUPPRESSED_SENTINEL" Bundle.listD A s' s'.heap := by rw [hhp]; exact vx_Zq.moved hW0.alike (hN.kept hS.2.1)
  have h : ∀ w ∈ Bundle.ownAtoms own ic cls names, w.before args s' = true := vx_own hat' (vx_isRefq hU'.1) (vx_isRefq hN'.1) hU'.2.word hN'.2.word
  have hown' : s'.vm.findClass own = some m.cls := by rw [hvm]; exact hown
  have hins : (Cond.instantiable cls 6).before args s' = true := h _ (by simp [Bundle.ownAtoms])
  obtain ⟨vm₁, cX, kX, hfX, hkX, -, -, X₁, st1⟩ := Y.newCold hexec (own := own) (C := cls) (index := ik) (n := 6) hown' hk' hins hini'
    (g := F0 m pc ls rest) rfl (by rw [hb]; exact d0) (Nat.le_refl _) (Nat.le_refl _)
  generalize hT1 : (T.setVm vm₁).pushCell { cls := cX, slots := kX.instanceTypes.map defaultValue, vm := .none } = T1 at X₁ st1
  have hcat : (Value.ref T.heap.size).category = 1 := rfl
  have hcellA : T1.heap[T.heap.size]? = some (freshCell cX kX) := by rw [← hT1]; exact State.heap_pushCell_size _ _
  have d3' : decode c.code (pc + 3) = .ok (.dup, 1) := by rw [hb]; exact d3
  have d4' : decode c.code (pc + 4) = .ok (.ldc_w is, 3) := by rw [hb]; exact d4
  have hstr' : vk_R own is text sa s' := vk_R.warm hW0 hstr
  obtain ⟨U, hsteps, hrun, hend, hW, hsame, ce, hce, hO⟩ := X₁.ctorThrowS hexec htr (own := own) (cls := cls) (names := names) (ic := ic) hown' hcls hnames h (fun x hx => nomatch hx) hfX hkX hcellA (by rw [hhp, hT]; exact Nat.le_refl _) (msg := .ref sa) rfl
    (g := { method := m, pc := pc + 7, locals := ls, stack := .ref sa :: .ref T.heap.size :: .ref T.heap.size :: rest, locked := none }) rfl hsize rfl rfl (rest := rest) rfl
    (by rw [hb]; exact d7) (by rw [hb]; exact d10) hout hRframes (by simp only [List.map_cons, List.sum_cons, hcat]; omega) hlocks
  obtain ⟨f1, f2⟩ := vx_frame hsame
  rw [hhp] at f1 f2
  have hWs : s.WarmedH U.vm := State.WarmedH.trans hW0 hW
  have hcl : s.vm.findClass cls = some ce.cls := by
    have h9 := hO.cls
    rw [hvm] at h9
    exact h9
  have hall : s.sameButNew ({ U with vm := s.vm } : State) locs mc ms := by
    subst hA
    obtain ⟨e1, e2⟩ := hsame
    rw [State.setFrames_setFrames] at e1
    have h2 : (T.setVm s.vm).sameButNew ({ U with vm := s.vm } : State) [] (0 + 1) (0 + 6) := ⟨e1, e2⟩
    have h3 := X.same.trans h2
    rw [List.append_nil] at h3
    exact h3.mono hc hs
  refine ⟨U, ?_, .threw T.heap.size, hrun, hend, Or.inr ⟨T.heap.size, rfl, cls, ce, locs, hx U hWs.alike f1 (fun q hq => f2 q hq (fun z hz => nomatch hz)), hce, hO.vm, hcl, hWs, hall, hf⟩⟩
  refine st1 _ ?_
  show Steps p.tables e below (T1.setTop { method := m, pc := pc + 3, locals := ls, stack := .ref T.heap.size :: rest, locked := none }) _
  jvm_step X₁.here [X₁.here.top, hexec, d3', Value.category]
  exact X₁.ldcStringW hexec (own := own) (text := text) (index := is) (a := sa) hown' hstr'.1 hstr'.2
    (g := { method := m, pc := pc + 4, locals := ls, stack := .ref T.heap.size :: .ref T.heap.size :: rest, locked := none }) rfl d4' _ hsteps
end Ends
section Bodies
variable {l : Launch}
theorem vx_ofW {y : MethodName} {ws ws' : List Cond} {rm : Room} {Pc : Array Value → State → Prop} {Qc : Array Value → State → Outcome → State → Prop} {XC : String → State → State → Prop} {mc ms : Nat} {free : Addr → Prop} {cc : ByteArray} {maxL : Nat} {ret : Option FieldType}
    (hy : plainName y.cls = true) (hw : ws = Cond.code y cc maxL ret :: ws')
    (body : ∀ p e s m args below meth c s₁, BodyLoose p l y (headSpec ws rm) cc maxL ret e s m args below meth c s₁ → c.maxLocals = maxL → (∀ x ∈ c.exceptionTable.toList, False) → Pc args s →
      W p l e (headSpec ws rm).room s m args below meth c s.heap [] 0 0 (vx_MQ below Qc XC args s mc ms free) (entryFrame m args maxL)) : vx_Met l y ws rm Pc Qc XC mc ms free := by
  refine MetFree.of_bodyS (code := cc) (maxLocals := maxL) (ret := ret) hy ?_ ?_
  · intro args s m h hn
    obtain ⟨meth, c, h1, h2, h3, h4, h5, h6, -, -⟩ := Cond.code_spec hn (atoms_spec (ws := ws) h _ (by rw [hw]; exact List.mem_cons_self))
    exact ⟨meth, c, h1, h2, h3, h4, h5, h6⟩
  · intro p e s m args below meth c s₁ B hml hP _
    have hh0 : s₁.heap = s.heap := by rw [B.state]; rfl
    have ht : ∀ x ∈ c.exceptionTable.toList, False := by
      obtain ⟨meth9, c9, h1, h2, -, -, -, -, h7, -⟩ := Cond.code_spec B.named (atoms_spec (ws := ws) B.pre _ (by rw [hw]; exact List.mem_cons_self))
      cases Option.some.inj (h1.symm.trans B.method)
      cases Option.some.inj (h2.symm.trans (Stand.of_body B).code)
      intro x hx
      rw [Array.isEmpty_iff.mp h7] at hx
      cases hx
    obtain ⟨t, a1, o, b1, b2, b3⟩ := body p e s m args below meth c s₁ B hml ht hP s₁ hh0 (Stand.of_body B)
    exact ⟨t, o, a1, b1, b2, b3⟩
/-- the table of a body with handlers -/
theorem vx_table {p : Program} {x y : MethodName} {S : Spec} {cc bytes : ByteArray} {maxL maxL' : Nat} {ret ret' : Option FieldType} {e : Env} {s s₁ : State} {m : MethodId} {args : Array Value} {below : List Frame} {meth : Method} {c : Code} {hh : List (Nat × Nat × Nat × Nat)}
    (B : BodyLoose p l y S cc maxL ret e s m args below meth c s₁) (h : (Cond.codeWith y bytes maxL' ret' hh).before args s = true) : c.exceptionTable.toList = tableOf hh := by
  obtain ⟨m9, meth9, c9, hn9, h1, h2, -, -, h6, -⟩ := Cond.codeWith_spec h
  cases Option.some.inj (hn9.symm.trans B.named)
  cases Option.some.inj (h1.symm.trans B.method)
  cases Option.some.inj (h2.symm.trans (Stand.of_body B).code)
  rw [← h6, table_eq]
end Bodies
end VXA
/-! ===== END ===== -/
/-! ===== BEGIN a static call of a method with an exception table ===== -/
section VXS
variable {p : Program} {l : Launch} {e : Env} {R : Room} {s : State} {m : MethodId} {args : Array Value} {below : List Frame} {meth : Method} {c : Code} {T : State} {H : Heap} {locs : List Loc} {cells slots : Nat}
abbrev vx_CSW (R : Room) (s : State) (args : Array Value) (own : String) (index : Nat) (y : MethodName) (bytes : ByteArray) (maxL : Nat) (ret : Option FieldType) (hh : List (Nat × Nat × Nat × Nat)) (ws : List Cond) (rm : Room) (mc ms n : Nat) : Prop :=
  (rm.cells = mc ∧ rm.slots = ms ∧ rm.frames + 1 ≤ R.frames ∧ 8 + (maxL + 11) + rm.locals ≤ R.locals ∧ (∀ w ∈ ws, ∀ (a' : Array Value) (U : State), s.WarmedH U.vm → w.before a' U = true) ∧ Cond.codeWith y bytes maxL ret hh ∈ ws) ∧
  (Cond.codeWith y bytes maxL ret hh).before args s = true ∧ (Cond.initialized y.cls).before args s = true ∧ (y.cls ≠ "java/lang/invoke/MethodHandle" ∧ y.cls ≠ "java/lang/invoke/VarHandle") ∧
  (∀ sig, parseMethodDescriptor y.desc = some sig → n = sig.parameters.length) ∧ (Cond.methodLink own index y).before args s = true ∧ (Cond.static y).before args s = true
theorem vx_cwSW {own : String} {index maxL mc ms : Nat} {y : MethodName} {bytes : ByteArray} {ret : Option FieldType} {hh : List (Nat × Nat × Nat × Nat)} {Ts ws ws' : List Cond} {rm : Room} (n : Nat) (ht : ∀ w ∈ Ts, w.before args s = true) (hT : GoodIn Ts (va_wsS own index y ws)) (hw : ws = Cond.codeWith y bytes maxL ret hh :: ws') (hrc : rm.cells = mc) (hrs : rm.slots = ms)
    (hd : y.cls ≠ "java/lang/invoke/MethodHandle" ∧ y.cls ≠ "java/lang/invoke/VarHandle" ∧ (parseMethodDescriptor y.desc).map (fun d => d.parameters.length) = some n) (hR : rm.frames + 1 ≤ R.frames ∧ 8 + (maxL + 11) + rm.locals ≤ R.locals) :
    vx_CSW R s args own index y bytes maxL ret hh ws rm mc ms n := by
  have ok : ∀ w ∈ va_wsS own index y ws, w.before args s = true := fun w h => ht w (hT w h).1
  have hG : GoodIn Ts ws := fun w h => hT w (by unfold va_wsS; exact List.mem_append_right _ h)
  have hc : Cond.codeWith y bytes maxL ret hh ∈ ws := by rw [hw]; exact List.mem_cons_self
  refine ⟨⟨hrc, hrs, hR.1, hR.2, pay_in ht hG, hc⟩, ht _ (hG _ hc).1, ok _ (by simp [va_wsS]), ⟨hd.1, hd.2.1⟩, fun sig h => ?_, ok _ (by simp [va_wsS]), ok _ (by simp [va_wsS])⟩
  have h2 := hd.2.2
  rw [h] at h2
  exact (Option.some.inj h2).symm
theorem vx_callSW (X : Stand p l e R s m args below meth c T locs cells slots) (hexec : p.tables.exec = Jvm.exec) {own : String} {index : Nat} {y : MethodName} {bytes : ByteArray} {maxL : Nat} {ret : Option FieldType} {hh : List (Nat × Nat × Nat × Nat)}
    (hown : s.vm.findClass own = some m.cls) (hlink : (Cond.methodLink own index y).before args s = true) (hstat : (Cond.static y).before args s = true) (hinit : (Cond.initialized y.cls).before args s = true)
    (hcode : (Cond.codeWith y bytes maxL ret hh).before args s = true) (hy : y.cls ≠ "java/lang/invoke/MethodHandle" ∧ y.cls ≠ "java/lang/invoke/VarHandle")
    {W9 : Nat} {Pre : Pt → Array Value → Prop} {Post : Pt → Array Value → Option Value → Pt → Prop} (hK : Back l R p e below s args y 3 W9 Pre Post)
    {g : JFrame} (hg : g.method = m) (hsize : g.locals.size = c.maxLocals) {argsL rest : List Value} (hlen : ∀ sig, parseMethodDescriptor y.desc = some sig → argsL.length = sig.parameters.length)
    (hstack : g.stack = argsL.reverse ++ rest) (hW : 2 * g.monitorRoom + (rest.map fun v => v.category).sum ≤ W9) (hdg : decode c.code g.pc = .ok (.invokestatic index, 3))
    (hpre : ∀ vm₁, s.WarmedH vm₁ → Pre ⟨T.setVm vm₁, locs, cells, slots⟩ argsL.toArray) :
    ∃ (v : Option Value) (vm₁ : Vm) (B : Pt), s.WarmedH vm₁ ∧ Stand p l e R s m args below meth c B.U B.locs B.cells B.slots ∧ Post ⟨T.setVm vm₁, locs, cells, slots⟩ argsL.toArray v B ∧
      ∀ target, Steps p.tables e below (B.U.setTop { g with pc := g.pc + 3, stack := v.toList ++ rest }) target → Steps p.tables e below (T.setTop g) target := by
  obtain ⟨mk, methM, cM, hnamed, hmethM, -, -, -, -, -, -, hsigM⟩ := Cond.codeWith_spec hcode
  have hstatic : methM.isStatic = true := Cond.static_spec hnamed hmethM hstat
  obtain ⟨kP, hkP, -⟩ := className_of_methodNamed hnamed
  have hinitP : kP.init = .initialized := Cond.initialized_spec (findClass_of_methodNamed hnamed) hkP hinit
  obtain ⟨vm₁, X₁, hstep₁⟩ := X.invokestatic hexec hown hlink hnamed hmethM hstatic hkP hinitP hy (g := g) hg (argsL := argsL) (rest := rest) (hlen _ hsigM) hstack hdg
  obtain ⟨v, B, X', hpost, hsteps⟩ := hK m meth c ⟨T.setVm vm₁, locs, cells, slots⟩ { g with stack := rest } (.invokestatic index) mk argsL.toArray X₁ hg hsize hdg hW (X₁.named hnamed) (hpre vm₁ X₁.warmed)
  exact ⟨v, vm₁, B, X₁.warmed, X', hpost, fun target h => hstep₁ _ fun acts => by rw [doInvoke_state]; exact hsteps.trans h⟩
theorem vx_runSW {y : MethodName} {bytes cc : ByteArray} {maxL nL mc ms n index : Nat} {ret : Option FieldType} {hh : List (Nat × Nat × Nat × Nat)} {ws : List Cond} {rm : Room} {Pc : Array Value → State → Prop} {Qc : Array Value → State → Outcome → State → Prop} {free : Addr → Prop} {Ts : List Cond} {own : String} {As rest : List Value} {g : JFrame}
    (S : CallFix p m c cc nL s args Ts own) (hM : Met l y ws rm Pc Qc mc ms free) (cw : vx_CSW R s args own index y bytes maxL ret hh ws rm mc ms n) (hp : PreS s H Pc As)
    (hg : g.method = m) (hn : As.length = n) (hsize : g.locals.size = nL) (hstack : g.stack = As.reverse ++ rest) (hW : 2 * g.monitorRoom + (rest.map fun v => v.category).sum ≤ 8) (hdg : decode cc g.pc = .ok (.invokestatic index, 3)) (hf : cells + mc ≤ R.cells ∧ slots + ms ≤ R.slots) :
    va_Run p l e R s m args below meth c H locs cells slots mc ms g rest (Qc As.toArray) (free) := by
  obtain ⟨⟨hrc, hrs, hfr, hlo, hws, hcw⟩, hcode, hini, hy, hlen, hl, hstt⟩ := cw
  have hK : Back l R p e below s args y 3 8 (PreOf R mc ms Pc) (PostOf Qc mc ms free) := va_backW (hh := hh) (bytes := bytes) (maxL := maxL) (ret := ret) hM hp.1 hrc hrs hfr hlo hws hcw (fun a' U hW => word_at hW (Or.inl (by first | rfl | simp [Cond.onTables, Cond.keeps, Cond.steady])) hini)
  obtain ⟨hx, hb, hml, ho, -⟩ := S
  intro T hT X
  obtain ⟨v, vm₁, ⟨U', l2, c2, s2⟩, hW₁, X', ⟨g', mk, t, L, e1, e2, hq, h1, hL, h2, h3⟩, st⟩ := vx_callSW X hx (hh := hh) (bytes := bytes) (maxL := maxL) (ret := ret) ho hl hstt hini hcode hy hK hg (hsize.trans hml.symm) (argsL := As) (rest := rest) (fun sig h => hn.trans (hlen sig h)) hstack hW (by rw [hb]; exact hdg)
    (fun vm₁ hW₁ => ⟨hf.1, hf.2, hp.2 (T.setVm vm₁) hT hW₁⟩)
  dsimp only [Pt.U, Pt.locs, Pt.cells, Pt.slots] at X' e1 e2 h1 h2 h3 st
  subst h1; subst h2; subst h3
  exact ⟨v, (T.setVm vm₁).calling g' mk As.toArray, t, U', L, hT, X', hL, e1, e2, hq, st⟩
/-- not caught here, past rows that name other classes: it goes on to the caller -/
theorem vx_outP {p : Program} {l : Launch} {e : Env} {R : Room} {s : State} {m : MethodId} {args : Array Value} {below : List Frame} {meth : Method} {c : Code} {H : Heap} {locs : List Loc} {cells slots : Nat} {free : Addr → Prop} {ls : Array Slot} {rest : List Value} {Qc : Array Value → State → Outcome → State → Prop} {XC : String → State → State → Prop}
    {pc : Nat} {own E : String} {ce : Cell} {q : Addr} {mc ms : Nat} (hown : s.vm.findClass own = some m.cls) (hlocks : meth.locks = false)
    (hpass : ∀ z ∈ c.exceptionTable.toList, covers z pc = false ∨ (z.catchType ≠ 0 ∧ ∃ nm : String, (Cond.classLink own z.catchType nm).before args s = true ∧ va_Nc E nm s)) (hcell : H[q]? = some ce) (hv : ce.vm = .none) (hcl : s.vm.findClass E = some ce.cls)
    (hx : ∀ t : State, t.heap = H → s.vm.Alike t.vm → XC E s t) (hf : ∀ z ∈ locs, free z.base) (hc : cells ≤ mc) (hs : slots ≤ ms) :
    vx_W p l e R s m args below meth c H locs cells slots (vx_MQ below Qc XC args s mc ms free) (F0 m pc ls rest) q := by
  intro T hT X
  have hpl : e.platform.magicAccessors = ({} : Platform).magicAccessors := by rw [X.admits.platform]
  obtain ⟨vm', hW', X', st⟩ := X.outThrough hlocks q (g := F0 m pc ls rest) rfl rfl rfl (cell := ce) (by rw [hT]; exact hcell) (by rw [hv]; rfl)
    (by obtain ⟨k9, h9, -⟩ := Vm.findClass_spec hcl; exact ⟨k9, h9⟩) (fun z hz => by
      rcases hpass z hz with h | ⟨hz0, nm, hl1, hn1⟩
      · exact Or.inl h
      · obtain ⟨c6, hc6, hcl6⟩ := Cond.classLink_spec hown hl1 e.platform hpl
        obtain ⟨a8, b8, h1, h2, h3⟩ := hn1
        cases Option.some.inj (h1.symm.trans hcl)
        cases Option.some.inj (h2.symm.trans hc6)
        exact Or.inr ⟨hz0, _, hcl6, h3⟩)
  obtain ⟨g₀, hfr⟩ := X'.frames_eq
  have hcell9 : ((T.setVm vm').setFrames (.throwing q :: below)).heap[q]? = some ce := by
    show T.heap[q]? = some ce
    rw [hT]; exact hcell
  have hend : Ended ((T.setVm vm').setFrames (.throwing q :: below)) below (.threw q) := State.frames_setFrames _ (State.cur_lt_of_frames hfr)
  refine ⟨(T.setVm vm').setFrames (.throwing q :: below), ?_, .threw q, X'.here.running, hend, Or.inr ⟨q, rfl, E, ce, locs, hx _ hT (X'.ends _).1.alike, hcell9, hv, hcl, (X'.ends _).1, (X'.ends _).2.mono hc hs, hf⟩⟩
  rw [X.pushThrowing_eq]
  exact st
/-- a thing of a world lies in the heap -/
theorem vx_lt {D : va_G} {cl : List vw_C} {ws : va_W} {H1 : Heap} (h : va_P D cl ws H1) {k : Nat} {q : Nat × va_E} (hk : ws[k]? = some q) : q.1 < H1.size := (h k q hk).lt
end VXS
/-! ===== END ===== -/
/-! ===== BEGIN methods with a table of their own: called by a name, returning or throwing ===== -/
section VXH
/-! vx_backW, vx_callVX, vx_callSX, vx_callVW, vx_runVW, vx_runVX, vx_runSX, vx_ofWH follow the same proofs as their sisters above (Free/Laws.lean, Shelf42/LK1.lean); vx_outP calls Shelf42/NT130.lean (outThrough). -/
section
variable {l : Launch} {R : Room} {p : Program} {e : Env} {below : List Frame} {s : State} {sargs : Array Value} {y : MethodName} {len W9 : Nat}
theorem vx_backW {ws : List Cond} {rm : Room} {Pc : Array Value → State → Prop} {Qc : Array Value → State → Outcome → State → Prop} {XC : String → State → State → Prop} {mc ms : Nat} {free : Addr → Prop} {bytes : ByteArray} {maxL : Nat} {ret : Option FieldType} {hh : List (Nat × Nat × Nat × Nat)}
    (hM : vx_Met l y ws rm Pc Qc XC mc ms free) (hblind : FrameBlind Pc) (hrc : rm.cells = mc) (hrs : rm.slots = ms)
    (hframes : rm.frames + 1 ≤ R.frames) (hlocals : W9 + (maxL + 11) + rm.locals ≤ R.locals)
    (hws : ∀ w ∈ ws, ∀ a' U, s.WarmedH U.vm → w.before a' U = true) (hcode : Cond.codeWith y bytes maxL ret hh ∈ ws) (hinit : ∀ a' U, s.WarmedH U.vm → (Cond.initialized y.cls).before a' U = true) :
    vx_Back l R p e below s sargs y len W9 (PreOf R mc ms Pc) (PostOf Qc mc ms free) (vx_Post XC mc ms free) := by
  intro m meth c A g ig mk a X hg hsize hdg hW hn hp
  have h1 : (headSpec ws rm).pre.before a A.U = true := atoms_intro fun w hw => hws w hw _ _ X.warmed
  have h2 : (Cond.codeWith y bytes maxL ret hh).before a A.U = true := hws _ hcode _ _ X.warmed
  have h3 : (Cond.initialized y.cls).before a A.U = true := hinit _ _ X.warmed
  have h4 : A.cells + (headSpec ws rm).room.cells ≤ R.cells := by rw [show (headSpec ws rm).room.cells = mc from hrc]; exact hp.1
  have h5 : A.slots + (headSpec ws rm).room.slots ≤ R.slots := by rw [show (headSpec ws rm).room.slots = ms from hrs]; exact hp.2.1
  have hPc : Pc a (A.U.calling g mk a) := hblind _ _ _ _ hp.2.2
  obtain ⟨U, Ls, c0, s0⟩ := A
  dsimp only [Pt.U, Pt.locs, Pt.cells, Pt.slots] at h1 h2 h3 h4 h5 X hn hPc ⊢
  obtain ⟨m9, methY, cY, hn9, hmY, hcY, -, hlY, -⟩ := Cond.codeWith_spec h2
  cases Option.some.inj (hn9.symm.trans hn)
  obtain ⟨kY, hkY, -⟩ := className_of_methodNamed hn
  have hinitY : kY.init = .initialized := Cond.initialized_spec (findClass_of_methodNamed hn) hkY h3
  have h : At U g.method c below := by rw [hg]; exact X.here
  have hlocals9 : W9 + (maxL + 11) + (headSpec ws rm).room.locals ≤ R.locals := hlocals
  have happ : (headSpec ws rm).appliesLoose y e.platform (U.calling g mk a) = true :=
    Spec.appliesLoose_calling (g := g) h hdg hn hkY hinitY
      (X.room_calling (g := g) (R' := (headSpec ws rm).room) hsize hmY hcY hframes (by rw [hlY]; omega) h4 h5) h1
  obtain ⟨mid, hmid⟩ := h.above
  have hfr : (U.setTop g).frames = (.java g :: mid) ++ below := by rw [State.frames_setTop' g h.top, hmid]; rfl
  obtain ⟨o, s₂, hsteps, -, hend, hq⟩ := Steps.callFree hM p X.admits X.cas X.clock (acts := []) hfr happ hPc trivial
  have hq' : vx_Q Qc XC mc ms free a (U.calling g mk a) o s₂ := hq
  rw [State.frames_setTop' g h.top] at hend
  obtain ⟨g₀, hg0⟩ := Option.isSome_iff_exists.mp h.top
  obtain ⟨r, hr⟩ := State.topJava?_eq_some.mp hg0
  have hr' : (({ U with heap := s₂.heap, slotsUsed := s₂.slotsUsed } : State).setVm s₂.vm).frames = .java g₀ :: r := hr
  rcases hq' with ⟨hqc, L, hfe, hL⟩ | ⟨q, rfl, E, ce, L, hx, hce, hcv, hcl, hW₂, hsm, hL⟩
  · obtain ⟨⟨v, rfl⟩, hW₂, e2, q2, q3, q4, q5, q6⟩ := id hfe
    have e3 : s₂ = ({ (U.calling g mk a).setFrames s₂.frames with heap := s₂.heap, slotsUsed := s₂.slotsUsed } : State).setVm s₂.vm := by
      have : s₂ = ({ s₂ with vm := (U.calling g mk a).vm } : State).setVm s₂.vm := rfl
      rw [e2] at this
      exact this
    obtain ⟨c₂, i₂, len₂, hc₂, hd₂, hf₂⟩ := hend
    have hW' : U.WarmedH s₂.vm := hW₂
    have hcc : c₂ = c := by
      have h1 : s₂.code? g.method = U.code? g.method := by
        rw [State.code?_eq, State.code?_eq, hW'.alike.method?]
      exact Option.some.inj (hc₂.symm.trans (h1.trans h.code))
    subst hcc
    have hlen : len₂ = len := by rw [hdg] at hd₂; cases hd₂; rfl
    subst hlen
    have hs₂ : s₂ = (({ U with heap := s₂.heap, slotsUsed := s₂.slotsUsed } : State).setVm s₂.vm).setTop { g with pc := g.pc + len₂, stack := v.toList ++ g.stack } := by
      refine e3.trans ?_
      rw [hf₂, State.calling_eq h.top, State.setFrames_setFrames, State.setTop_of_frames _ hr', hr]
      rfl
    have hsame : U.sameButNew ({ U with heap := s₂.heap, slotsUsed := s₂.slotsUsed } : State) L mc ms := by
      refine ⟨?_, q2, q3, q4, q5, q6⟩
      obtain ⟨t, ht, -⟩ := State.frames_cons hr
      show ({ U with heap := s₂.heap, slotsUsed := s₂.slotsUsed } : State) = { U.setFrames U.frames with heap := s₂.heap, slotsUsed := s₂.slotsUsed }
      rw [State.setFrames_self ht]
    subst hg
    refine Or.inl ⟨v, ⟨(({ U with heap := s₂.heap, slotsUsed := s₂.slotsUsed } : State).setVm s₂.vm), Ls ++ L, c0 + mc, s0 + ms⟩,
      ⟨X.admits, X.cas, X.clock, X.frames, X.room, X.hears, X.method, X.code, (X.here.setHeapUsed s₂.heap s₂.slotsUsed).setVm hW'.alike, X.tail, State.WarmedH.trans X.warmed hW', X.limits, X.bytes, X.same.trans (hsame.setVm s.vm)⟩,
      ⟨g, mk, s₂, L, rfl, rfl, hqc, rfl, hL, rfl, rfl⟩, ?_⟩
    show Steps p.tables e below _ ((({ U with heap := s₂.heap, slotsUsed := s₂.slotsUsed } : State).setVm s₂.vm).setTop { g with pc := g.pc + len₂, stack := v.toList ++ g.stack })
    rw [← hs₂]
    exact hsteps
  · obtain ⟨e2, q2, q3, q4, q5, q6⟩ := id hsm
    have e3 : s₂ = ({ (U.calling g mk a).setFrames s₂.frames with heap := s₂.heap, slotsUsed := s₂.slotsUsed } : State).setVm s₂.vm := by
      have : s₂ = ({ s₂ with vm := (U.calling g mk a).vm } : State).setVm s₂.vm := rfl
      rw [e2] at this
      exact this
    have hf₂ : s₂.frames = .throwing q :: .java g :: U.frames.tail := hend
    have hW' : U.WarmedH s₂.vm := hW₂
    have hs₂ : s₂ = ((({ U with heap := s₂.heap, slotsUsed := s₂.slotsUsed } : State).setVm s₂.vm).setTop g).pushFrame (.throwing q) := by
      refine e3.trans ?_
      rw [hf₂, State.calling_eq h.top, State.setFrames_setFrames, State.pushFrame, State.frames_setTop _ hr', State.setTop_of_frames _ hr', State.setFrames_setFrames, hr]
      rfl
    have hsame : U.sameButNew ({ U with heap := s₂.heap, slotsUsed := s₂.slotsUsed } : State) L mc ms := by
      refine ⟨?_, q2, q3, q4, q5, q6⟩
      obtain ⟨t, ht, -⟩ := State.frames_cons hr
      show ({ U with heap := s₂.heap, slotsUsed := s₂.slotsUsed } : State) = { U.setFrames U.frames with heap := s₂.heap, slotsUsed := s₂.slotsUsed }
      rw [State.setFrames_self ht]
    subst hg
    refine Or.inr ⟨q, ⟨(({ U with heap := s₂.heap, slotsUsed := s₂.slotsUsed } : State).setVm s₂.vm), Ls ++ L, c0 + mc, s0 + ms⟩,
      ⟨X.admits, X.cas, X.clock, X.frames, X.room, X.hears, X.method, X.code, (X.here.setHeapUsed s₂.heap s₂.slotsUsed).setVm hW'.alike, X.tail, State.WarmedH.trans X.warmed hW', X.limits, X.bytes, X.same.trans (hsame.setVm s.vm)⟩,
      ⟨g, mk, s₂, L, E, ce, rfl, rfl, hx, hce, hcv, hcl, rfl, hL, rfl, rfl⟩, ?_⟩
    show Steps p.tables e below _ (((({ U with heap := s₂.heap, slotsUsed := s₂.slotsUsed } : State).setVm s₂.vm).setTop g).pushFrame (.throwing q))
    rw [← hs₂]
    exact hsteps
end
variable {p : Program} {l : Launch} {e : Env} {R : Room} {s : State} {m : MethodId} {args : Array Value} {below : List Frame} {meth : Method} {c : Code} {T : State} {H : Heap} {locs : List Loc} {cells slots : Nat}
theorem vx_callVX (X : Stand p l e R s m args below meth c T locs cells slots) (hexec : p.tables.exec = Jvm.exec) {own C : String} {index : Nat} {y : MethodName} {bytes : ByteArray} {maxL : Nat} {ret : Option FieldType} {hh : List (Nat × Nat × Nat × Nat)}
    (hown : s.vm.findClass own = some m.cls) (hlink : (Cond.methodLink own index y).before args s = true) (hinst : (Cond.instanceMethod y).before args s = true) (hsel : (Cond.selects C y y).before args s = true)
    (hcode : (Cond.codeWith y bytes maxL ret hh).before args s = true) (hy : y.cls ≠ "java/lang/invoke/MethodHandle" ∧ y.cls ≠ "java/lang/invoke/VarHandle")
    {W9 : Nat} {Pre : Pt → Array Value → Prop} {Post : Pt → Array Value → Option Value → Pt → Prop} {PostX : Pt → Array Value → Addr → Pt → Prop} (hK : vx_Back l R p e below s args y 3 W9 Pre Post PostX)
    {b : Addr} {cellB : Cell} (hcell : T.heap[b]? = some cellB) (hobj : cellB.vm.isStatics = false) (hcls : s.vm.findClass C = some cellB.cls)
    {g : JFrame} (hg : g.method = m) (hsize : g.locals.size = c.maxLocals) {argsL rest : List Value} (hlen : ∀ sig, parseMethodDescriptor y.desc = some sig → argsL.length = sig.parameters.length)
    (hstack : g.stack = argsL.reverse ++ .ref b :: rest) (hW : 2 * g.monitorRoom + (rest.map fun v => v.category).sum ≤ W9) (hdg : decode c.code g.pc = .ok (.invokevirtual index, 3))
    (hpre : ∀ vm₁, s.WarmedH vm₁ → Pre ⟨T.setVm vm₁, locs, cells, slots⟩ (Value.ref b :: argsL).toArray) :
    (∃ (v : Option Value) (vm₁ : Vm) (B : Pt), s.WarmedH vm₁ ∧ Stand p l e R s m args below meth c B.U B.locs B.cells B.slots ∧ Post ⟨T.setVm vm₁, locs, cells, slots⟩ (Value.ref b :: argsL).toArray v B ∧
      ∀ target, Steps p.tables e below (B.U.setTop { g with pc := g.pc + 3, stack := v.toList ++ rest }) target → Steps p.tables e below (T.setTop g) target) ∨
    (∃ (q : Addr) (vm₁ : Vm) (B : Pt), s.WarmedH vm₁ ∧ Stand p l e R s m args below meth c B.U B.locs B.cells B.slots ∧ PostX ⟨T.setVm vm₁, locs, cells, slots⟩ (Value.ref b :: argsL).toArray q B ∧
      Steps p.tables e below (T.setTop g) ((B.U.setTop { g with stack := rest }).pushFrame (.throwing q))) := by
  obtain ⟨mk, methM, hnamed, hmethM, hstM, habM⟩ := Cond.instanceMethod_spec hinst
  obtain ⟨m8, methM', cM, hn8, hmethM', -, -, -, -, -, -, hsigM⟩ := Cond.codeWith_spec hcode
  cases Option.some.inj (hn8.symm.trans hnamed)
  cases hmethM.symm.trans hmethM'
  obtain ⟨c2, r2, m2, q1, q2, q3, q4, kP, hkP, hkPi⟩ := Cond.selects_spec hsel
  cases hcls.symm.trans q1
  cases (State.methodFound?_of_named hnamed hy).symm.trans q2
  cases hnamed.symm.trans q3
  have hselP : selectMethod e.platform s.vm cellB.cls mk = .method mk := by rw [Launch.admits_selectMethod X.admits]; exact q4
  obtain ⟨vm₁, X₁, hstep₁⟩ := X.invokevirtual hexec hown hlink hnamed hmethM hstM hkP hkPi hy (a := b) (cell := cellB) hcell
    (fun z h => by rw [h] at hobj; cases hobj) hselP hmethM habM hkP hkPi (g := g) hg (argsL := argsL) (rest := rest) (hlen _ hsigM) hstack hdg
  rcases hK m meth c ⟨T.setVm vm₁, locs, cells, slots⟩ { g with stack := rest } (.invokevirtual index) mk (Value.ref b :: argsL).toArray X₁ hg hsize hdg hW (X₁.named hnamed) (hpre vm₁ X₁.warmed) with ⟨v, B, X', hpost, hsteps⟩ | ⟨q, B, X', hpost, hsteps⟩
  · exact Or.inl ⟨v, vm₁, B, X₁.warmed, X', hpost, fun target h => hstep₁ _ fun acts => by rw [doInvoke_state]; exact hsteps.trans h⟩
  · exact Or.inr ⟨q, vm₁, B, X₁.warmed, X', hpost, hstep₁ _ fun acts => by rw [doInvoke_state]; exact hsteps⟩
theorem vx_callSX (X : Stand p l e R s m args below meth c T locs cells slots) (hexec : p.tables.exec = Jvm.exec) {own : String} {index : Nat} {y : MethodName} {bytes : ByteArray} {maxL : Nat} {ret : Option FieldType} {hh : List (Nat × Nat × Nat × Nat)}
    (hown : s.vm.findClass own = some m.cls) (hlink : (Cond.methodLink own index y).before args s = true) (hstat : (Cond.static y).before args s = true) (hinit : (Cond.initialized y.cls).before args s = true)
    (hcode : (Cond.codeWith y bytes maxL ret hh).before args s = true) (hy : y.cls ≠ "java/lang/invoke/MethodHandle" ∧ y.cls ≠ "java/lang/invoke/VarHandle")
    {W9 : Nat} {Pre : Pt → Array Value → Prop} {Post : Pt → Array Value → Option Value → Pt → Prop} {PostX : Pt → Array Value → Addr → Pt → Prop} (hK : vx_Back l R p e below s args y 3 W9 Pre Post PostX)
    {g : JFrame} (hg : g.method = m) (hsize : g.locals.size = c.maxLocals) {argsL rest : List Value} (hlen : ∀ sig, parseMethodDescriptor y.desc = some sig → argsL.length = sig.parameters.length)
    (hstack : g.stack = argsL.reverse ++ rest) (hW : 2 * g.monitorRoom + (rest.map fun v => v.category).sum ≤ W9) (hdg : decode c.code g.pc = .ok (.invokestatic index, 3))
    (hpre : ∀ vm₁, s.WarmedH vm₁ → Pre ⟨T.setVm vm₁, locs, cells, slots⟩ argsL.toArray) :
    (∃ (v : Option Value) (vm₁ : Vm) (B : Pt), s.WarmedH vm₁ ∧ Stand p l e R s m args below meth c B.U B.locs B.cells B.slots ∧ Post ⟨T.setVm vm₁, locs, cells, slots⟩ argsL.toArray v B ∧
      ∀ target, Steps p.tables e below (B.U.setTop { g with pc := g.pc + 3, stack := v.toList ++ rest }) target → Steps p.tables e below (T.setTop g) target) ∨
    (∃ (q : Addr) (vm₁ : Vm) (B : Pt), s.WarmedH vm₁ ∧ Stand p l e R s m args below meth c B.U B.locs B.cells B.slots ∧ PostX ⟨T.setVm vm₁, locs, cells, slots⟩ argsL.toArray q B ∧
      Steps p.tables e below (T.setTop g) ((B.U.setTop { g with stack := rest }).pushFrame (.throwing q))) := by
  obtain ⟨mk, methM, cM, hnamed, hmethM, -, -, -, -, -, -, hsigM⟩ := Cond.codeWith_spec hcode
  have hstatic : methM.isStatic = true := Cond.static_spec hnamed hmethM hstat
  obtain ⟨kP, hkP, -⟩ := className_of_methodNamed hnamed
  have hinitP : kP.init = .initialized := Cond.initialized_spec (findClass_of_methodNamed hnamed) hkP hinit
  obtain ⟨vm₁, X₁, hstep₁⟩ := X.invokestatic hexec hown hlink hnamed hmethM hstatic hkP hinitP hy (g := g) hg (argsL := argsL) (rest := rest) (hlen _ hsigM) hstack hdg
  rcases hK m meth c ⟨T.setVm vm₁, locs, cells, slots⟩ { g with stack := rest } (.invokestatic index) mk argsL.toArray X₁ hg hsize hdg hW (X₁.named hnamed) (hpre vm₁ X₁.warmed) with ⟨v, B, X', hpost, hsteps⟩ | ⟨q, B, X', hpost, hsteps⟩
  · exact Or.inl ⟨v, vm₁, B, X₁.warmed, X', hpost, fun target h => hstep₁ _ fun acts => by rw [doInvoke_state]; exact hsteps.trans h⟩
  · exact Or.inr ⟨q, vm₁, B, X₁.warmed, X', hpost, hstep₁ _ fun acts => by rw [doInvoke_state]; exact hsteps⟩
theorem vx_callVW (X : Stand p l e R s m args below meth c T locs cells slots) (hexec : p.tables.exec = Jvm.exec) {own C : String} {index : Nat} {y : MethodName} {bytes : ByteArray} {maxL : Nat} {ret : Option FieldType} {hh : List (Nat × Nat × Nat × Nat)}
    (hown : s.vm.findClass own = some m.cls) (hlink : (Cond.methodLink own index y).before args s = true) (hinst : (Cond.instanceMethod y).before args s = true) (hsel : (Cond.selects C y y).before args s = true)
    (hcode : (Cond.codeWith y bytes maxL ret hh).before args s = true) (hy : y.cls ≠ "java/lang/invoke/MethodHandle" ∧ y.cls ≠ "java/lang/invoke/VarHandle")
    {W9 : Nat} {Pre : Pt → Array Value → Prop} {Post : Pt → Array Value → Option Value → Pt → Prop} (hK : Back l R p e below s args y 3 W9 Pre Post)
    {b : Addr} {cellB : Cell} (hcell : T.heap[b]? = some cellB) (hobj : cellB.vm.isStatics = false) (hcls : s.vm.findClass C = some cellB.cls)
    {g : JFrame} (hg : g.method = m) (hsize : g.locals.size = c.maxLocals) {argsL rest : List Value} (hlen : ∀ sig, parseMethodDescriptor y.desc = some sig → argsL.length = sig.parameters.length)
    (hstack : g.stack = argsL.reverse ++ .ref b :: rest) (hW : 2 * g.monitorRoom + (rest.map fun v => v.category).sum ≤ W9) (hdg : decode c.code g.pc = .ok (.invokevirtual index, 3))
    (hpre : ∀ vm₁, s.WarmedH vm₁ → Pre ⟨T.setVm vm₁, locs, cells, slots⟩ (Value.ref b :: argsL).toArray) :
    ∃ (v : Option Value) (vm₁ : Vm) (B : Pt), s.WarmedH vm₁ ∧ Stand p l e R s m args below meth c B.U B.locs B.cells B.slots ∧ Post ⟨T.setVm vm₁, locs, cells, slots⟩ (Value.ref b :: argsL).toArray v B ∧
      ∀ target, Steps p.tables e below (B.U.setTop { g with pc := g.pc + 3, stack := v.toList ++ rest }) target → Steps p.tables e below (T.setTop g) target := by
  obtain ⟨mk, methM, hnamed, hmethM, hstM, habM⟩ := Cond.instanceMethod_spec hinst
  obtain ⟨m8, methM', cM, hn8, hmethM', -, -, -, -, -, -, hsigM⟩ := Cond.codeWith_spec hcode
  cases Option.some.inj (hn8.symm.trans hnamed)
  cases hmethM.symm.trans hmethM'
  obtain ⟨c2, r2, m2, q1, q2, q3, q4, kP, hkP, hkPi⟩ := Cond.selects_spec hsel
  cases hcls.symm.trans q1
  cases (State.methodFound?_of_named hnamed hy).symm.trans q2
  cases hnamed.symm.trans q3
  have hselP : selectMethod e.platform s.vm cellB.cls mk = .method mk := by rw [Launch.admits_selectMethod X.admits]; exact q4
  obtain ⟨vm₁, X₁, hstep₁⟩ := X.invokevirtual hexec hown hlink hnamed hmethM hstM hkP hkPi hy (a := b) (cell := cellB) hcell
    (fun z h => by rw [h] at hobj; cases hobj) hselP hmethM habM hkP hkPi (g := g) hg (argsL := argsL) (rest := rest) (hlen _ hsigM) hstack hdg
  obtain ⟨v, B, X', hpost, hsteps⟩ := hK m meth c ⟨T.setVm vm₁, locs, cells, slots⟩ { g with stack := rest } (.invokevirtual index) mk (Value.ref b :: argsL).toArray X₁ hg hsize hdg hW (X₁.named hnamed) (hpre vm₁ X₁.warmed)
  exact ⟨v, vm₁, B, X₁.warmed, X', hpost, fun target h => hstep₁ _ fun acts => by rw [doInvoke_state]; exact hsteps.trans h⟩
abbrev vx_CVW (R : Room) (s : State) (args : Array Value) (own C : String) (index : Nat) (y : MethodName) (bytes : ByteArray) (maxL : Nat) (ret : Option FieldType) (hh : List (Nat × Nat × Nat × Nat)) (ws : List Cond) (rm : Room) (mc ms n : Nat) : Prop :=
  (rm.cells = mc ∧ rm.slots = ms ∧ rm.frames + 1 ≤ R.frames ∧ 8 + (maxL + 11) + rm.locals ≤ R.locals ∧ (∀ w ∈ ws, ∀ (a' : Array Value) (U : State), s.WarmedH U.vm → w.before a' U = true) ∧ Cond.codeWith y bytes maxL ret hh ∈ ws) ∧
  (Cond.codeWith y bytes maxL ret hh).before args s = true ∧ (Cond.initialized y.cls).before args s = true ∧ (y.cls ≠ "java/lang/invoke/MethodHandle" ∧ y.cls ≠ "java/lang/invoke/VarHandle") ∧
  (∀ sig, parseMethodDescriptor y.desc = some sig → n = sig.parameters.length) ∧ (Cond.methodLink own index y).before args s = true ∧ (Cond.instanceMethod y).before args s = true ∧ (Cond.selects C y y).before args s = true
theorem vx_cwVW {own C : String} {index maxL mc ms : Nat} {y : MethodName} {bytes : ByteArray} {ret : Option FieldType} {hh : List (Nat × Nat × Nat × Nat)} {Ts ws ws' : List Cond} {rm : Room} (n : Nat) (ht : ∀ w ∈ Ts, w.before args s = true) (hT : GoodIn Ts (wsV own index C y ws)) (hw : ws = Cond.codeWith y bytes maxL ret hh :: ws') (hrc : rm.cells = mc) (hrs : rm.slots = ms)
    (hd : y.cls = C ∧ y.cls ≠ "java/lang/invoke/MethodHandle" ∧ y.cls ≠ "java/lang/invoke/VarHandle" ∧ (parseMethodDescriptor y.desc).map (fun d => d.parameters.length) = some n) (hR : rm.frames + 1 ≤ R.frames ∧ 8 + (maxL + 11) + rm.locals ≤ R.locals) :
    vx_CVW R s args own C index y bytes maxL ret hh ws rm mc ms n := by
  obtain ⟨hC, hd⟩ := hd
  subst hC
  have ok : ∀ w ∈ wsV own index y.cls y ws, w.before args s = true := fun w h => ht w (hT w h).1
  have hG : GoodIn Ts ws := fun w h => hT w (by unfold wsV; exact List.mem_append_right _ h)
  have hc : Cond.codeWith y bytes maxL ret hh ∈ ws := by rw [hw]; exact List.mem_cons_self
  refine ⟨⟨hrc, hrs, hR.1, hR.2, pay_in ht hG, hc⟩, ht _ (hG _ hc).1, ok _ (by simp [wsV]), ⟨hd.1, hd.2.1⟩, fun sig h => ?_, ok _ (by simp [wsV]), ok _ (by simp [wsV]), ok _ (by simp [wsV])⟩
  have h2 := hd.2.2
  rw [h] at h2
  exact (Option.some.inj h2).symm
theorem vx_runVW {y : MethodName} {bytes cc : ByteArray} {maxL nL mc ms n index : Nat} {ret : Option FieldType} {hh : List (Nat × Nat × Nat × Nat)} {ws : List Cond} {rm : Room} {Pc : Array Value → State → Prop} {Qc : Array Value → State → Outcome → State → Prop} {free : Addr → Prop} {Ts : List Cond} {own C : String} {b : Addr} {As rest : List Value} {g : JFrame}
    (S : CallFix p m c cc nL s args Ts own) (hM : Met l y ws rm Pc Qc mc ms free) (cw : vx_CVW R s args own C index y bytes maxL ret hh ws rm mc ms n) (hp : PreV s H C b Pc As)
    (hg : g.method = m) (hn : As.length = n) (hsize : g.locals.size = nL) (hstack : g.stack = As.reverse ++ .ref b :: rest) (hW : 2 * g.monitorRoom + (rest.map fun v => v.category).sum ≤ 8) (hdg : decode cc g.pc = .ok (.invokevirtual index, 3)) (hf : cells + mc ≤ R.cells ∧ slots + ms ≤ R.slots) :
    va_Run p l e R s m args below meth c H locs cells slots mc ms g rest (Qc (Value.ref b :: As).toArray) free := by
  obtain ⟨⟨hrc, hrs, hfr, hlo, hws, hcw⟩, hcode, hini, hy, hlen, hl, hin, hse⟩ := cw
  have hK : Back l R p e below s args y 3 8 (PreOf R mc ms Pc) (PostOf Qc mc ms free) := va_backW (hh := hh) (bytes := bytes) (maxL := maxL) (ret := ret) hM hp.1 hrc hrs hfr hlo hws hcw (fun a' U hW => word_at hW (Or.inl (by first | rfl | simp [Cond.onTables, Cond.keeps, Cond.steady])) hini)
  obtain ⟨hx, hb, hml, ho, -⟩ := S
  obtain ⟨-, ⟨cellB, hcB, hoB, hclB⟩, hPc⟩ := hp
  intro T hT X
  obtain ⟨v, vm₁, ⟨U', l2, c2, s2⟩, hW₁, X', ⟨g', mk, t, L, e1, e2, hq, h1, hL, h2, h3⟩, st⟩ := vx_callVW X hx (C := C) (hh := hh) (bytes := bytes) (maxL := maxL) (ret := ret) ho hl hin hse hcode hy hK (by rw [hT]; exact hcB) hoB hclB hg (hsize.trans hml.symm) (argsL := As) (rest := rest) (fun sig h => hn.trans (hlen sig h)) hstack hW (by rw [hb]; exact hdg)
    (fun vm₁ hW₁ => ⟨hf.1, hf.2, hPc (T.setVm vm₁) hT hW₁⟩)
  dsimp only [Pt.U, Pt.locs, Pt.cells, Pt.slots] at X' e1 e2 h1 h2 h3 st
  subst h1; subst h2; subst h3
  exact ⟨v, (T.setVm vm₁).calling g' mk (Value.ref b :: As).toArray, t, U', L, hT, X', hL, e1, e2, hq, st⟩
section
variable {y : MethodName} {bytes cc : ByteArray} {maxL nL mc ms n index : Nat} {ret : Option FieldType} {ws : List Cond} {rm : Room} {Pc : Array Value → State → Prop} {Qc : Array Value → State → Outcome → State → Prop} {XC : String → State → State → Prop} {free : Addr → Prop} {Ts : List Cond} {own C : String} {b : Addr} {As rest : List Value} {g : JFrame}
theorem vx_runVX {hh : List (Nat × Nat × Nat × Nat)} (S : CallFix p m c cc nL s args Ts own) (hM : vx_Met l y ws rm Pc Qc XC mc ms free) (cw : vx_CVW R s args own C index y bytes maxL ret hh ws rm mc ms n) (hp : PreV s H C b Pc As)
    (hg : g.method = m) (hn : As.length = n) (hsize : g.locals.size = nL) (hstack : g.stack = As.reverse ++ .ref b :: rest) (hW : 2 * g.monitorRoom + (rest.map fun v => v.category).sum ≤ 8) (hdg : decode cc g.pc = .ok (.invokevirtual index, 3)) (hf : cells + mc ≤ R.cells ∧ slots + ms ≤ R.slots) :
    vx_Run p l e R s m args below meth c H locs cells slots mc ms g rest (Qc (Value.ref b :: As).toArray) XC free := by
  obtain ⟨⟨hrc, hrs, hfr, hlo, hws, hcw⟩, hcode, hini, hy, hlen, hl, hin, hse⟩ := cw
  have hK : vx_Back l R p e below s args y 3 8 (PreOf R mc ms Pc) (PostOf Qc mc ms free) (vx_Post XC mc ms free) := vx_backW (hh := hh) (bytes := bytes) (maxL := maxL) (ret := ret) hM hp.1 hrc hrs hfr hlo hws hcw (fun a' U hW => word_at hW (Or.inl (by first | rfl | simp [Cond.onTables, Cond.keeps, Cond.steady])) hini)
  obtain ⟨hx, hb, hml, ho, -⟩ := S
  obtain ⟨-, ⟨cellB, hcB, hoB, hclB⟩, hPc⟩ := hp
  intro T hT X
  rcases vx_callVX X hx (C := C) (hh := hh) (bytes := bytes) (maxL := maxL) (ret := ret) ho hl hin hse hcode hy hK (by rw [hT]; exact hcB) hoB hclB hg (hsize.trans hml.symm) (argsL := As) (rest := rest) (fun sig h => hn.trans (hlen sig h)) hstack hW (by rw [hb]; exact hdg)
    (fun vm₁ hW₁ => ⟨hf.1, hf.2, hPc (T.setVm vm₁) hT hW₁⟩) with ⟨v, vm₁, ⟨U', l2, c2, s2⟩, hW₁, X', ⟨g', mk, t, L, e1, e2, hq, h1, hL, h2, h3⟩, st⟩ | ⟨q, vm₁, ⟨U', l2, c2, s2⟩, hW₁, X', ⟨g', mk, t, L, E, ce, e1, e2, hq, hce, hcv, hcl, h1, hL, h2, h3⟩, st⟩
  · dsimp only [Pt.U, Pt.locs, Pt.cells, Pt.slots] at X' e1 e2 h1 h2 h3 st
    subst h1; subst h2; subst h3
    exact Or.inl ⟨v, (T.setVm vm₁).calling g' mk (Value.ref b :: As).toArray, t, U', L, hT, X', hL, e1, e2, hq, st⟩
  · dsimp only [Pt.U, Pt.locs, Pt.cells, Pt.slots] at X' e1 e2 h1 h2 h3 st hcl
    subst h1; subst h2; subst h3
    exact Or.inr ⟨q, (T.setVm vm₁).calling g' mk (Value.ref b :: As).toArray, t, U', L, E, ce, hT, X', hL, e1, e2, hq, hce, hcv, vx_cls hW₁ hcl, st⟩
theorem vx_runSX {hh : List (Nat × Nat × Nat × Nat)} (S : CallFix p m c cc nL s args Ts own) (hM : vx_Met l y ws rm Pc Qc XC mc ms free) (cw : vx_CSW R s args own index y bytes maxL ret hh ws rm mc ms n) (hp : PreS s H Pc As)
    (hg : g.method = m) (hn : As.length = n) (hsize : g.locals.size = nL) (hstack : g.stack = As.reverse ++ rest) (hW : 2 * g.monitorRoom + (rest.map fun v => v.category).sum ≤ 8) (hdg : decode cc g.pc = .ok (.invokestatic index, 3)) (hf : cells + mc ≤ R.cells ∧ slots + ms ≤ R.slots) :
    vx_Run p l e R s m args below meth c H locs cells slots mc ms g rest (Qc As.toArray) XC free := by
  obtain ⟨⟨hrc, hrs, hfr, hlo, hws, hcw⟩, hcode, hini, hy, hlen, hl, hstt⟩ := cw
  have hK : vx_Back l R p e below s args y 3 8 (PreOf R mc ms Pc) (PostOf Qc mc ms free) (vx_Post XC mc ms free) := vx_backW (hh := hh) (bytes := bytes) (maxL := maxL) (ret := ret) hM hp.1 hrc hrs hfr hlo hws hcw (fun a' U hW => word_at hW (Or.inl (by first | rfl | simp [Cond.onTables, Cond.keeps, Cond.steady])) hini)
  obtain ⟨hx, hb, hml, ho, -⟩ := S
  intro T hT X
  rcases vx_callSX X hx (hh := hh) (bytes := bytes) (maxL := maxL) (ret := ret) ho hl hstt hini hcode hy hK hg (hsize.trans hml.symm) (argsL := As) (rest := rest) (fun sig h => hn.trans (hlen sig h)) hstack hW (by rw [hb]; exact hdg)
    (fun vm₁ hW₁ => ⟨hf.1, hf.2, hp.2 (T.setVm vm₁) hT hW₁⟩) with ⟨v, vm₁, ⟨U', l2, c2, s2⟩, hW₁, X', ⟨g', mk, t, L, e1, e2, hq, h1, hL, h2, h3⟩, st⟩ | ⟨q, vm₁, ⟨U', l2, c2, s2⟩, hW₁, X', ⟨g', mk, t, L, E, ce, e1, e2, hq, hce, hcv, hcl, h1, hL, h2, h3⟩, st⟩
  · dsimp only [Pt.U, Pt.locs, Pt.cells, Pt.slots] at X' e1 e2 h1 h2 h3 st
    subst h1; subst h2; subst h3
    exact Or.inl ⟨v, (T.setVm vm₁).calling g' mk As.toArray, t, U', L, hT, X', hL, e1, e2, hq, st⟩
  · dsimp only [Pt.U, Pt.locs, Pt.cells, Pt.slots] at X' e1 e2 h1 h2 h3 st hcl
    subst h1; subst h2; subst h3
    exact Or.inr ⟨q, (T.setVm vm₁).calling g' mk As.toArray, t, U', L, E, ce, hT, X', hL, e1, e2, hq, hce, hcv, vx_cls hW₁ hcl, st⟩
end
end VXH
theorem vx_ofWH {l : Launch} {y : MethodName} {ws ws' : List Cond} {rm : Room} {Pc : Array Value → State → Prop} {Qc : Array Value → State → Outcome → State → Prop} {XC : String → State → State → Prop} {mc ms : Nat} {free : Addr → Prop} {cc : ByteArray} {maxL : Nat} {ret : Option FieldType} {hh : List (Nat × Nat × Nat × Nat)}
    (hy : plainName y.cls = true) (hw : ws = Cond.codeWith y cc maxL ret hh :: ws')
    (body : ∀ p e s m args below meth c s₁, BodyLoose p l y (headSpec ws rm) cc maxL ret e s m args below meth c s₁ → c.maxLocals = maxL → Pc args s →
      W p l e (headSpec ws rm).room s m args below meth c s.heap [] 0 0 (vx_MQ below Qc XC args s mc ms free) (entryFrame m args maxL)) : vx_Met l y ws rm Pc Qc XC mc ms free := by
  refine MetFree.of_bodyS (code := cc) (maxLocals := maxL) (ret := ret) hy ?_ ?_
  · intro args s m h hn
    obtain ⟨m9, meth, c, hn9, h1, h2, h3, h4, -, h5, h6, -⟩ := Cond.codeWith_spec (atoms_spec (ws := ws) h _ (by rw [hw]; exact List.mem_cons_self))
    cases hn.symm.trans hn9
    exact ⟨meth, c, h1, h2, h3, h4, h5, h6⟩
  · intro p e s m args below meth c s₁ B hml hP _
    have hh0 : s₁.heap = s.heap := by rw [B.state]; rfl
    obtain ⟨t, a1, o, b1, b2, b3⟩ := body p e s m args below meth c s₁ B hml hP s₁ hh0 (Stand.of_body B)
    exact ⟨t, o, a1, b1, b2, b3⟩
/-! ===== END ===== -/
end
section
def RX0 : String := "TypedLisp$Cells"
def TX0 : u_T := fun k => match k with
  | 0 => ("TypedLisp$Cells", "kinds", "[I", true)
  | 1 => ("TypedLisp$Cells", "numbers", "[I", true)
  | 2 => ("TypedLisp$Cells", "firsts", "[I", true)
  | 3 => ("TypedLisp$Cells", "seconds", "[I", true)
  | 4 => ("TypedLisp$Cells", "kept", "I", false)
  | _ => ("TypedLisp$Cells", "total", "I", false)
def tyX0 : Nat → FieldType := fun k => match k with
  | 0 => .array .int
  | 1 => .array .int
  | 2 => .array .int
  | 3 => .array .int
  | 4 => .int
  | _ => .int
theorem nmX0 : ∀ a, a < 6 → ∀ b, b < 6 → a ≠ b → (TX0 a).2.1 ≠ (TX0 b).2.1 := by decide +kernel
theorem tyX0_ok : ∀ k, k < 6 → parseFieldDescriptor (TX0 k).2.2.1 = some (tyX0 k) := by decide +kernel
abbrev cX0_init : ByteArray := prog_2_method_1_code
def yX0_init : MethodName := ⟨RX0, "<init>", "()V"⟩
abbrev cX0_isKept : ByteArray := prog_2_method_2_code
def yX0_isKept : MethodName := ⟨RX0, "isKept", "(I)Z"⟩
abbrev cX0_dropUnkept : ByteArray := prog_2_method_3_code
def yX0_dropUnkept : MethodName := ⟨RX0, "dropUnkept", "()V"⟩
abbrev cX0_dropAll : ByteArray := prog_2_method_4_code
def yX0_dropAll : MethodName := ⟨RX0, "dropAll", "()V"⟩
abbrev cX0_keepNumber : ByteArray := prog_2_method_5_code
def yX0_keepNumber : MethodName := ⟨RX0, "keepNumber", "(I)I"⟩
abbrev cX0_keepPair : ByteArray := prog_2_method_6_code
def yX0_keepPair : MethodName := ⟨RX0, "keepPair", "(II)I"⟩
abbrev cX0_addNumber : ByteArray := prog_2_method_7_code
def yX0_addNumber : MethodName := ⟨RX0, "addNumber", "(I)I"⟩
abbrev cX0_addPair : ByteArray := prog_2_method_8_code
def yX0_addPair : MethodName := ⟨RX0, "addPair", "(II)I"⟩
abbrev cX0_add : ByteArray := prog_2_method_9_code
def yX0_add : MethodName := ⟨RX0, "add", "(IIII)I"⟩
abbrev cX0_part : ByteArray := prog_2_method_10_code
def yX0_part : MethodName := ⟨RX0, "part", "(II)I"⟩
abbrev cX0_isOf : ByteArray := prog_2_method_11_code
def yX0_isOf : MethodName := ⟨RX0, "isOf", "(II)Z"⟩
def RX1 : String := "TypedLisp$Checker"
def TX1 : u_T := fun k => match k with
  | 0 => ("TypedLisp$Checker", "findings", "[LTypedLisp$Finding;", true)
  | 1 => ("TypedLisp$Checker", "inner", "[LTypedLisp$View;", true)
  | 2 => ("TypedLisp$Checker", "places", "[I", true)
  | 3 => ("TypedLisp$Checker", "remembered", "[LTypedLisp$Finding;", true)
  | 4 => ("TypedLisp$Checker", "start", "LTypedLisp$View;", true)
  | 5 => ("TypedLisp$Checker", "functions", "[LTypedLisp$Function;", false)
  | _ => ("TypedLisp$Checker", "faultPlace", "I", false)
def tyX1 : Nat → FieldType := fun k => match k with
  | 0 => .array (.object "TypedLisp$Finding")
  | 1 => .array (.object "TypedLisp$View")
  | 2 => .array .int
  | 3 => .array (.object "TypedLisp$Finding")
  | 4 => .object "TypedLisp$View"
  | 5 => .array (.object "TypedLisp$Function")
  | _ => .int
theorem nmX1 : ∀ a, a < 7 → ∀ b, b < 7 → a ≠ b → (TX1 a).2.1 ≠ (TX1 b).2.1 := by decide +kernel
theorem tyX1_ok : ∀ k, k < 7 → parseFieldDescriptor (TX1 k).2.2.1 = some (tyX1 k) := by decide +kernel
abbrev cX1_init : ByteArray := prog_3_method_1_code
def yX1_init : MethodName := ⟨RX1, "<init>", "()V"⟩
abbrev cX1_examineAll : ByteArray := prog_3_method_2_code
def yX1_examineAll : MethodName := ⟨RX1, "examineAll", "(LTypedLisp$Node;I[LTypedLisp$Function;)LTypedLisp$Finding;"⟩
abbrev cX1_examine : ByteArray := prog_3_method_3_code
def yX1_examine : MethodName := ⟨RX1, "examine", "(LTypedLisp$Node;LTypedLisp$View;I)LTypedLisp$Finding;"⟩
abbrev cX1_examineKind : ByteArray := prog_3_method_4_code
def yX1_examineKind : MethodName := ⟨RX1, "examineKind", "(LTypedLisp$Node;LTypedLisp$View;LTypedLisp$Finding;I)Z"⟩
abbrev cX1_examineConstant : ByteArray := prog_3_method_5_code
def yX1_examineConstant : MethodName := ⟨RX1, "examineConstant", "(LTypedLisp$Node;LTypedLisp$View;LTypedLisp$Finding;)Z"⟩
abbrev cX1_examineVariable : ByteArray := prog_3_method_6_code
def yX1_examineVariable : MethodName := ⟨RX1, "examineVariable", "(LTypedLisp$Node;LTypedLisp$View;LTypedLisp$Finding;)Z"⟩
abbrev cX1_assignPlace : ByteArray := prog_3_method_7_code
def yX1_assignPlace : MethodName := ⟨RX1, "assignPlace", "(ILTypedLisp$View;LTypedLisp$Finding;)V"⟩
abbrev cX1_examineTest : ByteArray := prog_3_method_8_code
def yX1_examineTest : MethodName := ⟨RX1, "examineTest", "(LTypedLisp$Node;LTypedLisp$View;LTypedLisp$Finding;I)Z"⟩
abbrev cX1_examineNot : ByteArray := prog_3_method_9_code
def yX1_examineNot : MethodName := ⟨RX1, "examineNot", "(LTypedLisp$Node;LTypedLisp$View;LTypedLisp$Finding;I)Z"⟩
abbrev cX1_examineHalf : ByteArray := prog_3_method_10_code
def yX1_examineHalf : MethodName := ⟨RX1, "examineHalf", "(LTypedLisp$Node;LTypedLisp$View;LTypedLisp$Finding;I)Z"⟩
abbrev cX1_examineTwo : ByteArray := prog_3_method_11_code
def yX1_examineTwo : MethodName := ⟨RX1, "examineTwo", "(LTypedLisp$Node;LTypedLisp$View;LTypedLisp$Finding;I)Z"⟩
abbrev cX1_examineChoice : ByteArray := prog_3_method_12_code
def yX1_examineChoice : MethodName := ⟨RX1, "examineChoice", "(LTypedLisp$Node;LTypedLisp$View;LTypedLisp$Finding;I)Z"⟩
abbrev cX1_examineAnd : ByteArray := prog_3_method_13_code
def yX1_examineAnd : MethodName := ⟨RX1, "examineAnd", "(LTypedLisp$Node;LTypedLisp$View;LTypedLisp$Finding;I)Z"⟩
abbrev cX1_examineOr : ByteArray := prog_3_method_14_code
def yX1_examineOr : MethodName := ⟨RX1, "examineOr", "(LTypedLisp$Node;LTypedLisp$View;LTypedLisp$Finding;I)Z"⟩
abbrev cX1_examineBinding : ByteArray := prog_3_method_15_code
def yX1_examineBinding : MethodName := ⟨RX1, "examineBinding", "(LTypedLisp$Node;LTypedLisp$View;LTypedLisp$Finding;I)Z"⟩
abbrev cX1_examineCall : ByteArray := prog_3_method_16_code
def yX1_examineCall : MethodName := ⟨RX1, "examineCall", "(LTypedLisp$Node;LTypedLisp$View;LTypedLisp$Finding;I)Z"⟩
abbrev cX1_refuse : ByteArray := prog_3_method_17_code
def yX1_refuse : MethodName := ⟨RX1, "refuse", "(LTypedLisp$Node;)Z"⟩
def RX2 : String := "TypedLisp$Finding"
def TX2 : u_T := fun k => match k with
  | 0 => ("TypedLisp$Finding", "kinds", "I", false)
  | 1 => ("TypedLisp$Finding", "place", "I", false)
  | 2 => ("TypedLisp$Finding", "yes", "LTypedLisp$View;", true)
  | _ => ("TypedLisp$Finding", "no", "LTypedLisp$View;", true)
def tyX2 : Nat → FieldType := fun k => match k with
  | 0 => .int
  | 1 => .int
  | 2 => .object "TypedLisp$View"
  | _ => .object "TypedLisp$View"
theorem nmX2 : ∀ a, a < 4 → ∀ b, b < 4 → a ≠ b → (TX2 a).2.1 ≠ (TX2 b).2.1 := by decide +kernel
theorem tyX2_ok : ∀ k, k < 4 → parseFieldDescriptor (TX2 k).2.2.1 = some (tyX2 k) := by decide +kernel
abbrev cX2_init : ByteArray := prog_4_method_1_code
def yX2_init : MethodName := ⟨RX2, "<init>", "()V"⟩
abbrev cX2_assign : ByteArray := prog_4_method_2_code
def yX2_assign : MethodName := ⟨RX2, "assign", "(IILTypedLisp$View;)V"⟩
abbrev cX2_beUnchecked : ByteArray := prog_4_method_3_code
def yX2_beUnchecked : MethodName := ⟨RX2, "beUnchecked", "()V"⟩
abbrev cX2_settle : ByteArray := prog_4_method_4_code
def yX2_settle : MethodName := ⟨RX2, "settle", "()V"⟩
def RX3 : String := "TypedLisp$Function"
def TX3 : u_T := fun k => match k with
  | 0 => ("TypedLisp$Function", "body", "LTypedLisp$Node;", true)
  | 1 => ("TypedLisp$Function", "parameterType", "I", true)
  | 2 => ("TypedLisp$Function", "kinds", "I", true)
  | 3 => ("TypedLisp$Function", "yesWord", "J", true)
  | _ => ("TypedLisp$Function", "noWord", "J", true)
def tyX3 : Nat → FieldType := fun k => match k with
  | 0 => .object "TypedLisp$Node"
  | 1 => .int
  | 2 => .int
  | 3 => .long
  | _ => .long
theorem nmX3 : ∀ a, a < 5 → ∀ b, b < 5 → a ≠ b → (TX3 a).2.1 ≠ (TX3 b).2.1 := by decide +kernel
theorem tyX3_ok : ∀ k, k < 5 → parseFieldDescriptor (TX3 k).2.2.1 = some (tyX3 k) := by decide +kernel
abbrev cX3_init : ByteArray := prog_5_method_1_code
def yX3_init : MethodName := ⟨RX3, "<init>", "(LTypedLisp$Node;ILTypedLisp$Finding;)V"⟩
def RX4 : String := "TypedLisp$Machine"
def TX4 : u_T := fun k => match k with
  | 0 => ("TypedLisp$Machine", "cells", "LTypedLisp$Cells;", true)
  | 1 => ("TypedLisp$Machine", "functions", "[LTypedLisp$Function;", true)
  | 2 => ("TypedLisp$Machine", "limit", "I", true)
  | 3 => ("TypedLisp$Machine", "values", "[[I", true)
  | 4 => ("TypedLisp$Machine", "begun", "I", false)
  | _ => ("TypedLisp$Machine", "ending", "I", false)
def tyX4 : Nat → FieldType := fun k => match k with
  | 0 => .object "TypedLisp$Cells"
  | 1 => .array (.object "TypedLisp$Function")
  | 2 => .int
  | 3 => .array (.array .int)
  | 4 => .int
  | _ => .int
theorem nmX4 : ∀ a, a < 6 → ∀ b, b < 6 → a ≠ b → (TX4 a).2.1 ≠ (TX4 b).2.1 := by decide +kernel
theorem tyX4_ok : ∀ k, k < 6 → parseFieldDescriptor (TX4 k).2.2.1 = some (tyX4 k) := by decide +kernel
abbrev cX4_init : ByteArray := prog_6_method_1_code
def yX4_init : MethodName := ⟨RX4, "<init>", "(LTypedLisp$Cells;[LTypedLisp$Function;I)V"⟩
abbrev cX4_evaluateAll : ByteArray := prog_6_method_2_code
def yX4_evaluateAll : MethodName := ⟨RX4, "evaluateAll", "(LTypedLisp$Node;II)I"⟩
abbrev cX4_evaluate : ByteArray := prog_6_method_3_code
def yX4_evaluate : MethodName := ⟨RX4, "evaluate", "(LTypedLisp$Node;II)I"⟩
abbrev cX4_evaluateBody : ByteArray := prog_6_method_4_code
def yX4_evaluateBody : MethodName := ⟨RX4, "evaluateBody", "(LTypedLisp$Function;III)I"⟩
abbrev cX4_leafValue : ByteArray := prog_6_method_5_code
def yX4_leafValue : MethodName := ⟨RX4, "leafValue", "(LTypedLisp$Node;I)I"⟩
abbrev cX4_assign : ByteArray := prog_6_method_6_code
def yX4_assign : MethodName := ⟨RX4, "assign", "(III)Z"⟩
abbrev cX4_applyToOne : ByteArray := prog_6_method_7_code
def yX4_applyToOne : MethodName := ⟨RX4, "applyToOne", "(II)I"⟩
abbrev cX4_applyToTwo : ByteArray := prog_6_method_8_code
def yX4_applyToTwo : MethodName := ⟨RX4, "applyToTwo", "(III)I"⟩
abbrev cX4_madeOrFailed : ByteArray := prog_6_method_9_code
def yX4_madeOrFailed : MethodName := ⟨RX4, "madeOrFailed", "(I)I"⟩
abbrev cX4_fail : ByteArray := prog_6_method_10_code
def yX4_fail : MethodName := ⟨RX4, "fail", "(I)I"⟩
def RX5 : String := "TypedLisp$Node"
def TX5 : u_T := fun k => match k with
  | 0 => ("TypedLisp$Node", "op", "I", true)
  | 1 => ("TypedLisp$Node", "at", "I", true)
  | 2 => ("TypedLisp$Node", "index", "I", true)
  | 3 => ("TypedLisp$Node", "slot", "I", true)
  | 4 => ("TypedLisp$Node", "first", "LTypedLisp$Node;", true)
  | 5 => ("TypedLisp$Node", "second", "LTypedLisp$Node;", true)
  | _ => ("TypedLisp$Node", "third", "LTypedLisp$Node;", true)
def tyX5 : Nat → FieldType := fun k => match k with
  | 0 => .int
  | 1 => .int
  | 2 => .int
  | 3 => .int
  | 4 => .object "TypedLisp$Node"
  | 5 => .object "TypedLisp$Node"
  | _ => .object "TypedLisp$Node"
theorem nmX5 : ∀ a, a < 7 → ∀ b, b < 7 → a ≠ b → (TX5 a).2.1 ≠ (TX5 b).2.1 := by decide +kernel
theorem tyX5_ok : ∀ k, k < 7 → parseFieldDescriptor (TX5 k).2.2.1 = some (tyX5 k) := by decide +kernel
abbrev cX5_init : ByteArray := prog_7_method_1_code
def yX5_init : MethodName := ⟨RX5, "<init>", "(IIIILTypedLisp$Node;LTypedLisp$Node;LTypedLisp$Node;)V"⟩
def RX6 : String := "TypedLisp$Reader"
def TX6 : u_T := fun k => match k with
  | 0 => ("TypedLisp$Reader", "text", "LTypedLisp$Text;", true)
  | 1 => ("TypedLisp$Reader", "functions", "[LTypedLisp$Function;", true)
  | 2 => ("TypedLisp$Reader", "slots", "[I", true)
  | 3 => ("TypedLisp$Reader", "nextSlot", "I", false)
  | 4 => ("TypedLisp$Reader", "nextIndex", "I", false)
  | 5 => ("TypedLisp$Reader", "at", "I", false)
  | 6 => ("TypedLisp$Reader", "name", "I", false)
  | _ => ("TypedLisp$Reader", "parameterType", "I", false)
def tyX6 : Nat → FieldType := fun k => match k with
  | 0 => .object "TypedLisp$Text"
  | 1 => .array (.object "TypedLisp$Function")
  | 2 => .array .int
  | 3 => .int
  | 4 => .int
  | 5 => .int
  | 6 => .int
  | _ => .int
theorem nmX6 : ∀ a, a < 8 → ∀ b, b < 8 → a ≠ b → (TX6 a).2.1 ≠ (TX6 b).2.1 := by decide +kernel
theorem tyX6_ok : ∀ k, k < 8 → parseFieldDescriptor (TX6 k).2.2.1 = some (tyX6 k) := by decide +kernel
abbrev cX6_init : ByteArray := prog_8_method_1_code
def yX6_init : MethodName := ⟨RX6, "<init>", "(LTypedLisp$Text;[LTypedLisp$Function;)V"⟩
abbrev cX6_readExpression : ByteArray := prog_8_method_2_code
def yX6_readExpression : MethodName := ⟨RX6, "readExpression", "()LTypedLisp$Node;"⟩
abbrev cX6_readDefinition : ByteArray := prog_8_method_3_code
def yX6_readDefinition : MethodName := ⟨RX6, "readDefinition", "()LTypedLisp$Node;"⟩
abbrev cX6_readToEnd : ByteArray := prog_8_method_4_code
def yX6_readToEnd : MethodName := ⟨RX6, "readToEnd", "()LTypedLisp$Node;"⟩
abbrev cX6_readPart : ByteArray := prog_8_method_5_code
def yX6_readPart : MethodName := ⟨RX6, "readPart", "(I)LTypedLisp$Node;"⟩
abbrev cX6_readBracket : ByteArray := prog_8_method_6_code
def yX6_readBracket : MethodName := ⟨RX6, "readBracket", "(I)LTypedLisp$Node;"⟩
abbrev cX6_readOperation : ByteArray := prog_8_method_7_code
def yX6_readOperation : MethodName := ⟨RX6, "readOperation", "(IIII)LTypedLisp$Node;"⟩
abbrev cX6_readBinding : ByteArray := prog_8_method_8_code
def yX6_readBinding : MethodName := ⟨RX6, "readBinding", "(II)LTypedLisp$Node;"⟩
abbrev cX6_newNode : ByteArray := prog_8_method_9_code
def yX6_newNode : MethodName := ⟨RX6, "newNode", "(IIILTypedLisp$Node;LTypedLisp$Node;LTypedLisp$Node;)LTypedLisp$Node;"⟩
abbrev cX6_peek : ByteArray := prog_8_method_10_code
def yX6_peek : MethodName := ⟨RX6, "peek", "()I"⟩
abbrev cX6_slotOf : ByteArray := prog_8_method_11_code
def yX6_slotOf : MethodName := ⟨RX6, "slotOf", "(I)I"⟩
abbrev cX6_freeName : ByteArray := prog_8_method_12_code
def yX6_freeName : MethodName := ⟨RX6, "freeName", "(I)I"⟩
abbrev cX6_hasFreeName : ByteArray := prog_8_method_13_code
def yX6_hasFreeName : MethodName := ⟨RX6, "hasFreeName", "()Z"⟩
abbrev cX6_isConstant : ByteArray := prog_8_method_14_code
def yX6_isConstant : MethodName := ⟨RX6, "isConstant", "(I)Z"⟩
abbrev cX6_typeOf : ByteArray := prog_8_method_15_code
def yX6_typeOf : MethodName := ⟨RX6, "typeOf", "(I)I"⟩
abbrev cX6_partsOf : ByteArray := prog_8_method_16_code
def yX6_partsOf : MethodName := ⟨RX6, "partsOf", "(I)I"⟩
def RX7 : String := "TypedLisp$Text"
def TX7 : u_T := fun k => match k with
  | 0 => ("TypedLisp$Text", "characters", "[C", true)
  | _ => ("TypedLisp$Text", "length", "I", false)
def tyX7 : Nat → FieldType := fun k => match k with
  | 0 => .array .char
  | _ => .int
theorem nmX7 : ∀ a, a < 2 → ∀ b, b < 2 → a ≠ b → (TX7 a).2.1 ≠ (TX7 b).2.1 := by decide +kernel
theorem tyX7_ok : ∀ k, k < 2 → parseFieldDescriptor (TX7 k).2.2.1 = some (tyX7 k) := by decide +kernel
abbrev cX7_init : ByteArray := prog_9_method_1_code
def yX7_init : MethodName := ⟨RX7, "<init>", "()V"⟩
abbrev cX7_append : ByteArray := prog_9_method_2_code
def yX7_append : MethodName := ⟨RX7, "append", "(C)Z"⟩
abbrev cX7_empty : ByteArray := prog_9_method_3_code
def yX7_empty : MethodName := ⟨RX7, "empty", "()V"⟩
abbrev cX7_characterAt : ByteArray := prog_9_method_4_code
def yX7_characterAt : MethodName := ⟨RX7, "characterAt", "(I)I"⟩
def RX8 : String := "TypedLisp$View"
def TX8 : u_T := fun k => match k with
  | 0 => ("TypedLisp$View", "words", "[J", true)
  | _ => ("TypedLisp$View", "impossible", "Z", false)
def tyX8 : Nat → FieldType := fun k => match k with
  | 0 => .array .long
  | _ => .boolean
theorem nmX8 : ∀ a, a < 2 → ∀ b, b < 2 → a ≠ b → (TX8 a).2.1 ≠ (TX8 b).2.1 := by decide +kernel
theorem tyX8_ok : ∀ k, k < 2 → parseFieldDescriptor (TX8 k).2.2.1 = some (tyX8 k) := by decide +kernel
abbrev cX8_init : ByteArray := prog_10_method_1_code
def yX8_init : MethodName := ⟨RX8, "<init>", "()V"⟩
abbrev cX8_sayAnything : ByteArray := prog_10_method_2_code
def yX8_sayAnything : MethodName := ⟨RX8, "sayAnything", "()V"⟩
abbrev cX8_sayNothing : ByteArray := prog_10_method_3_code
def yX8_sayNothing : MethodName := ⟨RX8, "sayNothing", "()V"⟩
abbrev cX8_copy : ByteArray := prog_10_method_4_code
def yX8_copy : MethodName := ⟨RX8, "copy", "(LTypedLisp$View;)V"⟩
abbrev cX8_word : ByteArray := prog_10_method_5_code
def yX8_word : MethodName := ⟨RX8, "word", "(I)J"⟩
abbrev cX8_says : ByteArray := prog_10_method_6_code
def yX8_says : MethodName := ⟨RX8, "says", "(I)I"⟩
abbrev cX8_restrict : ByteArray := prog_10_method_7_code
def yX8_restrict : MethodName := ⟨RX8, "restrict", "(II)V"⟩
abbrev cX8_restrictFrom : ByteArray := prog_10_method_8_code
def yX8_restrictFrom : MethodName := ⟨RX8, "restrictFrom", "(IJ)V"⟩
abbrev cX8_keepBoth : ByteArray := prog_10_method_9_code
def yX8_keepBoth : MethodName := ⟨RX8, "keepBoth", "(LTypedLisp$View;)V"⟩
abbrev cX8_allowEither : ByteArray := prog_10_method_10_code
def yX8_allowEither : MethodName := ⟨RX8, "allowEither", "(LTypedLisp$View;)V"⟩
abbrev cX8_kindsIn : ByteArray := prog_10_method_11_code
def yX8_kindsIn : MethodName := ⟨RX8, "kindsIn", "(JI)I"⟩
abbrev cX8_lacksKinds : ByteArray := prog_10_method_12_code
def yX8_lacksKinds : MethodName := ⟨RX8, "lacksKinds", "(J)Z"⟩
def RX9 : String := "TypedLisp"
def TX9 : u_T := fun k => match k with
  | 0 => ("TypedLisp", "text", "LTypedLisp$Text;", true)
  | 1 => ("TypedLisp", "functions", "[LTypedLisp$Function;", true)
  | 2 => ("TypedLisp", "checker", "LTypedLisp$Checker;", true)
  | 3 => ("TypedLisp", "ifView", "LTypedLisp$View;", true)
  | 4 => ("TypedLisp", "ifNotView", "LTypedLisp$View;", true)
  | 5 => ("TypedLisp", "cells", "LTypedLisp$Cells;", true)
  | 6 => ("TypedLisp", "inputs", "[I", true)
  | 7 => ("TypedLisp", "atHand", "LTypedLisp$Node;", false)
  | 8 => ("TypedLisp", "accepted", "Z", false)
  | 9 => ("TypedLisp", "faultPlace", "I", false)
  | 10 => ("TypedLisp", "latestSteps", "I", false)
  | _ => ("TypedLisp", "latestValue", "I", false)
def tyX9 : Nat → FieldType := fun k => match k with
  | 0 => .object "TypedLisp$Text"
  | 1 => .array (.object "TypedLisp$Function")
  | 2 => .object "TypedLisp$Checker"
  | 3 => .object "TypedLisp$View"
  | 4 => .object "TypedLisp$View"
  | 5 => .object "TypedLisp$Cells"
  | 6 => .array .int
  | 7 => .object "TypedLisp$Node"
  | 8 => .boolean
  | 9 => .int
  | 10 => .int
  | _ => .int
theorem nmX9 : ∀ a, a < 12 → ∀ b, b < 12 → a ≠ b → (TX9 a).2.1 ≠ (TX9 b).2.1 := by decide +kernel
theorem tyX9_ok : ∀ k, k < 12 → parseFieldDescriptor (TX9 k).2.2.1 = some (tyX9 k) := by decide +kernel
abbrev cX9_init : ByteArray := prog_1_method_1_code
def yX9_init : MethodName := ⟨RX9, "<init>", "()V"⟩
abbrev cX9_type : ByteArray := prog_1_method_2_code
def yX9_type : MethodName := ⟨RX9, "type", "(C)Z"⟩
abbrev cX9_wipe : ByteArray := prog_1_method_3_code
def yX9_wipe : MethodName := ⟨RX9, "wipe", "()V"⟩
abbrev cX9_define : ByteArray := prog_1_method_4_code
def yX9_define : MethodName := ⟨RX9, "define", "()I"⟩
abbrev cX9_check : ByteArray := prog_1_method_5_code
def yX9_check : MethodName := ⟨RX9, "check", "()I"⟩
abbrev cX9_fault : ByteArray := prog_1_method_6_code
def yX9_fault : MethodName := ⟨RX9, "fault", "()I"⟩
abbrev cX9_view : ByteArray := prog_1_method_7_code
def yX9_view : MethodName := ⟨RX9, "view", "(ZII)I"⟩
abbrev cX9_forget : ByteArray := prog_1_method_8_code
def yX9_forget : MethodName := ⟨RX9, "forget", "()V"⟩
abbrev cX9_number : ByteArray := prog_1_method_9_code
def yX9_number : MethodName := ⟨RX9, "number", "(I)I"⟩
abbrev cX9_pair : ByteArray := prog_1_method_10_code
def yX9_pair : MethodName := ⟨RX9, "pair", "(II)I"⟩
abbrev cX9_input : ByteArray := prog_1_method_11_code
def yX9_input : MethodName := ⟨RX9, "input", "(II)V"⟩
abbrev cX9_clear : ByteArray := prog_1_method_12_code
def yX9_clear : MethodName := ⟨RX9, "clear", "()V"⟩
abbrev cX9_run : ByteArray := prog_1_method_13_code
def yX9_run : MethodName := ⟨RX9, "run", "(I)I"⟩
abbrev cX9_steps : ByteArray := prog_1_method_14_code
def yX9_steps : MethodName := ⟨RX9, "steps", "()I"⟩
abbrev cX9_result : ByteArray := prog_1_method_15_code
def yX9_result : MethodName := ⟨RX9, "result", "()I"⟩
abbrev cX9_count : ByteArray := prog_1_method_16_code
def yX9_count : MethodName := ⟨RX9, "count", "()I"⟩
abbrev cX9_cell : ByteArray := prog_1_method_17_code
def yX9_cell : MethodName := ⟨RX9, "cell", "(II)I"⟩
abbrev cX9_keepFunction : ByteArray := prog_1_method_18_code
def yX9_keepFunction : MethodName := ⟨RX9, "keepFunction", "(ILTypedLisp$Function;)V"⟩
abbrev cX9_functionIndex : ByteArray := prog_1_method_19_code
def yX9_functionIndex : MethodName := ⟨RX9, "functionIndex", "(I)I"⟩
abbrev cX9_functionOf : ByteArray := prog_1_method_20_code
def yX9_functionOf : MethodName := ⟨RX9, "functionOf", "([LTypedLisp$Function;I)LTypedLisp$Function;"⟩
abbrev cX9_testedKinds : ByteArray := prog_1_method_21_code
def yX9_testedKinds : MethodName := ⟨RX9, "testedKinds", "(I)I"⟩
abbrev cX9_reach : ByteArray := prog_1_method_22_code
def yX9_reach : MethodName := ⟨RX9, "reach", "(II)I"⟩
def RX10 : String := "TypedLispModel"
def TX10 : u_T := fun k => match k with
  | 0 => ("TypedLispModel", "code", "I", false)
  | 1 => ("TypedLispModel", "fault", "I", false)
  | 2 => ("TypedLispModel", "typed", "I", false)
  | 3 => ("TypedLispModel", "text", "[I", true)
  | 4 => ("TypedLispModel", "sign", "[I", true)
  | 5 => ("TypedLispModel", "first", "[I", true)
  | 6 => ("TypedLispModel", "second", "[I", true)
  | 7 => ("TypedLispModel", "third", "[I", true)
  | 8 => ("TypedLispModel", "what", "[I", true)
  | 9 => ("TypedLispModel", "where", "[I", true)
  | 10 => ("TypedLispModel", "root", "[I", true)
  | 11 => ("TypedLispModel", "nodes", "[I", true)
  | 12 => ("TypedLispModel", "there", "[Z", true)
  | 13 => ("TypedLispModel", "parameter", "[I", true)
  | 14 => ("TypedLispModel", "wanted", "[I", true)
  | 15 => ("TypedLispModel", "given", "[I", true)
  | 16 => ("TypedLispModel", "says", "[I", true)
  | 17 => ("TypedLispModel", "denies", "[I", true)
  | 18 => ("TypedLispModel", "atHand", "Z", false)
  | 19 => ("TypedLispModel", "accepted", "Z", false)
  | 20 => ("TypedLispModel", "at", "I", false)
  | 21 => ("TypedLispModel", "depth", "I", false)
  | 22 => ("TypedLispModel", "scope", "I", false)
  | 23 => ("TypedLispModel", "wrong", "Z", false)
  | 24 => ("TypedLispModel", "open", "[I", true)
  | 25 => ("TypedLispModel", "stage", "[I", true)
  | 26 => ("TypedLispModel", "input", "[J", true)
  | 27 => ("TypedLispModel", "yes", "[J", true)
  | 28 => ("TypedLispModel", "no", "[J", true)
  | 29 => ("TypedLispModel", "type", "[I", true)
  | 30 => ("TypedLispModel", "place", "[I", true)
  | 31 => ("TypedLispModel", "begun", "[I", true)
  | 32 => ("TypedLispModel", "name", "[I", true)
  | 33 => ("TypedLispModel", "own", "[Z", true)
  | 34 => ("TypedLispModel", "keptYes", "[J", true)
  | 35 => ("TypedLispModel", "keptNo", "[J", true)
  | 36 => ("TypedLispModel", "work", "[J", true)
  | 37 => ("TypedLispModel", "workNo", "[J", true)
  | 38 => ("TypedLispModel", "refused", "Z", false)
  | 39 => ("TypedLispModel", "made", "I", false)
  | 40 => ("TypedLispModel", "cells", "I", false)
  | 41 => ("TypedLispModel", "kind", "[I", true)
  | 42 => ("TypedLispModel", "value", "[I", true)
  | 43 => ("TypedLispModel", "left", "[I", true)
  | 44 => ("TypedLispModel", "right", "[I", true)
  | 45 => ("TypedLispModel", "inputs", "[I", true)
  | 46 => ("TypedLispModel", "steps", "I", false)
  | 47 => ("TypedLispModel", "result", "I", false)
  | 48 => ("TypedLispModel", "outcome", "I", false)
  | 49 => ("TypedLispModel", "height", "I", false)
  | 50 => ("TypedLispModel", "answer", "I", false)
  | 51 => ("TypedLispModel", "frameNode", "[I", true)
  | 52 => ("TypedLispModel", "frameStage", "[I", true)
  | 53 => ("TypedLispModel", "frameCall", "[I", true)
  | 54 => ("TypedLispModel", "frameA", "[I", true)
  | 55 => ("TypedLispModel", "variable", "[I", true)
  | 56 => ("TypedLispModel", "beginning", "[J", true)
  | 57 => ("TypedLispModel", "shownYes", "[J", true)
  | _ => ("TypedLispModel", "shownNo", "[J", true)
def tyX10 : Nat → FieldType := fun k => match k with
  | 0 => .int
  | 1 => .int
  | 2 => .int
  | 3 => .array .int
  | 4 => .array .int
  | 5 => .array .int
  | 6 => .array .int
  | 7 => .array .int
  | 8 => .array .int
  | 9 => .array .int
  | 10 => .array .int
  | 11 => .array .int
  | 12 => .array .boolean
  | 13 => .array .int
  | 14 => .array .int
  | 15 => .array .int
  | 16 => .array .int
  | 17 => .array .int
  | 18 => .boolean
  | 19 => .boolean
  | 20 => .int
  | 21 => .int
  | 22 => .int
  | 23 => .boolean
  | 24 => .array .int
  | 25 => .array .int
  | 26 => .array .long
  | 27 => .array .long
  | 28 => .array .long
  | 29 => .array .int
  | 30 => .array .int
  | 31 => .array .int
  | 32 => .array .int
  | 33 => .array .boolean
  | 34 => .array .long
  | 35 => .array .long
  | 36 => .array .long
  | 37 => .array .long
  | 38 => .boolean
  | 39 => .int
  | 40 => .int
  | 41 => .array .int
  | 42 => .array .int
  | 43 => .array .int
  | 44 => .array .int
  | 45 => .array .int
  | 46 => .int
  | 47 => .int
  | 48 => .int
  | 49 => .int
  | 50 => .int
  | 51 => .array .int
  | 52 => .array .int
  | 53 => .array .int
  | 54 => .array .int
  | 55 => .array .int
  | 56 => .array .long
  | 57 => .array .long
  | _ => .array .long
theorem nmX10 : ∀ a, a < 59 → ∀ b, b < 59 → a ≠ b → (TX10 a).2.1 ≠ (TX10 b).2.1 := by decide +kernel
theorem tyX10_ok : ∀ k, k < 59 → parseFieldDescriptor (TX10 k).2.2.1 = some (tyX10 k) := by decide +kernel
abbrev cX10_init : ByteArray := prog_12_method_1_code
def yX10_init : MethodName := ⟨RX10, "<init>", "()V"⟩
abbrev cX10_thrown : ByteArray := prog_12_method_2_code
def yX10_thrown : MethodName := ⟨RX10, "thrown", "()I"⟩
abbrev cX10_fail : ByteArray := prog_12_method_3_code
def yX10_fail : MethodName := ⟨RX10, "fail", "(I)I"⟩
abbrev cX10_type : ByteArray := prog_12_method_4_code
def yX10_type : MethodName := ⟨RX10, "type", "(C)Z"⟩
abbrev cX10_wipe : ByteArray := prog_12_method_5_code
def yX10_wipe : MethodName := ⟨RX10, "wipe", "()V"⟩
abbrev cX10_peek : ByteArray := prog_12_method_6_code
def yX10_peek : MethodName := ⟨RX10, "peek", "()I"⟩
abbrev cX10_isLocal : ByteArray := prog_12_method_7_code
def yX10_isLocal : MethodName := ⟨RX10, "isLocal", "(I)Z"⟩
abbrev cX10_create : ByteArray := prog_12_method_8_code
def yX10_create : MethodName := ⟨RX10, "create", "(III)I"⟩
abbrev cX10_partsOf : ByteArray := prog_12_method_9_code
def yX10_partsOf : MethodName := ⟨RX10, "partsOf", "(I)I"⟩
abbrev cX10_partsHad : ByteArray := prog_12_method_10_code
def yX10_partsHad : MethodName := ⟨RX10, "partsHad", "(I[I[I[I)I"⟩
abbrev cX10_give : ByteArray := prog_12_method_11_code
def yX10_give : MethodName := ⟨RX10, "give", "(II)V"⟩
abbrev cX10_readExpression : ByteArray := prog_12_method_12_code
def yX10_readExpression : MethodName := ⟨RX10, "readExpression", "()I"⟩
abbrev cX10_readPart : ByteArray := prog_12_method_13_code
def yX10_readPart : MethodName := ⟨RX10, "readPart", "()I"⟩
abbrev cX10_readBracket : ByteArray := prog_12_method_14_code
def yX10_readBracket : MethodName := ⟨RX10, "readBracket", "()V"⟩
abbrev cX10_close : ByteArray := prog_12_method_15_code
def yX10_close : MethodName := ⟨RX10, "close", "(I)I"⟩
abbrev cX10_readRest : ByteArray := prog_12_method_16_code
def yX10_readRest : MethodName := ⟨RX10, "readRest", "(I)Z"⟩
abbrev cX10_move : ByteArray := prog_12_method_17_code
def yX10_move : MethodName := ⟨RX10, "move", "(I)V"⟩
abbrev cX10_moved : ByteArray := prog_12_method_18_code
def yX10_moved : MethodName := ⟨RX10, "moved", "(II)I"⟩
abbrev cX10_copy : ByteArray := prog_12_method_19_code
def yX10_copy : MethodName := ⟨RX10, "copy", "([JI[JI)V"⟩
abbrev cX10_clear : ByteArray := prog_12_method_20_code
def yX10_clear : MethodName := ⟨RX10, "clear", "([JI)V"⟩
abbrev cX10_isImpossible : ByteArray := prog_12_method_21_code
def yX10_isImpossible : MethodName := ⟨RX10, "isImpossible", "([JI)Z"⟩
abbrev cX10_restrict : ByteArray := prog_12_method_22_code
def yX10_restrict : MethodName := ⟨RX10, "restrict", "([JIII)V"⟩
abbrev cX10_say : ByteArray := prog_12_method_23_code
def yX10_say : MethodName := ⟨RX10, "say", "([JIII)V"⟩
abbrev cX10_said : ByteArray := prog_12_method_24_code
def yX10_said : MethodName := ⟨RX10, "said", "([JII)I"⟩
abbrev cX10_both : ByteArray := prog_12_method_25_code
def yX10_both : MethodName := ⟨RX10, "both", "([JI[JI)V"⟩
abbrev cX10_either : ByteArray := prog_12_method_26_code
def yX10_either : MethodName := ⟨RX10, "either", "([JI[JI)V"⟩
abbrev cX10_settle : ByteArray := prog_12_method_27_code
def yX10_settle : MethodName := ⟨RX10, "settle", "([JI)V"⟩
abbrev cX10_further : ByteArray := prog_12_method_28_code
def yX10_further : MethodName := ⟨RX10, "further", "(IZ)I"⟩
abbrev cX10_five : ByteArray := prog_12_method_29_code
def yX10_five : MethodName := ⟨RX10, "five", "(I)I"⟩
abbrev cX10_finish : ByteArray := prog_12_method_30_code
def yX10_finish : MethodName := ⟨RX10, "finish", "(III)V"⟩
abbrev cX10_typeOf : ByteArray := prog_12_method_31_code
def yX10_typeOf : MethodName := ⟨RX10, "typeOf", "(I)I"⟩
abbrev cX10_placeOf : ByteArray := prog_12_method_32_code
def yX10_placeOf : MethodName := ⟨RX10, "placeOf", "(I)I"⟩
abbrev cX10_start : ByteArray := prog_12_method_33_code
def yX10_start : MethodName := ⟨RX10, "start", "(I)V"⟩
abbrev cX10_accepts : ByteArray := prog_12_method_34_code
def yX10_accepts : MethodName := ⟨RX10, "accepts", "(I[J)Z"⟩
abbrev cX10_nextPart : ByteArray := prog_12_method_35_code
def yX10_nextPart : MethodName := ⟨RX10, "nextPart", "(II)I"⟩
abbrev cX10_enter : ByteArray := prog_12_method_36_code
def yX10_enter : MethodName := ⟨RX10, "enter", "(II)V"⟩
abbrev cX10_refuse : ByteArray := prog_12_method_37_code
def yX10_refuse : MethodName := ⟨RX10, "refuse", "(I)V"⟩
abbrev cX10_conclude : ByteArray := prog_12_method_38_code
def yX10_conclude : MethodName := ⟨RX10, "conclude", "(I)V"⟩
abbrev cX10_split : ByteArray := prog_12_method_39_code
def yX10_split : MethodName := ⟨RX10, "split", "(I)V"⟩
abbrev cX10_concludeVariable : ByteArray := prog_12_method_40_code
def yX10_concludeVariable : MethodName := ⟨RX10, "concludeVariable", "(I)V"⟩
abbrev cX10_concludeTest : ByteArray := prog_12_method_41_code
def yX10_concludeTest : MethodName := ⟨RX10, "concludeTest", "(II)V"⟩
abbrev cX10_concludeNot : ByteArray := prog_12_method_42_code
def yX10_concludeNot : MethodName := ⟨RX10, "concludeNot", "(I)V"⟩
abbrev cX10_concludeHalf : ByteArray := prog_12_method_43_code
def yX10_concludeHalf : MethodName := ⟨RX10, "concludeHalf", "(I)V"⟩
abbrev cX10_concludeSum : ByteArray := prog_12_method_44_code
def yX10_concludeSum : MethodName := ⟨RX10, "concludeSum", "(I)V"⟩
abbrev cX10_concludeIf : ByteArray := prog_12_method_45_code
def yX10_concludeIf : MethodName := ⟨RX10, "concludeIf", "(I)V"⟩
abbrev cX10_concludeAnd : ByteArray := prog_12_method_46_code
def yX10_concludeAnd : MethodName := ⟨RX10, "concludeAnd", "(I)V"⟩
abbrev cX10_concludeOr : ByteArray := prog_12_method_47_code
def yX10_concludeOr : MethodName := ⟨RX10, "concludeOr", "(I)V"⟩
abbrev cX10_drop : ByteArray := prog_12_method_48_code
def yX10_drop : MethodName := ⟨RX10, "drop", "([JI)V"⟩
abbrev cX10_concludeLet : ByteArray := prog_12_method_49_code
def yX10_concludeLet : MethodName := ⟨RX10, "concludeLet", "(I)V"⟩
abbrev cX10_concludeCall : ByteArray := prog_12_method_50_code
def yX10_concludeCall : MethodName := ⟨RX10, "concludeCall", "(I)V"⟩
abbrev cX10_joined : ByteArray := prog_12_method_51_code
def yX10_joined : MethodName := ⟨RX10, "joined", "(II)I"⟩
abbrev cX10_everything : ByteArray := prog_12_method_52_code
def yX10_everything : MethodName := ⟨RX10, "everything", "([J)V"⟩
abbrev cX10_define : ByteArray := prog_12_method_53_code
def yX10_define : MethodName := ⟨RX10, "define", "()I"⟩
abbrev cX10_check : ByteArray := prog_12_method_54_code
def yX10_check : MethodName := ⟨RX10, "check", "()I"⟩
abbrev cX10_fault : ByteArray := prog_12_method_55_code
def yX10_fault : MethodName := ⟨RX10, "fault", "()I"⟩
abbrev cX10_view : ByteArray := prog_12_method_56_code
def yX10_view : MethodName := ⟨RX10, "view", "(ZII)I"⟩
abbrev cX10_forget : ByteArray := prog_12_method_57_code
def yX10_forget : MethodName := ⟨RX10, "forget", "()V"⟩
abbrev cX10_removeRun : ByteArray := prog_12_method_58_code
def yX10_removeRun : MethodName := ⟨RX10, "removeRun", "()V"⟩
abbrev cX10_make : ByteArray := prog_12_method_59_code
def yX10_make : MethodName := ⟨RX10, "make", "(IIII)I"⟩
abbrev cX10_isMade : ByteArray := prog_12_method_60_code
def yX10_isMade : MethodName := ⟨RX10, "isMade", "(I)Z"⟩
abbrev cX10_number : ByteArray := prog_12_method_61_code
def yX10_number : MethodName := ⟨RX10, "number", "(I)I"⟩
abbrev cX10_pair : ByteArray := prog_12_method_62_code
def yX10_pair : MethodName := ⟨RX10, "pair", "(II)I"⟩
abbrev cX10_input : ByteArray := prog_12_method_63_code
def yX10_input : MethodName := ⟨RX10, "input", "(II)V"⟩
abbrev cX10_clear_ : ByteArray := prog_12_method_64_code
def yX10_clear_ : MethodName := ⟨RX10, "clear", "()V"⟩
abbrev cX10_begin : ByteArray := prog_12_method_65_code
def yX10_begin : MethodName := ⟨RX10, "begin", "(II)V"⟩
abbrev cX10_truth : ByteArray := prog_12_method_66_code
def yX10_truth : MethodName := ⟨RX10, "truth", "(Z)I"⟩
abbrev cX10_end : ByteArray := prog_12_method_67_code
def yX10_end : MethodName := ⟨RX10, "end", "(I)V"⟩
abbrev cX10_stop : ByteArray := prog_12_method_68_code
def yX10_stop : MethodName := ⟨RX10, "stop", "(I)V"⟩
abbrev cX10_goOn : ByteArray := prog_12_method_69_code
def yX10_goOn : MethodName := ⟨RX10, "goOn", "()V"⟩
abbrev cX10_leaf : ByteArray := prog_12_method_70_code
def yX10_leaf : MethodName := ⟨RX10, "leaf", "(II)V"⟩
abbrev cX10_callOn : ByteArray := prog_12_method_71_code
def yX10_callOn : MethodName := ⟨RX10, "callOn", "(III)V"⟩
abbrev cX10_unary : ByteArray := prog_12_method_72_code
def yX10_unary : MethodName := ⟨RX10, "unary", "(II)V"⟩
abbrev cX10_choose : ByteArray := prog_12_method_73_code
def yX10_choose : MethodName := ⟨RX10, "choose", "(III)V"⟩
abbrev cX10_binary : ByteArray := prog_12_method_74_code
def yX10_binary : MethodName := ⟨RX10, "binary", "(III)V"⟩
abbrev cX10_run : ByteArray := prog_12_method_75_code
def yX10_run : MethodName := ⟨RX10, "run", "(I)I"⟩
abbrev cX10_steps : ByteArray := prog_12_method_76_code
def yX10_steps : MethodName := ⟨RX10, "steps", "()I"⟩
abbrev cX10_result : ByteArray := prog_12_method_77_code
def yX10_result : MethodName := ⟨RX10, "result", "()I"⟩
abbrev cX10_count : ByteArray := prog_12_method_78_code
def yX10_count : MethodName := ⟨RX10, "count", "()I"⟩
abbrev cX10_cell : ByteArray := prog_12_method_79_code
def yX10_cell : MethodName := ⟨RX10, "cell", "(II)I"⟩
def RL : String := "TypedLispLaw"
abbrev cL_define : ByteArray := method_3_code
def yL_define : MethodName := ⟨RL, "define", "(LTypedLisp;[J)I"⟩
abbrev cL_check : ByteArray := method_4_code
def yL_check : MethodName := ⟨RL, "check", "(LTypedLisp;[J)I"⟩
abbrev cL_view : ByteArray := method_5_code
def yL_view : MethodName := ⟨RL, "view", "(LTypedLisp;ZII[J)I"⟩
abbrev cL_number : ByteArray := method_6_code
def yL_number : MethodName := ⟨RL, "number", "(LTypedLisp;I[J)I"⟩
abbrev cL_pair : ByteArray := method_7_code
def yL_pair : MethodName := ⟨RL, "pair", "(LTypedLisp;II[J)I"⟩
abbrev cL_input : ByteArray := method_8_code
def yL_input : MethodName := ⟨RL, "input", "(LTypedLisp;II)I"⟩
abbrev cL_run : ByteArray := method_9_code
def yL_run : MethodName := ⟨RL, "run", "(LTypedLisp;I[J)I"⟩
abbrev cL_cell : ByteArray := method_10_code
def yL_cell : MethodName := ⟨RL, "cell", "(LTypedLisp;II[J)I"⟩
abbrev cL_law : ByteArray := code
def yL_law : MethodName := ⟨RL, "law", "([I)Z"⟩
abbrev vwCl : List vw_C := [(RX0, TX0, 6), (RX1, TX1, 7), (RX2, TX2, 4), (RX3, TX3, 5), (RX4, TX4, 6), (RX5, TX5, 7), (RX6, TX6, 8), (RX7, TX7, 2), (RX8, TX8, 2), (RX9, TX9, 12), (RX10, TX10, 59)]
end
section
/-! An abstract machine over the kit's rows: a heap of cells by number, values that name cells by number; every judgement carries the whole heap. -/
/-- a cell: a tag (a class of vwCl below 11, an array 20 .. 27, else unknown), how many places, what they hold -/
abbrev am_C : Type := Nat × Nat × (Nat → Value)
/-- a heap: how many cells, how many slots, the cells -/
abbrev am_H : Type := Nat × Nat × (Nat → am_C)
/-- what a method ends with: a value or none, or a thrown thing of a named kind -/
abbrev am_R : Type := Option Value ⊕ String
abbrev am_L : Type := List (Option Value)
/-- a method: its name, code, locals, what it returns -/
abbrev am_E : Type := MethodName × ByteArray × Nat × Option FieldType
/-- a body's machine -/
abbrev am_T : Type := Program × Launch × Env × Room × State × MethodId × Array Value × List Frame × Method × Code
/-- the places of classes and fields; the script's cell; the first new cell -/
abbrev am_P : Type := va_G × Nat × Nat
def am_ad (g : am_P) : Nat → Nat
  | 0 => g.2.1
  | k + 1 => g.2.2 + k
def am_tv (g : am_P) : Value → Value
  | .ref a => .ref (am_ad g a)
  | .int x => .int x
  | .long x => .long x
  | .float x => .float x
  | .double x => .double x
  | .null => .null
  | .retAddr x => .retAddr x
theorem am_tv_cat (g : am_P) (v : Value) : (am_tv g v).category = v.category := by cases v <;> rfl
theorem am_cats (g : am_P) (st : List Value) : ((st.map (am_tv g)).map fun v => v.category) = st.map fun v => v.category := by
  rw [List.map_map]
  exact List.map_congr_left fun v _ => am_tv_cat g v
/-- locals -/
def am_lv (g : am_P) (ls : Array Slot) (nL : Nat) (lv : am_L) : Prop := ls.size = nL ∧ lv_wf ls ∧ lv.length = nL ∧ ∀ (i : Nat) (v : Value), lv[i]? = some (some v) → ls[i]? = some (.val (am_tv g v))
def am_pr (g : am_P) (lv : am_L) : List (Nat × Value) := (List.range lv.length).filterMap fun i => (lv[i]?.join).map fun v => (i, am_tv g v)
theorem am_pr_mem {g : am_P} {lv : am_L} {i : Nat} {v : Value} (h : lv[i]? = some (some v)) : (i, am_tv g v) ∈ am_pr g lv := by
  unfold am_pr
  rw [List.mem_filterMap]
  exact ⟨i, List.mem_range.mpr (List.getElem?_eq_some_iff.mp h).1, by rw [h]; rfl⟩
theorem am_lv.has {g : am_P} {ls : Array Slot} {nL : Nat} {lv : am_L} (h : am_lv g ls nL lv) : lv_has ls nL (am_pr g lv) := by
  refine ⟨h.1, h.2.1, fun q hq => ?_⟩
  unfold am_pr at hq
  rw [List.mem_filterMap] at hq
  obtain ⟨i, -, hi⟩ := hq
  cases e : lv[i]? with
  | none => rw [e] at hi; cases hi
  | some o =>
    cases o with
    | none => rw [e] at hi; cases hi
    | some v =>
      rw [e] at hi
      cases hi
      exact h.2.2.2 i v e
/-- a local that is no longer whole when the place behind it is written -/
def am_kill (lv : am_L) : Nat → am_L
  | 0 => lv
  | j + 1 => match lv[j]? with
    | some (some w) => if w.category = 2 then lv.set j none else lv
    | _ => lv
def am_st1 (lv : am_L) (i : Nat) (v : Option Value) : am_L := (am_kill lv i).set i v
def am_st2 (lv : am_L) (i : Nat) (v : Option Value) : am_L := ((am_kill lv i).set i v).set (i + 1) none
theorem am_kill_len (lv : am_L) (i : Nat) : (am_kill lv i).length = lv.length := by
  cases i with
  | zero => rfl
  | succ j =>
    simp only [am_kill]
    split
    · split
      · simp
      · rfl
    · rfl
theorem am_kill_at {lv : am_L} {i j : Nat} {v : Value} (h : (am_kill lv i)[j]? = some (some v)) : lv[j]? = some (some v) ∧ ¬ (j + 1 = i ∧ v.category = 2) := by
  cases i with
  | zero => exact ⟨h, fun q => absurd q.1 (Nat.succ_ne_zero j)⟩
  | succ k =>
    simp only [am_kill] at h
    split at h
    · rename_i w hw
      split at h
      · by_cases e : j = k
        · subst e
          rw [List.getElem?_set] at h
          split at h
          · split at h
            · cases h
            · cases h
          · rename_i hne; exact absurd rfl hne
        · rw [List.getElem?_set, if_neg (fun q => e q.symm)] at h
          exact ⟨h, fun q => e (by omega)⟩
      · rename_i hc
        refine ⟨h, fun q => hc ?_⟩
        have : j = k := by omega
        subst this
        rw [hw] at h
        cases h
        exact q.2
    · rename_i hn
      refine ⟨h, fun q => ?_⟩
      have : j = k := by omega
      subst this
      exact hn v h
theorem am_st1_lv {g : am_P} {ls' : Array Slot} {nL i : Nat} {lv : am_L} {w : Value} (hlen : lv.length = nL) (h : lv_has ls' nL ((i, am_tv g w) :: (am_pr g lv).filter (fun q => !(q.1 == i) && !(q.1 + 1 == i && q.2.category == 2)))) : am_lv g ls' nL (am_st1 lv i (some w)) := by
  refine ⟨h.1, h.2.1, by unfold am_st1; rw [List.length_set, am_kill_len, hlen], fun j v hj => ?_⟩
  unfold am_st1 at hj
  rw [List.getElem?_set] at hj
  split at hj
  · rename_i e
    subst e
    split at hj
    · cases hj
      exact h.2.2 (i, am_tv g w) List.mem_cons_self
    · cases hj
  · rename_i e
    obtain ⟨h1, h2⟩ := am_kill_at hj
    refine h.2.2 (j, am_tv g v) (List.mem_cons_of_mem _ (List.mem_filter.mpr ⟨am_pr_mem h1, ?_⟩))
    rw [am_tv_cat]
    simp only [Bool.and_eq_true, Bool.not_eq_true', beq_eq_false_iff_ne, ne_eq, Bool.and_eq_false_iff]
    refine ⟨fun q => e q.symm, ?_⟩
    by_cases q : j + 1 = i
    · exact Or.inr fun q2 => h2 ⟨q, q2⟩
    · exact Or.inl q
theorem am_st2_lv {g : am_P} {ls' : Array Slot} {nL i : Nat} {lv : am_L} {w : Value} (hlen : lv.length = nL) (h : lv_has ls' nL ((i, am_tv g w) :: (am_pr g lv).filter (fun q => !(q.1 == i) && (!(q.1 == i + 1) && !(q.1 + 1 == i && q.2.category == 2))))) : am_lv g ls' nL (am_st2 lv i (some w)) := by
  refine ⟨h.1, h.2.1, by unfold am_st2; rw [List.length_set, List.length_set, am_kill_len, hlen], fun j v hj => ?_⟩
  unfold am_st2 at hj
  rw [List.getElem?_set] at hj
  split at hj
  · split at hj
    · cases hj
    · cases hj
  · rename_i e0
    rw [List.getElem?_set] at hj
    split at hj
    · rename_i e
      subst e
      split at hj
      · cases hj
        exact h.2.2 (i, am_tv g w) List.mem_cons_self
      · cases hj
    · rename_i e
      obtain ⟨h1, h2⟩ := am_kill_at hj
      refine h.2.2 (j, am_tv g v) (List.mem_cons_of_mem _ (List.mem_filter.mpr ⟨am_pr_mem h1, ?_⟩))
      rw [am_tv_cat]
      simp only [Bool.and_eq_true, Bool.not_eq_true', beq_eq_false_iff_ne, ne_eq, Bool.and_eq_false_iff]
      refine ⟨fun q => e q.symm, fun q => e0 q.symm, ?_⟩
      by_cases q : j + 1 = i
      · exact Or.inr fun q2 => h2 ⟨q, q2⟩
      · exact Or.inl q
/-- the same locals, one forgotten -/
theorem am_lv.drop {g : am_P} {ls : Array Slot} {nL i : Nat} {lv : am_L} (h : am_lv g ls nL lv) : am_lv g ls nL (lv.set i none) := by
  refine ⟨h.1, h.2.1, by rw [List.length_set]; exact h.2.2.1, fun j v hj => h.2.2.2 j v ?_⟩
  rw [List.getElem?_set] at hj
  split at hj
  · split at hj <;> cases hj
  · exact hj
end
section
/-! The judgement over abstract states, and rows for instructions that don't touch the heap. -/
def am_tbl : List Cond := lw_tbl.filter goodWord
def am_aty : Nat → Option FieldType
  | 20 => some .int
  | 21 => some .long
  | 22 => some .boolean
  | 23 => some .char
  | 24 => some (.array .int)
  | 25 => some (.object "TypedLisp$Finding")
  | 26 => some (.object "TypedLisp$Function")
  | 27 => some (.object "TypedLisp$View")
  | _ => none
/-- an array of objects: its class's component is the class of that name -/
def am_ra (U : State) (cA : ClassId) : FieldType → Prop
  | .object C => ∃ (kA : Class) (comp : ClassId), U.vm.classes[cA]? = some kA ∧ kA.kind = .array comp (.object C) ∧ U.vm.findClass C = some comp
  | _ => True
def am_cell (g : am_P) (U : State) (H : Heap) (a : Nat) (c : am_C) : Prop :=
  (c.1 < 11 → ∃ r : vw_C, vwCl[c.1]? = some r ∧ c.2.1 = r.2.2 ∧ t_OB (am_ad g a) (g.1.1 c.1) r.2.2 (g.1.2 c.1) H (fun k => am_tv g (c.2.2 k))) ∧
  (∀ ty : FieldType, am_aty c.1 = some ty → ∃ cell : Cell, H[am_ad g a]? = some cell ∧ U.isArrayOf cell ty ∧ cell.vm ≠ .unknown ∧ cell.slots.size = c.2.1 ∧ c.2.1 < 2 ^ 31 ∧ (∀ j : Nat, j < c.2.1 → cell.slots[j]? = some (am_tv g (c.2.2 j))) ∧ am_ra U cell.cls ty)
def am_hold (g : am_P) (U : State) (h : am_H) (H : Heap) : Prop := 1 ≤ h.1 ∧ H.size + 1 = g.2.2 + h.1 ∧ g.2.1 < g.2.2 ∧ ∀ a : Nat, a < h.1 → am_cell g U H a (h.2.2 a)
def am_nest : List Cond := lw_tbl.filter fun w => match w with
  | .methodLinkNest _ _ _ _ => true
  | .declares _ => true
  | .castable _ _ => true
  | _ => false
/-- the new cells -/
def am_A (g : am_P) : Nat → Prop := fun q => g.2.2 ≤ q
/-- words of the tables that no callee's list carries -/
def am_F (g : am_P) (U : State) : Prop := (∀ w ∈ am_nest, va_Nw w U) ∧ va_AO "TypedLisp$Finding" U ∧ va_AO "TypedLisp$Function" U ∧ va_AO "TypedLisp$View" U ∧ va_AOA .int U ∧ vx_Zq Bundle.tN "UNASSIGNED_STACK" Bundle.steD (am_A g) U U.heap ∧ vx_Zq Bundle.tN "SUPPRESSED_SENTINEL" Bundle.listD (am_A g) U U.heap
def am_fr (d : Nat) : Nat := d + 16
def am_lo (d : Nat) : Nat := 60 * d + 400
def am_ok (g : am_P) (l : Launch) (e : am_E) (d : Nat) (x : am_T) : Prop := match x with
  | (p, l', _, R, s, m, args, _, meth, c) => p.tables.exec = Jvm.exec ∧ c.code = e.2.1 ∧ c.maxLocals = e.2.2.1 ∧ s.vm.findClass e.1.cls = some m.cls ∧ meth.locks = false ∧ meth.sig.returnType = e.2.2.2 ∧ (∀ w ∈ am_tbl, w.before args s = true) ∧ va_K g.1 vwCl [] s ∧ am_F g s ∧ am_fr d ≤ R.frames ∧ am_lo d ≤ R.locals ∧ meth.name = e.1.name ∧ l' = l ∧ ∀ hh : List (Nat × Nat × Nat × Nat), Cond.codeWith e.1 e.2.1 e.2.2.1 e.2.2.2 hh ∈ am_tbl → c.exceptionTable.toList = tableOf hh
def am_W (x : am_T) (H : Heap) (locs : List Loc) (cells slots : Nat) (QQ : State → Prop) (pc : Nat) (ls : Array Slot) (st : List Value) : Prop := match x with
  | (p, l, e, R, s, m, args, below, meth, c) => W p l e R s m args below meth c H locs cells slots QQ (F0 m pc ls st)
def am_nL (x : am_T) : Nat := x.2.2.2.2.2.2.2.2.2.maxLocals
def am_s (x : am_T) : State := x.2.2.2.2.1
def am_rm (x : am_T) : Room := x.2.2.2.1
def am_cc (x : am_T) : ByteArray := x.2.2.2.2.2.2.2.2.2.code
/-- the heap, what was there before, and what was written -/
def am_st (g : am_P) (x : am_T) (h : am_H) (H : Heap) (locs : List Loc) : Prop := am_hold g (am_s x) h H ∧ (∀ q : Nat, q < g.2.2 → H[q]? = (am_s x).heap[q]?) ∧ ∀ q ∈ locs, g.2.2 ≤ q.base
/-- the instruction that returns v -/
def am_ri : Option Value → Instr
  | none => .return_
  | some (.int _) => .ireturn
  | some (.long _) => .lreturn
  | some _ => .areturn
def am_rok (rt : Option FieldType) : Option Value → Prop
  | none => rt = none
  | some (.int v) => ∃ ty : FieldType, rt = some ty ∧ narrow ty (.int v) = .int v
  | some (.long _) => rt = some .long
  | some v => (v = .null ∨ ∃ a : Nat, v = .ref a) ∧ ∃ ty : FieldType, rt = some ty ∧ ((∃ n, ty = .object n) ∨ ∃ t, ty = .array t)
/-- the entries ik, ic of the class own make and throw an E -/
def am_xw (own : Option String) (E : String) (ik ic : Nat) : Prop := ∃ o : String, own = some o ∧ Cond.classLink o ik E ∈ am_tbl ∧ Cond.methodLink o ic ⟨E, "<init>", "()V"⟩ ∈ am_tbl ∧ E ∈ ["java/lang/IllegalArgumentException", "java/lang/UnsupportedOperationException", "java/util/NoSuchElementException", "java/lang/IndexOutOfBoundsException", "java/lang/IllegalStateException"]
/-- a heap with a cell more -/
def am_nw (h : am_H) (tag n : Nat) (f : Nat → Value) : am_H := (h.1 + 1, h.2.1 + n, fun a => if a = h.1 then (tag, n, f) else h.2.2 a)
def am_End (g : am_P) (x : am_T) (own : String) (rt : Option FieldType) (r : am_R) (h' : am_H) (cells slots : Nat) (QQ : State → Prop) : Prop := match r with
  | .inl v => ∀ (H : Heap) (ls : Array Slot) (locs : List Loc) (pc : Nat), am_st g x h' H locs → decode (am_cc x) pc = .ok (am_ri v, 1) → am_rok rt v → am_W x H locs cells slots QQ pc ls (v.toList.map (am_tv g))
  | .inr E => ∀ (h0 : am_H) (H : Heap) (ls : Array Slot) (locs : List Loc) (pc ik ic c0 s0 : Nat) (rest : List Value), h' = am_nw h0 99 6 (fun _ => .null) → am_st g x h0 H locs → ls.size = am_nL x → decode (am_cc x) pc = .ok (.new ik, 3) → decode (am_cc x) (pc + 3) = .ok (.dup, 1) → decode (am_cc x) (pc + 4) = .ok (.invokespecial ic, 3) → decode (am_cc x) (pc + 7) = .ok (.athrow, 1) → am_xw (some own) E ik ic → (rest.map fun v => v.category).sum ≤ 8 → cells = c0 + 1 → slots = s0 + 6 → am_W x H locs c0 s0 QQ pc ls rest
def am_G (g : am_P) (l : Launch) (e : am_E) (d : Nat) (Q : am_R → am_H → Prop) (pc : Nat) (lv : am_L) (st : List Value) (h : am_H) : Prop :=
  ∃ (r : am_R) (h' : am_H), Q r h' ∧ h.1 ≤ h'.1 ∧ h.2.1 ≤ h'.2.1 ∧ ∀ x : am_T, am_ok g l e d x → ∀ (H : Heap) (ls : Array Slot) (locs : List Loc) (cells slots : Nat) (QQ : State → Prop), am_st g x h H locs → am_lv g ls (am_nL x) lv → cells + (h'.1 - h.1) ≤ (am_rm x).cells → slots + (h'.2.1 - h.2.1) ≤ (am_rm x).slots →
    am_End g x e.1.cls e.2.2.2 r h' (cells + (h'.1 - h.1)) (slots + (h'.2.1 - h.2.1)) QQ → am_W x H locs cells slots QQ pc ls (st.map (am_tv g))
section AG
variable {g : am_P} {l : Launch} {e : am_E} {d : Nat} {Q : am_R → am_H → Prop} {pc : Nat} {lv : am_L} {st : List Value} {h : am_H}
theorem am_pure {pc' : Nat} {lv' : am_L} {st' : List Value} (f : ∀ x : am_T, am_ok g l e d x → ∀ (H : Heap) (ls : Array Slot) (locs : List Loc) (cells slots : Nat) (QQ : State → Prop), am_lv g ls (am_nL x) lv → (∀ ls' : Array Slot, am_lv g ls' (am_nL x) lv' → am_W x H locs cells slots QQ pc' ls' (st'.map (am_tv g))) → am_W x H locs cells slots QQ pc ls (st.map (am_tv g)))
    (k : am_G g l e d Q pc' lv' st' h) : am_G g l e d Q pc lv st h := by
  obtain ⟨r, h', hq, h1, h2, k⟩ := k
  exact ⟨r, h', hq, h1, h2, fun x C H ls locs cells slots QQ a b c d e => f x C H ls locs cells slots QQ b fun ls' b' => k x C H ls' locs cells slots QQ a b' c d e⟩

theorem ag_iconst {n : Int} {v : Int32} (hd : decode e.2.1 pc = .ok (.iconst n, 1)) (hv : Int32.ofInt n = v) (k : am_G g l e d Q (pc + 1) lv (.int v :: st) h) : am_G g l e d Q pc lv (st) h := by
  refine am_pure ?_ k
  rintro ⟨p, l', e', R, s, m, args, below, meth, c⟩ ⟨hx, hb, hml, hown, -, -, hts, -⟩
  exact fun H ls locs cells slots QQ hl kk => lv_iconst hx hb hd hv (kk ls hl)
theorem ag_bipush {n : Int} {v : Int32} (hd : decode e.2.1 pc = .ok (.bipush n, 2)) (hv : (Int8.ofInt n).toInt32 = v) (k : am_G g l e d Q (pc + 2) lv (.int v :: st) h) : am_G g l e d Q pc lv (st) h := by
  refine am_pure ?_ k
  rintro ⟨p, l', e', R, s, m, args, below, meth, c⟩ ⟨hx, hb, hml, hown, -, -, hts, -⟩
  exact fun H ls locs cells slots QQ hl kk => lv_bipush hx hb hd hv (kk ls hl)
theorem ag_sipush {n : Int} {v : Int32} (hd : decode e.2.1 pc = .ok (.sipush n, 3)) (hv : (Int16.ofInt n).toInt32 = v) (k : am_G g l e d Q (pc + 3) lv (.int v :: st) h) : am_G g l e d Q pc lv (st) h := by
  refine am_pure ?_ k
  rintro ⟨p, l', e', R, s, m, args, below, meth, c⟩ ⟨hx, hb, hml, hown, -, -, hts, -⟩
  exact fun H ls locs cells slots QQ hl kk => lv_sipush hx hb hd hv (kk ls hl)
theorem ag_lconst {n : Fin 2} {v : Int64} (hd : decode e.2.1 pc = .ok (.lconst n, 1)) (hv : Int64.ofNat (n : Nat) = v) (k : am_G g l e d Q (pc + 1) lv (.long v :: st) h) : am_G g l e d Q pc lv (st) h := by
  refine am_pure ?_ k
  rintro ⟨p, l', e', R, s, m, args, below, meth, c⟩ ⟨hx, hb, hml, hown, -, -, hts, -⟩
  exact fun H ls locs cells slots QQ hl kk => lv_lconst hx hb hd hv (kk ls hl)
theorem ag_null  (hd : decode e.2.1 pc = .ok (.aconst_null, 1)) (k : am_G g l e d Q (pc + 1) lv (.null :: st) h) : am_G g l e d Q pc lv (st) h := by
  refine am_pure ?_ k
  rintro ⟨p, l', e', R, s, m, args, below, meth, c⟩ ⟨hx, hb, hml, hown, -, -, hts, -⟩
  exact fun H ls locs cells slots QQ hl kk => lv_null hx hb hd (kk ls hl)
theorem ag_ldc2 {n : Nat} {v : Int64} (hd : decode e.2.1 pc = .ok (.ldc2_w n, 3)) (hv : Cond.constantLong e.1.cls n v ∈ am_tbl) (k : am_G g l e d Q (pc + 3) lv (.long v :: st) h) : am_G g l e d Q pc lv (st) h := by
  refine am_pure ?_ k
  rintro ⟨p, l', e', R, s, m, args, below, meth, c⟩ ⟨hx, hb, hml, hown, -, -, hts, -⟩
  exact fun H ls locs cells slots QQ hl kk => lv_ldc2 hx hb hown (hts _ hv) hd (kk ls hl)
theorem ag_iload_n {n : Fin 4} {v : Int32} (hd : decode e.2.1 pc = .ok (.iload_n n, 1)) (hv : lv[(n : Nat)]? = some (some (.int v))) (k : am_G g l e d Q (pc + 1) lv (.int v :: st) h) : am_G g l e d Q pc lv (st) h := by
  refine am_pure ?_ k
  rintro ⟨p, l', e', R, s, m, args, below, meth, c⟩ ⟨hx, hb, hml, hown, -, -, hts, -⟩
  exact fun H ls locs cells slots QQ hl kk => lv_iload_n hx hb hd rfl (hl.2.2.2 _ _ hv) (kk ls hl)
theorem ag_iload {n : Nat} {v : Int32} (hd : decode e.2.1 pc = .ok (.iload n, 2)) (hv : lv[n]? = some (some (.int v))) (k : am_G g l e d Q (pc + 2) lv (.int v :: st) h) : am_G g l e d Q pc lv (st) h := by
  refine am_pure ?_ k
  rintro ⟨p, l', e', R, s, m, args, below, meth, c⟩ ⟨hx, hb, hml, hown, -, -, hts, -⟩
  exact fun H ls locs cells slots QQ hl kk => lv_iload hx hb hd (hl.2.2.2 _ _ hv) (kk ls hl)
theorem ag_lload_n {n : Fin 4} {v : Int64} (hd : decode e.2.1 pc = .ok (.lload_n n, 1)) (hv : lv[(n : Nat)]? = some (some (.long v))) (k : am_G g l e d Q (pc + 1) lv (.long v :: st) h) : am_G g l e d Q pc lv (st) h := by
  refine am_pure ?_ k
  rintro ⟨p, l', e', R, s, m, args, below, meth, c⟩ ⟨hx, hb, hml, hown, -, -, hts, -⟩
  exact fun H ls locs cells slots QQ hl kk => lv_lload_n hx hb hd rfl (hl.2.2.2 _ _ hv) (kk ls hl)
theorem ag_lload {n : Nat} {v : Int64} (hd : decode e.2.1 pc = .ok (.lload n, 2)) (hv : lv[n]? = some (some (.long v))) (k : am_G g l e d Q (pc + 2) lv (.long v :: st) h) : am_G g l e d Q pc lv (st) h := by
  refine am_pure ?_ k
  rintro ⟨p, l', e', R, s, m, args, below, meth, c⟩ ⟨hx, hb, hml, hown, -, -, hts, -⟩
  exact fun H ls locs cells slots QQ hl kk => lv_lload hx hb hd (hl.2.2.2 _ _ hv) (kk ls hl)
theorem ag_aload_n {n : Fin 4} {v : Value} (hd : decode e.2.1 pc = .ok (.aload_n n, 1)) (hv : lv[(n : Nat)]? = some (some v)) (hr : v = .null ∨ ∃ a : Nat, v = .ref a) (k : am_G g l e d Q (pc + 1) lv (v :: st) h) : am_G g l e d Q pc lv (st) h := by
  rcases hr with rfl | ⟨a, rfl⟩
  · refine am_pure ?_ k
    rintro ⟨p, l', e', R, s, m, args, below, meth, c⟩ ⟨hx, hb, hml, hown, -, -, hts, -⟩
    exact fun H ls locs cells slots QQ hl kk => lv_aload_nN hx hb hd rfl (hl.2.2.2 _ _ hv) (kk ls hl)
  · refine am_pure ?_ k
    rintro ⟨p, l', e', R, s, m, args, below, meth, c⟩ ⟨hx, hb, hml, hown, -, -, hts, -⟩
    exact fun H ls locs cells slots QQ hl kk => lv_aload_n hx hb hd rfl (hl.2.2.2 _ _ hv) (kk ls hl)
theorem ag_aload {n : Nat} {v : Value} (hd : decode e.2.1 pc = .ok (.aload n, 2)) (hv : lv[n]? = some (some v)) (hr : v = .null ∨ ∃ a : Nat, v = .ref a) (k : am_G g l e d Q (pc + 2) lv (v :: st) h) : am_G g l e d Q pc lv (st) h := by
  rcases hr with rfl | ⟨a, rfl⟩
  · refine am_pure ?_ k
    rintro ⟨p, l', e', R, s, m, args, below, meth, c⟩ ⟨hx, hb, hml, hown, -, -, hts, -⟩
    exact fun H ls locs cells slots QQ hl kk => lv_aloadN hx hb hd (hl.2.2.2 _ _ hv) (kk ls hl)
  · refine am_pure ?_ k
    rintro ⟨p, l', e', R, s, m, args, below, meth, c⟩ ⟨hx, hb, hml, hown, -, -, hts, -⟩
    exact fun H ls locs cells slots QQ hl kk => lv_aload hx hb hd (hl.2.2.2 _ _ hv) (kk ls hl)
theorem ag_istore_n {n : Fin 4} {v : Int32} {lv2 : am_L} (hd : decode e.2.1 pc = .ok (.istore_n n, 1)) (hn : (n : Nat) < lv.length) (h2 : am_st1 lv n (some (.int v)) = lv2) (k : am_G g l e d Q (pc + 1) lv2 (st) h) : am_G g l e d Q pc lv (.int v :: st) h := by
  refine am_pure ?_ k
  rintro ⟨p, l', e', R, s, m, args, below, meth, c⟩ ⟨hx, hb, hml, hown, -, -, hts, -⟩
  exact fun H ls locs cells slots QQ hl kk => lv_istore_n hx hb hd rfl hl.has (hl.2.2.1 ▸ hn) rfl fun ls' h' => kk ls' (h2 ▸ am_st1_lv hl.2.2.1 h')
theorem ag_istore {n : Nat} {v : Int32} {lv2 : am_L} (hd : decode e.2.1 pc = .ok (.istore n, 2)) (hn : n < lv.length) (h2 : am_st1 lv n (some (.int v)) = lv2) (k : am_G g l e d Q (pc + 2) lv2 (st) h) : am_G g l e d Q pc lv (.int v :: st) h := by
  refine am_pure ?_ k
  rintro ⟨p, l', e', R, s, m, args, below, meth, c⟩ ⟨hx, hb, hml, hown, -, -, hts, -⟩
  exact fun H ls locs cells slots QQ hl kk => lv_istore hx hb hd hl.has (hl.2.2.1 ▸ hn) rfl fun ls' h' => kk ls' (h2 ▸ am_st1_lv hl.2.2.1 h')
theorem ag_lstore {n : Nat} {v : Int64} {lv2 : am_L} (hd : decode e.2.1 pc = .ok (.lstore n, 2)) (hn : n + 1 < lv.length) (h2 : am_st2 lv n (some (.long v)) = lv2) (k : am_G g l e d Q (pc + 2) lv2 (st) h) : am_G g l e d Q pc lv (.long v :: st) h := by
  refine am_pure ?_ k
  rintro ⟨p, l', e', R, s, m, args, below, meth, c⟩ ⟨hx, hb, hml, hown, -, -, hts, -⟩
  exact fun H ls locs cells slots QQ hl kk => lv_lstore hx hb hd hl.has (hl.2.2.1 ▸ hn) rfl fun ls' h' => kk ls' (h2 ▸ am_st2_lv hl.2.2.1 h')
theorem ag_astore_n {n : Fin 4} {v : Value} {lv2 : am_L} (hd : decode e.2.1 pc = .ok (.astore_n n, 1)) (hn : (n : Nat) < lv.length) (h2 : am_st1 lv n (some v) = lv2) (hr : v = .null ∨ ∃ a : Nat, v = .ref a) (k : am_G g l e d Q (pc + 1) lv2 (st) h) : am_G g l e d Q pc lv (v :: st) h := by
  rcases hr with rfl | ⟨a, rfl⟩
  · refine am_pure ?_ k
    rintro ⟨p, l', e', R, s, m, args, below, meth, c⟩ ⟨hx, hb, hml, hown, -, -, hts, -⟩
    exact fun H ls locs cells slots QQ hl kk => lv_astore_nN hx hb hd rfl hl.has (hl.2.2.1 ▸ hn) rfl fun ls' h' => kk ls' (h2 ▸ am_st1_lv (w := .null) hl.2.2.1 h')
  · refine am_pure ?_ k
    rintro ⟨p, l', e', R, s, m, args, below, meth, c⟩ ⟨hx, hb, hml, hown, -, -, hts, -⟩
    exact fun H ls locs cells slots QQ hl kk => lv_astore_n hx hb hd rfl hl.has (hl.2.2.1 ▸ hn) rfl fun ls' h' => kk ls' (h2 ▸ am_st1_lv (w := .ref a) hl.2.2.1 h')
theorem ag_astore {n : Nat} {v : Value} {lv2 : am_L} (hd : decode e.2.1 pc = .ok (.astore n, 2)) (hn : n < lv.length) (h2 : am_st1 lv n (some v) = lv2) (hr : v = .null ∨ ∃ a : Nat, v = .ref a) (k : am_G g l e d Q (pc + 2) lv2 (st) h) : am_G g l e d Q pc lv (v :: st) h := by
  rcases hr with rfl | ⟨a, rfl⟩
  · refine am_pure ?_ k
    rintro ⟨p, l', e', R, s, m, args, below, meth, c⟩ ⟨hx, hb, hml, hown, -, -, hts, -⟩
    exact fun H ls locs cells slots QQ hl kk => lv_astoreN hx hb hd hl.has (hl.2.2.1 ▸ hn) rfl fun ls' h' => kk ls' (h2 ▸ am_st1_lv (w := .null) hl.2.2.1 h')
  · refine am_pure ?_ k
    rintro ⟨p, l', e', R, s, m, args, below, meth, c⟩ ⟨hx, hb, hml, hown, -, -, hts, -⟩
    exact fun H ls locs cells slots QQ hl kk => lv_astore hx hb hd hl.has (hl.2.2.1 ▸ hn) rfl fun ls' h' => kk ls' (h2 ▸ am_st1_lv (w := .ref a) hl.2.2.1 h')
theorem am_pr_get {lv : am_L} {i : Nat} {v : Value} (hv : lv[i]? = some (some v)) : ∃ k : Nat, (am_pr g lv)[k]? = some (i, am_tv g v) := List.getElem?_of_mem (am_pr_mem hv)
theorem ag_iinc {n : Nat} {z : Int} {v v2 : Int32} {lv2 : am_L} (hd : decode e.2.1 pc = .ok (.iinc n z, 3)) (hv : lv[n]? = some (some (.int v))) (h1 : v + Int32.ofInt z = v2) (h2 : am_st1 lv n (some (.int v2)) = lv2) (k : am_G g l e d Q (pc + 3) lv2 st h) : am_G g l e d Q pc lv st h := by
  obtain ⟨j, hj⟩ := am_pr_get (g := g) hv
  refine am_pure ?_ k
  rintro ⟨p, l', e', R, s, m, args, below, meth, c⟩ ⟨hx, hb, hml, hown, -, -, hts, -⟩
  exact fun H ls locs cells slots QQ hl kk => lv_iinc hx hb hd hl.has hj h1 (hl.2.2.1 ▸ (List.getElem?_eq_some_iff.mp hv).1) rfl fun ls' h' => kk ls' (h2 ▸ am_st1_lv hl.2.2.1 h')
theorem ag_iadd {a b v : Int32} (hd : decode e.2.1 pc = .ok (.iadd, 1)) (hv : a + b = v) (k : am_G g l e d Q (pc + 1) lv (.int v :: st) h) : am_G g l e d Q pc lv (.int b :: .int a :: st) h := by
  refine am_pure ?_ k
  rintro ⟨p, l', e', R, s, m, args, below, meth, c⟩ ⟨hx, hb, hml, hown, -, -, hts, -⟩
  exact fun H ls locs cells slots QQ hl kk => by subst hv; exact lv_iadd hx hb hd (kk ls hl)
theorem ag_isub {a b v : Int32} (hd : decode e.2.1 pc = .ok (.isub, 1)) (hv : a - b = v) (k : am_G g l e d Q (pc + 1) lv (.int v :: st) h) : am_G g l e d Q pc lv (.int b :: .int a :: st) h := by
  refine am_pure ?_ k
  rintro ⟨p, l', e', R, s, m, args, below, meth, c⟩ ⟨hx, hb, hml, hown, -, -, hts, -⟩
  exact fun H ls locs cells slots QQ hl kk => by subst hv; exact lv_isub hx hb hd (kk ls hl)
theorem ag_imul {a b v : Int32} (hd : decode e.2.1 pc = .ok (.imul, 1)) (hv : a * b = v) (k : am_G g l e d Q (pc + 1) lv (.int v :: st) h) : am_G g l e d Q pc lv (.int b :: .int a :: st) h := by
  refine am_pure ?_ k
  rintro ⟨p, l', e', R, s, m, args, below, meth, c⟩ ⟨hx, hb, hml, hown, -, -, hts, -⟩
  exact fun H ls locs cells slots QQ hl kk => by subst hv; exact lv_imul hx hb hd (kk ls hl)
theorem ag_iand {a b v : Int32} (hd : decode e.2.1 pc = .ok (.iand, 1)) (hv : a &&& b = v) (k : am_G g l e d Q (pc + 1) lv (.int v :: st) h) : am_G g l e d Q pc lv (.int b :: .int a :: st) h := by
  refine am_pure ?_ k
  rintro ⟨p, l', e', R, s, m, args, below, meth, c⟩ ⟨hx, hb, hml, hown, -, -, hts, -⟩
  exact fun H ls locs cells slots QQ hl kk => by subst hv; exact lv_iand hx hb hd (kk ls hl)
theorem ag_ior {a b v : Int32} (hd : decode e.2.1 pc = .ok (.ior, 1)) (hv : a ||| b = v) (k : am_G g l e d Q (pc + 1) lv (.int v :: st) h) : am_G g l e d Q pc lv (.int b :: .int a :: st) h := by
  refine am_pure ?_ k
  rintro ⟨p, l', e', R, s, m, args, below, meth, c⟩ ⟨hx, hb, hml, hown, -, -, hts, -⟩
  exact fun H ls locs cells slots QQ hl kk => by subst hv; exact lv_ior hx hb hd (kk ls hl)
theorem ag_ixor {a b v : Int32} (hd : decode e.2.1 pc = .ok (.ixor, 1)) (hv : a ^^^ b = v) (k : am_G g l e d Q (pc + 1) lv (.int v :: st) h) : am_G g l e d Q pc lv (.int b :: .int a :: st) h := by
  refine am_pure ?_ k
  rintro ⟨p, l', e', R, s, m, args, below, meth, c⟩ ⟨hx, hb, hml, hown, -, -, hts, -⟩
  exact fun H ls locs cells slots QQ hl kk => by subst hv; exact lv_ixor hx hb hd (kk ls hl)
theorem ag_land {a b v : Int64} (hd : decode e.2.1 pc = .ok (.land, 1)) (hv : a &&& b = v) (k : am_G g l e d Q (pc + 1) lv (.long v :: st) h) : am_G g l e d Q pc lv (.long b :: .long a :: st) h := by
  refine am_pure ?_ k
  rintro ⟨p, l', e', R, s, m, args, below, meth, c⟩ ⟨hx, hb, hml, hown, -, -, hts, -⟩
  exact fun H ls locs cells slots QQ hl kk => by subst hv; exact lv_land hx hb hd (kk ls hl)
theorem ag_lor {a b v : Int64} (hd : decode e.2.1 pc = .ok (.lor, 1)) (hv : a ||| b = v) (k : am_G g l e d Q (pc + 1) lv (.long v :: st) h) : am_G g l e d Q pc lv (.long b :: .long a :: st) h := by
  refine am_pure ?_ k
  rintro ⟨p, l', e', R, s, m, args, below, meth, c⟩ ⟨hx, hb, hml, hown, -, -, hts, -⟩
  exact fun H ls locs cells slots QQ hl kk => by subst hv; exact lv_lor hx hb hd (kk ls hl)
theorem ag_lxor {a b v : Int64} (hd : decode e.2.1 pc = .ok (.lxor, 1)) (hv : a ^^^ b = v) (k : am_G g l e d Q (pc + 1) lv (.long v :: st) h) : am_G g l e d Q pc lv (.long b :: .long a :: st) h := by
  refine am_pure ?_ k
  rintro ⟨p, l', e', R, s, m, args, below, meth, c⟩ ⟨hx, hb, hml, hown, -, -, hts, -⟩
  exact fun H ls locs cells slots QQ hl kk => by subst hv; exact lv_lxor hx hb hd (kk ls hl)
theorem ag_ladd {a b v : Int64} (hd : decode e.2.1 pc = .ok (.ladd, 1)) (hv : a + b = v) (k : am_G g l e d Q (pc + 1) lv (.long v :: st) h) : am_G g l e d Q pc lv (.long b :: .long a :: st) h := by
  refine am_pure ?_ k
  rintro ⟨p, l', e', R, s, m, args, below, meth, c⟩ ⟨hx, hb, hml, hown, -, -, hts, -⟩
  exact fun H ls locs cells slots QQ hl kk => by subst hv; exact lv_ladd hx hb hd (kk ls hl)
theorem ag_lsub {a b v : Int64} (hd : decode e.2.1 pc = .ok (.lsub, 1)) (hv : a - b = v) (k : am_G g l e d Q (pc + 1) lv (.long v :: st) h) : am_G g l e d Q pc lv (.long b :: .long a :: st) h := by
  refine am_pure ?_ k
  rintro ⟨p, l', e', R, s, m, args, below, meth, c⟩ ⟨hx, hb, hml, hown, -, -, hts, -⟩
  exact fun H ls locs cells slots QQ hl kk => by subst hv; exact lv_lsub hx hb hd (kk ls hl)
theorem ag_idiv {a b v : Int32} (hd : decode e.2.1 pc = .ok (.idiv, 1)) (hne : ¬ b = 0) (hv : a / b = v) (k : am_G g l e d Q (pc + 1) lv (.int v :: st) h) : am_G g l e d Q pc lv (.int b :: .int a :: st) h := by
  refine am_pure ?_ k
  rintro ⟨p, l', e', R, s, m, args, below, meth, c⟩ ⟨hx, hb, hml, hown, -, -, hts, -⟩
  exact fun H ls locs cells slots QQ hl kk => by subst hv; exact lv_idiv hx hb hd hne (kk ls hl)
theorem ag_irem {a b v : Int32} (hd : decode e.2.1 pc = .ok (.irem, 1)) (hne : ¬ b = 0) (hv : a - a / b * b = v) (k : am_G g l e d Q (pc + 1) lv (.int v :: st) h) : am_G g l e d Q pc lv (.int b :: .int a :: st) h := by
  refine am_pure ?_ k
  rintro ⟨p, l', e', R, s, m, args, below, meth, c⟩ ⟨hx, hb, hml, hown, -, -, hts, -⟩
  exact fun H ls locs cells slots QQ hl kk => by subst hv; exact lv_irem hx hb hd hne (kk ls hl)
theorem ag_ishl {a b v : Int32} (hd : decode e.2.1 pc = .ok (.ishl, 1)) (hv : a <<< (b &&& 31) = v) (k : am_G g l e d Q (pc + 1) lv (.int v :: st) h) : am_G g l e d Q pc lv (.int b :: .int a :: st) h := by
  refine am_pure ?_ k
  rintro ⟨p, l', e', R, s, m, args, below, meth, c⟩ ⟨hx, hb, hml, hown, -, -, hts, -⟩
  exact fun H ls locs cells slots QQ hl kk => by subst hv; exact lv_ishl hx hb hd (kk ls hl)
theorem ag_ishr {a b v : Int32} (hd : decode e.2.1 pc = .ok (.ishr, 1)) (hv : a >>> (b &&& 31) = v) (k : am_G g l e d Q (pc + 1) lv (.int v :: st) h) : am_G g l e d Q pc lv (.int b :: .int a :: st) h := by
  refine am_pure ?_ k
  rintro ⟨p, l', e', R, s, m, args, below, meth, c⟩ ⟨hx, hb, hml, hown, -, -, hts, -⟩
  exact fun H ls locs cells slots QQ hl kk => by subst hv; exact lv_ishr hx hb hd (kk ls hl)
theorem ag_lshl {a v : Int64} {b : Int32} (hd : decode e.2.1 pc = .ok (.lshl, 1)) (hv : a <<< (b.toInt64 &&& 63) = v) (k : am_G g l e d Q (pc + 1) lv (.long v :: st) h) : am_G g l e d Q pc lv (.int b :: .long a :: st) h := by
  refine am_pure ?_ k
  rintro ⟨p, l', e', R, s, m, args, below, meth, c⟩ ⟨hx, hb, hml, hown, -, -, hts, -⟩
  exact fun H ls locs cells slots QQ hl kk => lv_lshl hx hb hd hv (kk ls hl)
theorem ag_lshr {a v : Int64} {b : Int32} (hd : decode e.2.1 pc = .ok (.lshr, 1)) (hv : a >>> (b.toInt64 &&& 63) = v) (k : am_G g l e d Q (pc + 1) lv (.long v :: st) h) : am_G g l e d Q pc lv (.int b :: .long a :: st) h := by
  refine am_pure ?_ k
  rintro ⟨p, l', e', R, s, m, args, below, meth, c⟩ ⟨hx, hb, hml, hown, -, -, hts, -⟩
  exact fun H ls locs cells slots QQ hl kk => lv_lshr hx hb hd hv (kk ls hl)
theorem ag_lushr {a v : Int64} {b : Int32} (hd : decode e.2.1 pc = .ok (.lushr, 1)) (hv : (a.toUInt64 >>> (b.toInt64.toUInt64 &&& Int64.toUInt64 63)).toInt64 = v) (k : am_G g l e d Q (pc + 1) lv (.long v :: st) h) : am_G g l e d Q pc lv (.int b :: .long a :: st) h := by
  refine am_pure ?_ k
  rintro ⟨p, l', e', R, s, m, args, below, meth, c⟩ ⟨hx, hb, hml, hown, -, -, hts, -⟩
  exact fun H ls locs cells slots QQ hl kk => lv_lushr hx hb hd hv (kk ls hl)
theorem ag_i2l {a : Int32} {v : Int64} (hd : decode e.2.1 pc = .ok (.i2l, 1)) (hv : a.toInt64 = v) (k : am_G g l e d Q (pc + 1) lv (.long v :: st) h) : am_G g l e d Q pc lv (.int a :: st) h := by
  refine am_pure ?_ k
  rintro ⟨p, l', e', R, s, m, args, below, meth, c⟩ ⟨hx, hb, hml, hown, -, -, hts, -⟩
  exact fun H ls locs cells slots QQ hl kk => lv_i2l hx hb hd hv (kk ls hl)
theorem ag_l2i {a : Int64} {v : Int32} (hd : decode e.2.1 pc = .ok (.l2i, 1)) (hv : a.toInt32 = v) (k : am_G g l e d Q (pc + 1) lv (.int v :: st) h) : am_G g l e d Q pc lv (.long a :: st) h := by
  refine am_pure ?_ k
  rintro ⟨p, l', e', R, s, m, args, below, meth, c⟩ ⟨hx, hb, hml, hown, -, -, hts, -⟩
  exact fun H ls locs cells slots QQ hl kk => lv_l2i hx hb hd hv (kk ls hl)
theorem ag_i2c {a : Int32} {v : Int32} (hd : decode e.2.1 pc = .ok (.i2c, 1)) (hv : (a.toUInt32 % 65536).toInt32 = v) (k : am_G g l e d Q (pc + 1) lv (.int v :: st) h) : am_G g l e d Q pc lv (.int a :: st) h := by
  refine am_pure ?_ k
  rintro ⟨p, l', e', R, s, m, args, below, meth, c⟩ ⟨hx, hb, hml, hown, -, -, hts, -⟩
  exact fun H ls locs cells slots QQ hl kk => lv_i2c hx hb hd hv (kk ls hl)
theorem ag_dup {v : Value} (hd : decode e.2.1 pc = .ok (.dup, 1)) (hc : v.category = 1) (k : am_G g l e d Q (pc + 1) lv (v :: v :: st) h) : am_G g l e d Q pc lv (v :: st) h := by
  refine am_pure ?_ k
  rintro ⟨p, l', e', R, s, m, args, below, meth, c⟩ ⟨hx, hb, hml, hown, -, -, hts, -⟩
  exact fun H ls locs cells slots QQ hl kk => lv_dup hx hb hd (by rw [am_tv_cat]; exact hc) (kk ls hl)
theorem ag_dup2 {v w : Value} (hd : decode e.2.1 pc = .ok (.dup2, 1)) (hv : v.category = 1) (hw : w.category = 1) (k : am_G g l e d Q (pc + 1) lv (v :: w :: v :: w :: st) h) : am_G g l e d Q pc lv (v :: w :: st) h := by
  refine am_pure ?_ k
  rintro ⟨p, l', e', R, s, m, args, below, meth, c⟩ ⟨hx, hb, hml, hown, -, -, hts, -⟩
  exact fun H ls locs cells slots QQ hl kk => lv_dup2_11 hx hb hd (by rw [am_tv_cat]; exact hv) (by rw [am_tv_cat]; exact hw) (kk ls hl)
theorem ag_pop {v : Value} (hd : decode e.2.1 pc = .ok (.pop, 1)) (hc : v.category = 1) (k : am_G g l e d Q (pc + 1) lv (st) h) : am_G g l e d Q pc lv (v :: st) h := by
  refine am_pure ?_ k
  rintro ⟨p, l', e', R, s, m, args, below, meth, c⟩ ⟨hx, hb, hml, hown, -, -, hts, -⟩
  exact fun H ls locs cells slots QQ hl kk => lv_pop hx hb hd (by rw [am_tv_cat]; exact hc) (kk ls hl)
theorem ag_goto {off : Int} {tgt : Nat} (hd : decode e.2.1 pc = .ok (.goto off, 3)) (ht : (pc : Int) + off = (tgt : Int)) (k : am_G g l e d Q (tgt) lv (st) h) : am_G g l e d Q pc lv (st) h := by
  refine am_pure ?_ k
  rintro ⟨p, l', e', R, s, m, args, below, meth, c⟩ ⟨hx, hb, hml, hown, -, -, hts, -⟩
  exact fun H ls locs cells slots QQ hl kk => lv_goto hx hb hd ht (kk ls hl)
theorem ag_ifnull_r {off : Int} {a : Nat} (hd : decode e.2.1 pc = .ok (.ifnull off, 3)) (k : am_G g l e d Q (pc + 3) lv (st) h) : am_G g l e d Q pc lv (.ref a :: st) h := by
  refine am_pure ?_ k
  rintro ⟨p, l', e', R, s, m, args, below, meth, c⟩ ⟨hx, hb, hml, hown, -, -, hts, -⟩
  exact fun H ls locs cells slots QQ hl kk => lv_ifnull hx hb hd (kk ls hl)
theorem ag_ifnull_n {off : Int} {tgt : Nat} (hd : decode e.2.1 pc = .ok (.ifnull off, 3)) (ht : (pc : Int) + off = (tgt : Int)) (k : am_G g l e d Q (tgt) lv (st) h) : am_G g l e d Q pc lv (.null :: st) h := by
  refine am_pure ?_ k
  rintro ⟨p, l', e', R, s, m, args, below, meth, c⟩ ⟨hx, hb, hml, hown, -, -, hts, -⟩
  exact fun H ls locs cells slots QQ hl kk => lv_ifnullN hx hb hd ht (kk ls hl)
theorem ag_ifnonnull_r {off : Int} {a tgt : Nat} (hd : decode e.2.1 pc = .ok (.ifnonnull off, 3)) (ht : (pc : Int) + off = (tgt : Int)) (k : am_G g l e d Q (tgt) lv (st) h) : am_G g l e d Q pc lv (.ref a :: st) h := by
  refine am_pure ?_ k
  rintro ⟨p, l', e', R, s, m, args, below, meth, c⟩ ⟨hx, hb, hml, hown, -, -, hts, -⟩
  exact fun H ls locs cells slots QQ hl kk => lv_ifnonnull hx hb hd ht (kk ls hl)
theorem ag_ifnonnull_n {off : Int} (hd : decode e.2.1 pc = .ok (.ifnonnull off, 3)) (k : am_G g l e d Q (pc + 3) lv (st) h) : am_G g l e d Q pc lv (.null :: st) h := by
  refine am_pure ?_ k
  rintro ⟨p, l', e', R, s, m, args, below, meth, c⟩ ⟨hx, hb, hml, hown, -, -, hts, -⟩
  exact fun H ls locs cells slots QQ hl kk => lv_ifnonnullN hx hb hd (kk ls hl)
theorem ag_if_eq {a : Int32} {off : Int} {tgt : Nat} (hd : decode e.2.1 pc = .ok (.ifCond .eq off, 3)) (ht : (pc : Int) + off = (tgt : Int)) (kt : a = 0 → am_G g l e d Q tgt lv st h) (kf : ¬ a = 0 → am_G g l e d Q (pc + 3) lv st h) : am_G g l e d Q pc lv (.int a :: st) h := by
  by_cases hc : a = 0
  · refine am_pure ?_ (kt hc)
    rintro ⟨p, l', e', R, s, m, args, below, meth, c⟩ ⟨hx, hb, hml, hown, -, -, hts, -⟩
    exact fun H ls locs cells slots QQ hl kk => lv_if_eq hx hb hd ht (fun _ => kk ls hl) (fun q => absurd hc q)
  · refine am_pure ?_ (kf hc)
    rintro ⟨p, l', e', R, s, m, args, below, meth, c⟩ ⟨hx, hb, hml, hown, -, -, hts, -⟩
    exact fun H ls locs cells slots QQ hl kk => lv_if_eq hx hb hd ht (fun q => absurd q hc) (fun _ => kk ls hl)
theorem ag_icmp_eq {a b : Int32} {off : Int} {tgt : Nat} (hd : decode e.2.1 pc = .ok (.if_icmp .eq off, 3)) (ht : (pc : Int) + off = (tgt : Int)) (kt : a = b → am_G g l e d Q tgt lv st h) (kf : ¬ a = b → am_G g l e d Q (pc + 3) lv st h) : am_G g l e d Q pc lv (.int b :: .int a :: st) h := by
  by_cases hc : a = b
  · refine am_pure ?_ (kt hc)
    rintro ⟨p, l', e', R, s, m, args, below, meth, c⟩ ⟨hx, hb, hml, hown, -, -, hts, -⟩
    exact fun H ls locs cells slots QQ hl kk => lv_icmp_eq hx hb hd ht (fun _ => kk ls hl) (fun q => absurd hc q)
  · refine am_pure ?_ (kf hc)
    rintro ⟨p, l', e', R, s, m, args, below, meth, c⟩ ⟨hx, hb, hml, hown, -, -, hts, -⟩
    exact fun H ls locs cells slots QQ hl kk => lv_icmp_eq hx hb hd ht (fun q => absurd q hc) (fun _ => kk ls hl)
theorem ag_if_ne {a : Int32} {off : Int} {tgt : Nat} (hd : decode e.2.1 pc = .ok (.ifCond .ne off, 3)) (ht : (pc : Int) + off = (tgt : Int)) (kt : ¬ a = 0 → am_G g l e d Q tgt lv st h) (kf : a = 0 → am_G g l e d Q (pc + 3) lv st h) : am_G g l e d Q pc lv (.int a :: st) h := by
  by_cases hc : ¬ a = 0
  · refine am_pure ?_ (kt hc)
    rintro ⟨p, l', e', R, s, m, args, below, meth, c⟩ ⟨hx, hb, hml, hown, -, -, hts, -⟩
    exact fun H ls locs cells slots QQ hl kk => lv_if_ne hx hb hd ht (fun _ => kk ls hl) (fun q => absurd q hc)
  · refine am_pure ?_ (kf (Decidable.not_not.mp hc))
    rintro ⟨p, l', e', R, s, m, args, below, meth, c⟩ ⟨hx, hb, hml, hown, -, -, hts, -⟩
    exact fun H ls locs cells slots QQ hl kk => lv_if_ne hx hb hd ht (fun q => absurd q hc) (fun _ => kk ls hl)
theorem ag_icmp_ne {a b : Int32} {off : Int} {tgt : Nat} (hd : decode e.2.1 pc = .ok (.if_icmp .ne off, 3)) (ht : (pc : Int) + off = (tgt : Int)) (kt : ¬ a = b → am_G g l e d Q tgt lv st h) (kf : a = b → am_G g l e d Q (pc + 3) lv st h) : am_G g l e d Q pc lv (.int b :: .int a :: st) h := by
  by_cases hc : ¬ a = b
  · refine am_pure ?_ (kt hc)
    rintro ⟨p, l', e', R, s, m, args, below, meth, c⟩ ⟨hx, hb, hml, hown, -, -, hts, -⟩
    exact fun H ls locs cells slots QQ hl kk => lv_icmp_ne hx hb hd ht (fun _ => kk ls hl) (fun q => absurd q hc)
  · refine am_pure ?_ (kf (Decidable.not_not.mp hc))
    rintro ⟨p, l', e', R, s, m, args, below, meth, c⟩ ⟨hx, hb, hml, hown, -, -, hts, -⟩
    exact fun H ls locs cells slots QQ hl kk => lv_icmp_ne hx hb hd ht (fun q => absurd q hc) (fun _ => kk ls hl)
theorem ag_if_lt {a : Int32} {off : Int} {tgt : Nat} (hd : decode e.2.1 pc = .ok (.ifCond .lt off, 3)) (ht : (pc : Int) + off = (tgt : Int)) (kt : a < 0 → am_G g l e d Q tgt lv st h) (kf : ¬ a < 0 → am_G g l e d Q (pc + 3) lv st h) : am_G g l e d Q pc lv (.int a :: st) h := by
  by_cases hc : a < 0
  · refine am_pure ?_ (kt hc)
    rintro ⟨p, l', e', R, s, m, args, below, meth, c⟩ ⟨hx, hb, hml, hown, -, -, hts, -⟩
    exact fun H ls locs cells slots QQ hl kk => lv_if_lt hx hb hd ht (fun _ => kk ls hl) (fun q => absurd hc q)
  · refine am_pure ?_ (kf hc)
    rintro ⟨p, l', e', R, s, m, args, below, meth, c⟩ ⟨hx, hb, hml, hown, -, -, hts, -⟩
    exact fun H ls locs cells slots QQ hl kk => lv_if_lt hx hb hd ht (fun q => absurd q hc) (fun _ => kk ls hl)
theorem ag_icmp_lt {a b : Int32} {off : Int} {tgt : Nat} (hd : decode e.2.1 pc = .ok (.if_icmp .lt off, 3)) (ht : (pc : Int) + off = (tgt : Int)) (kt : a < b → am_G g l e d Q tgt lv st h) (kf : ¬ a < b → am_G g l e d Q (pc + 3) lv st h) : am_G g l e d Q pc lv (.int b :: .int a :: st) h := by
  by_cases hc : a < b
  · refine am_pure ?_ (kt hc)
    rintro ⟨p, l', e', R, s, m, args, below, meth, c⟩ ⟨hx, hb, hml, hown, -, -, hts, -⟩
    exact fun H ls locs cells slots QQ hl kk => lv_icmp_lt hx hb hd ht (fun _ => kk ls hl) (fun q => absurd hc q)
  · refine am_pure ?_ (kf hc)
    rintro ⟨p, l', e', R, s, m, args, below, meth, c⟩ ⟨hx, hb, hml, hown, -, -, hts, -⟩
    exact fun H ls locs cells slots QQ hl kk => lv_icmp_lt hx hb hd ht (fun q => absurd q hc) (fun _ => kk ls hl)
theorem ag_if_ge {a : Int32} {off : Int} {tgt : Nat} (hd : decode e.2.1 pc = .ok (.ifCond .ge off, 3)) (ht : (pc : Int) + off = (tgt : Int)) (kt : 0 ≤ a → am_G g l e d Q tgt lv st h) (kf : ¬ 0 ≤ a → am_G g l e d Q (pc + 3) lv st h) : am_G g l e d Q pc lv (.int a :: st) h := by
  by_cases hc : 0 ≤ a
  · refine am_pure ?_ (kt hc)
    rintro ⟨p, l', e', R, s, m, args, below, meth, c⟩ ⟨hx, hb, hml, hown, -, -, hts, -⟩
    exact fun H ls locs cells slots QQ hl kk => lv_if_ge hx hb hd ht (fun _ => kk ls hl) (fun q => absurd hc q)
  · refine am_pure ?_ (kf hc)
    rintro ⟨p, l', e', R, s, m, args, below, meth, c⟩ ⟨hx, hb, hml, hown, -, -, hts, -⟩
    exact fun H ls locs cells slots QQ hl kk => lv_if_ge hx hb hd ht (fun q => absurd q hc) (fun _ => kk ls hl)
theorem ag_icmp_ge {a b : Int32} {off : Int} {tgt : Nat} (hd : decode e.2.1 pc = .ok (.if_icmp .ge off, 3)) (ht : (pc : Int) + off = (tgt : Int)) (kt : b ≤ a → am_G g l e d Q tgt lv st h) (kf : ¬ b ≤ a → am_G g l e d Q (pc + 3) lv st h) : am_G g l e d Q pc lv (.int b :: .int a :: st) h := by
  by_cases hc : b ≤ a
  · refine am_pure ?_ (kt hc)
    rintro ⟨p, l', e', R, s, m, args, below, meth, c⟩ ⟨hx, hb, hml, hown, -, -, hts, -⟩
    exact fun H ls locs cells slots QQ hl kk => lv_icmp_ge hx hb hd ht (fun _ => kk ls hl) (fun q => absurd hc q)
  · refine am_pure ?_ (kf hc)
    rintro ⟨p, l', e', R, s, m, args, below, meth, c⟩ ⟨hx, hb, hml, hown, -, -, hts, -⟩
    exact fun H ls locs cells slots QQ hl kk => lv_icmp_ge hx hb hd ht (fun q => absurd q hc) (fun _ => kk ls hl)
theorem ag_if_gt {a : Int32} {off : Int} {tgt : Nat} (hd : decode e.2.1 pc = .ok (.ifCond .gt off, 3)) (ht : (pc : Int) + off = (tgt : Int)) (kt : 0 < a → am_G g l e d Q tgt lv st h) (kf : ¬ 0 < a → am_G g l e d Q (pc + 3) lv st h) : am_G g l e d Q pc lv (.int a :: st) h := by
  by_cases hc : 0 < a
  · refine am_pure ?_ (kt hc)
    rintro ⟨p, l', e', R, s, m, args, below, meth, c⟩ ⟨hx, hb, hml, hown, -, -, hts, -⟩
    exact fun H ls locs cells slots QQ hl kk => lv_if_gt hx hb hd ht (fun _ => kk ls hl) (fun q => absurd hc q)
  · refine am_pure ?_ (kf hc)
    rintro ⟨p, l', e', R, s, m, args, below, meth, c⟩ ⟨hx, hb, hml, hown, -, -, hts, -⟩
    exact fun H ls locs cells slots QQ hl kk => lv_if_gt hx hb hd ht (fun q => absurd q hc) (fun _ => kk ls hl)
theorem ag_icmp_gt {a b : Int32} {off : Int} {tgt : Nat} (hd : decode e.2.1 pc = .ok (.if_icmp .gt off, 3)) (ht : (pc : Int) + off = (tgt : Int)) (kt : b < a → am_G g l e d Q tgt lv st h) (kf : ¬ b < a → am_G g l e d Q (pc + 3) lv st h) : am_G g l e d Q pc lv (.int b :: .int a :: st) h := by
  by_cases hc : b < a
  · refine am_pure ?_ (kt hc)
    rintro ⟨p, l', e', R, s, m, args, below, meth, c⟩ ⟨hx, hb, hml, hown, -, -, hts, -⟩
    exact fun H ls locs cells slots QQ hl kk => lv_icmp_gt hx hb hd ht (fun _ => kk ls hl) (fun q => absurd hc q)
  · refine am_pure ?_ (kf hc)
    rintro ⟨p, l', e', R, s, m, args, below, meth, c⟩ ⟨hx, hb, hml, hown, -, -, hts, -⟩
    exact fun H ls locs cells slots QQ hl kk => lv_icmp_gt hx hb hd ht (fun q => absurd q hc) (fun _ => kk ls hl)
theorem ag_if_le {a : Int32} {off : Int} {tgt : Nat} (hd : decode e.2.1 pc = .ok (.ifCond .le off, 3)) (ht : (pc : Int) + off = (tgt : Int)) (kt : a ≤ 0 → am_G g l e d Q tgt lv st h) (kf : ¬ a ≤ 0 → am_G g l e d Q (pc + 3) lv st h) : am_G g l e d Q pc lv (.int a :: st) h := by
  by_cases hc : a ≤ 0
  · refine am_pure ?_ (kt hc)
    rintro ⟨p, l', e', R, s, m, args, below, meth, c⟩ ⟨hx, hb, hml, hown, -, -, hts, -⟩
    exact fun H ls locs cells slots QQ hl kk => lv_if_le hx hb hd ht (fun _ => kk ls hl) (fun q => absurd hc q)
  · refine am_pure ?_ (kf hc)
    rintro ⟨p, l', e', R, s, m, args, below, meth, c⟩ ⟨hx, hb, hml, hown, -, -, hts, -⟩
    exact fun H ls locs cells slots QQ hl kk => lv_if_le hx hb hd ht (fun q => absurd q hc) (fun _ => kk ls hl)
theorem ag_icmp_le {a b : Int32} {off : Int} {tgt : Nat} (hd : decode e.2.1 pc = .ok (.if_icmp .le off, 3)) (ht : (pc : Int) + off = (tgt : Int)) (kt : a ≤ b → am_G g l e d Q tgt lv st h) (kf : ¬ a ≤ b → am_G g l e d Q (pc + 3) lv st h) : am_G g l e d Q pc lv (.int b :: .int a :: st) h := by
  by_cases hc : a ≤ b
  · refine am_pure ?_ (kt hc)
    rintro ⟨p, l', e', R, s, m, args, below, meth, c⟩ ⟨hx, hb, hml, hown, -, -, hts, -⟩
    exact fun H ls locs cells slots QQ hl kk => lv_icmp_le hx hb hd ht (fun _ => kk ls hl) (fun q => absurd hc q)
  · refine am_pure ?_ (kf hc)
    rintro ⟨p, l', e', R, s, m, args, below, meth, c⟩ ⟨hx, hb, hml, hown, -, -, hts, -⟩
    exact fun H ls locs cells slots QQ hl kk => lv_icmp_le hx hb hd ht (fun q => absurd q hc) (fun _ => kk ls hl)
theorem ag_lcmp {a b : Int64} {v : Int32} (hd : decode e.2.1 pc = .ok (.lcmp, 1)) (hv : lg_cmp a b = v) (k : am_G g l e d Q (pc + 1) lv (.int v :: st) h) : am_G g l e d Q pc lv (.long b :: .long a :: st) h := by
  refine am_pure ?_ k
  rintro ⟨p, l', e', R, s, m, args, below, meth, c⟩ ⟨hx, hb, hml, hown, -, -, hts, -⟩
  exact fun H ls locs cells slots QQ hl kk => by subst hv; exact W.lcmp hx hb hd (kk ls hl)
theorem ag_lookup {dflt : Int} {ps : Array (Int × Int)} {len : Nat} {a : Int32} {off : Int} {tgt : Nat} (hd : decode e.2.1 pc = .ok (.lookupswitch dflt ps, len)) (hp : (ps.toList.zip (ps.toList.drop 1)).all (fun (a, next) => a.1 < next.1) = true) (ho : Op.lookupswitch.offset ps.toList dflt a.toInt = off) (ht : (pc : Int) + off = (tgt : Int)) (k : am_G g l e d Q (tgt) lv (st) h) : am_G g l e d Q pc lv (.int a :: st) h := by
  refine am_pure ?_ k
  rintro ⟨p, l', e', R, s, m, args, below, meth, c⟩ ⟨hx, hb, hml, hown, -, -, hts, -⟩
  exact fun H ls locs cells slots QQ hl kk => lv_lookup hx hb hd hp ho ht (kk ls hl)
theorem ag_tableOut {dflt lo hi : Int} {offs : Array Int} {len : Nat} {a : Int32} {tgt : Nat} (hd : decode e.2.1 pc = .ok (.tableswitch dflt lo hi offs, len)) (h1 : a.toInt < lo ∨ hi < a.toInt) (ht : (pc : Int) + dflt = (tgt : Int)) (k : am_G g l e d Q (tgt) lv (st) h) : am_G g l e d Q pc lv (.int a :: st) h := by
  refine am_pure ?_ k
  rintro ⟨p, l', e', R, s, m, args, below, meth, c⟩ ⟨hx, hb, hml, hown, -, -, hts, -⟩
  exact fun H ls locs cells slots QQ hl kk => lv_tableOut hx hb hd h1 ht (kk ls hl)
theorem ag_tableIn {dflt lo hi : Int} {offs : Array Int} {len : Nat} {a : Int32} {off : Int} {tgt : Nat} (hd : decode e.2.1 pc = .ok (.tableswitch dflt lo hi offs, len)) (h1 : ¬ a.toInt < lo) (h2 : ¬ hi < a.toInt) (ho : offs[(a.toInt - lo).toNat]? = some off) (ht : (pc : Int) + off = (tgt : Int)) (k : am_G g l e d Q (tgt) lv (st) h) : am_G g l e d Q pc lv (.int a :: st) h := by
  refine am_pure ?_ k
  rintro ⟨p, l', e', R, s, m, args, below, meth, c⟩ ⟨hx, hb, hml, hown, -, -, hts, -⟩
  exact fun H ls locs cells slots QQ hl kk => lv_tableIn hx hb hd h1 h2 ho ht (kk ls hl)
end AG
end
section
/-! Rows for reading and writing cells. -/
def am_wr (h : am_H) (a i : Nat) (v : Value) : am_H := (h.1, h.2.1, fun b => if b = a then ((h.2.2 a).1, (h.2.2 a).2.1, fun j => if j = i then v else (h.2.2 a).2.2 j) else h.2.2 b)
theorem am_ad_inj {g : am_P} (hg : g.2.1 < g.2.2) {a b : Nat} (h : am_ad g a = am_ad g b) : a = b := by
  cases a with
  | zero =>
    cases b with
    | zero => rfl
    | succ b => simp only [am_ad] at h; omega
  | succ a =>
    cases b with
    | zero => simp only [am_ad] at h; omega
    | succ b => simp only [am_ad] at h; omega
theorem am_ad_lt {g : am_P} {U : State} {h : am_H} {H : Heap} (hh : am_hold g U h H) {a : Nat} (ha : a < h.1) : am_ad g a < H.size := by
  obtain ⟨h1, h2, h3, -⟩ := hh
  cases a with
  | zero => simp only [am_ad]; omega
  | succ a => simp only [am_ad]; omega
theorem am_cell.kept {g : am_P} {U : State} {H H' : Heap} {a : Nat} {c : am_C} (h : am_cell g U H a c) (e : H'[am_ad g a]? = H[am_ad g a]?) : am_cell g U H' a c := by
  refine ⟨fun q => ?_, fun ty q => ?_⟩
  · obtain ⟨r, h1, h2, h3⟩ := h.1 q
    exact ⟨r, h1, h2, h3.kept e⟩
  · obtain ⟨cell, h1, h2⟩ := h.2 ty q
    exact ⟨cell, e.trans h1, h2⟩
/-- a cell is written, the others stay -/
theorem am_hold_wr {g : am_P} {U : State} {h : am_H} {H H' : Heap} {a i : Nat} {v : Value} (hh : am_hold g U h H) (hs : H'.size = H.size) (ho : ∀ q, q ≠ am_ad g a → H'[q]? = H[q]?)
    (hc : am_cell g U H' a ((h.2.2 a).1, (h.2.2 a).2.1, fun j => if j = i then v else (h.2.2 a).2.2 j)) : am_hold g U (am_wr h a i v) H' := by
  obtain ⟨h1, h2, h3, h4⟩ := hh
  refine ⟨h1, by rw [hs]; exact h2, h3, fun b hb => ?_⟩
  by_cases e : b = a
  · subst e
    show am_cell g U H' b (if b = b then _ else _)
    rw [if_pos rfl]
    exact hc
  · show am_cell g U H' b (if b = a then _ else _)
    rw [if_neg e]
    exact (h4 b hb).kept (ho _ fun q => e (am_ad_inj h3 q))
theorem am_wr_base {g : am_P} {a : Nat} (h : a ≠ 0) : g.2.2 ≤ am_ad g a := by
  cases a with
  | zero => exact absurd rfl h
  | succ a => exact Nat.le_add_right _ _
theorem am_st_wr {g : am_P} {x : am_T} {h : am_H} {H H' : Heap} {locs : List Loc} {a i k : Nat} {v : Value} (hh : am_st g x h H locs) (ha : a ≠ 0) (hs : H'.size = H.size) (ho : ∀ q, q ≠ am_ad g a → H'[q]? = H[q]?)
    (hc : am_cell g (am_s x) H' a ((h.2.2 a).1, (h.2.2 a).2.1, fun j => if j = i then v else (h.2.2 a).2.2 j)) : am_st g x (am_wr h a i v) H' (locs ++ [⟨am_ad g a, k⟩]) := by
  obtain ⟨h1, h2, h3⟩ := hh
  refine ⟨am_hold_wr h1 hs ho hc, fun q hq => ?_, fun q hq => ?_⟩
  · rw [ho q (fun e => by have := am_wr_base (g := g) ha; omega)]
    exact h2 q hq
  · rcases List.mem_append.mp hq with e | e
    · exact h3 q e
    · cases List.mem_singleton.mp e
      exact am_wr_base ha
/-- what the tables say of a class's fields -/
def am_cls (ci : Nat) (r : vw_C) : Prop := ci < 11 ∧ vwCl[ci]? = some r ∧ (∀ w ∈ u_ws r.1 r.2.1 r.2.2, w ∈ am_tbl) ∧ ∃ ty : Nat → FieldType, (∀ k, k < r.2.2 → parseFieldDescriptor (r.2.1 k).2.2.1 = some (ty k)) ∧ ∀ a, a < r.2.2 → ∀ b, b < r.2.2 → a ≠ b → (r.2.1 a).2.1 ≠ (r.2.1 b).2.1
/-- the entry i of the class own names the field k of the class ci -/
def am_fw (own : String) (i ci k : Nat) : Prop := ∃ r : vw_C, am_cls ci r ∧ k < r.2.2 ∧ Cond.fieldLink own i (r.2.1 k).1 (r.2.1 k).2.1 (r.2.1 k).2.2.1 ∈ am_tbl
/-- .. it may be written with v: by anyone (false), by a constructor (true) -/
def am_pw (own : String) (i ci k : Nat) (fin : Bool) (ty : FieldType) : Prop := ∃ r : vw_C, am_cls ci r ∧ k < r.2.2 ∧ Cond.fieldLink own i (r.2.1 k).1 (r.2.1 k).2.1 (r.2.1 k).2.2.1 ∈ am_tbl ∧ (r.2.1 k).2.2.2 = fin ∧ parseFieldDescriptor (r.2.1 k).2.2.1 = some ty ∧ (fin = true → (r.2.1 k).1 = own)
/-- an index within -/
def am_ix (i : Int32) (j n : Nat) : Prop := ¬ i < 0 ∧ i.toNatClampNeg = j ∧ j < n
theorem am_ix_n {j n : Nat} (h : j < n) (hn : n ≤ 2 ^ 31) : am_ix (nI j) j n := ⟨nI_pos (by omega), nI_clamp (by omega), h⟩
section AH
variable {g : am_P} {l : Launch} {e : am_E} {d : Nat} {Q : am_R → am_H → Prop} {pc : Nat} {lv : am_L} {st : List Value} {h : am_H}
/-- a row that reads: the heap stays -/
theorem am_read {pc' : Nat} {st' : List Value} (f : ∀ x : am_T, am_ok g l e d x → ∀ (H : Heap) (ls : Array Slot) (locs : List Loc) (cells slots : Nat) (QQ : State → Prop), am_st g x h H locs → am_W x H locs cells slots QQ pc' ls (st'.map (am_tv g)) → am_W x H locs cells slots QQ pc ls (st.map (am_tv g)))
    (k : am_G g l e d Q pc' lv st' h) : am_G g l e d Q pc lv st h := by
  obtain ⟨r, h', hq, h1, h2, k⟩ := k
  exact ⟨r, h', hq, h1, h2, fun x C H ls locs cells slots QQ a b c d e => f x C H ls locs cells slots QQ a (k x C H ls locs cells slots QQ a b c d e)⟩
/-- a row that writes: no cell comes -/
theorem am_write {pc' : Nat} {st' : List Value} {h2 : am_H} (e1 : h2.1 = h.1) (e2 : h2.2.1 = h.2.1) (f : ∀ x : am_T, am_ok g l e d x → ∀ (H : Heap) (ls : Array Slot) (locs : List Loc) (cells slots : Nat) (QQ : State → Prop), am_st g x h H locs → (∀ (H' : Heap) (locs' : List Loc), am_st g x h2 H' locs' → am_W x H' locs' cells slots QQ pc' ls (st'.map (am_tv g))) → am_W x H locs cells slots QQ pc ls (st.map (am_tv g)))
    (k : am_G g l e d Q pc' lv st' h2) : am_G g l e d Q pc lv st h := by
  obtain ⟨r, h', hq, h1, h3, k⟩ := k
  rw [e1] at h1 k
  rw [e2] at h3 k
  exact ⟨r, h', hq, h1, h3, fun x C H ls locs cells slots QQ a b c d e => f x C H ls locs cells slots QQ a fun H' locs' a' => k x C H' ls locs' cells slots QQ a' b c d e⟩
theorem ag_get {i a ci k n : Nat} {f : Nat → Value} {v : Value} (hd : decode e.2.1 pc = .ok (.getfield i, 3)) (hf : am_fw e.1.cls i ci k) (ha : a < h.1) (hc : h.2.2 a = (ci, n, f)) (hv : f k = v) (kk : am_G g l e d Q (pc + 3) lv (v :: st) h) : am_G g l e d Q pc lv (.ref a :: st) h := by
  obtain ⟨r, ⟨hci, hcl, hin, -⟩, hk, hlink⟩ := hf
  refine am_read ?_ kk
  rintro ⟨p, l', e', R, s, m, args, below, meth, c⟩ ⟨hx, hb, hml, hown, -, -, hts, hK, -⟩ H ls locs cells slots QQ hS kk
  have h1 := (hS.1.2.2.2 a ha).1
  rw [hc] at h1
  obtain ⟨r', e1, e2, cell, q1, q2, q3, q4⟩ := h1 hci
  have hr : r' = r := Option.some.inj (e1.symm.trans hcl)
  subst hr
  obtain ⟨hSl, hfc, kC, hkC, hkind⟩ := hK.1 ci _ hcl
  obtain ⟨cf, kf, fi, fd, hi, hsl⟩ := hSl k hk
  refine W.getf hx hb hown (hts _ hlink) hi (u_facts hfc hkC (u_lays hts hin hk) hi).1 q1 (by rw [q3]; exact fun h => by cases h) (v := am_tv g v) ?_ rfl rfl hd kk
  rw [hsl, q4 k hk]
  exact congrArg (fun z => some (am_tv g z)) hv
theorem am_put_cell {ci k n : Nat} {f : Nat → Value} {U : State} {H' : Heap} {a : Nat} {r : vw_C} {cell' : Cell} {v : Value} (hci : ci < 11) (hcl : vwCl[ci]? = some r) (hn : n = r.2.2) (e1 : H'[am_ad g a]? = some cell') (q2 : cell'.cls = g.1.1 ci) (q3 : cell'.vm = .none)
    (q4 : ∀ j, j < r.2.2 → cell'.slots[g.1.2 ci j]? = some (updV (fun k => am_tv g (f k)) k (am_tv g v) j)) : am_cell g U H' a (ci, n, fun j => if j = k then v else f j) := by
  refine ⟨fun _ => ⟨r, hcl, hn, cell', e1, q2, q3, fun j hj => ?_⟩, fun ty hty => ?_⟩
  · rw [q4 j hj]
    simp only [updV]
    split <;> rfl
  · exfalso
    simp only at hty
    unfold am_aty at hty
    split at hty <;> first | omega | cases hty
theorem ag_put {i a ci k n : Nat} {f : Nat → Value} {ty : FieldType} {v : Value} (hd : decode e.2.1 pc = .ok (.putfield i, 3)) (hf : am_pw e.1.cls i ci k false ty) (ha : a < h.1) (h0 : a ≠ 0) (hc : h.2.2 a = (ci, n, f)) (hv : ∀ g : am_P, narrow ty (am_tv g v) = am_tv g v ∧ fits ty (am_tv g v) = true) (kk : am_G g l e d Q (pc + 3) lv st (am_wr h a k v)) : am_G g l e d Q pc lv (v :: .ref a :: st) h := by
  obtain ⟨r, ⟨hci, hcl, hin, ty0, hty, hnm⟩, hk, hlink, hfin, hd1, -⟩ := hf
  refine am_write (h2 := am_wr h a k v) rfl rfl ?_ kk
  rintro ⟨p, l', e', R, s, m, args, below, meth, c⟩ ⟨hx, hb, hml, hown, -, -, hts, hK, -⟩ H ls locs cells slots QQ hS kk
  have h1 := (hS.1.2.2.2 a ha).1
  rw [hc] at h1
  obtain ⟨r', e1, e2, cell, q1, q2, q3, q4⟩ := h1 hci
  have hr : r' = r := Option.some.inj (e1.symm.trans hcl)
  subst hr
  have hap := va_apart (own := e.1.cls) hts hin ty0 hty hnm hK hcl
  obtain ⟨hSl, hfc, kC, hkC, hkind⟩ := hK.1 ci _ hcl
  obtain ⟨cf, kf, fi, fd, hi, hsl⟩ := hSl k hk
  have hlay := hts _ (hin _ (u_in_lay hk))
  unfold u_lay at hlay
  rw [if_neg (by rw [hfin]; decide)] at hlay
  have hst := (u_facts hfc hkC (u_lays hts hin hk) hi).1
  have h6 := u_store hfc hkC hkind hlay hi hd1 (hv g).1 (hv g).2
  refine W.putK hx hb (f := fd) ⟨hown, hts _ hlink, ⟨_, _, _, hi⟩, hst⟩ (by rw [q2]; exact h6) q1 q3 (by rw [hsl]; exact k2_hasslot (q4 k hk)) rfl rfl hd fun H' f1 f2 f3 => ?_
  rw [hsl] at f1
  refine kk H' _ (am_st_wr hS h0 f2 f3 ?_)
  rw [hc]
  exact am_put_cell hci hcl e2 f1 q2 q3 (t_set q4 hap hk _)
theorem ag_putF {i a ci k n : Nat} {f : Nat → Value} {ty : FieldType} {v : Value} (hd : decode e.2.1 pc = .ok (.putfield i, 3)) (hin2 : e.1.name = "<init>") (hf : am_pw e.1.cls i ci k true ty) (ha : a < h.1) (h0 : a ≠ 0) (hc : h.2.2 a = (ci, n, f)) (hv : ∀ g : am_P, narrow ty (am_tv g v) = am_tv g v ∧ fits ty (am_tv g v) = true) (kk : am_G g l e d Q (pc + 3) lv st (am_wr h a k v)) : am_G g l e d Q pc lv (v :: .ref a :: st) h := by
  obtain ⟨r, ⟨hci, hcl, hin, ty0, hty, hnm⟩, hk, hlink, hfin, hd1, hdecl⟩ := hf
  have hdecl := hdecl rfl
  refine am_write (h2 := am_wr h a k v) rfl rfl ?_ kk
  rintro ⟨p, l', e', R, s, m, args, below, meth, c⟩ ⟨hx, hb, hml, hown, -, -, hts, hK, -, -, -, hmn⟩ H ls locs cells slots QQ hS kk
  have h1 := (hS.1.2.2.2 a ha).1
  rw [hc] at h1
  obtain ⟨r', e1, e2, cell, q1, q2, q3, q4⟩ := h1 hci
  have hr : r' = r := Option.some.inj (e1.symm.trans hcl)
  subst hr
  have hap := va_apart (own := e.1.cls) hts hin ty0 hty hnm hK hcl
  obtain ⟨hSl, hfc, kC, hkC, hkind⟩ := hK.1 ci _ hcl
  obtain ⟨cf, kf, fi, fd, hi, hsl⟩ := hSl k hk
  have hlay := hts _ (hin _ (u_in_lay hk))
  unfold u_lay at hlay
  rw [if_pos hfin] at hlay
  have hst := (u_facts hfc hkC (u_lays hts hin hk) hi).1
  have hcf : m.cls = cf := by
    obtain ⟨_, _, c', _, _, _, -, -, hf', -, -, -, hown2, -⟩ := Cond.laysFinal_spec hlay
    have e1 : c' = cf := by have := hi.symm.trans hf'; simp at this; exact this.1.symm
    rw [hdecl] at hown2
    rw [← e1]; exact Option.some.inj (hown.symm.trans hown2)
  have h6 := u_fits hfc hkC hkind (Or.inr hlay) hi hd1 (hv g).1 (hv g).2
  refine W.putFinK hx hb hown (hts _ hlink) hi hst hcf (hmn.1.trans hin2) (by rw [q2]; exact h6) q1 q3 (by rw [hsl]; exact k2_hasslot (q4 k hk)) rfl rfl hd fun H' f1 f2 f3 => ?_
  rw [hsl] at f1
  refine kk H' _ (am_st_wr hS h0 f2 f3 ?_)
  rw [hc]
  exact am_put_cell hci hcl e2 f1 q2 q3 (t_set q4 hap hk _)
end AH
end
section
/-! Rows for arrays, and for new cells. -/
section AI
variable {g : am_P} {l : Launch} {e : am_E} {d : Nat} {Q : am_R → am_H → Prop} {pc : Nat} {lv : am_L} {st : List Value} {h : am_H}
theorem am_arr {U : State} {H : Heap} {a t n : Nat} {f : Nat → Value} {ty : FieldType} (hh : am_hold g U h H) (ha : a < h.1) (hc : h.2.2 a = (t, n, f)) (ht : am_aty t = some ty) : ∃ cell : Cell, H[am_ad g a]? = some cell ∧ U.isArrayOf cell ty ∧ cell.vm ≠ .unknown ∧ cell.slots.size = n ∧ n < 2 ^ 31 ∧ (∀ j : Nat, j < n → cell.slots[j]? = some (am_tv g (f j))) ∧ am_ra U cell.cls ty := by
  have h1 := (hh.2.2.2 a ha).2 ty
  rw [hc] at h1
  exact h1 ht
theorem am_in {cell : Cell} {i : Int32} {j n : Nat} (hi : am_ix i j n) (hs : cell.slots.size = n) : ¬ (i < 0 ∨ cell.slots.size ≤ i.toNatClampNeg) := by
  obtain ⟨h1, h2, h3⟩ := hi
  rintro (q | q)
  · exact h1 q
  · rw [hs, h2] at q; omega
theorem am_ast_cell {U : State} {H' : Heap} {a t n j : Nat} {f : Nat → Value} {ty : FieldType} {cell : Cell} {v : Value} (ht : am_aty t = some ty) (h1 : U.isArrayOf cell ty) (h2 : cell.vm ≠ .unknown) (h3 : cell.slots.size = n) (h4 : n < 2 ^ 31) (h5 : ∀ j : Nat, j < n → cell.slots[j]? = some (am_tv g (f j))) (h6 : am_ra U cell.cls ty) (hj : j < n) (e1 : H'[am_ad g a]? = some (cell.setSlot j (am_tv g v))) : am_cell g U H' a (t, n, fun q => if q = j then v else f q) := by
  refine ⟨fun q => ?_, fun ty' hty => ⟨_, e1, ?_, h2, ?_, h4, fun q hq => ?_, ?_⟩⟩
  · exfalso
    simp only at q
    unfold am_aty at ht
    split at ht <;> first | omega | cases ht
  · have : ty' = ty := Option.some.inj (hty.symm.trans ht)
    subst this
    exact h1
  · simp [Cell.setSlot, h3]
  · by_cases e : q = j
    · subst e
      simp only [Cell.setSlot]
      rw [Array.getElem?_setIfInBounds, if_pos rfl, if_pos (by rw [h3]; exact hq), if_pos trivial]
    · simp only [Cell.setSlot]
      rw [Array.getElem?_setIfInBounds, if_neg (fun z => e z.symm), if_neg e]
      exact h5 q hq
  · have : ty' = ty := Option.some.inj (hty.symm.trans ht)
    subst this
    exact h6

theorem ag_iald {i : Int32} {a j n : Nat} {f : Nat → Value} {v : Value} (hd : decode e.2.1 pc = .ok (.iaload, 1)) (ha : a < h.1) (hc : h.2.2 a = (20, n, f)) (hi : am_ix i j n) (hv : f j = v) (kk : am_G g l e d Q (pc + 1) lv (v :: st) h) : am_G g l e d Q pc lv (.int i :: .ref a :: st) h := by
  refine am_read ?_ kk
  rintro ⟨p, l', e', R, s, m, args, below, meth, c⟩ ⟨hx, hb, hml, hown, -, -, hts, hK, -⟩ H ls locs cells slots QQ hS kk
  obtain ⟨cell, q1, q2, q3, q4, q5, q6, -⟩ := am_arr hS.1 ha hc rfl
  refine W.iald hx hb q1 q2 q3 (am_in hi q4) (v := am_tv g v) ?_ rfl rfl hd kk
  rw [hi.2.1, q6 j hi.2.2, hv]
theorem ag_lald {i : Int32} {a j n : Nat} {f : Nat → Value} {v : Value} (hd : decode e.2.1 pc = .ok (.laload, 1)) (ha : a < h.1) (hc : h.2.2 a = (21, n, f)) (hi : am_ix i j n) (hv : f j = v) (kk : am_G g l e d Q (pc + 1) lv (v :: st) h) : am_G g l e d Q pc lv (.int i :: .ref a :: st) h := by
  refine am_read ?_ kk
  rintro ⟨p, l', e', R, s, m, args, below, meth, c⟩ ⟨hx, hb, hml, hown, -, -, hts, hK, -⟩ H ls locs cells slots QQ hS kk
  obtain ⟨cell, q1, q2, q3, q4, q5, q6, -⟩ := am_arr hS.1 ha hc rfl
  refine W.lald hx hb q1 q2 q3 (am_in hi q4) (v := am_tv g v) ?_ rfl rfl hd kk
  rw [hi.2.1, q6 j hi.2.2, hv]
theorem ag_zald {i : Int32} {a j n : Nat} {f : Nat → Value} {v : Value} (hd : decode e.2.1 pc = .ok (.baload, 1)) (ha : a < h.1) (hc : h.2.2 a = (22, n, f)) (hi : am_ix i j n) (hv : f j = v) (kk : am_G g l e d Q (pc + 1) lv (v :: st) h) : am_G g l e d Q pc lv (.int i :: .ref a :: st) h := by
  refine am_read ?_ kk
  rintro ⟨p, l', e', R, s, m, args, below, meth, c⟩ ⟨hx, hb, hml, hown, -, -, hts, hK, -⟩ H ls locs cells slots QQ hS kk
  obtain ⟨cell, q1, q2, q3, q4, q5, q6, -⟩ := am_arr hS.1 ha hc rfl
  refine W.zald hx hb q1 q2 q3 (am_in hi q4) (v := am_tv g v) ?_ rfl rfl hd kk
  rw [hi.2.1, q6 j hi.2.2, hv]
theorem ag_cald {i : Int32} {a j n : Nat} {f : Nat → Value} {v : Value} (hd : decode e.2.1 pc = .ok (.caload, 1)) (ha : a < h.1) (hc : h.2.2 a = (23, n, f)) (hi : am_ix i j n) (hv : f j = v) (kk : am_G g l e d Q (pc + 1) lv (v :: st) h) : am_G g l e d Q pc lv (.int i :: .ref a :: st) h := by
  refine am_read ?_ kk
  rintro ⟨p, l', e', R, s, m, args, below, meth, c⟩ ⟨hx, hb, hml, hown, -, -, hts, hK, -⟩ H ls locs cells slots QQ hS kk
  obtain ⟨cell, q1, q2, q3, q4, q5, q6, -⟩ := am_arr hS.1 ha hc rfl
  refine W.cald hx hb q1 q2 q3 (am_in hi q4) (v := am_tv g v) ?_ rfl rfl hd kk
  rw [hi.2.1, q6 j hi.2.2, hv]
theorem ag_aald {i : Int32} {a j n t : Nat} {f : Nat → Value} {v : Value} (hd : decode e.2.1 pc = .ok (.aaload, 1)) (ha : a < h.1) (hc : h.2.2 a = (t, n, f)) (ht : 24 ≤ t ∧ t ≤ 27) (hi : am_ix i j n) (hv : f j = v) (kk : am_G g l e d Q (pc + 1) lv (v :: st) h) : am_G g l e d Q pc lv (.int i :: .ref a :: st) h := by
  have hty : ∃ ty : FieldType, am_aty t = some ty ∧ ty.isReference = true := by
    obtain ⟨h1, h2⟩ := ht
    rcases (show t = 24 ∨ t = 25 ∨ t = 26 ∨ t = 27 by omega) with rfl | rfl | rfl | rfl <;> exact ⟨_, rfl, rfl⟩
  obtain ⟨ty, ht1, ht2⟩ := hty
  refine am_read ?_ kk
  rintro ⟨p, l', e', R, s, m, args, below, meth, c⟩ ⟨hx, hb, hml, hown, -, -, hts, hK, -⟩ H ls locs cells slots QQ hS kk
  obtain ⟨cell, q1, q2, q3, q4, q5, q6, -⟩ := am_arr hS.1 ha hc ht1
  refine W.aald hx hb q1 q2 ht2 q3 (am_in hi q4) (v := am_tv g v) ?_ rfl rfl hd kk
  rw [hi.2.1, q6 j hi.2.2, hv]
theorem ag_alen {a n t : Nat} {f : Nat → Value} (hd : decode e.2.1 pc = .ok (.arraylength, 1)) (ha : a < h.1) (hc : h.2.2 a = (t, n, f)) (ht : 20 ≤ t ∧ t ≤ 27) (kk : am_G g l e d Q (pc + 1) lv (.int (nI n) :: st) h) : am_G g l e d Q pc lv (.ref a :: st) h := by
  have hty : ∃ ty : FieldType, am_aty t = some ty := by
    obtain ⟨h1, h2⟩ := ht
    rcases (show t = 20 ∨ t = 21 ∨ t = 22 ∨ t = 23 ∨ t = 24 ∨ t = 25 ∨ t = 26 ∨ t = 27 by omega) with rfl | rfl | rfl | rfl | rfl | rfl | rfl | rfl <;> exact ⟨_, rfl⟩
  obtain ⟨ty, ht1⟩ := hty
  refine am_read ?_ kk
  rintro ⟨p, l', e', R, s, m, args, below, meth, c⟩ ⟨hx, hb, hml, hown, -, -, hts, hK, -⟩ H ls locs cells slots QQ hS kk
  obtain ⟨cell, q1, q2, q3, q4, -⟩ := am_arr hS.1 ha hc ht1
  exact W.alen hx hb q1 q2 (by rw [q4]; rfl) rfl rfl hd kk
theorem ag_iast {i : Int32} {y : Int32} {a j n : Nat} {f : Nat → Value} (hd : decode e.2.1 pc = .ok (.iastore, 1)) (ha : a < h.1) (h0 : a ≠ 0) (hc : h.2.2 a = (20, n, f)) (hi : am_ix i j n) (kk : am_G g l e d Q (pc + 1) lv st (am_wr h a j (.int y))) : am_G g l e d Q pc lv (.int y :: .int i :: .ref a :: st) h := by
  refine am_write (h2 := am_wr h a j (.int y)) rfl rfl ?_ kk
  rintro ⟨p, l', e', R, s, m, args, below, meth, c⟩ ⟨hx, hb, hml, hown, -, -, hts, hK, -⟩ H ls locs cells slots QQ hS kk
  obtain ⟨cell, q1, q2, q3, q4, q5, q6, q7⟩ := am_arr hS.1 ha hc rfl
  refine W.iast hx hb q1 q2 q3 (am_in hi q4) rfl rfl hd fun H' f1 f2 f3 => ?_
  refine kk H' _ (am_st_wr hS h0 f2 f3 ?_)
  rw [hc]
  rw [hi.2.1] at f1
  exact am_ast_cell (v := .int y) rfl q2 q3 q4 q5 q6 q7 hi.2.2 f1
theorem ag_last {i : Int32} {y : Int64} {a j n : Nat} {f : Nat → Value} (hd : decode e.2.1 pc = .ok (.lastore, 1)) (ha : a < h.1) (h0 : a ≠ 0) (hc : h.2.2 a = (21, n, f)) (hi : am_ix i j n) (kk : am_G g l e d Q (pc + 1) lv st (am_wr h a j (.long y))) : am_G g l e d Q pc lv (.long y :: .int i :: .ref a :: st) h := by
  refine am_write (h2 := am_wr h a j (.long y)) rfl rfl ?_ kk
  rintro ⟨p, l', e', R, s, m, args, below, meth, c⟩ ⟨hx, hb, hml, hown, -, -, hts, hK, -⟩ H ls locs cells slots QQ hS kk
  obtain ⟨cell, q1, q2, q3, q4, q5, q6, q7⟩ := am_arr hS.1 ha hc rfl
  refine W.last hx hb q1 q2 q3 (am_in hi q4) rfl rfl hd fun H' f1 f2 f3 => ?_
  refine kk H' _ (am_st_wr hS h0 f2 f3 ?_)
  rw [hc]
  rw [hi.2.1] at f1
  exact am_ast_cell (v := .long y) rfl q2 q3 q4 q5 q6 q7 hi.2.2 f1
theorem ag_zast {i : Int32} {y : Int32} {a j n : Nat} {f : Nat → Value} (hd : decode e.2.1 pc = .ok (.bastore, 1)) (ha : a < h.1) (h0 : a ≠ 0) (hc : h.2.2 a = (22, n, f)) (hi : am_ix i j n) (hy : narrow .boolean (.int y) = .int y) (kk : am_G g l e d Q (pc + 1) lv st (am_wr h a j (.int y))) : am_G g l e d Q pc lv (.int y :: .int i :: .ref a :: st) h := by
  refine am_write (h2 := am_wr h a j (.int y)) rfl rfl ?_ kk
  rintro ⟨p, l', e', R, s, m, args, below, meth, c⟩ ⟨hx, hb, hml, hown, -, -, hts, hK, -⟩ H ls locs cells slots QQ hS kk
  obtain ⟨cell, q1, q2, q3, q4, q5, q6, q7⟩ := am_arr hS.1 ha hc rfl
  refine W.zast hx hb q1 q2 q3 (am_in hi q4) rfl rfl hd fun H' f1 f2 f3 => ?_
  rw [hy] at f1
  refine kk H' _ (am_st_wr hS h0 f2 f3 ?_)
  rw [hc]
  rw [hi.2.1] at f1
  exact am_ast_cell (v := .int y) rfl q2 q3 q4 q5 q6 q7 hi.2.2 f1
theorem ag_cast {i : Int32} {y : Int32} {a j n : Nat} {f : Nat → Value} (hd : decode e.2.1 pc = .ok (.castore, 1)) (ha : a < h.1) (h0 : a ≠ 0) (hc : h.2.2 a = (23, n, f)) (hi : am_ix i j n) (hy : narrow .char (.int y) = .int y) (kk : am_G g l e d Q (pc + 1) lv st (am_wr h a j (.int y))) : am_G g l e d Q pc lv (.int y :: .int i :: .ref a :: st) h := by
  refine am_write (h2 := am_wr h a j (.int y)) rfl rfl ?_ kk
  rintro ⟨p, l', e', R, s, m, args, below, meth, c⟩ ⟨hx, hb, hml, hown, -, -, hts, hK, -⟩ H ls locs cells slots QQ hS kk
  obtain ⟨cell, q1, q2, q3, q4, q5, q6, q7⟩ := am_arr hS.1 ha hc rfl
  refine W.cast hx hb q1 q2 q3 (am_in hi q4) rfl rfl hd fun H' f1 f2 f3 => ?_
  rw [hy] at f1
  refine kk H' _ (am_st_wr hS h0 f2 f3 ?_)
  rw [hc]
  rw [hi.2.1] at f1
  exact am_ast_cell (v := .int y) rfl q2 q3 q4 q5 q6 q7 hi.2.2 f1
/-- an object goes into an array of its class -/
theorem ag_aast {i : Int32} {a j n t b ci nb : Nat} {f fb : Nat → Value} (hd : decode e.2.1 pc = .ok (.aastore, 1)) (ha : a < h.1) (h0 : a ≠ 0) (hc : h.2.2 a = (t, n, f)) (hb' : b < h.1) (hcb : h.2.2 b = (ci, nb, fb)) (ht : ∃ r : vw_C, ci < 11 ∧ vwCl[ci]? = some r ∧ am_aty t = some (.object r.1)) (hi : am_ix i j n) (kk : am_G g l e d Q (pc + 1) lv st (am_wr h a j (.ref b))) : am_G g l e d Q pc lv (.ref b :: .int i :: .ref a :: st) h := by
  obtain ⟨r, t1, t2, t3⟩ := ht
  refine am_write (h2 := am_wr h a j (.ref b)) rfl rfl ?_ kk
  rintro ⟨p, l', e', R, s, m, args, below, meth, c⟩ ⟨hx, hb, hml, hown, -, -, hts, hK, -⟩ H ls locs cells slots QQ hS kk
  obtain ⟨cell, q1, q2, q3, q4, q5, q6, q7⟩ := am_arr hS.1 ha hc t3
  have h1 := (hS.1.2.2.2 b hb').1
  rw [hcb] at h1
  obtain ⟨r', e1, e2, cellV, g1, g2, g3, -⟩ := h1 t1
  have hr : r' = r := Option.some.inj (e1.symm.trans t2)
  subst hr
  have hcls := (hK.1 ci _ t2).2
  obtain ⟨kA, comp, k1, k2, k3⟩ := q7
  have hcomp : comp = g.1.1 ci := Option.some.inj (k3.symm.trans hcls.1)
  subst hcomp
  obtain ⟨kC, hkC, -⟩ := hcls.2
  refine W.aast hx hb q1 q2.1 q3 k1 k2 rfl hkC ⟨hi.1, by rw [hi.2.1, q4]; exact hi.2.2⟩ g1 (fun q h => by rw [g3] at h; cases h) (by rw [g2]; exact hkC) (by rw [g2]; exact va_assign hcls) rfl rfl hd fun H' f1 f2 f3 => ?_
  refine kk H' _ (am_st_wr hS h0 f2 f3 ?_)
  rw [hc]
  rw [hi.2.1] at f1
  exact am_ast_cell (v := .ref b) t3 q2 q3 q4 q5 q6 ⟨kA, _, k1, k2, k3⟩ hi.2.2 f1
theorem ag_aastN {i : Int32} {a j n t : Nat} {f : Nat → Value} {N : String} (hd : decode e.2.1 pc = .ok (.aastore, 1)) (ha : a < h.1) (h0 : a ≠ 0) (hc : h.2.2 a = (t, n, f)) (ht : am_aty t = some (.object N)) (hi : am_ix i j n) (kk : am_G g l e d Q (pc + 1) lv st (am_wr h a j .null)) : am_G g l e d Q pc lv (.null :: .int i :: .ref a :: st) h := by
  refine am_write (h2 := am_wr h a j .null) rfl rfl ?_ kk
  rintro ⟨p, l', e', R, s, m, args, below, meth, c⟩ ⟨hx, hb, hml, hown, -, -, hts, hK, -⟩ H ls locs cells slots QQ hS kk
  obtain ⟨cell, q1, q2, q3, q4, q5, q6, q7⟩ := am_arr hS.1 ha hc ht
  refine va_WaastN hx hb q1 q2 q3 (am_in hi q4) rfl rfl hd fun H' f1 f2 f3 => ?_
  refine kk H' _ (am_st_wr hS h0 f2 f3 ?_)
  rw [hc]
  rw [hi.2.1] at f1
  exact am_ast_cell (v := .null) ht q2 q3 q4 q5 q6 q7 hi.2.2 f1
end AI
end
section
/-! Rows for new cells. -/
theorem am_tv_def (g : am_P) (ty : FieldType) : am_tv g (defaultValue ty) = defaultValue ty := by cases ty <;> rfl
theorem am_ad_top {g : am_P} {U : State} {h : am_H} {H : Heap} (hh : am_hold g U h H) : am_ad g h.1 = H.size := by
  obtain ⟨h1, h2, -, -⟩ := hh
  obtain ⟨k, hk⟩ : ∃ k, h.1 = k + 1 := ⟨h.1 - 1, by omega⟩
  rw [hk] at h2 ⊢
  simp only [am_ad]
  omega
/-- a cell comes at the end -/
theorem am_hold_nw {g : am_P} {U : State} {h : am_H} {H H' : Heap} {t n : Nat} {f : Nat → Value} (hh : am_hold g U h H) (hs : H'.size = H.size + 1) (ho : ∀ q, q < H.size → H'[q]? = H[q]?) (hc : am_cell g U H' h.1 (t, n, f)) : am_hold g U (am_nw h t n f) H' := by
  have hlt := @am_ad_lt g U h H hh
  obtain ⟨h1, h2, h3, h4⟩ := hh
  refine ⟨by show 1 ≤ h.1 + 1; omega, by show H'.size + 1 = g.2.2 + (h.1 + 1); omega, h3, fun b hb => ?_⟩
  by_cases e : b = h.1
  · subst e
    show am_cell g U H' h.1 (if h.1 = h.1 then _ else _)
    rw [if_pos rfl]
    exact hc
  · show am_cell g U H' b (if b = h.1 then _ else _)
    rw [if_neg e]
    have hb' : b < h.1 := by have : b < h.1 + 1 := hb; omega
    exact (h4 b hb').kept (ho _ (hlt hb'))
theorem am_st_nw {g : am_P} {x : am_T} {h : am_H} {H H' : Heap} {locs : List Loc} {t n : Nat} {f : Nat → Value} (hh : am_st g x h H locs) (hs : H'.size = H.size + 1) (ho : ∀ q, q < H.size → H'[q]? = H[q]?) (hc : am_cell g (am_s x) H' h.1 (t, n, f)) : am_st g x (am_nw h t n f) H' locs := by
  obtain ⟨h1, h2, h3⟩ := hh
  refine ⟨am_hold_nw h1 hs ho hc, fun q hq => ?_, h3⟩
  obtain ⟨g1, g2, g3, -⟩ := h1
  rw [ho q (by omega)]
  exact h2 q hq
def am_nwd (own : String) (i ci : Nat) (r : vw_C) : Prop := am_cls ci r ∧ Cond.classLink own i r.1 ∈ am_tbl ∧ Cond.instantiable r.1 r.2.2 ∈ am_tbl ∧ Cond.initialized r.1 ∈ am_tbl
section AJ
variable {g : am_P} {l : Launch} {e : am_E} {d : Nat} {Q : am_R → am_H → Prop} {pc : Nat} {lv : am_L} {st : List Value} {h : am_H}
theorem am_fresh {pc' t n : Nat} {f : Nat → Value} {st' : List Value} (F : ∀ x : am_T, am_ok g l e d x → ∀ (H : Heap) (ls : Array Slot) (locs : List Loc) (cells slots : Nat) (QQ : State → Prop), am_st g x h H locs → cells + 1 ≤ (am_rm x).cells → slots + n ≤ (am_rm x).slots → (∀ H' : Heap, am_st g x (am_nw h t n f) H' locs → am_W x H' locs (cells + 1) (slots + n) QQ pc' ls (st'.map (am_tv g))) → am_W x H locs cells slots QQ pc ls (st.map (am_tv g)))
    (k : am_G g l e d Q pc' lv st' (am_nw h t n f)) : am_G g l e d Q pc lv st h := by
  obtain ⟨r, h', hq, h1, h2, k⟩ := k
  have h1' : h.1 + 1 ≤ h'.1 := h1
  have h2' : h.2.1 + n ≤ h'.2.1 := h2
  refine ⟨r, h', hq, by omega, by omega, fun x C H ls locs cells slots QQ a b c d e => F x C H ls locs cells slots QQ a (by omega) (by omega) fun H' a' => ?_⟩
  have e1 : cells + 1 + (h'.1 - (am_nw h t n f).1) = cells + (h'.1 - h.1) := by show cells + 1 + (h'.1 - (h.1 + 1)) = _; omega
  have e2 : slots + n + (h'.2.1 - (am_nw h t n f).2.1) = slots + (h'.2.1 - h.2.1) := by show slots + n + (h'.2.1 - (h.2.1 + n)) = _; omega
  exact k x C H' ls locs (cells + 1) (slots + n) QQ a' b (by rw [e1]; exact c) (by rw [e2]; exact d) (by rw [e1, e2]; exact e)
theorem ag_new {i ci : Nat} {r : vw_C} {f : Nat → Value} (hd : decode e.2.1 pc = .ok (.new i, 3)) (hw : am_nwd e.1.cls i ci r) (hf : ∀ k, k < r.2.2 → ∃ t : FieldType, parseFieldDescriptor (r.2.1 k).2.2.1 = some t ∧ f k = defaultValue t) (kk : am_G g l e d Q (pc + 3) lv (.ref h.1 :: st) (am_nw h ci r.2.2 f)) : am_G g l e d Q pc lv st h := by
  obtain ⟨⟨hci, hcl, hin, ty0, hty, hnm⟩, w1, w2, w3⟩ := hw
  refine am_fresh ?_ kk
  rintro ⟨p, l', e', R, s, m, args, below, meth, c⟩ ⟨hx, hb, hml, hown, -, -, hts, hK, -⟩ H ls locs cells slots QQ hS hc1 hc2 kk
  have hKn := hK.1 ci _ hcl
  refine W.newcK hx hb hown (hts _ w1) (hts _ w2) (hts _ w3) rfl hd hc1 hc2 hKn.2.1 rfl fun H1 kC hkC e1 z1 o1 => ?_
  have htop : am_ad g h.1 = H.size := am_ad_top hS.1
  have hk := kk H1 (am_st_nw hS z1 o1 ⟨fun _ => ⟨r, hcl, rfl, (u_born ty0 hts hin hKn hkC (by rw [htop]; exact e1) hty).to fun k hk => ?_⟩, fun ty h => ?_⟩)
  · simp only [List.map_cons, am_tv, htop] at hk
    exact hk
  · obtain ⟨t, t1, t2⟩ := hf k hk
    have : t = ty0 k := Option.some.inj (t1.symm.trans (hty k hk))
    subst this
    show _ = am_tv g (f k)
    rw [t2, am_tv_def]
  · exfalso
    simp only at h
    unfold am_aty at h
    split at h <;> first | omega | cases h
theorem ag_newa {ty : ArrayType} {i : Int32} {n t : Nat} {z : Value} (hd : decode e.2.1 pc = .ok (.newarray ty, 2)) (ht : am_aty t = some (newarray.typeOf ty)) (hw : Cond.arrayClass (newarray.typeOf ty) ∈ am_tbl) (hi : ¬ i < 0) (hn : i.toNatClampNeg = n) (hs : n ≤ 1000) (hz : defaultValue (newarray.typeOf ty) = z) (kk : am_G g l e d Q (pc + 2) lv (.ref h.1 :: st) (am_nw h t n (fun _ => z))) : am_G g l e d Q pc lv (.int i :: st) h := by
  refine am_fresh ?_ kk
  rintro ⟨p, l', e', R, s, m, args, below, meth, c⟩ ⟨hx, hb, hml, hown, -, -, hts, hK, -⟩ H ls locs cells slots QQ hS hc1 hc2 kk
  have hcb : componentBytes (newarray.typeOf ty) ≤ 8 := by cases ty <;> decide
  refine W.newaK hx hb (hts _ hw) rfl hd rfl hi hn (Nat.le_trans (Nat.mul_le_mul hs hcb) (by decide)) hc1 hc2 rfl fun H1 cA e1 z1 o1 hA => ?_
  have htop : am_ad g h.1 = H.size := am_ad_top hS.1
  have hk := kk H1 (am_st_nw hS z1 o1 ⟨fun q => ?_, fun ty' h' => ⟨_, by rw [htop]; exact e1, ?_, ?_, ?_, ?_, ?_, ?_⟩⟩)
  · simp only [List.map_cons, am_tv, htop] at hk
    exact hk
  · exfalso
    simp only at q
    unfold am_aty at ht
    split at ht <;> first | omega | cases ht
  · have : ty' = newarray.typeOf ty := Option.some.inj (h'.symm.trans ht)
    subst this
    exact hA _ _
  · exact fun q => by cases q
  · exact arrV_size _ _ _
  · show n < 2 ^ 31
    omega
  · intro j hj
    have hj' : j < n := hj
    rw [← hz]
    simp [arrV, hj', am_tv_def]
  · have : ty' = newarray.typeOf ty := Option.some.inj (h'.symm.trans ht)
    subst this
    cases ty <;> exact trivial
theorem ag_anew {i : Int32} {ix n t : Nat} {N : String} (hd : decode e.2.1 pc = .ok (.anewarray ix, 3)) (ht : am_aty t = some (.object N)) (hw : Cond.classLink e.1.cls ix N ∈ am_tbl) (hN : N = "TypedLisp$Finding" ∨ N = "TypedLisp$Function" ∨ N = "TypedLisp$View") (hi : ¬ i < 0) (hn : i.toNatClampNeg = n) (hs : n ≤ 1000) (kk : am_G g l e d Q (pc + 3) lv (.ref h.1 :: st) (am_nw h t n (fun _ => .null))) : am_G g l e d Q pc lv (.int i :: st) h := by
  subst hn
  refine am_fresh ?_ kk
  rintro ⟨p, l', e', R, s, m, args, below, meth, c⟩ ⟨hx, hb, hml, hown, -, -, hts, hK, hF, -⟩ H ls locs cells slots QQ hS hc1 hc2 kk
  have hAO : va_AO N s := by
    rcases hN with rfl | rfl | rfl
    · exact hF.2.1
    · exact hF.2.2.1
    · exact hF.2.2.2.1
  refine W.anew hx hb hown (hts _ hw) hAO.use rfl hd rfl hi (by omega) hc1 hc2 fun cA kA comp a1 a2 a3 a4 => ?_
  have htop : am_ad g h.1 = H.size := am_ad_top hS.1
  have hk := kk (H.push { cls := cA, slots := Array.replicate i.toNatClampNeg .null, vm := .none }) (am_st_nw hS (by simp) (fun q hq => by rw [Array.getElem?_push, if_neg (Nat.ne_of_lt hq)]) ⟨fun q => ?_, fun ty' h' => ⟨{ cls := cA, slots := Array.replicate i.toNatClampNeg .null, vm := .none }, by rw [htop]; simp, ?_, ?_, ?_, ?_, ?_, ?_⟩⟩)
  · simp only [List.map_cons, am_tv, htop] at hk
    exact hk
  · exfalso
    simp only at q
    unfold am_aty at ht
    split at ht <;> first | omega | cases ht
  · have : ty' = .object N := Option.some.inj (h'.symm.trans ht)
    subst this
    exact ⟨fun k h => (by cases h), kA, a2, comp, a3⟩
  · exact fun q => by cases q
  · simp
  · show i.toNatClampNeg < 2 ^ 31
    omega
  · intro j hj
    have hj' : j < i.toNatClampNeg := hj
    simp [hj', am_tv]
  · have : ty' = .object N := Option.some.inj (h'.symm.trans ht)
    subst this
    exact ⟨kA, comp, a2, a3, a4⟩
end AJ
end
section
/-! Returns, contracts, calls. -/
def am_ws (e : am_E) : List Cond := Cond.code e.1 e.2.1 e.2.2.1 e.2.2.2 :: am_tbl
def am_Pc (g : am_P) (as : List Value) (h : am_H) : Array Value → State → Prop := fun a U => a = (as.map (am_tv g)).toArray ∧ am_hold g U h U.heap ∧ va_K g.1 vwCl [] U ∧ am_F g U
def am_Qc (g : am_P) (v : Option Value) (h' : am_H) : Array Value → State → Outcome → State → Prop := fun _ st o t => o = .returned (v.map (am_tv g)) ∧ am_hold g t h' t.heap ∧ ∀ q : Nat, q < g.2.2 → t.heap[q]? = st.heap[q]?
def am_room (d : Nat) (h h' : am_H) : Room := { frames := am_fr d, cells := h'.1 - h.1, slots := h'.2.1 - h.2.1, locals := am_lo d }
/-- a method's contract: from the heap h it ends with v and h' -/
def am_Mt (l : Launch) (g : am_P) (d : Nat) (e : am_E) (as : List Value) (h : am_H) (Q : Option Value → am_H → Prop) : Prop :=
  ∃ (v : Option Value) (h' : am_H), Q v h' ∧ h.1 ≤ h'.1 ∧ h.2.1 ≤ h'.2.1 ∧ Met l e.1 (am_ws e) (am_room d h h') (am_Pc g as h) (am_Qc g v h') (h'.1 - h.1) (h'.2.1 - h.2.1) (fun q => g.2.2 ≤ q)
theorem am_Mt.mono {l : Launch} {g : am_P} {d : Nat} {e : am_E} {as : List Value} {h : am_H} {Q Q' : Option Value → am_H → Prop} (k : am_Mt l g d e as h Q) (f : ∀ v h', Q v h' → Q' v h') : am_Mt l g d e as h Q' := by
  obtain ⟨v, h', hq, r⟩ := k
  exact ⟨v, h', f v h' hq, r⟩
/-- the locals at a method's entry -/
def am_sl : List Value → am_L
  | [] => []
  | v :: vs => if v.category = 2 then some v :: none :: am_sl vs else some v :: am_sl vs
def am_en (n : Nat) (as : List Value) : am_L := am_sl as ++ List.replicate (n - (am_sl as).length) none
theorem am_sl_len (g : am_P) : ∀ as : List Value, (lg_sl (as.map (am_tv g))).length = (am_sl as).length
  | [] => rfl
  | v :: vs => by
    have ih := am_sl_len g vs
    show ((if (am_tv g v).category = 2 then [Slot.val (am_tv g v), Slot.second] else [Slot.val (am_tv g v)]) ++ lg_sl (vs.map (am_tv g))).length = _
    rw [List.length_append, ih, am_tv_cat]
    simp only [am_sl]
    split <;> simp <;> omega
theorem am_isArr_moved {u U : State} (hvm : u.vm.Alike U.vm) {cell : Cell} {ty : FieldType} (h : u.isArrayOf cell ty) : U.isArrayOf cell ty := State.isArrayOf_alike hvm h
theorem am_ra.moved {u U : State} (hvm : u.vm.Alike U.vm) {cA : ClassId} {ty : FieldType} (h : am_ra u cA ty) : am_ra U cA ty := by
  cases ty with
  | object C =>
    obtain ⟨kA, comp, h1, h2, h3⟩ := h
    obtain ⟨k', hk', he⟩ := hvm.2.2 _ _ h1
    exact ⟨k', comp, hk', by rw [he]; exact h2, by rw [hvm.findClass]; exact h3⟩
  | _ => trivial
theorem am_cell.moved {g : am_P} {u U : State} {H : Heap} {a : Nat} {c : am_C} (hvm : u.vm.Alike U.vm) (h : am_cell g u H a c) : am_cell g U H a c := by
  refine ⟨h.1, fun ty hty => ?_⟩
  obtain ⟨cell, h1, h2, h3, h4, h5, h6, h7⟩ := h.2 ty hty
  exact ⟨cell, h1, am_isArr_moved hvm h2, h3, h4, h5, h6, h7.moved hvm⟩
theorem am_hold.moved {g : am_P} {u U : State} {h : am_H} {H : Heap} (hvm : u.vm.Alike U.vm) (hh : am_hold g u h H) : am_hold g U h H := ⟨hh.1, hh.2.1, hh.2.2.1, fun a ha => (hh.2.2.2 a ha).moved hvm⟩
theorem am_AOA.moved {u U : State} (hvm : u.vm.Alike U.vm) (h : va_AOA .int u) : va_AOA .int U := by
  unfold va_AOA Cond.before Cond.holds at h ⊢
  simp only [Cond.value, beq_iff_eq] at h ⊢
  obtain ⟨comp, h1, h⟩ := Option.bind_eq_some_iff.mp h
  obtain ⟨c, h2, h⟩ := Option.bind_eq_some_iff.mp h
  obtain ⟨k, h3, h⟩ := Option.map_eq_some_iff.mp h
  obtain ⟨k', hk', he⟩ := hvm.2.2 _ _ h3
  refine Option.bind_eq_some_iff.mpr ⟨comp, by rw [hvm.findClass]; exact h1, Option.bind_eq_some_iff.mpr ⟨c, ?_, Option.map_eq_some_iff.mpr ⟨k', hk', ?_⟩⟩⟩
  · have hbe : U.vm.bare = u.vm.bare := by first | exact hvm.bare_eq | exact hvm.bare_eq.symm
    have e1 := va_idx_bare U.vm comp
    rw [hbe] at e1
    exact e1.symm.trans ((va_idx_bare u.vm comp).trans h2)
  · rw [he, hvm.findClass]
    exact h
theorem am_F.moved {g : am_P} {u U : State} (hW : u.WarmedH U.vm) (hH : ∀ a : Nat, a < u.heap.size → ¬ am_A g a → U.heap[a]? = u.heap[a]?) (h : am_F g u) : am_F g U := by
  obtain ⟨h1, h2, h3, h4, h5, h6, h7⟩ := h
  refine ⟨fun w hw => ?_, h2.moved hW.alike, h3.moved hW.alike, h4.moved hW.alike, am_AOA.moved hW.alike h5, vx_Zq.moved hW.alike (h6.kept hH), vx_Zq.moved hW.alike (h7.kept hH)⟩
  have h9 := h1 w hw
  unfold am_nest at hw
  have hf := (List.mem_filter.mp hw).2
  cases w <;> first | exact va_Nw.warmM hW h9 | exact va_Nw.warmD hW h9 | exact va_Nw.warmC hW h9 | exact absurd hf Bool.false_ne_true
/-- any state with the same tables and heap -/
theorem am_F.same {g : am_P} {u U : State} (hvm : u.vm = U.vm) (hh : U.heap = u.heap) (h : am_F g u) : am_F g U := by
  have ha : u.vm.Alike U.vm := by rw [hvm]; exact Vm.Alike.refl _
  obtain ⟨h1, h2, h3, h4, h5, h6, h7⟩ := h
  refine ⟨fun w hw => ?_, h2.moved ha, h3.moved ha, h4.moved ha, am_AOA.moved ha h5, by rw [hh]; exact vx_Zq.moved ha h6, by rw [hh]; exact vx_Zq.moved ha h7⟩
  have h9 := h1 w hw
  unfold am_nest at hw
  have hf := (List.mem_filter.mp hw).2
  cases w <;> first | exact absurd hf Bool.false_ne_true | exact va_Nw.same rfl hvm h9
theorem am_sl_at {i : Nat} {v : Value} (g : am_P) : ∀ (as : List Value) (k : Nat), (am_sl as)[i]? = some (some v) → (k + i, am_tv g v) ∈ lv_args k (as.map (am_tv g)) := by
  intro as
  induction as generalizing i with
  | nil => intro k h; cases h
  | cons w ws ih =>
    intro k h
    simp only [am_sl] at h
    simp only [List.map_cons, lv_args, am_tv_cat]
    split at h
    · rename_i hc
      rw [if_pos hc]
      cases i with
      | zero => cases h; exact List.mem_cons_self
      | succ i =>
        cases i with
        | zero => cases h
        | succ i =>
          have := ih (k + 2) h
          rw [show k + (i + 1 + 1) = k + 2 + i by omega]
          exact List.mem_cons_of_mem _ this
    · rename_i hc
      rw [if_neg hc]
      cases i with
      | zero => cases h; exact List.mem_cons_self
      | succ i =>
        have := ih (k + 1) h
        rw [show k + (i + 1) = k + 1 + i by omega]
        exact List.mem_cons_of_mem _ this
section AK
variable {g : am_P} {l : Launch} {e : am_E} {d : Nat} {Q : am_R → am_H → Prop} {pc : Nat} {lv : am_L} {st : List Value} {h : am_H}
/-- a return -/
theorem ag_ret {v : Option Value} (hd : decode e.2.1 pc = .ok (am_ri v, 1)) (hr : am_rok e.2.2.2 v) (hq : Q (.inl v) h) (hs : v.toList = st) : am_G g l e d Q pc lv st h := by
  subst hs
  refine ⟨.inl v, h, hq, Nat.le_refl _, Nat.le_refl _, ?_⟩
  rintro ⟨p, l', e', R, s, m, args, below, meth, c⟩ ⟨hx, hb, hml, hown, -, -, hts, hK, -⟩ H ls locs cells slots QQ hS hl hc hc2 hE
  rw [Nat.sub_self, Nat.sub_self] at hE
  exact hE H ls locs pc hS (by show decode c.code pc = _; rw [hb]; exact hd) hr
/-- the walk of a body gives its contract -/
theorem am_Mt.of {as : List Value} {Q : Option Value → am_H → Prop} (hy : plainName e.1.cls = true) (hlen : (am_sl as).length ≤ e.2.2.1) (k : am_G g l e d (fun r h' => ∃ v, r = .inl v ∧ Q v h') 0 (am_en e.2.2.1 as) [] h) : am_Mt l g d e as h Q := by
  obtain ⟨r, h', ⟨v, rfl, hq⟩, h1, h2, k⟩ := k
  refine ⟨v, h', hq, h1, h2, ?_⟩
  refine Met.ofW (cc := e.2.1) (maxL := e.2.2.1) (ret := e.2.2.2) hy rfl ?_
  intro p e' s m args below meth c s₁ B hml hv
  obtain ⟨rfl, hold, hK, hF⟩ := hv
  have hx := B.exec
  have hb := B.bytes
  have hr := B.returns
  have hts0 := atoms_spec (ws := am_ws e) B.pre
  have hts : ∀ w ∈ am_tbl, w.before _ s = true := fun w hw => hts0 w (List.mem_cons_of_mem _ hw)
  have hown : s.vm.findClass e.1.cls = some m.cls := findClass_of_methodNamed B.named
  have hlocks := B.notSynchronized
  have hname := (name_of_methodNamed B.named B.method).1
  have hl := lv_entry (as.map (am_tv g)) (n := e.2.2.1) (by rw [am_sl_len]; exact hlen)
  rw [lg_entry_eq]
  generalize hls : (lg_sl (as.map (am_tv g)) ++ List.replicate (e.2.2.1 - (lg_sl (as.map (am_tv g))).length) Slot.unset).toArray = ls at hl ⊢
  have hlv : am_lv g ls e.2.2.1 (am_en e.2.2.1 as) := by
    refine ⟨hl.1, hl.2.1, ?_, fun i v hi => ?_⟩
    · unfold am_en
      rw [List.length_append, List.length_replicate]
      omega
    · unfold am_en at hi
      by_cases hlt : i < (am_sl as).length
      · rw [List.getElem?_append_left hlt] at hi
        have := am_sl_at g as 0 hi
        rw [Nat.zero_add] at this
        exact hl.2.2 _ this
      · rw [List.getElem?_append_right (by omega), List.getElem?_replicate] at hi
        split at hi <;> cases hi
  refine k (p, l, e', (headSpec (am_ws e) (am_room d h h')).room, s, m, (as.map (am_tv g)).toArray, below, meth, c) ⟨hx, hb, hml, hown, hlocks, hr, hts, hK, hF, Nat.le_refl _, Nat.le_refl _, hname, rfl, fun hh hm => vx_table (x := e.1) B (hts _ hm)⟩ s.heap ls [] 0 0 (MQ below (am_Qc g v h') _ s _ _ _) ⟨hold, fun _ _ => rfl, fun q hq => nomatch hq⟩ (by show am_lv g ls c.maxLocals _; rw [hml]; exact hlv) (by show 0 + _ ≤ h'.1 - h.1; omega) (by show 0 + _ ≤ h'.2.1 - h.2.1; omega) ?_
  intro H2 ls2 locs2 pc2 hS2 hd2 hrok
  have hd3 : decode e.2.1 pc2 = .ok (am_ri v, 1) := by rw [← hb]; exact hd2
  have hfr : ∀ q ∈ locs2, g.2.2 ≤ q.base := hS2.2.2
  have hQ : ∀ t : State, t.heap = H2 → s.WarmedH t.vm → am_Qc g v h' (as.map (am_tv g)).toArray s (.returned (v.map (am_tv g))) t := fun t ht hW => ⟨rfl, by rw [ht]; exact hS2.1.moved hW.alike, fun q hq => by rw [ht]; exact hS2.2.1 q hq⟩
  rw [Nat.zero_add, Nat.zero_add]
  cases v with
  | none => exact W.vret hx hb (hr.trans hrok) hQ hfr hd3
  | some v =>
    cases v with
    | int z =>
      obtain ⟨ty, t1, t2⟩ := hrok
      exact W.zret hx hb (hr.trans t1) t2 hQ hfr hd3
    | long z => exact W.lret hx hb (hr.trans hrok) hQ hfr hd3
    | null =>
      obtain ⟨-, ty, t1, t2⟩ := hrok
      exact W.aret hx hb (hr.trans t1) t2 (Or.inl rfl) hQ hfr hd3
    | ref a =>
      obtain ⟨-, ty, t1, t2⟩ := hrok
      exact W.aret hx hb (hr.trans t1) t2 (Or.inr ⟨_, rfl⟩) hQ hfr hd3
    | float z => exact absurd hrok.1 (by rintro (q | ⟨a, q⟩) <;> cases q)
    | double z => exact absurd hrok.1 (by rintro (q | ⟨a, q⟩) <;> cases q)
    | retAddr z => exact absurd hrok.1 (by rintro (q | ⟨a, q⟩) <;> cases q)
end AK
end
section
/-! Calls of methods that have a contract. -/
/-- what the tables say of a method of n parameters -/
def am_me (e : am_E) (n : Nat) : Prop := Cond.code e.1 e.2.1 e.2.2.1 e.2.2.2 ∈ am_tbl ∧ Cond.initialized e.1.cls ∈ am_tbl ∧ (e.1.cls ≠ "java/lang/invoke/MethodHandle" ∧ e.1.cls ≠ "java/lang/invoke/VarHandle" ∧ (parseMethodDescriptor e.1.desc).map (fun d => d.parameters.length) = some n) ∧ e.2.2.1 ≤ 40
/-- .. of an instance method of the class ci -/
def am_mi (e : am_E) (ci : Nat) : Prop := ci < 11 ∧ Cond.instanceMethod e.1 ∈ am_tbl ∧ Cond.selects e.1.cls e.1 e.1 ∈ am_tbl ∧ ∃ r : vw_C, vwCl[ci]? = some r ∧ r.1 = e.1.cls
/-- the entry i of own names it: as any link, as a link among nest mates -/
def am_lk (own : String) (i : Nat) (e : am_E) : Prop := Cond.methodLink own i e.1 ∈ am_tbl
def am_ln (own : String) (i : Nat) (e : am_E) : Prop := ∃ host : String, Cond.methodLinkNest own i e.1 host ∈ am_nest
theorem am_good (e : am_E) (h : Cond.code e.1 e.2.1 e.2.2.1 e.2.2.2 ∈ am_tbl) : GoodIn am_tbl (am_ws e) := by
  have hg : ∀ w ∈ am_tbl, w ∈ am_tbl ∧ ((w.onTables && w.keeps) = true ∨ ∃ ty, w = .arrayClass ty) := fun w hw => ⟨hw, good_of_word (List.mem_filter.mp hw).2⟩
  intro w hw
  rcases List.mem_cons.mp hw with rfl | hw
  · exact hg _ h
  · exact hg w hw
theorem am_Pc_blind {g : am_P} {as : List Value} {h : am_H} : FrameBlind (am_Pc g as h) := by
  rintro a U fr mk ⟨q0, q1, q2, q3⟩
  exact ⟨q0, am_hold.moved (u := U) (U := U.calling fr mk a) (Vm.Alike.refl U.vm) q1, va_K.moved (u := U) (U := U.calling fr mk a) (Vm.Alike.refl U.vm) q2, am_F.same (u := U) (U := U.calling fr mk a) rfl rfl q3⟩
theorem am_Pc_at {g : am_P} {s : State} {as : List Value} {h : am_H} {H : Heap} (hold : am_hold g s h H) (hH : ∀ q : Nat, q < g.2.2 → H[q]? = s.heap[q]?) (hK : va_K g.1 vwCl [] s) (hF : am_F g s) : ∀ U : State, U.heap = H → s.WarmedH U.vm → am_Pc g as h (as.map (am_tv g)).toArray U := fun U hU hW => ⟨rfl, by rw [hU]; exact hold.moved hW.alike, va_K.moved hW.alike hK, hF.moved hW fun a _ ha => by rw [hU]; exact hH a (Nat.not_le.mp ha)⟩
section AL
variable {g : am_P} {l : Launch} {e : am_E} {d : Nat} {Q : am_R → am_H → Prop} {pc : Nat} {lv : am_L} {h : am_H}
/-- behind a call -/
theorem am_go {x : am_T} {H : Heap} {ls : Array Slot} {locs : List Loc} {cells slots : Nat} {QQ : State → Prop} {st0 rest : List Value} {h2 : am_H} {v : Option Value} {mc ms : Nat} {a : Array Value} (hS : am_st g x h H locs)
    (hr : match x with | (p, l, e, R, s, m, args, below, meth, c) => va_Run p l e R s m args below meth c H locs cells slots mc ms (F0 m pc ls st0) (rest.map (am_tv g)) (am_Qc g v h2 a) (fun q => g.2.2 ≤ q))
    (kk : ∀ (H' : Heap) (locs' : List Loc), am_st g x h2 H' locs' → am_W x H' locs' (cells + mc) (slots + ms) QQ (pc + 3) ls ((v.toList ++ rest).map (am_tv g))) : am_W x H locs cells slots QQ pc ls st0 := by
  obtain ⟨p, l, e, R, s, m, args, below, meth, c⟩ := x
  intro T hT X
  obtain ⟨v', st₀, t, T', L, h0, X', hL, e1, e2, ⟨q1, q2, q3⟩, go⟩ := hr T hT X
  have q1' : v' = v.map (am_tv g) := by cases q1; rfl
  subst q1'
  have hW : s.vm.Alike t.vm := by rw [← e2]; exact X'.warmed.alike
  have hst : am_st g (p, l, e, R, s, m, args, below, meth, c) h2 T'.heap (locs ++ L) := by
    refine ⟨by rw [e1]; exact q2.moved hW.symm, fun q hq => ?_, fun q hq => ?_⟩
    · rw [e1, q3 q hq, h0]
      exact hS.2.1 q hq
    · rcases List.mem_append.mp hq with z | z
      · exact hS.2.2 q z
      · exact hL q z
  obtain ⟨t2, a1, b1⟩ := kk T'.heap (locs ++ L) hst T' rfl X'
  refine ⟨t2, go t2 ?_, b1⟩
  have e9 : (v.map (am_tv g)).toList ++ rest.map (am_tv g) = (v.toList ++ rest).map (am_tv g) := by cases v <;> simp
  rw [e9]
  exact a1
theorem am_Gcall {e2 : am_E} {as st rest : List Value} (k : am_Mt l g d e2 as h (fun v h' => am_G g l e (d + 1) Q (pc + 3) lv (v.toList ++ rest) h'))
    (F : ∀ (v : Option Value) (h2 : am_H), Met l e2.1 (am_ws e2) (am_room d h h2) (am_Pc g as h) (am_Qc g v h2) (h2.1 - h.1) (h2.2.1 - h.2.1) (fun q => g.2.2 ≤ q) → ∀ x : am_T, am_ok g l e (d + 1) x → ∀ (H : Heap) (ls : Array Slot) (locs : List Loc) (cells slots : Nat), am_st g x h H locs → am_lv g ls (am_nL x) lv → cells + (h2.1 - h.1) ≤ (am_rm x).cells → slots + (h2.2.1 - h.2.1) ≤ (am_rm x).slots →
      match x with | (p, l, e, R, s, m, args, below, meth, c) => va_Run p l e R s m args below meth c H locs cells slots (h2.1 - h.1) (h2.2.1 - h.2.1) (F0 m pc ls (st.map (am_tv g))) (rest.map (am_tv g)) (am_Qc g v h2 (as.map (am_tv g)).toArray) (fun q => g.2.2 ≤ q)) : am_G g l e (d + 1) Q pc lv st h := by
  obtain ⟨v, h2, ⟨r, h3, hq, g1, g2, kk⟩, h1, h1', hM⟩ := k
  refine ⟨r, h3, hq, Nat.le_trans h1 g1, Nat.le_trans h1' g2, fun x C H ls locs cells slots QQ hS hl hc1 hc2 hE => ?_⟩
  have e1 : cells + (h2.1 - h.1) + (h3.1 - h2.1) = cells + (h3.1 - h.1) := by omega
  have e2' : slots + (h2.2.1 - h.2.1) + (h3.2.1 - h2.2.1) = slots + (h3.2.1 - h.2.1) := by omega
  refine am_go (v := v) (h2 := h2) (mc := h2.1 - h.1) (ms := h2.2.1 - h.2.1) hS (F v h2 hM x C H ls locs cells slots hS hl (by omega) (by omega)) fun H' locs' hS' => ?_
  exact kk x C H' ls locs' _ _ QQ hS' hl (by rw [e1]; exact hc1) (by rw [e2']; exact hc2) (by rw [e1, e2']; exact hE)
theorem am_recv {U : State} {H : Heap} {a ci : Nat} {r : vw_C} (hold : am_hold g U h H) (hK : va_K g.1 vwCl [] U) (ha : a < h.1) (hc : (h.2.2 a).1 = ci) (hci : ci < 11) (hcl : vwCl[ci]? = some r) : ∃ cell : Cell, H[am_ad g a]? = some cell ∧ cell.vm.isStatics = false ∧ U.vm.findClass r.1 = some cell.cls := by
  obtain ⟨r', e1, e2, cell, q1, q2, q3, q4⟩ := (hold.2.2.2 a ha).1 (by rw [hc]; exact hci)
  refine ⟨cell, q1, by rw [q3]; rfl, ?_⟩
  rw [q2, hc]
  exact (hK.1 ci r hcl).2.1
theorem am_fits {R : Room} {n : Nat} (h1 : am_fr (d + 1) ≤ R.frames) (h2 : am_lo (d + 1) ≤ R.locals) (hn : n ≤ 40) : am_fr d + 1 ≤ R.frames ∧ 8 + (n + 11) + am_lo d ≤ R.locals := by
  unfold am_fr at *
  unfold am_lo at *
  omega
theorem am_stk {as rest : List Value} {b : Value} : (as.reverse ++ b :: rest).map (am_tv g) = (as.map (am_tv g)).reverse ++ am_tv g b :: rest.map (am_tv g) := by simp
theorem am_stk0 {as rest : List Value} : (as.reverse ++ rest).map (am_tv g) = (as.map (am_tv g)).reverse ++ rest.map (am_tv g) := by simp
theorem am_catsum {rest : List Value} (h : (rest.map fun v => v.category).sum ≤ 8) : ((rest.map (am_tv g)).map fun v => v.category).sum ≤ 8 := by rw [am_cats]; exact h
set_option maxHeartbeats 1000000 in
theorem ag_callV {i a ci n : Nat} {e2 : am_E} {as st rest : List Value} (hd : decode e.2.1 pc = .ok (.invokevirtual i, 3)) (hm : am_me e2 n) (hi : am_mi e2 ci) (hl : am_lk e.1.cls i e2) (ha : a < h.1) (hc : (h.2.2 a).1 = ci) (hn : as.length = n) (hst : as.reverse ++ .ref a :: rest = st) (hcat : (rest.map fun v => v.category).sum ≤ 8)
    (k : am_Mt l g d e2 (.ref a :: as) h (fun v h' => am_G g l e (d + 1) Q (pc + 3) lv (v.toList ++ rest) h')) : am_G g l e (d + 1) Q pc lv st h := by
  subst hst
  refine am_Gcall k ?_
  rintro v h2 hM ⟨p, l', e', R, s, m, args, below, meth, c⟩ ⟨hx, hb, hml, hown, -, -, hts, hK, hF, hfr, hlo, -, rfl, -⟩ H ls locs cells slots hS hlv hc1 hc2
  obtain ⟨m1, m2, m3, m4⟩ := hm
  obtain ⟨i1, i2, i3, r, i4, i5⟩ := hi
  show va_Run _ _ _ _ _ _ _ _ _ _ _ _ _ _ _ _ _ _ _ _
  rw [am_stk]
  exact va_runV (Ts := am_tbl) (own := e.1.cls) (nL := c.maxLocals) ⟨hx, hb, rfl, hown, hts⟩ hM (C := e2.1.cls) (bytes := e2.2.1) (maxL := e2.2.2.1) (ret := e2.2.2.2) (n := n)
    ⟨callB_of n hts (am_good e2 m1) rfl rfl rfl (hts _ m2) (hts _ hl) m3 (am_fits hfr hlo m4), hts _ i2, hts _ i3⟩ ⟨am_Pc_blind, i5 ▸ am_recv hS.1 hK ha hc i1 i4, am_Pc_at hS.1 hS.2.1 hK hF⟩ rfl (by rw [List.length_map]; exact hn) hlv.1 rfl
    (by show 2 * (F0 m pc ls _).monitorRoom + _ ≤ 8; exact lv_room (m := m) (pc := pc) (ls := ls) (rest := []) (am_catsum hcat)) hd ⟨hc1, hc2⟩
end AL
end
section
/-! The other kinds of calls. -/
section AM
variable {g : am_P} {l : Launch} {e : am_E} {d : Nat} {Q : am_R → am_H → Prop} {pc : Nat} {lv : am_L} {h : am_H}
set_option maxHeartbeats 1000000 in
theorem ag_callVN {i a ci n : Nat} {e2 : am_E} {as st rest : List Value} (hd : decode e.2.1 pc = .ok (.invokevirtual i, 3)) (hm : am_me e2 n) (hi : am_mi e2 ci) (hl : am_ln e.1.cls i e2) (ha : a < h.1) (hc : (h.2.2 a).1 = ci) (hn : as.length = n) (hst : as.reverse ++ .ref a :: rest = st) (hcat : (rest.map fun v => v.category).sum ≤ 8)
    (k : am_Mt l g d e2 (.ref a :: as) h (fun v h' => am_G g l e (d + 1) Q (pc + 3) lv (v.toList ++ rest) h')) : am_G g l e (d + 1) Q pc lv st h := by
  subst hst
  refine am_Gcall k ?_
  rintro v h2 hM ⟨p, l', e', R, s, m, args, below, meth, c⟩ ⟨hx, hb, hml, hown, -, -, hts, hK, hF, hfr, hlo, -, rfl, -⟩ H ls locs cells slots hS hlv hc1 hc2
  obtain ⟨m1, m2, m3, m4⟩ := hm
  obtain ⟨i1, i2, i3, r, i4, i5⟩ := hi
  obtain ⟨host, hl⟩ := hl
  show va_Run _ _ _ _ _ _ _ _ _ _ _ _ _ _ _ _ _ _ _ _
  rw [am_stk]
  exact va_runVN (Ts := am_tbl) (own := e.1.cls) (nL := c.maxLocals) ⟨hx, hb, rfl, hown, hts⟩ hM (bytes := e2.2.1) (maxL := e2.2.2.1) (ret := e2.2.2.2) (n := n) (host := host) (C := e2.1.cls)
    ⟨va_cnB n hts (am_good e2 m1) rfl rfl rfl (hF.1 _ hl) (hts _ m2) m3 (am_fits hfr hlo m4), hts _ i2, hts _ i3⟩ ⟨am_Pc_blind, i5 ▸ am_recv hS.1 hK ha hc i1 i4, am_Pc_at hS.1 hS.2.1 hK hF⟩ rfl (by rw [List.length_map]; exact hn) hlv.1 rfl
    (by show 2 * (F0 m pc ls _).monitorRoom + _ ≤ 8; exact lv_room (m := m) (pc := pc) (ls := ls) (rest := []) (am_catsum hcat)) hd ⟨hc1, hc2⟩
set_option maxHeartbeats 1000000 in
theorem ag_callS {i n : Nat} {e2 : am_E} {as st rest : List Value} (hd : decode e.2.1 pc = .ok (.invokestatic i, 3)) (hm : am_me e2 n) (hs : Cond.static e2.1 ∈ am_tbl) (hl : am_lk e.1.cls i e2) (hn : as.length = n) (hst : as.reverse ++ rest = st) (hcat : (rest.map fun v => v.category).sum ≤ 8)
    (k : am_Mt l g d e2 as h (fun v h' => am_G g l e (d + 1) Q (pc + 3) lv (v.toList ++ rest) h')) : am_G g l e (d + 1) Q pc lv st h := by
  subst hst
  refine am_Gcall k ?_
  rintro v h2 hM ⟨p, l', e', R, s, m, args, below, meth, c⟩ ⟨hx, hb, hml, hown, -, -, hts, hK, hF, hfr, hlo, -, rfl, -⟩ H ls locs cells slots hS hlv hc1 hc2
  obtain ⟨m1, m2, m3, m4⟩ := hm
  show va_Run _ _ _ _ _ _ _ _ _ _ _ _ _ _ _ _ _ _ _ _
  rw [am_stk0]
  exact va_runS (Ts := am_tbl) (own := e.1.cls) (nL := c.maxLocals) ⟨hx, hb, rfl, hown, hts⟩ hM (bytes := e2.2.1) (maxL := e2.2.2.1) (ret := e2.2.2.2) (n := n)
    ⟨callB_of n hts (am_good e2 m1) rfl rfl rfl (hts _ m2) (hts _ hl) m3 (am_fits hfr hlo m4), hts _ hs⟩ ⟨am_Pc_blind, am_Pc_at hS.1 hS.2.1 hK hF⟩ rfl (by rw [List.length_map]; exact hn) hlv.1 rfl
    (by show 2 * (F0 m pc ls _).monitorRoom + _ ≤ 8; exact lv_room (m := m) (pc := pc) (ls := ls) (rest := []) (am_catsum hcat)) hd ⟨hc1, hc2⟩
set_option maxHeartbeats 1000000 in
theorem ag_callSN {i n : Nat} {e2 : am_E} {as st rest : List Value} (hd : decode e.2.1 pc = .ok (.invokestatic i, 3)) (hm : am_me e2 n) (hs : Cond.static e2.1 ∈ am_tbl) (hl : am_ln e.1.cls i e2) (hn : as.length = n) (hst : as.reverse ++ rest = st) (hcat : (rest.map fun v => v.category).sum ≤ 8)
    (k : am_Mt l g d e2 as h (fun v h' => am_G g l e (d + 1) Q (pc + 3) lv (v.toList ++ rest) h')) : am_G g l e (d + 1) Q pc lv st h := by
  subst hst
  refine am_Gcall k ?_
  rintro v h2 hM ⟨p, l', e', R, s, m, args, below, meth, c⟩ ⟨hx, hb, hml, hown, -, -, hts, hK, hF, hfr, hlo, -, rfl, -⟩ H ls locs cells slots hS hlv hc1 hc2
  obtain ⟨m1, m2, m3, m4⟩ := hm
  obtain ⟨host, hl⟩ := hl
  show va_Run _ _ _ _ _ _ _ _ _ _ _ _ _ _ _ _ _ _ _ _
  rw [am_stk0]
  exact va_runSN (Ts := am_tbl) (own := e.1.cls) (nL := c.maxLocals) ⟨hx, hb, rfl, hown, hts⟩ hM (bytes := e2.2.1) (maxL := e2.2.2.1) (ret := e2.2.2.2) (n := n) (host := host)
    ⟨va_cnB n hts (am_good e2 m1) rfl rfl rfl (hF.1 _ hl) (hts _ m2) m3 (am_fits hfr hlo m4), hts _ hs, trivial⟩ ⟨am_Pc_blind, am_Pc_at hS.1 hS.2.1 hK hF⟩ rfl (by rw [List.length_map]; exact hn) hlv.1 rfl
    (by show 2 * (F0 m pc ls _).monitorRoom + _ ≤ 8; exact lv_room (m := m) (pc := pc) (ls := ls) (rest := []) (am_catsum hcat)) hd ⟨hc1, hc2⟩
set_option maxHeartbeats 1000000 in
theorem ag_callI {i a ci n : Nat} {e2 : am_E} {as st rest : List Value} (hd : decode e.2.1 pc = .ok (.invokespecial i, 3)) (hm : am_me e2 n) (hi : e2.1.name = "<init>" ∧ Cond.instanceMethod e2.1 ∈ am_tbl ∧ e2.2.2.2 = none) (hl : am_lk e.1.cls i e2) (hn : as.length = n) (hst : as.reverse ++ .ref a :: rest = st) (hcat : (rest.map fun v => v.category).sum ≤ 8)
    (k : am_Mt l g d e2 (.ref a :: as) h (fun v h' => am_G g l e (d + 1) Q (pc + 3) lv (v.toList ++ rest) h')) : am_G g l e (d + 1) Q pc lv st h := by
  subst hst
  refine am_Gcall k ?_
  rintro v h2 hM ⟨p, l', e', R, s, m, args, below, meth, c⟩ ⟨hx, hb, hml, hown, -, -, hts, hK, hF, hfr, hlo, -, rfl, -⟩ H ls locs cells slots hS hlv hc1 hc2
  obtain ⟨m1, m2, m3, m4⟩ := hm
  obtain ⟨i1, i2, i3⟩ := hi
  show va_Run _ _ _ _ _ _ _ _ _ _ _ _ _ _ _ _ _ _ _ _
  rw [am_stk]
  obtain ⟨y2, b2, mL2, rt2⟩ := e2
  have i3 : rt2 = none := i3
  subst i3
  exact va_runI (Ts := am_tbl) (own := e.1.cls) (nL := c.maxLocals) ⟨hx, hb, rfl, hown, hts⟩ hM (bytes := b2) (maxL := mL2) (n := n)
    ⟨callB_of n hts (am_good (y2, b2, mL2, none) m1) rfl rfl rfl (hts _ m2) (hts _ hl) m3 (am_fits hfr hlo m4), i1, hts _ i2⟩ ⟨am_Pc_blind, am_Pc_at hS.1 hS.2.1 hK hF⟩ rfl (by rw [List.length_map]; exact hn) hlv.1 rfl
    (by show 2 * (F0 m pc ls _).monitorRoom + _ ≤ 8; exact lv_room (m := m) (pc := pc) (ls := ls) (rest := []) (am_catsum hcat)) hd ⟨hc1, hc2⟩
set_option maxHeartbeats 1000000 in
theorem ag_callIN {i a ci n : Nat} {e2 : am_E} {as st rest : List Value} (hd : decode e.2.1 pc = .ok (.invokespecial i, 3)) (hm : am_me e2 n) (hi : e2.1.name = "<init>" ∧ Cond.instanceMethod e2.1 ∈ am_tbl ∧ e2.2.2.2 = none) (hl : am_ln e.1.cls i e2) (hn : as.length = n) (hst : as.reverse ++ .ref a :: rest = st) (hcat : (rest.map fun v => v.category).sum ≤ 8)
    (k : am_Mt l g d e2 (.ref a :: as) h (fun v h' => am_G g l e (d + 1) Q (pc + 3) lv (v.toList ++ rest) h')) : am_G g l e (d + 1) Q pc lv st h := by
  subst hst
  refine am_Gcall k ?_
  rintro v h2 hM ⟨p, l', e', R, s, m, args, below, meth, c⟩ ⟨hx, hb, hml, hown, -, -, hts, hK, hF, hfr, hlo, -, rfl, -⟩ H ls locs cells slots hS hlv hc1 hc2
  obtain ⟨m1, m2, m3, m4⟩ := hm
  obtain ⟨i1, i2, i3⟩ := hi
  obtain ⟨host, hl⟩ := hl
  show va_Run _ _ _ _ _ _ _ _ _ _ _ _ _ _ _ _ _ _ _ _
  rw [am_stk]
  obtain ⟨y2, b2, mL2, rt2⟩ := e2
  have i3 : rt2 = none := i3
  subst i3
  exact va_runIN (Ts := am_tbl) (own := e.1.cls) (nL := c.maxLocals) ⟨hx, hb, rfl, hown, hts⟩ hM (bytes := b2) (maxL := mL2) (n := n) (host := host)
    ⟨va_cnB n hts (am_good (y2, b2, mL2, none) m1) rfl rfl rfl (hF.1 _ hl) (hts _ m2) m3 (am_fits hfr hlo m4), i1, hts _ i2⟩ ⟨am_Pc_blind, am_Pc_at hS.1 hS.2.1 hK hF⟩ rfl (by rw [List.length_map]; exact hn) hlv.1 rfl
    (by show 2 * (F0 m pc ls _).monitorRoom + _ ≤ 8; exact lv_room (m := m) (pc := pc) (ls := ls) (rest := []) (am_catsum hcat)) hd ⟨hc1, hc2⟩
theorem ag_obj {i a : Nat} {st : List Value} (hd : decode e.2.1 pc = .ok (.invokespecial i, 3)) (hl : Cond.methodLink e.1.cls i Lib.objectInit ∈ am_tbl) (h1 : Cond.instanceMethod Lib.objectInit ∈ am_tbl) (h2 : Cond.code Lib.objectInit ⟨#[0xb1]⟩ 1 none ∈ am_tbl) (hcat : (st.map fun v => v.category).sum ≤ 8)
    (k : am_G g l e d Q (pc + 3) lv st h) : am_G g l e d Q pc lv (.ref a :: st) h := by
  refine am_pure ?_ k
  rintro ⟨p, l', e', R, s, m, args, below, meth, c⟩ ⟨hx, hb, hml, hown, -, -, hts, -, -, hfr, hlo, -⟩
  intro H ls locs cells slots QQ hl2 kk
  unfold am_fr at hfr
  unfold am_lo at hlo
  have h9 := lv_room (m := m) (pc := pc) (ls := ls) (rest := []) (am_catsum (g := g) hcat)
  have h10 : 2 * (F0 m pc ls (am_tv g (.ref a) :: st.map (am_tv g))).monitorRoom + ((st.map (am_tv g)).map fun v => v.category).sum + 12 ≤ R.locals := by
    have h11 : (F0 m pc ls (am_tv g (.ref a) :: st.map (am_tv g))).monitorRoom = (F0 m pc ls []).monitorRoom := rfl
    rw [h11]
    omega
  exact W.objInit hx hb hown (hts _ hl) (hts _ h1) (hts _ h2) rfl hl2.1 rfl hd (by omega) h10 (kk ls hl2)
end AM
end
