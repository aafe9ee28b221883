section
-- ===== PART A: goes FIRST, ahead of the names: the tables' words, and 'selects' of the private methods out of them =====
/-- a private method of a class that the tables say can be made, by its rows of tables_1 -/
def lw_okq (q : MethodName × Nat) : Prop := (q.1.cls ≠ "java/lang/invoke/MethodHandle" ∧ q.1.cls ≠ "java/lang/invoke/VarHandle") ∧ Cond.instantiable q.1.cls q.2 ∈ tables_1 ∧ Cond.privateMethod q.1 ∈ tables_1 ∧ Cond.instanceMethod q.1 ∈ tables_1
theorem lw_p0 : lw_okq (⟨"KeyFingers", "playerOf", "(I)LKeyFingers$Hand;"⟩, 5) := ⟨⟨by decide +kernel, by decide +kernel⟩, List.mem_of_getElem? (i := 10) (by decide +kernel), List.mem_of_getElem? (i := 165) (by decide +kernel), List.mem_of_getElem? (i := 166) (by decide +kernel)⟩
theorem lw_p1 : lw_okq (⟨"KeyFingers$Hand", "renumber", "()V"⟩, 8) := ⟨⟨by decide +kernel, by decide +kernel⟩, List.mem_of_getElem? (i := 43) (by decide +kernel), List.mem_of_getElem? (i := 184) (by decide +kernel), List.mem_of_getElem? (i := 185) (by decide +kernel)⟩
theorem lw_p2 : lw_okq (⟨"KeyFingers", "isNote", "(II)Z"⟩, 5) := ⟨⟨by decide +kernel, by decide +kernel⟩, List.mem_of_getElem? (i := 10) (by decide +kernel), List.mem_of_getElem? (i := 259) (by decide +kernel), List.mem_of_getElem? (i := 260) (by decide +kernel)⟩
theorem lw_p3 : lw_okq (⟨"KeyFingers$Rules", "reachCost", "(II)I"⟩, 2) := ⟨⟨by decide +kernel, by decide +kernel⟩, List.mem_of_getElem? (i := 18) (by decide +kernel), List.mem_of_getElem? (i := 308) (by decide +kernel), List.mem_of_getElem? (i := 309) (by decide +kernel)⟩
theorem lw_p4 : lw_okq (⟨"KeyFingers$Rows", "load", "(LKeyFingers$Hand;II)V"⟩, 10) := ⟨⟨by decide +kernel, by decide +kernel⟩, List.mem_of_getElem? (i := 77) (by decide +kernel), List.mem_of_getElem? (i := 320) (by decide +kernel), List.mem_of_getElem? (i := 321) (by decide +kernel)⟩
theorem lw_p5 : lw_okq (⟨"KeyFingers$Rows", "loadNote", "(III)V"⟩, 10) := ⟨⟨by decide +kernel, by decide +kernel⟩, List.mem_of_getElem? (i := 77) (by decide +kernel), List.mem_of_getElem? (i := 339) (by decide +kernel), List.mem_of_getElem? (i := 340) (by decide +kernel)⟩
theorem lw_p6 : lw_okq (⟨"KeyFingers$Rows", "loadSteps", "(IIII)V"⟩, 10) := ⟨⟨by decide +kernel, by decide +kernel⟩, List.mem_of_getElem? (i := 77) (by decide +kernel), List.mem_of_getElem? (i := 347) (by decide +kernel), List.mem_of_getElem? (i := 348) (by decide +kernel)⟩
theorem lw_p7 : lw_okq (⟨"KeyFingers$Rows", "sweep", "(II)V"⟩, 10) := ⟨⟨by decide +kernel, by decide +kernel⟩, List.mem_of_getElem? (i := 77) (by decide +kernel), List.mem_of_getElem? (i := 356) (by decide +kernel), List.mem_of_getElem? (i := 357) (by decide +kernel)⟩
theorem lw_p8 : lw_okq (⟨"KeyFingers$Rows", "costBehind", "(II)I"⟩, 10) := ⟨⟨by decide +kernel, by decide +kernel⟩, List.mem_of_getElem? (i := 77) (by decide +kernel), List.mem_of_getElem? (i := 361) (by decide +kernel), List.mem_of_getElem? (i := 362) (by decide +kernel)⟩
theorem lw_p9 : lw_okq (⟨"KeyFingers$Rows", "answerOfTable", "()I"⟩, 10) := ⟨⟨by decide +kernel, by decide +kernel⟩, List.mem_of_getElem? (i := 77) (by decide +kernel), List.mem_of_getElem? (i := 366) (by decide +kernel), List.mem_of_getElem? (i := 367) (by decide +kernel)⟩
theorem lw_p10 : lw_okq (⟨"KeyFingers$Rows", "fold", "()V"⟩, 10) := ⟨⟨by decide +kernel, by decide +kernel⟩, List.mem_of_getElem? (i := 77) (by decide +kernel), List.mem_of_getElem? (i := 370) (by decide +kernel), List.mem_of_getElem? (i := 371) (by decide +kernel)⟩
theorem lw_p11 : lw_okq (⟨"KeyFingers$Rows", "leadTo", "(I)V"⟩, 10) := ⟨⟨by decide +kernel, by decide +kernel⟩, List.mem_of_getElem? (i := 77) (by decide +kernel), List.mem_of_getElem? (i := 377) (by decide +kernel), List.mem_of_getElem? (i := 378) (by decide +kernel)⟩
theorem lw_p12 : lw_okq (⟨"KeyFingers$Rows", "follow", "(II)V"⟩, 10) := ⟨⟨by decide +kernel, by decide +kernel⟩, List.mem_of_getElem? (i := 77) (by decide +kernel), List.mem_of_getElem? (i := 390) (by decide +kernel), List.mem_of_getElem? (i := 391) (by decide +kernel)⟩
theorem lw_p13 : lw_okq (⟨"KeyFingers", "echoStart", "(II)I"⟩, 5) := ⟨⟨by decide +kernel, by decide +kernel⟩, List.mem_of_getElem? (i := 10) (by decide +kernel), List.mem_of_getElem? (i := 480) (by decide +kernel), List.mem_of_getElem? (i := 481) (by decide +kernel)⟩
theorem lw_p14 : lw_okq (⟨"KeyFingers", "kindOf", "(I)I"⟩, 5) := ⟨⟨by decide +kernel, by decide +kernel⟩, List.mem_of_getElem? (i := 10) (by decide +kernel), List.mem_of_getElem? (i := 514) (by decide +kernel), List.mem_of_getElem? (i := 515) (by decide +kernel)⟩
theorem lw_p15 : lw_okq (⟨"KeyFingers", "exchange", "(I)V"⟩, 5) := ⟨⟨by decide +kernel, by decide +kernel⟩, List.mem_of_getElem? (i := 10) (by decide +kernel), List.mem_of_getElem? (i := 526) (by decide +kernel), List.mem_of_getElem? (i := 527) (by decide +kernel)⟩
def lw_privs_1 : List (MethodName × Nat) := [(⟨"KeyFingers", "playerOf", "(I)LKeyFingers$Hand;"⟩, 5), (⟨"KeyFingers$Hand", "renumber", "()V"⟩, 8), (⟨"KeyFingers", "isNote", "(II)Z"⟩, 5), (⟨"KeyFingers$Rules", "reachCost", "(II)I"⟩, 2), (⟨"KeyFingers$Rows", "load", "(LKeyFingers$Hand;II)V"⟩, 10), (⟨"KeyFingers$Rows", "loadNote", "(III)V"⟩, 10), (⟨"KeyFingers$Rows", "loadSteps", "(IIII)V"⟩, 10), (⟨"KeyFingers$Rows", "sweep", "(II)V"⟩, 10), (⟨"KeyFingers$Rows", "costBehind", "(II)I"⟩, 10), (⟨"KeyFingers$Rows", "answerOfTable", "()I"⟩, 10), (⟨"KeyFingers$Rows", "fold", "()V"⟩, 10), (⟨"KeyFingers$Rows", "leadTo", "(I)V"⟩, 10), (⟨"KeyFingers$Rows", "follow", "(II)V"⟩, 10), (⟨"KeyFingers", "echoStart", "(II)I"⟩, 5), (⟨"KeyFingers", "kindOf", "(I)I"⟩, 5), (⟨"KeyFingers", "exchange", "(I)V"⟩, 5)]
theorem lw_r1 : ∀ q ∈ lw_privs_1, lw_okq q := List.forall_mem_cons.mpr ⟨lw_p0, List.forall_mem_cons.mpr ⟨lw_p1, List.forall_mem_cons.mpr ⟨lw_p2, List.forall_mem_cons.mpr ⟨lw_p3, List.forall_mem_cons.mpr ⟨lw_p4, List.forall_mem_cons.mpr ⟨lw_p5, List.forall_mem_cons.mpr ⟨lw_p6, List.forall_mem_cons.mpr ⟨lw_p7, List.forall_mem_cons.mpr ⟨lw_p8, List.forall_mem_cons.mpr ⟨lw_p9, List.forall_mem_cons.mpr ⟨lw_p10, List.forall_mem_cons.mpr ⟨lw_p11, List.forall_mem_cons.mpr ⟨lw_p12, List.forall_mem_cons.mpr ⟨lw_p13, List.forall_mem_cons.mpr ⟨lw_p14, List.forall_mem_cons.mpr ⟨lw_p15, fun _ h => absurd h List.not_mem_nil⟩⟩⟩⟩⟩⟩⟩⟩⟩⟩⟩⟩⟩⟩⟩⟩
theorem lw_p16 : lw_okq (⟨"KeyFingers", "countOf", "(I)I"⟩, 5) := ⟨⟨by decide +kernel, by decide +kernel⟩, List.mem_of_getElem? (i := 10) (by decide +kernel), List.mem_of_getElem? (i := 544) (by decide +kernel), List.mem_of_getElem? (i := 545) (by decide +kernel)⟩
theorem lw_p17 : lw_okq (⟨"KeyFingersModel", "lays", "(III)V"⟩, 30) := ⟨⟨by decide +kernel, by decide +kernel⟩, List.mem_of_getElem? (i := 548) (by decide +kernel), List.mem_of_getElem? (i := 661) (by decide +kernel), List.mem_of_getElem? (i := 662) (by decide +kernel)⟩
theorem lw_p18 : lw_okq (⟨"KeyFingersModel", "isChanged", "()V"⟩, 30) := ⟨⟨by decide +kernel, by decide +kernel⟩, List.mem_of_getElem? (i := 548) (by decide +kernel), List.mem_of_getElem? (i := 665) (by decide +kernel), List.mem_of_getElem? (i := 666) (by decide +kernel)⟩
theorem lw_p19 : lw_okq (⟨"KeyFingersModel", "notesOf", "(I)I"⟩, 30) := ⟨⟨by decide +kernel, by decide +kernel⟩, List.mem_of_getElem? (i := 548) (by decide +kernel), List.mem_of_getElem? (i := 692) (by decide +kernel), List.mem_of_getElem? (i := 693) (by decide +kernel)⟩
theorem lw_p20 : lw_okq (⟨"KeyFingersModel", "isNote", "(II)Z"⟩, 30) := ⟨⟨by decide +kernel, by decide +kernel⟩, List.mem_of_getElem? (i := 548) (by decide +kernel), List.mem_of_getElem? (i := 700) (by decide +kernel), List.mem_of_getElem? (i := 701) (by decide +kernel)⟩
theorem lw_p21 : lw_okq (⟨"KeyFingersModel", "placeOf", "(II)I"⟩, 30) := ⟨⟨by decide +kernel, by decide +kernel⟩, List.mem_of_getElem? (i := 548) (by decide +kernel), List.mem_of_getElem? (i := 704) (by decide +kernel), List.mem_of_getElem? (i := 705) (by decide +kernel)⟩
theorem lw_p22 : lw_okq (⟨"KeyFingersModel", "noteCost", "(II)I"⟩, 30) := ⟨⟨by decide +kernel, by decide +kernel⟩, List.mem_of_getElem? (i := 548) (by decide +kernel), List.mem_of_getElem? (i := 715) (by decide +kernel), List.mem_of_getElem? (i := 716) (by decide +kernel)⟩
theorem lw_p23 : lw_okq (⟨"KeyFingersModel", "stepCost", "(IIIII)I"⟩, 30) := ⟨⟨by decide +kernel, by decide +kernel⟩, List.mem_of_getElem? (i := 548) (by decide +kernel), List.mem_of_getElem? (i := 723) (by decide +kernel), List.mem_of_getElem? (i := 724) (by decide +kernel)⟩
theorem lw_p24 : lw_okq (⟨"KeyFingersModel", "byReach", "(III)I"⟩, 30) := ⟨⟨by decide +kernel, by decide +kernel⟩, List.mem_of_getElem? (i := 548) (by decide +kernel), List.mem_of_getElem? (i := 727) (by decide +kernel), List.mem_of_getElem? (i := 728) (by decide +kernel)⟩
theorem lw_p25 : lw_okq (⟨"KeyFingersModel", "findHand", "(I)V"⟩, 30) := ⟨⟨by decide +kernel, by decide +kernel⟩, List.mem_of_getElem? (i := 548) (by decide +kernel), List.mem_of_getElem? (i := 736) (by decide +kernel), List.mem_of_getElem? (i := 737) (by decide +kernel)⟩
theorem lw_p26 : lw_okq (⟨"KeyFingersModel", "leastOfHand", "(I)I"⟩, 30) := ⟨⟨by decide +kernel, by decide +kernel⟩, List.mem_of_getElem? (i := 548) (by decide +kernel), List.mem_of_getElem? (i := 740) (by decide +kernel), List.mem_of_getElem? (i := 741) (by decide +kernel)⟩
theorem lw_p27 : lw_okq (⟨"KeyFingersModel", "layNotes", "(I)V"⟩, 30) := ⟨⟨by decide +kernel, by decide +kernel⟩, List.mem_of_getElem? (i := 548) (by decide +kernel), List.mem_of_getElem? (i := 744) (by decide +kernel), List.mem_of_getElem? (i := 745) (by decide +kernel)⟩
theorem lw_p28 : lw_okq (⟨"KeyFingersModel", "layTie", "(I)V"⟩, 30) := ⟨⟨by decide +kernel, by decide +kernel⟩, List.mem_of_getElem? (i := 548) (by decide +kernel), List.mem_of_getElem? (i := 748) (by decide +kernel), List.mem_of_getElem? (i := 749) (by decide +kernel)⟩
theorem lw_p29 : lw_okq (⟨"KeyFingersModel", "doesTieHold", "(I)Z"⟩, 30) := ⟨⟨by decide +kernel, by decide +kernel⟩, List.mem_of_getElem? (i := 548) (by decide +kernel), List.mem_of_getElem? (i := 752) (by decide +kernel), List.mem_of_getElem? (i := 753) (by decide +kernel)⟩
theorem lw_p30 : lw_okq (⟨"KeyFingersModel", "leastRow", "()I"⟩, 30) := ⟨⟨by decide +kernel, by decide +kernel⟩, List.mem_of_getElem? (i := 548) (by decide +kernel), List.mem_of_getElem? (i := 756) (by decide +kernel), List.mem_of_getElem? (i := 757) (by decide +kernel)⟩
theorem lw_p31 : lw_okq (⟨"KeyFingersModel", "findTie", "()V"⟩, 30) := ⟨⟨by decide +kernel, by decide +kernel⟩, List.mem_of_getElem? (i := 548) (by decide +kernel), List.mem_of_getElem? (i := 760) (by decide +kernel), List.mem_of_getElem? (i := 761) (by decide +kernel)⟩
def lw_privs_2 : List (MethodName × Nat) := [(⟨"KeyFingers", "countOf", "(I)I"⟩, 5), (⟨"KeyFingersModel", "lays", "(III)V"⟩, 30), (⟨"KeyFingersModel", "isChanged", "()V"⟩, 30), (⟨"KeyFingersModel", "notesOf", "(I)I"⟩, 30), (⟨"KeyFingersModel", "isNote", "(II)Z"⟩, 30), (⟨"KeyFingersModel", "placeOf", "(II)I"⟩, 30), (⟨"KeyFingersModel", "noteCost", "(II)I"⟩, 30), (⟨"KeyFingersModel", "stepCost", "(IIIII)I"⟩, 30), (⟨"KeyFingersModel", "byReach", "(III)I"⟩, 30), (⟨"KeyFingersModel", "findHand", "(I)V"⟩, 30), (⟨"KeyFingersModel", "leastOfHand", "(I)I"⟩, 30), (⟨"KeyFingersModel", "layNotes", "(I)V"⟩, 30), (⟨"KeyFingersModel", "layTie", "(I)V"⟩, 30), (⟨"KeyFingersModel", "doesTieHold", "(I)Z"⟩, 30), (⟨"KeyFingersModel", "leastRow", "()I"⟩, 30), (⟨"KeyFingersModel", "findTie", "()V"⟩, 30)]
theorem lw_r2 : ∀ q ∈ lw_privs_2, lw_okq q := List.forall_mem_cons.mpr ⟨lw_p16, List.forall_mem_cons.mpr ⟨lw_p17, List.forall_mem_cons.mpr ⟨lw_p18, List.forall_mem_cons.mpr ⟨lw_p19, List.forall_mem_cons.mpr ⟨lw_p20, List.forall_mem_cons.mpr ⟨lw_p21, List.forall_mem_cons.mpr ⟨lw_p22, List.forall_mem_cons.mpr ⟨lw_p23, List.forall_mem_cons.mpr ⟨lw_p24, List.forall_mem_cons.mpr ⟨lw_p25, List.forall_mem_cons.mpr ⟨lw_p26, List.forall_mem_cons.mpr ⟨lw_p27, List.forall_mem_cons.mpr ⟨lw_p28, List.forall_mem_cons.mpr ⟨lw_p29, List.forall_mem_cons.mpr ⟨lw_p30, List.forall_mem_cons.mpr ⟨lw_p31, fun _ h => absurd h List.not_mem_nil⟩⟩⟩⟩⟩⟩⟩⟩⟩⟩⟩⟩⟩⟩⟩⟩
theorem lw_p32 : lw_okq (⟨"KeyFingersModel", "back", "(I)V"⟩, 30) := ⟨⟨by decide +kernel, by decide +kernel⟩, List.mem_of_getElem? (i := 548) (by decide +kernel), List.mem_of_getElem? (i := 764) (by decide +kernel), List.mem_of_getElem? (i := 765) (by decide +kernel)⟩
theorem lw_p33 : lw_okq (⟨"KeyFingersModel", "goingOn", "(III)I"⟩, 30) := ⟨⟨by decide +kernel, by decide +kernel⟩, List.mem_of_getElem? (i := 548) (by decide +kernel), List.mem_of_getElem? (i := 768) (by decide +kernel), List.mem_of_getElem? (i := 769) (by decide +kernel)⟩
theorem lw_p34 : lw_okq (⟨"KeyFingersModel", "isOf", "(II)Z"⟩, 30) := ⟨⟨by decide +kernel, by decide +kernel⟩, List.mem_of_getElem? (i := 548) (by decide +kernel), List.mem_of_getElem? (i := 772) (by decide +kernel), List.mem_of_getElem? (i := 773) (by decide +kernel)⟩
theorem lw_p35 : lw_okq (⟨"KeyFingersModel", "stepAt", "(III)I"⟩, 30) := ⟨⟨by decide +kernel, by decide +kernel⟩, List.mem_of_getElem? (i := 548) (by decide +kernel), List.mem_of_getElem? (i := 776) (by decide +kernel), List.mem_of_getElem? (i := 777) (by decide +kernel)⟩
theorem lw_p36 : lw_okq (⟨"KeyFingersModel", "after", "(II)I"⟩, 30) := ⟨⟨by decide +kernel, by decide +kernel⟩, List.mem_of_getElem? (i := 548) (by decide +kernel), List.mem_of_getElem? (i := 780) (by decide +kernel), List.mem_of_getElem? (i := 781) (by decide +kernel)⟩
theorem lw_p37 : lw_okq (⟨"KeyFingersModel", "findWith", "(I)V"⟩, 30) := ⟨⟨by decide +kernel, by decide +kernel⟩, List.mem_of_getElem? (i := 548) (by decide +kernel), List.mem_of_getElem? (i := 784) (by decide +kernel), List.mem_of_getElem? (i := 785) (by decide +kernel)⟩
theorem lw_p38 : lw_okq (⟨"KeyFingersModel", "findJoint", "(I)V"⟩, 30) := ⟨⟨by decide +kernel, by decide +kernel⟩, List.mem_of_getElem? (i := 548) (by decide +kernel), List.mem_of_getElem? (i := 788) (by decide +kernel), List.mem_of_getElem? (i := 789) (by decide +kernel)⟩
theorem lw_p39 : lw_okq (⟨"KeyFingersModel", "jointStep", "(III)I"⟩, 30) := ⟨⟨by decide +kernel, by decide +kernel⟩, List.mem_of_getElem? (i := 548) (by decide +kernel), List.mem_of_getElem? (i := 792) (by decide +kernel), List.mem_of_getElem? (i := 793) (by decide +kernel)⟩
theorem lw_p40 : lw_okq (⟨"KeyFingersModel", "isOfBoth", "(II)Z"⟩, 30) := ⟨⟨by decide +kernel, by decide +kernel⟩, List.mem_of_getElem? (i := 548) (by decide +kernel), List.mem_of_getElem? (i := 796) (by decide +kernel), List.mem_of_getElem? (i := 797) (by decide +kernel)⟩
theorem lw_p41 : lw_okq (⟨"KeyFingersModel", "leastStart", "()I"⟩, 30) := ⟨⟨by decide +kernel, by decide +kernel⟩, List.mem_of_getElem? (i := 548) (by decide +kernel), List.mem_of_getElem? (i := 800) (by decide +kernel), List.mem_of_getElem? (i := 801) (by decide +kernel)⟩
theorem lw_p42 : lw_okq (⟨"KeyFingersModel", "startCost", "(I)I"⟩, 30) := ⟨⟨by decide +kernel, by decide +kernel⟩, List.mem_of_getElem? (i := 548) (by decide +kernel), List.mem_of_getElem? (i := 804) (by decide +kernel), List.mem_of_getElem? (i := 805) (by decide +kernel)⟩
theorem lw_p43 : lw_okq (⟨"KeyFingersModel", "findFingers", "(I)V"⟩, 30) := ⟨⟨by decide +kernel, by decide +kernel⟩, List.mem_of_getElem? (i := 548) (by decide +kernel), List.mem_of_getElem? (i := 808) (by decide +kernel), List.mem_of_getElem? (i := 809) (by decide +kernel)⟩
theorem lw_p44 : lw_okq (⟨"KeyFingersModel", "fingerBehind", "(II)I"⟩, 30) := ⟨⟨by decide +kernel, by decide +kernel⟩, List.mem_of_getElem? (i := 548) (by decide +kernel), List.mem_of_getElem? (i := 812) (by decide +kernel), List.mem_of_getElem? (i := 813) (by decide +kernel)⟩
theorem lw_p45 : lw_okq (⟨"KeyFingersModel", "findTied", "(I)V"⟩, 30) := ⟨⟨by decide +kernel, by decide +kernel⟩, List.mem_of_getElem? (i := 548) (by decide +kernel), List.mem_of_getElem? (i := 816) (by decide +kernel), List.mem_of_getElem? (i := 817) (by decide +kernel)⟩
theorem lw_p46 : lw_okq (⟨"KeyFingersModel", "jointBehind", "(II)I"⟩, 30) := ⟨⟨by decide +kernel, by decide +kernel⟩, List.mem_of_getElem? (i := 548) (by decide +kernel), List.mem_of_getElem? (i := 820) (by decide +kernel), List.mem_of_getElem? (i := 821) (by decide +kernel)⟩
theorem lw_p47 : lw_okq (⟨"KeyFingersModel", "ties", "(IIII)I"⟩, 30) := ⟨⟨by decide +kernel, by decide +kernel⟩, List.mem_of_getElem? (i := 548) (by decide +kernel), List.mem_of_getElem? (i := 836) (by decide +kernel), List.mem_of_getElem? (i := 837) (by decide +kernel)⟩
def lw_privs_3 : List (MethodName × Nat) := [(⟨"KeyFingersModel", "back", "(I)V"⟩, 30), (⟨"KeyFingersModel", "goingOn", "(III)I"⟩, 30), (⟨"KeyFingersModel", "isOf", "(II)Z"⟩, 30), (⟨"KeyFingersModel", "stepAt", "(III)I"⟩, 30), (⟨"KeyFingersModel", "after", "(II)I"⟩, 30), (⟨"KeyFingersModel", "findWith", "(I)V"⟩, 30), (⟨"KeyFingersModel", "findJoint", "(I)V"⟩, 30), (⟨"KeyFingersModel", "jointStep", "(III)I"⟩, 30), (⟨"KeyFingersModel", "isOfBoth", "(II)Z"⟩, 30), (⟨"KeyFingersModel", "leastStart", "()I"⟩, 30), (⟨"KeyFingersModel", "startCost", "(I)I"⟩, 30), (⟨"KeyFingersModel", "findFingers", "(I)V"⟩, 30), (⟨"KeyFingersModel", "fingerBehind", "(II)I"⟩, 30), (⟨"KeyFingersModel", "findTied", "(I)V"⟩, 30), (⟨"KeyFingersModel", "jointBehind", "(II)I"⟩, 30), (⟨"KeyFingersModel", "ties", "(IIII)I"⟩, 30)]
theorem lw_r3 : ∀ q ∈ lw_privs_3, lw_okq q := List.forall_mem_cons.mpr ⟨lw_p32, List.forall_mem_cons.mpr ⟨lw_p33, List.forall_mem_cons.mpr ⟨lw_p34, List.forall_mem_cons.mpr ⟨lw_p35, List.forall_mem_cons.mpr ⟨lw_p36, List.forall_mem_cons.mpr ⟨lw_p37, List.forall_mem_cons.mpr ⟨lw_p38, List.forall_mem_cons.mpr ⟨lw_p39, List.forall_mem_cons.mpr ⟨lw_p40, List.forall_mem_cons.mpr ⟨lw_p41, List.forall_mem_cons.mpr ⟨lw_p42, List.forall_mem_cons.mpr ⟨lw_p43, List.forall_mem_cons.mpr ⟨lw_p44, List.forall_mem_cons.mpr ⟨lw_p45, List.forall_mem_cons.mpr ⟨lw_p46, List.forall_mem_cons.mpr ⟨lw_p47, fun _ h => absurd h List.not_mem_nil⟩⟩⟩⟩⟩⟩⟩⟩⟩⟩⟩⟩⟩⟩⟩⟩
theorem lw_p48 : lw_okq (⟨"KeyFingersModel", "plainTo", "(I)I"⟩, 30) := ⟨⟨by decide +kernel, by decide +kernel⟩, List.mem_of_getElem? (i := 548) (by decide +kernel), List.mem_of_getElem? (i := 852) (by decide +kernel), List.mem_of_getElem? (i := 853) (by decide +kernel)⟩
theorem lw_p49 : lw_okq (⟨"KeyFingersModel", "begin", "()V"⟩, 30) := ⟨⟨by decide +kernel, by decide +kernel⟩, List.mem_of_getElem? (i := 548) (by decide +kernel), List.mem_of_getElem? (i := 856) (by decide +kernel), List.mem_of_getElem? (i := 857) (by decide +kernel)⟩
theorem lw_p50 : lw_okq (⟨"KeyFingersModel", "goesOn", "(IZ)V"⟩, 30) := ⟨⟨by decide +kernel, by decide +kernel⟩, List.mem_of_getElem? (i := 548) (by decide +kernel), List.mem_of_getElem? (i := 860) (by decide +kernel), List.mem_of_getElem? (i := 861) (by decide +kernel)⟩
theorem lw_p51 : lw_okq (⟨"KeyFingersModel", "leastUp", "()I"⟩, 30) := ⟨⟨by decide +kernel, by decide +kernel⟩, List.mem_of_getElem? (i := 548) (by decide +kernel), List.mem_of_getElem? (i := 864) (by decide +kernel), List.mem_of_getElem? (i := 865) (by decide +kernel)⟩
theorem lw_p52 : lw_okq (⟨"KeyFingersModel", "phraseOf", "(I)I"⟩, 30) := ⟨⟨by decide +kernel, by decide +kernel⟩, List.mem_of_getElem? (i := 548) (by decide +kernel), List.mem_of_getElem? (i := 872) (by decide +kernel), List.mem_of_getElem? (i := 873) (by decide +kernel)⟩
theorem lw_p53 : lw_okq (⟨"KeyFingersModel", "goes", "(I)V"⟩, 30) := ⟨⟨by decide +kernel, by decide +kernel⟩, List.mem_of_getElem? (i := 548) (by decide +kernel), List.mem_of_getElem? (i := 876) (by decide +kernel), List.mem_of_getElem? (i := 877) (by decide +kernel)⟩
theorem lw_p54 : lw_okq (⟨"KeyFingersModel", "echoAt", "(II)I"⟩, 30) := ⟨⟨by decide +kernel, by decide +kernel⟩, List.mem_of_getElem? (i := 548) (by decide +kernel), List.mem_of_getElem? (i := 896) (by decide +kernel), List.mem_of_getElem? (i := 897) (by decide +kernel)⟩
theorem lw_p55 : lw_okq (⟨"KeyFingersModel", "isEcho", "(II)Z"⟩, 30) := ⟨⟨by decide +kernel, by decide +kernel⟩, List.mem_of_getElem? (i := 548) (by decide +kernel), List.mem_of_getElem? (i := 900) (by decide +kernel), List.mem_of_getElem? (i := 901) (by decide +kernel)⟩
theorem lw_p56 : lw_okq (⟨"KeyFingersModel", "likeness", "(II)I"⟩, 30) := ⟨⟨by decide +kernel, by decide +kernel⟩, List.mem_of_getElem? (i := 548) (by decide +kernel), List.mem_of_getElem? (i := 904) (by decide +kernel), List.mem_of_getElem? (i := 905) (by decide +kernel)⟩
theorem lw_p57 : lw_okq (⟨"KeyFingersModel", "isSo", "(II)Z"⟩, 30) := ⟨⟨by decide +kernel, by decide +kernel⟩, List.mem_of_getElem? (i := 548) (by decide +kernel), List.mem_of_getElem? (i := 916) (by decide +kernel), List.mem_of_getElem? (i := 917) (by decide +kernel)⟩
theorem lw_p58 : lw_okq (⟨"KeyFingersModel", "together", "(II)I"⟩, 30) := ⟨⟨by decide +kernel, by decide +kernel⟩, List.mem_of_getElem? (i := 548) (by decide +kernel), List.mem_of_getElem? (i := 924) (by decide +kernel), List.mem_of_getElem? (i := 925) (by decide +kernel)⟩
theorem lw_p59 : lw_okq (⟨"KeyFingersModel", "swaps", "(I)V"⟩, 30) := ⟨⟨by decide +kernel, by decide +kernel⟩, List.mem_of_getElem? (i := 548) (by decide +kernel), List.mem_of_getElem? (i := 932) (by decide +kernel), List.mem_of_getElem? (i := 933) (by decide +kernel)⟩
theorem lw_p60 : lw_okq (⟨"KeyFingersModel", "sumBehind", "(I)I"⟩, 30) := ⟨⟨by decide +kernel, by decide +kernel⟩, List.mem_of_getElem? (i := 548) (by decide +kernel), List.mem_of_getElem? (i := 941) (by decide +kernel), List.mem_of_getElem? (i := 942) (by decide +kernel)⟩
theorem lw_p61 : lw_okq (⟨"KeyFingersModel", "manyMarks", "()I"⟩, 30) := ⟨⟨by decide +kernel, by decide +kernel⟩, List.mem_of_getElem? (i := 548) (by decide +kernel), List.mem_of_getElem? (i := 949) (by decide +kernel), List.mem_of_getElem? (i := 950) (by decide +kernel)⟩
theorem lw_p62 : lw_okq (⟨"KeyFingersModel", "manyMoments", "(I)I"⟩, 30) := ⟨⟨by decide +kernel, by decide +kernel⟩, List.mem_of_getElem? (i := 548) (by decide +kernel), List.mem_of_getElem? (i := 953) (by decide +kernel), List.mem_of_getElem? (i := 954) (by decide +kernel)⟩
def lw_privs_4 : List (MethodName × Nat) := [(⟨"KeyFingersModel", "plainTo", "(I)I"⟩, 30), (⟨"KeyFingersModel", "begin", "()V"⟩, 30), (⟨"KeyFingersModel", "goesOn", "(IZ)V"⟩, 30), (⟨"KeyFingersModel", "leastUp", "()I"⟩, 30), (⟨"KeyFingersModel", "phraseOf", "(I)I"⟩, 30), (⟨"KeyFingersModel", "goes", "(I)V"⟩, 30), (⟨"KeyFingersModel", "echoAt", "(II)I"⟩, 30), (⟨"KeyFingersModel", "isEcho", "(II)Z"⟩, 30), (⟨"KeyFingersModel", "likeness", "(II)I"⟩, 30), (⟨"KeyFingersModel", "isSo", "(II)Z"⟩, 30), (⟨"KeyFingersModel", "together", "(II)I"⟩, 30), (⟨"KeyFingersModel", "swaps", "(I)V"⟩, 30), (⟨"KeyFingersModel", "sumBehind", "(I)I"⟩, 30), (⟨"KeyFingersModel", "manyMarks", "()I"⟩, 30), (⟨"KeyFingersModel", "manyMoments", "(I)I"⟩, 30)]
theorem lw_r4 : ∀ q ∈ lw_privs_4, lw_okq q := List.forall_mem_cons.mpr ⟨lw_p48, List.forall_mem_cons.mpr ⟨lw_p49, List.forall_mem_cons.mpr ⟨lw_p50, List.forall_mem_cons.mpr ⟨lw_p51, List.forall_mem_cons.mpr ⟨lw_p52, List.forall_mem_cons.mpr ⟨lw_p53, List.forall_mem_cons.mpr ⟨lw_p54, List.forall_mem_cons.mpr ⟨lw_p55, List.forall_mem_cons.mpr ⟨lw_p56, List.forall_mem_cons.mpr ⟨lw_p57, List.forall_mem_cons.mpr ⟨lw_p58, List.forall_mem_cons.mpr ⟨lw_p59, List.forall_mem_cons.mpr ⟨lw_p60, List.forall_mem_cons.mpr ⟨lw_p61, List.forall_mem_cons.mpr ⟨lw_p62, fun _ h => absurd h List.not_mem_nil⟩⟩⟩⟩⟩⟩⟩⟩⟩⟩⟩⟩⟩⟩⟩
def lw_privs : List (MethodName × Nat) := lw_privs_1 ++ (lw_privs_2 ++ (lw_privs_3 ++ (lw_privs_4)))
def lw_tbl : List Cond := k2_sels lw_privs ++ tables_1
theorem lw_privs_ok : ∀ q ∈ lw_privs, lw_okq q := by
  show ∀ q ∈ lw_privs_1 ++ (lw_privs_2 ++ (lw_privs_3 ++ (lw_privs_4))), lw_okq q
  exact List.forall_mem_append.mpr ⟨lw_r1, List.forall_mem_append.mpr ⟨lw_r2, List.forall_mem_append.mpr ⟨lw_r3, lw_r4⟩⟩⟩

theorem goodIn_r {big : List Cond} (ws : List Cond) (ps : List Nat) (hp : ws = ps.filterMap (fun i => big[i]?)) (h : ws.all goodWord = true) : GoodIn big ws := by
  intro w hw
  have h1 := List.all_eq_true.mp h w hw
  rw [hp] at hw
  obtain ⟨i, -, hi⟩ := List.mem_filterMap.mp hw
  exact ⟨List.mem_of_getElem? hi, good_of_word h1⟩
theorem goodIn_app {big a b : List Cond} (ha : GoodIn big a) (hb : GoodIn big b) : GoodIn big (a ++ b) := fun w h => (List.mem_append.mp h).elim (ha w) (hb w)
def RX0 : String := "KeyFingers$Hand"
def TX0 : u_T := fun k => match k with
  | 0 => ("KeyFingers$Hand", "side", "I", true)
  | 1 => ("KeyFingers$Hand", "keys", "[I", true)
  | 2 => ("KeyFingers$Hand", "marks", "[I", true)
  | 3 => ("KeyFingers$Hand", "noteMoments", "[I", true)
  | 4 => ("KeyFingers$Hand", "notes", "I", false)
  | 5 => ("KeyFingers$Hand", "tieFirst", "I", false)
  | 6 => ("KeyFingers$Hand", "tieSecond", "I", false)
  | _ => ("KeyFingers$Hand", "tieLength", "I", false)
def tyX0 : Nat → FieldType := fun k => match k with
  | 0 => .int
  | 1 => .array .int
  | 2 => .array .int
  | 3 => .array .int
  | 4 => .int
  | 5 => .int
  | 6 => .int
  | _ => .int
abbrev wsX00 : List Cond := u_ws RX0 TX0 8
theorem nmX0 : ∀ a, a < 8 → ∀ b, b < 8 → a ≠ b → (TX0 a).2.1 ≠ (TX0 b).2.1 := by decide +kernel
theorem tyX0_ok : ∀ k, k < 8 → parseFieldDescriptor (TX0 k).2.2.1 = some (tyX0 k) := by decide +kernel
def RX1 : String := "KeyFingers$Phrases"
def TX1 : u_T := fun k => match k with
  | 0 => ("KeyFingers$Phrases", "names", "[I", true)
  | 1 => ("KeyFingers$Phrases", "hands", "[I", true)
  | 2 => ("KeyFingers$Phrases", "starts", "[I", true)
  | 3 => ("KeyFingers$Phrases", "lengths", "[I", true)
  | _ => ("KeyFingers$Phrases", "count", "I", false)
def tyX1 : Nat → FieldType := fun k => match k with
  | 0 => .array .int
  | 1 => .array .int
  | 2 => .array .int
  | 3 => .array .int
  | _ => .int
abbrev wsX10 : List Cond := u_ws RX1 TX1 5
theorem nmX1 : ∀ a, a < 5 → ∀ b, b < 5 → a ≠ b → (TX1 a).2.1 ≠ (TX1 b).2.1 := by decide +kernel
theorem tyX1_ok : ∀ k, k < 5 → parseFieldDescriptor (TX1 k).2.2.1 = some (tyX1 k) := by decide +kernel
def RX2 : String := "KeyFingers$Rows"
def TX2 : u_T := fun k => match k with
  | 0 => ("KeyFingers$Rows", "rules", "LKeyFingers$Rules;", true)
  | 1 => ("KeyFingers$Rows", "noteCosts", "[I", true)
  | 2 => ("KeyFingers$Rows", "stepCosts", "[I", true)
  | 3 => ("KeyFingers$Rows", "table", "[I", true)
  | 4 => ("KeyFingers$Rows", "heads", "[I", true)
  | 5 => ("KeyFingers$Rows", "row", "[I", true)
  | 6 => ("KeyFingers$Rows", "notes", "I", false)
  | 7 => ("KeyFingers$Rows", "first", "I", false)
  | 8 => ("KeyFingers$Rows", "second", "I", false)
  | _ => ("KeyFingers$Rows", "length", "I", false)
def tyX2 : Nat → FieldType := fun k => match k with
  | 0 => .object "KeyFingers$Rules"
  | 1 => .array .int
  | 2 => .array .int
  | 3 => .array .int
  | 4 => .array .int
  | 5 => .array .int
  | 6 => .int
  | 7 => .int
  | 8 => .int
  | _ => .int
abbrev wsX20 : List Cond := u_ws RX2 TX2 10
theorem nmX2 : ∀ a, a < 10 → ∀ b, b < 10 → a ≠ b → (TX2 a).2.1 ≠ (TX2 b).2.1 := by decide +kernel
theorem tyX2_ok : ∀ k, k < 10 → parseFieldDescriptor (TX2 k).2.2.1 = some (tyX2 k) := by decide +kernel
def RX3 : String := "KeyFingers$Rules"
def TX3 : u_T := fun k => match k with
  | 0 => ("KeyFingers$Rules", "prices", "[I", true)
  | _ => ("KeyFingers$Rules", "reaches", "[I", true)
def tyX3 : Nat → FieldType := fun k => match k with
  | 0 => .array .int
  | _ => .array .int
abbrev wsX30 : List Cond := u_ws RX3 TX3 2
theorem nmX3 : ∀ a, a < 2 → ∀ b, b < 2 → a ≠ b → (TX3 a).2.1 ≠ (TX3 b).2.1 := by decide +kernel
theorem tyX3_ok : ∀ k, k < 2 → parseFieldDescriptor (TX3 k).2.2.1 = some (tyX3 k) := by decide +kernel
def RX4 : String := "KeyFingers"
def TX4 : u_T := fun k => match k with
  | 0 => ("KeyFingers", "rules", "LKeyFingers$Rules;", true)
  | 1 => ("KeyFingers", "right", "LKeyFingers$Hand;", true)
  | 2 => ("KeyFingers", "left", "LKeyFingers$Hand;", true)
  | 3 => ("KeyFingers", "rows", "LKeyFingers$Rows;", true)
  | _ => ("KeyFingers", "phrases", "LKeyFingers$Phrases;", true)
def tyX4 : Nat → FieldType := fun k => match k with
  | 0 => .object "KeyFingers$Rules"
  | 1 => .object "KeyFingers$Hand"
  | 2 => .object "KeyFingers$Hand"
  | 3 => .object "KeyFingers$Rows"
  | _ => .object "KeyFingers$Phrases"
abbrev wsX40 : List Cond := u_ws RX4 TX4 5
theorem nmX4 : ∀ a, a < 5 → ∀ b, b < 5 → a ≠ b → (TX4 a).2.1 ≠ (TX4 b).2.1 := by decide +kernel
theorem tyX4_ok : ∀ k, k < 5 → parseFieldDescriptor (TX4 k).2.2.1 = some (tyX4 k) := by decide +kernel
def RX5 : String := "KeyFingersModel"
def TX5 : u_T := fun k => match k with
  | 0 => ("KeyFingersModel", "keyAt", "[I", true)
  | 1 => ("KeyFingersModel", "markAt", "[I", true)
  | 2 => ("KeyFingersModel", "leastOf", "[I", true)
  | 3 => ("KeyFingersModel", "easyOf", "[I", true)
  | 4 => ("KeyFingersModel", "mostOf", "[I", true)
  | 5 => ("KeyFingersModel", "priceOf", "[I", true)
  | 6 => ("KeyFingersModel", "laidHand", "I", false)
  | 7 => ("KeyFingersModel", "laid", "I", false)
  | 8 => ("KeyFingersModel", "laidKey", "[I", true)
  | 9 => ("KeyFingersModel", "may", "[I", true)
  | 10 => ("KeyFingersModel", "tieFrom", "I", false)
  | 11 => ("KeyFingersModel", "tieTo", "I", false)
  | 12 => ("KeyFingersModel", "tieMany", "I", false)
  | 13 => ("KeyFingersModel", "upTo", "[I", true)
  | 14 => ("KeyFingersModel", "next", "[I", true)
  | 15 => ("KeyFingersModel", "rest", "[I", true)
  | 16 => ("KeyFingersModel", "joint", "[I", true)
  | 17 => ("KeyFingersModel", "with", "[I", true)
  | 18 => ("KeyFingersModel", "isFoundRight", "Z", false)
  | 19 => ("KeyFingersModel", "isFoundLeft", "Z", false)
  | 20 => ("KeyFingersModel", "costOf", "[I", true)
  | 21 => ("KeyFingersModel", "fingerOf", "[I", true)
  | 22 => ("KeyFingersModel", "tieAt", "[I", true)
  | 23 => ("KeyFingersModel", "tieBeside", "[I", true)
  | 24 => ("KeyFingersModel", "tieLength", "[I", true)
  | 25 => ("KeyFingersModel", "phrases", "I", false)
  | 26 => ("KeyFingersModel", "nameOf", "[I", true)
  | 27 => ("KeyFingersModel", "handOf", "[I", true)
  | 28 => ("KeyFingersModel", "from", "[I", true)
  | _ => ("KeyFingersModel", "manyOf", "[I", true)
def tyX5 : Nat → FieldType := fun k => match k with
  | 0 => .array .int
  | 1 => .array .int
  | 2 => .array .int
  | 3 => .array .int
  | 4 => .array .int
  | 5 => .array .int
  | 6 => .int
  | 7 => .int
  | 8 => .array .int
  | 9 => .array .int
  | 10 => .int
  | 11 => .int
  | 12 => .int
  | 13 => .array .int
  | 14 => .array .int
  | 15 => .array .int
  | 16 => .array .int
  | 17 => .array .int
  | 18 => .boolean
  | 19 => .boolean
  | 20 => .array .int
  | 21 => .array .int
  | 22 => .array .int
  | 23 => .array .int
  | 24 => .array .int
  | 25 => .int
  | 26 => .array .int
  | 27 => .array .int
  | 28 => .array .int
  | _ => .array .int
abbrev wsX50 : List Cond := u_ws RX5 TX5 30
theorem nmX5 : ∀ a, a < 30 → ∀ b, b < 30 → a ≠ b → (TX5 a).2.1 ≠ (TX5 b).2.1 := by decide +kernel
theorem tyX5_ok : ∀ k, k < 30 → parseFieldDescriptor (TX5 k).2.2.1 = some (tyX5 k) := by decide +kernel
abbrev vwCl : List vw_C := [(RX0, TX0, 8), (RX1, TX1, 5), (RX2, TX2, 10), (RX3, TX3, 2), (RX4, TX4, 5), (RX5, TX5, 30)]
/-- class numbers: those of the worlds, the JDK's two, the law -/
def cnm : Nat → String := fun o => match o with
  | 0 => RX0
  | 1 => RX1
  | 2 => RX2
  | 3 => RX3
  | 4 => RX4
  | 5 => RX5
  | 6 => "java/lang/Math"
  | 7 => "java/util/Arrays"
  | _ => "KeyFingersLaw"
abbrev MRec : Type := MethodName × ByteArray × Nat × Option FieldType × Bool × Nat
/-- the methods: name, code, locals, answer, static, class -/
abbrev mJ_fill : Nat := 0
def rJ_fill : MRec := (⟨"java/util/Arrays", "fill", "([II)V"⟩, prog_10_method_103_code, 4, none, true, 7)
abbrev mM_init : Nat := 1
def rM_init : MRec := (⟨RX5, "<init>", "()V"⟩, prog_7_method_1_code, 2, none, false, 5)
abbrev mM_put : Nat := 2
def rM_put : MRec := (⟨RX5, "put", "(III)I"⟩, prog_7_method_10_code, 5, (some .int), false, 5)
abbrev mM_isHand : Nat := 3
def rM_isHand : MRec := (⟨RX5, "isHand", "(I)Z"⟩, prog_7_method_3_code, 1, (some .boolean), true, 5)
abbrev mM_within : Nat := 4
def rM_within : MRec := (⟨RX5, "within", "(III)Z"⟩, prog_7_method_2_code, 3, (some .boolean), true, 5)
abbrev mM_isMoment : Nat := 5
def rM_isMoment : MRec := (⟨RX5, "isMoment", "(I)Z"⟩, prog_7_method_4_code, 1, (some .boolean), true, 5)
abbrev mM_isKey : Nat := 6
def rM_isKey : MRec := (⟨RX5, "isKey", "(I)Z"⟩, prog_7_method_6_code, 1, (some .boolean), true, 5)
abbrev mM_lays : Nat := 7
def rM_lays : MRec := (⟨RX5, "lays", "(III)V"⟩, prog_7_method_9_code, 5, none, false, 5)
abbrev mM_isChanged : Nat := 8
def rM_isChanged : MRec := (⟨RX5, "isChanged", "()V"⟩, prog_7_method_8_code, 1, none, false, 5)
abbrev mM_mark : Nat := 9
def rM_mark : MRec := (⟨RX5, "mark", "(III)I"⟩, prog_7_method_11_code, 6, (some .int), false, 5)
abbrev mM_isFinger : Nat := 10
def rM_isFinger : MRec := (⟨RX5, "isFinger", "(I)Z"⟩, prog_7_method_5_code, 1, (some .boolean), true, 5)
abbrev mM_reach : Nat := 11
def rM_reach : MRec := (⟨RX5, "reach", "(IIIII)I"⟩, prog_7_method_12_code, 6, (some .int), false, 5)
abbrev mM_reachOf : Nat := 12
def rM_reachOf : MRec := (⟨RX5, "reachOf", "(III)I"⟩, prog_7_method_13_code, 4, (some .int), false, 5)
abbrev mM_price : Nat := 13
def rM_price : MRec := (⟨RX5, "price", "(II)I"⟩, prog_7_method_14_code, 4, (some .int), false, 5)
abbrev mM_clear : Nat := 14
def rM_clear : MRec := (⟨RX5, "clear", "(I)I"⟩, prog_7_method_15_code, 4, (some .int), false, 5)
abbrev mM_notesOf : Nat := 15
def rM_notesOf : MRec := (⟨RX5, "notesOf", "(I)I"⟩, prog_7_method_16_code, 4, (some .int), false, 5)
abbrev mM_note : Nat := 16
def rM_note : MRec := (⟨RX5, "note", "(III)I"⟩, prog_7_method_19_code, 5, (some .int), false, 5)
abbrev mM_isNote : Nat := 17
def rM_isNote : MRec := (⟨RX5, "isNote", "(II)Z"⟩, prog_7_method_17_code, 3, (some .boolean), false, 5)
abbrev mM_placeOf : Nat := 18
def rM_placeOf : MRec := (⟨RX5, "placeOf", "(II)I"⟩, prog_7_method_18_code, 5, (some .int), false, 5)
abbrev mM_isBlack : Nat := 19
def rM_isBlack : MRec := (⟨RX5, "isBlack", "(I)Z"⟩, prog_7_method_7_code, 2, (some .boolean), true, 5)
abbrev mM_costs : Nat := 20
def rM_costs : MRec := (⟨RX5, "costs", "(II)I"⟩, prog_7_method_21_code, 3, (some .int), false, 5)
abbrev mM_noteCost : Nat := 21
def rM_noteCost : MRec := (⟨RX5, "noteCost", "(II)I"⟩, prog_7_method_20_code, 4, (some .int), false, 5)
abbrev mM_step : Nat := 22
def rM_step : MRec := (⟨RX5, "step", "(IIIII)I"⟩, prog_7_method_24_code, 7, (some .int), false, 5)
abbrev mM_stepCost : Nat := 23
def rM_stepCost : MRec := (⟨RX5, "stepCost", "(IIIII)I"⟩, prog_7_method_23_code, 10, (some .int), false, 5)
abbrev mM_byReach : Nat := 24
def rM_byReach : MRec := (⟨RX5, "byReach", "(III)I"⟩, prog_7_method_22_code, 5, (some .int), false, 5)
abbrev mM_best : Nat := 25
def rM_best : MRec := (⟨RX5, "best", "(I)I"⟩, prog_7_method_50_code, 2, (some .int), false, 5)
abbrev mM_findHand : Nat := 26
def rM_findHand : MRec := (⟨RX5, "findHand", "(I)V"⟩, prog_7_method_49_code, 2, none, false, 5)
abbrev mM_leastOfHand : Nat := 27
def rM_leastOfHand : MRec := (⟨RX5, "leastOfHand", "(I)I"⟩, prog_7_method_43_code, 2, (some .int), false, 5)
abbrev mM_layNotes : Nat := 28
def rM_layNotes : MRec := (⟨RX5, "layNotes", "(I)V"⟩, prog_7_method_25_code, 4, none, false, 5)
abbrev mM_layTie : Nat := 29
def rM_layTie : MRec := (⟨RX5, "layTie", "(I)V"⟩, prog_7_method_26_code, 2, none, false, 5)
abbrev mM_doesTieHold : Nat := 30
def rM_doesTieHold : MRec := (⟨RX5, "doesTieHold", "(I)Z"⟩, prog_7_method_53_code, 2, (some .boolean), false, 5)
abbrev mM_leastRow : Nat := 31
def rM_leastRow : MRec := (⟨RX5, "leastRow", "()I"⟩, prog_7_method_42_code, 2, (some .int), false, 5)
abbrev mM_findTie : Nat := 32
def rM_findTie : MRec := (⟨RX5, "findTie", "()V"⟩, prog_7_method_40_code, 2, none, false, 5)
abbrev mM_back : Nat := 33
def rM_back : MRec := (⟨RX5, "back", "(I)V"⟩, prog_7_method_35_code, 6, none, false, 5)
abbrev mM_goingOn : Nat := 34
def rM_goingOn : MRec := (⟨RX5, "goingOn", "(III)I"⟩, prog_7_method_33_code, 4, (some .int), false, 5)
abbrev mM_isOf : Nat := 35
def rM_isOf : MRec := (⟨RX5, "isOf", "(II)Z"⟩, prog_7_method_27_code, 3, (some .boolean), false, 5)
abbrev mM_stepAt : Nat := 36
def rM_stepAt : MRec := (⟨RX5, "stepAt", "(III)I"⟩, prog_7_method_28_code, 4, (some .int), false, 5)
abbrev mM_after : Nat := 37
def rM_after : MRec := (⟨RX5, "after", "(II)I"⟩, prog_7_method_34_code, 3, (some .int), false, 5)
abbrev mM_findWith : Nat := 38
def rM_findWith : MRec := (⟨RX5, "findWith", "(I)V"⟩, prog_7_method_39_code, 4, none, false, 5)
abbrev mM_findJoint : Nat := 39
def rM_findJoint : MRec := (⟨RX5, "findJoint", "(I)V"⟩, prog_7_method_38_code, 7, none, false, 5)
abbrev mM_jointStep : Nat := 40
def rM_jointStep : MRec := (⟨RX5, "jointStep", "(III)I"⟩, prog_7_method_37_code, 4, (some .int), false, 5)
abbrev mM_isOfBoth : Nat := 41
def rM_isOfBoth : MRec := (⟨RX5, "isOfBoth", "(II)Z"⟩, prog_7_method_36_code, 3, (some .boolean), false, 5)
abbrev mM_leastStart : Nat := 42
def rM_leastStart : MRec := (⟨RX5, "leastStart", "()I"⟩, prog_7_method_47_code, 3, (some .int), false, 5)
abbrev mM_startCost : Nat := 43
def rM_startCost : MRec := (⟨RX5, "startCost", "(I)I"⟩, prog_7_method_41_code, 2, (some .int), false, 5)
abbrev mM_findFingers : Nat := 44
def rM_findFingers : MRec := (⟨RX5, "findFingers", "(I)V"⟩, prog_7_method_46_code, 5, none, false, 5)
abbrev mM_fingerBehind : Nat := 45
def rM_fingerBehind : MRec := (⟨RX5, "fingerBehind", "(II)I"⟩, prog_7_method_44_code, 4, (some .int), false, 5)
abbrev mM_findTied : Nat := 46
def rM_findTied : MRec := (⟨RX5, "findTied", "(I)V"⟩, prog_7_method_48_code, 5, none, false, 5)
abbrev mM_jointBehind : Nat := 47
def rM_jointBehind : MRec := (⟨RX5, "jointBehind", "(II)I"⟩, prog_7_method_45_code, 4, (some .int), false, 5)
abbrev mM_finger : Nat := 48
def rM_finger : MRec := (⟨RX5, "finger", "(II)I"⟩, prog_7_method_51_code, 3, (some .int), false, 5)
abbrev mM_would : Nat := 49
def rM_would : MRec := (⟨RX5, "would", "(III)I"⟩, prog_7_method_52_code, 4, (some .int), false, 5)
abbrev mM_tie : Nat := 50
def rM_tie : MRec := (⟨RX5, "tie", "(IIII)I"⟩, prog_7_method_55_code, 5, (some .int), false, 5)
abbrev mM_ties : Nat := 51
def rM_ties : MRec := (⟨RX5, "ties", "(IIII)I"⟩, prog_7_method_54_code, 5, (some .int), false, 5)
abbrev mM_untie : Nat := 52
def rM_untie : MRec := (⟨RX5, "untie", "(I)I"⟩, prog_7_method_56_code, 3, (some .int), false, 5)
abbrev mM_tied : Nat := 53
def rM_tied : MRec := (⟨RX5, "tied", "(I)I"⟩, prog_7_method_57_code, 4, (some .int), false, 5)
abbrev mM_stuck : Nat := 54
def rM_stuck : MRec := (⟨RX5, "stuck", "(I)I"⟩, prog_7_method_58_code, 3, (some .int), false, 5)
abbrev mM_plainTo : Nat := 55
def rM_plainTo : MRec := (⟨RX5, "plainTo", "(I)I"⟩, prog_7_method_32_code, 3, (some .int), false, 5)
abbrev mM_begin : Nat := 56
def rM_begin : MRec := (⟨RX5, "begin", "()V"⟩, prog_7_method_31_code, 2, none, false, 5)
abbrev mM_goesOn : Nat := 57
def rM_goesOn : MRec := (⟨RX5, "goesOn", "(IZ)V"⟩, prog_7_method_29_code, 7, none, false, 5)
abbrev mM_leastUp : Nat := 58
def rM_leastUp : MRec := (⟨RX5, "leastUp", "()I"⟩, prog_7_method_30_code, 3, (some .int), false, 5)
abbrev mM_phrase : Nat := 59
def rM_phrase : MRec := (⟨RX5, "phrase", "(IIII)I"⟩, prog_7_method_61_code, 5, (some .int), false, 5)
abbrev mM_phraseOf : Nat := 60
def rM_phraseOf : MRec := (⟨RX5, "phraseOf", "(I)I"⟩, prog_7_method_59_code, 3, (some .int), false, 5)
abbrev mM_goes : Nat := 61
def rM_goes : MRec := (⟨RX5, "goes", "(I)V"⟩, prog_7_method_60_code, 3, none, false, 5)
abbrev mM_forget : Nat := 62
def rM_forget : MRec := (⟨RX5, "forget", "(I)I"⟩, prog_7_method_62_code, 3, (some .int), false, 5)
abbrev mM_prune : Nat := 63
def rM_prune : MRec := (⟨RX5, "prune", "(I)I"⟩, prog_7_method_63_code, 5, (some .int), false, 5)
abbrev mM_name : Nat := 64
def rM_name : MRec := (⟨RX5, "name", "(I)I"⟩, prog_7_method_64_code, 2, (some .int), false, 5)
abbrev mM_echo : Nat := 65
def rM_echo : MRec := (⟨RX5, "echo", "(III)I"⟩, prog_7_method_68_code, 6, (some .int), false, 5)
abbrev mM_echoAt : Nat := 66
def rM_echoAt : MRec := (⟨RX5, "echoAt", "(II)I"⟩, prog_7_method_66_code, 5, (some .int), false, 5)
abbrev mM_isEcho : Nat := 67
def rM_isEcho : MRec := (⟨RX5, "isEcho", "(II)Z"⟩, prog_7_method_65_code, 5, (some .boolean), false, 5)
abbrev mM_likeness : Nat := 68
def rM_likeness : MRec := (⟨RX5, "likeness", "(II)I"⟩, prog_7_method_67_code, 5, (some .int), false, 5)
abbrev mM_tieEcho : Nat := 69
def rM_tieEcho : MRec := (⟨RX5, "tieEcho", "(II)I"⟩, prog_7_method_69_code, 5, (some .int), false, 5)
abbrev mM_moment : Nat := 70
def rM_moment : MRec := (⟨RX5, "moment", "(II)I"⟩, prog_7_method_71_code, 5, (some .int), false, 5)
abbrev mM_isSo : Nat := 71
def rM_isSo : MRec := (⟨RX5, "isSo", "(II)Z"⟩, prog_7_method_70_code, 6, (some .boolean), false, 5)
abbrev mM_sum : Nat := 72
def rM_sum : MRec := (⟨RX5, "sum", "()I"⟩, prog_7_method_73_code, 1, (some .int), false, 5)
abbrev mM_together : Nat := 73
def rM_together : MRec := (⟨RX5, "together", "(II)I"⟩, prog_7_method_72_code, 3, (some .int), false, 5)
abbrev mM_swap : Nat := 74
def rM_swap : MRec := (⟨RX5, "swap", "(I)I"⟩, prog_7_method_75_code, 2, (some .int), false, 5)
abbrev mM_swaps : Nat := 75
def rM_swaps : MRec := (⟨RX5, "swaps", "(I)V"⟩, prog_7_method_74_code, 4, none, false, 5)
abbrev mM_help : Nat := 76
def rM_help : MRec := (⟨RX5, "help", "(I)I"⟩, prog_7_method_77_code, 7, (some .int), false, 5)
abbrev mM_sumBehind : Nat := 77
def rM_sumBehind : MRec := (⟨RX5, "sumBehind", "(I)I"⟩, prog_7_method_76_code, 5, (some .int), false, 5)
abbrev mM_many : Nat := 78
def rM_many : MRec := (⟨RX5, "many", "(I)I"⟩, prog_7_method_80_code, 2, (some .int), false, 5)
abbrev mM_manyMarks : Nat := 79
def rM_manyMarks : MRec := (⟨RX5, "manyMarks", "()I"⟩, prog_7_method_78_code, 3, (some .int), false, 5)
abbrev mM_manyMoments : Nat := 80
def rM_manyMoments : MRec := (⟨RX5, "manyMoments", "(I)I"⟩, prog_7_method_79_code, 4, (some .int), false, 5)
abbrev mK_init : Nat := 81
def rK_init : MRec := (⟨RX4, "<init>", "()V"⟩, prog_1_method_1_code, 1, none, false, 4)
abbrev mU_init : Nat := 82
def rU_init : MRec := (⟨RX3, "<init>", "()V"⟩, prog_5_method_1_code, 1, none, false, 3)
abbrev mH_init : Nat := 83
def rH_init : MRec := (⟨RX0, "<init>", "(I)V"⟩, prog_2_method_1_code, 2, none, false, 0)
abbrev mR_init : Nat := 84
def rR_init : MRec := (⟨RX2, "<init>", "(LKeyFingers$Rules;)V"⟩, prog_4_method_1_code, 2, none, false, 2)
abbrev mP_init : Nat := 85
def rP_init : MRec := (⟨RX1, "<init>", "()V"⟩, prog_3_method_1_code, 1, none, false, 1)
abbrev mK_put : Nat := 86
def rK_put : MRec := (⟨RX4, "put", "(III)I"⟩, prog_1_method_2_code, 6, (some .int), false, 4)
abbrev mK_isHand : Nat := 87
def rK_isHand : MRec := (⟨RX4, "isHand", "(I)Z"⟩, prog_1_method_30_code, 1, (some .boolean), true, 4)
abbrev mK_isMoment : Nat := 88
def rK_isMoment : MRec := (⟨RX4, "isMoment", "(I)Z"⟩, prog_1_method_31_code, 1, (some .boolean), true, 4)
abbrev mK_isKey : Nat := 89
def rK_isKey : MRec := (⟨RX4, "isKey", "(I)Z"⟩, prog_1_method_32_code, 1, (some .boolean), true, 4)
abbrev mK_playerOf : Nat := 90
def rK_playerOf : MRec := (⟨RX4, "playerOf", "(I)LKeyFingers$Hand;"⟩, prog_1_method_36_code, 2, (some (.object "KeyFingers$Hand")), false, 4)
abbrev mH_keyAt : Nat := 91
def rH_keyAt : MRec := (⟨RX0, "keyAt", "(I)I"⟩, prog_2_method_3_code, 2, (some .int), false, 0)
abbrev mK_at : Nat := 92
def rK_at : MRec := (⟨RX4, "at", "([II)I"⟩, prog_1_method_37_code, 2, (some .int), true, 4)
abbrev mH_give : Nat := 93
def rH_give : MRec := (⟨RX0, "give", "(II)V"⟩, prog_2_method_6_code, 3, none, false, 0)
abbrev mK_store : Nat := 94
def rK_store : MRec := (⟨RX4, "store", "([III)V"⟩, prog_1_method_38_code, 3, none, true, 4)
abbrev mH_renumber : Nat := 95
def rH_renumber : MRec := (⟨RX0, "renumber", "()V"⟩, prog_2_method_8_code, 2, none, false, 0)
abbrev mK_mark : Nat := 96
def rK_mark : MRec := (⟨RX4, "mark", "(III)I"⟩, prog_1_method_3_code, 6, (some .int), false, 4)
abbrev mK_isFinger : Nat := 97
def rK_isFinger : MRec := (⟨RX4, "isFinger", "(I)Z"⟩, prog_1_method_33_code, 1, (some .boolean), true, 4)
abbrev mH_markAt : Nat := 98
def rH_markAt : MRec := (⟨RX0, "markAt", "(I)I"⟩, prog_2_method_4_code, 2, (some .int), false, 0)
abbrev mH_setMark : Nat := 99
def rH_setMark : MRec := (⟨RX0, "setMark", "(II)V"⟩, prog_2_method_5_code, 3, none, false, 0)
abbrev mK_reach : Nat := 100
def rK_reach : MRec := (⟨RX4, "reach", "(IIIII)I"⟩, prog_1_method_4_code, 6, (some .int), false, 4)
abbrev mU_setReach : Nat := 101
def rU_setReach : MRec := (⟨RX3, "setReach", "(IIIII)V"⟩, prog_5_method_6_code, 7, none, false, 3)
abbrev mU_reachPlace : Nat := 102
def rU_reachPlace : MRec := (⟨RX3, "reachPlace", "(II)I"⟩, prog_5_method_4_code, 3, (some .int), true, 3)
abbrev mK_reachOf : Nat := 103
def rK_reachOf : MRec := (⟨RX4, "reachOf", "(III)I"⟩, prog_1_method_5_code, 4, (some .int), false, 4)
abbrev mK_isBelow : Nat := 104
def rK_isBelow : MRec := (⟨RX4, "isBelow", "(II)Z"⟩, prog_1_method_29_code, 2, (some .boolean), true, 4)
abbrev mU_reachPart : Nat := 105
def rU_reachPart : MRec := (⟨RX3, "reachPart", "(III)I"⟩, prog_5_method_5_code, 4, (some .int), false, 3)
abbrev mK_price : Nat := 106
def rK_price : MRec := (⟨RX4, "price", "(II)I"⟩, prog_1_method_6_code, 4, (some .int), false, 4)
abbrev mU_priceOf : Nat := 107
def rU_priceOf : MRec := (⟨RX3, "priceOf", "(I)I"⟩, prog_5_method_2_code, 2, (some .int), false, 3)
abbrev mU_setPrice : Nat := 108
def rU_setPrice : MRec := (⟨RX3, "setPrice", "(II)V"⟩, prog_5_method_3_code, 3, none, false, 3)
abbrev mK_clear : Nat := 109
def rK_clear : MRec := (⟨RX4, "clear", "(I)I"⟩, prog_1_method_7_code, 4, (some .int), false, 4)
abbrev mH_noteCount : Nat := 110
def rH_noteCount : MRec := (⟨RX0, "noteCount", "()I"⟩, prog_2_method_9_code, 1, (some .int), false, 0)
abbrev mH_restAlways : Nat := 111
def rH_restAlways : MRec := (⟨RX0, "restAlways", "()V"⟩, prog_2_method_7_code, 1, none, false, 0)
abbrev mH_dropTie : Nat := 112
def rH_dropTie : MRec := (⟨RX0, "dropTie", "()V"⟩, prog_2_method_15_code, 1, none, false, 0)
abbrev mK_note : Nat := 113
def rK_note : MRec := (⟨RX4, "note", "(III)I"⟩, prog_1_method_8_code, 5, (some .int), false, 4)
abbrev mK_isNote : Nat := 114
def rK_isNote : MRec := (⟨RX4, "isNote", "(II)Z"⟩, prog_1_method_35_code, 3, (some .boolean), false, 4)
abbrev mH_momentOf : Nat := 115
def rH_momentOf : MRec := (⟨RX0, "momentOf", "(I)I"⟩, prog_2_method_10_code, 2, (some .int), false, 0)
abbrev mH_keyOf : Nat := 116
def rH_keyOf : MRec := (⟨RX0, "keyOf", "(I)I"⟩, prog_2_method_11_code, 2, (some .int), false, 0)
abbrev mH_markOf : Nat := 117
def rH_markOf : MRec := (⟨RX0, "markOf", "(I)I"⟩, prog_2_method_12_code, 2, (some .int), false, 0)
abbrev mK_isBlack : Nat := 118
def rK_isBlack : MRec := (⟨RX4, "isBlack", "(I)Z"⟩, prog_1_method_34_code, 1, (some .boolean), true, 4)
abbrev mK_costs : Nat := 119
def rK_costs : MRec := (⟨RX4, "costs", "(II)I"⟩, prog_1_method_9_code, 3, (some .int), false, 4)
abbrev mU_noteCost : Nat := 120
def rU_noteCost : MRec := (⟨RX3, "noteCost", "(II)I"⟩, prog_5_method_7_code, 3, (some .int), false, 3)
abbrev mK_step : Nat := 121
def rK_step : MRec := (⟨RX4, "step", "(IIIII)I"⟩, prog_1_method_10_code, 6, (some .int), false, 4)
abbrev mH_side : Nat := 122
def rH_side : MRec := (⟨RX0, "side", "()I"⟩, prog_2_method_2_code, 1, (some .int), false, 0)
abbrev mU_stepCost : Nat := 123
def rU_stepCost : MRec := (⟨RX3, "stepCost", "(IIIII)I"⟩, prog_5_method_8_code, 11, (some .int), false, 3)
abbrev mU_reachCost : Nat := 124
def rU_reachCost : MRec := (⟨RX3, "reachCost", "(II)I"⟩, prog_5_method_9_code, 4, (some .int), false, 3)
abbrev mK_best : Nat := 125
def rK_best : MRec := (⟨RX4, "best", "(I)I"⟩, prog_1_method_11_code, 2, (some .int), false, 4)
abbrev mR_leastCost : Nat := 126
def rR_leastCost : MRec := (⟨RX2, "leastCost", "(LKeyFingers$Hand;II)I"⟩, prog_4_method_2_code, 5, (some .int), false, 2)
abbrev mR_load : Nat := 127
def rR_load : MRec := (⟨RX2, "load", "(LKeyFingers$Hand;II)V"⟩, prog_4_method_6_code, 5, none, false, 2)
abbrev mH_firstTied : Nat := 128
def rH_firstTied : MRec := (⟨RX0, "firstTied", "()I"⟩, prog_2_method_18_code, 1, (some .int), false, 0)
abbrev mH_secondTied : Nat := 129
def rH_secondTied : MRec := (⟨RX0, "secondTied", "()I"⟩, prog_2_method_19_code, 1, (some .int), false, 0)
abbrev mH_tiedLength : Nat := 130
def rH_tiedLength : MRec := (⟨RX0, "tiedLength", "()I"⟩, prog_2_method_20_code, 1, (some .int), false, 0)
abbrev mR_loadNote : Nat := 131
def rR_loadNote : MRec := (⟨RX2, "loadNote", "(III)V"⟩, prog_4_method_7_code, 6, none, false, 2)
abbrev mR_loadSteps : Nat := 132
def rR_loadSteps : MRec := (⟨RX2, "loadSteps", "(IIII)V"⟩, prog_4_method_8_code, 8, none, false, 2)
abbrev mH_tieHolds : Nat := 133
def rH_tieHolds : MRec := (⟨RX0, "tieHolds", "()Z"⟩, prog_2_method_17_code, 1, (some .boolean), false, 0)
abbrev mR_sweep : Nat := 134
def rR_sweep : MRec := (⟨RX2, "sweep", "(II)V"⟩, prog_4_method_9_code, 6, none, false, 2)
abbrev mR_costBehind : Nat := 135
def rR_costBehind : MRec := (⟨RX2, "costBehind", "(II)I"⟩, prog_4_method_10_code, 7, (some .int), false, 2)
abbrev mR_answerOfTable : Nat := 136
def rR_answerOfTable : MRec := (⟨RX2, "answerOfTable", "()I"⟩, prog_4_method_14_code, 3, (some .int), false, 2)
abbrev mR_fold : Nat := 137
def rR_fold : MRec := (⟨RX2, "fold", "()V"⟩, prog_4_method_11_code, 3, none, false, 2)
abbrev mR_addFrom : Nat := 138
def rR_addFrom : MRec := (⟨RX2, "addFrom", "([IIII)V"⟩, prog_4_method_12_code, 5, none, true, 2)
abbrev mR_leadTo : Nat := 139
def rR_leadTo : MRec := (⟨RX2, "leadTo", "(I)V"⟩, prog_4_method_13_code, 3, none, false, 2)
abbrev mK_finger : Nat := 140
def rK_finger : MRec := (⟨RX4, "finger", "(II)I"⟩, prog_1_method_12_code, 3, (some .int), false, 4)
abbrev mR_bestFinger : Nat := 141
def rR_bestFinger : MRec := (⟨RX2, "bestFinger", "(LKeyFingers$Hand;I)I"⟩, prog_4_method_4_code, 4, (some .int), false, 2)
abbrev mR_follow : Nat := 142
def rR_follow : MRec := (⟨RX2, "follow", "(II)V"⟩, prog_4_method_15_code, 9, none, false, 2)
abbrev mK_would : Nat := 143
def rK_would : MRec := (⟨RX4, "would", "(III)I"⟩, prog_1_method_13_code, 4, (some .int), false, 4)
abbrev mK_tie : Nat := 144
def rK_tie : MRec := (⟨RX4, "tie", "(IIII)I"⟩, prog_1_method_14_code, 6, (some .int), false, 4)
abbrev mH_setTie : Nat := 145
def rH_setTie : MRec := (⟨RX0, "setTie", "(III)V"⟩, prog_2_method_14_code, 4, none, false, 0)
abbrev mK_untie : Nat := 146
def rK_untie : MRec := (⟨RX4, "untie", "(I)I"⟩, prog_1_method_15_code, 4, (some .int), false, 4)
abbrev mH_hasTie : Nat := 147
def rH_hasTie : MRec := (⟨RX0, "hasTie", "()Z"⟩, prog_2_method_16_code, 1, (some .boolean), false, 0)
abbrev mK_tied : Nat := 148
def rK_tied : MRec := (⟨RX4, "tied", "(I)I"⟩, prog_1_method_16_code, 4, (some .int), false, 4)
abbrev mR_untiedCost : Nat := 149
def rR_untiedCost : MRec := (⟨RX2, "untiedCost", "(LKeyFingers$Hand;)I"⟩, prog_4_method_3_code, 2, (some .int), false, 2)
abbrev mK_stuck : Nat := 150
def rK_stuck : MRec := (⟨RX4, "stuck", "(I)I"⟩, prog_1_method_17_code, 3, (some .int), false, 4)
abbrev mR_firstBlocked : Nat := 151
def rR_firstBlocked : MRec := (⟨RX2, "firstBlocked", "(LKeyFingers$Hand;)I"⟩, prog_4_method_5_code, 4, (some .int), false, 2)
abbrev mK_phrase : Nat := 152
def rK_phrase : MRec := (⟨RX4, "phrase", "(IIII)I"⟩, prog_1_method_18_code, 5, (some .int), false, 4)
abbrev mP_come : Nat := 153
def rP_come : MRec := (⟨RX1, "come", "(IIII)V"⟩, prog_3_method_8_code, 6, none, false, 1)
abbrev mP_placeOf : Nat := 154
def rP_placeOf : MRec := (⟨RX1, "placeOf", "(I)I"⟩, prog_3_method_7_code, 3, (some .int), false, 1)
abbrev mP_drop : Nat := 155
def rP_drop : MRec := (⟨RX1, "drop", "(I)V"⟩, prog_3_method_9_code, 3, none, false, 1)
abbrev mP_size : Nat := 156
def rP_size : MRec := (⟨RX1, "size", "()I"⟩, prog_3_method_2_code, 1, (some .int), false, 1)
abbrev mK_forget : Nat := 157
def rK_forget : MRec := (⟨RX4, "forget", "(I)I"⟩, prog_1_method_19_code, 3, (some .int), false, 4)
abbrev mK_prune : Nat := 158
def rK_prune : MRec := (⟨RX4, "prune", "(I)I"⟩, prog_1_method_20_code, 2, (some .int), false, 4)
abbrev mP_dropLonger : Nat := 159
def rP_dropLonger : MRec := (⟨RX1, "dropLonger", "(II)I"⟩, prog_3_method_10_code, 5, (some .int), false, 1)
abbrev mK_name : Nat := 160
def rK_name : MRec := (⟨RX4, "name", "(I)I"⟩, prog_1_method_21_code, 2, (some .int), false, 4)
abbrev mP_nameAt : Nat := 161
def rP_nameAt : MRec := (⟨RX1, "nameAt", "(I)I"⟩, prog_3_method_3_code, 2, (some .int), false, 1)
abbrev mK_echo : Nat := 162
def rK_echo : MRec := (⟨RX4, "echo", "(III)I"⟩, prog_1_method_22_code, 6, (some .int), false, 4)
abbrev mK_echoStart : Nat := 163
def rK_echoStart : MRec := (⟨RX4, "echoStart", "(II)I"⟩, prog_1_method_42_code, 8, (some .int), false, 4)
abbrev mP_handAt : Nat := 164
def rP_handAt : MRec := (⟨RX1, "handAt", "(I)I"⟩, prog_3_method_4_code, 2, (some .int), false, 1)
abbrev mP_startAt : Nat := 165
def rP_startAt : MRec := (⟨RX1, "startAt", "(I)I"⟩, prog_3_method_5_code, 2, (some .int), false, 1)
abbrev mP_lengthAt : Nat := 166
def rP_lengthAt : MRec := (⟨RX1, "lengthAt", "(I)I"⟩, prog_3_method_6_code, 2, (some .int), false, 1)
abbrev mH_isEcho : Nat := 167
def rH_isEcho : MRec := (⟨RX0, "isEcho", "(III)Z"⟩, prog_2_method_21_code, 6, (some .boolean), false, 0)
abbrev mH_likeness : Nat := 168
def rH_likeness : MRec := (⟨RX0, "likeness", "(III)I"⟩, prog_2_method_22_code, 6, (some .int), false, 0)
abbrev mK_tieEcho : Nat := 169
def rK_tieEcho : MRec := (⟨RX4, "tieEcho", "(II)I"⟩, prog_1_method_23_code, 5, (some .int), false, 4)
abbrev mK_moment : Nat := 170
def rK_moment : MRec := (⟨RX4, "moment", "(II)I"⟩, prog_1_method_24_code, 5, (some .int), false, 4)
abbrev mK_kindOf : Nat := 171
def rK_kindOf : MRec := (⟨RX4, "kindOf", "(I)I"⟩, prog_1_method_39_code, 4, (some .int), false, 4)
abbrev mK_sum : Nat := 172
def rK_sum : MRec := (⟨RX4, "sum", "()I"⟩, prog_1_method_25_code, 3, (some .int), false, 4)
abbrev mK_swap : Nat := 173
def rK_swap : MRec := (⟨RX4, "swap", "(I)I"⟩, prog_1_method_26_code, 2, (some .int), false, 4)
abbrev mK_exchange : Nat := 174
def rK_exchange : MRec := (⟨RX4, "exchange", "(I)V"⟩, prog_1_method_41_code, 4, none, false, 4)
abbrev mK_help : Nat := 175
def rK_help : MRec := (⟨RX4, "help", "(I)I"⟩, prog_1_method_27_code, 9, (some .int), false, 4)
abbrev mK_many : Nat := 176
def rK_many : MRec := (⟨RX4, "many", "(I)I"⟩, prog_1_method_28_code, 2, (some .int), false, 4)
abbrev mH_markCount : Nat := 177
def rH_markCount : MRec := (⟨RX0, "markCount", "()I"⟩, prog_2_method_13_code, 3, (some .int), false, 0)
abbrev mK_countOf : Nat := 178
def rK_countOf : MRec := (⟨RX4, "countOf", "(I)I"⟩, prog_1_method_40_code, 4, (some .int), false, 4)
abbrev mL_law : Nat := 179
def rL_law : MRec := (x, code, maxLocals, ret, true, 8)
def mtb_0 : List MRec := [rJ_fill, rM_init, rM_put, rM_isHand, rM_within, rM_isMoment, rM_isKey, rM_lays, rM_isChanged, rM_mark, rM_isFinger, rM_reach]
def mtb_1 : List MRec := [rM_reachOf, rM_price, rM_clear, rM_notesOf, rM_note, rM_isNote, rM_placeOf, rM_isBlack, rM_costs, rM_noteCost, rM_step, rM_stepCost]
def mtb_2 : List MRec := [rM_byReach, rM_best, rM_findHand, rM_leastOfHand, rM_layNotes, rM_layTie, rM_doesTieHold, rM_leastRow, rM_findTie, rM_back, rM_goingOn, rM_isOf]
def mtb_3 : List MRec := [rM_stepAt, rM_after, rM_findWith, rM_findJoint, rM_jointStep, rM_isOfBoth, rM_leastStart, rM_startCost, rM_findFingers, rM_fingerBehind, rM_findTied, rM_jointBehind]
def mtb_4 : List MRec := [rM_finger, rM_would, rM_tie, rM_ties, rM_untie, rM_tied, rM_stuck, rM_plainTo, rM_begin, rM_goesOn, rM_leastUp, rM_phrase]
def mtb_5 : List MRec := [rM_phraseOf, rM_goes, rM_forget, rM_prune, rM_name, rM_echo, rM_echoAt, rM_isEcho, rM_likeness, rM_tieEcho, rM_moment, rM_isSo]
def mtb_6 : List MRec := [rM_sum, rM_together, rM_swap, rM_swaps, rM_help, rM_sumBehind, rM_many, rM_manyMarks, rM_manyMoments, rK_init, rU_init, rH_init]
def mtb_7 : List MRec := [rR_init, rP_init, rK_put, rK_isHand, rK_isMoment, rK_isKey, rK_playerOf, rH_keyAt, rK_at, rH_give, rK_store, rH_renumber]
def mtb_8 : List MRec := [rK_mark, rK_isFinger, rH_markAt, rH_setMark, rK_reach, rU_setReach, rU_reachPlace, rK_reachOf, rK_isBelow, rU_reachPart, rK_price, rU_priceOf]
def mtb_9 : List MRec := [rU_setPrice, rK_clear, rH_noteCount, rH_restAlways, rH_dropTie, rK_note, rK_isNote, rH_momentOf, rH_keyOf, rH_markOf, rK_isBlack, rK_costs]
def mtb_10 : List MRec := [rU_noteCost, rK_step, rH_side, rU_stepCost, rU_reachCost, rK_best, rR_leastCost, rR_load, rH_firstTied, rH_secondTied, rH_tiedLength, rR_loadNote]
def mtb_11 : List MRec := [rR_loadSteps, rH_tieHolds, rR_sweep, rR_costBehind, rR_answerOfTable, rR_fold, rR_addFrom, rR_leadTo, rK_finger, rR_bestFinger, rR_follow, rK_would]
def mtb_12 : List MRec := [rK_tie, rH_setTie, rK_untie, rH_hasTie, rK_tied, rR_untiedCost, rK_stuck, rR_firstBlocked, rK_phrase, rP_come, rP_placeOf, rP_drop]
def mtb_13 : List MRec := [rP_size, rK_forget, rK_prune, rP_dropLonger, rK_name, rP_nameAt, rK_echo, rK_echoStart, rP_handAt, rP_startAt, rP_lengthAt, rH_isEcho]
def mtb_14 : List MRec := [rH_likeness, rK_tieEcho, rK_moment, rK_kindOf, rK_sum, rK_swap, rK_exchange, rK_help, rK_many, rH_markCount, rK_countOf]
def mtb0 : List MRec := mtb_0 ++ (mtb_1 ++ (mtb_2 ++ (mtb_3 ++ (mtb_4 ++ (mtb_5 ++ (mtb_6 ++ (mtb_7 ++ (mtb_8 ++ (mtb_9 ++ (mtb_10 ++ (mtb_11 ++ (mtb_12 ++ (mtb_13 ++ (mtb_14))))))))))))))
def mtb : List MRec := mtb0 ++ [rL_law]
def flds : Nat → List (Nat × Nat × Nat × Int × Bool × Nat) := fun o => match o with
  | 0 => [(21, 0, 0, 0, true, 0), (9, 0, 1, 1, true, 2), (15, 0, 2, 2, true, 2), (18, 0, 3, 3, true, 2), (46, 0, 4, 4, false, 0), (52, 0, 5, 5, false, 0), (55, 0, 6, 6, false, 0), (58, 0, 7, 7, false, 0)]
  | 1 => [(9, 1, 0, 0, true, 2), (15, 1, 1, 1, true, 2), (18, 1, 2, 2, true, 2), (21, 1, 3, 3, true, 2), (24, 1, 4, 4, false, 0)]
  | 2 => [(27, 2, 0, 0, true, 2), (9, 2, 1, 1, true, 2), (15, 2, 2, 2, true, 2), (18, 2, 3, 3, true, 2), (21, 2, 4, 4, true, 2), (24, 2, 5, 5, true, 2), (41, 2, 6, 6, false, 0), (66, 2, 7, 7, false, 0), (53, 2, 8, 8, false, 0), (56, 2, 9, 9, false, 0)]
  | 3 => [(18, 3, 0, 0, true, 2), (26, 3, 1, 1, true, 2)]
  | 4 => [(10, 4, 0, 0, true, 2), (21, 4, 1, 1, true, 2), (25, 4, 2, 2, true, 2), (33, 4, 3, 3, true, 2), (40, 4, 4, 4, true, 2)]
  | 5 => [(7, 5, 0, 0, true, 2), (13, 5, 1, 1, true, 2), (16, 5, 2, 2, true, 2), (19, 5, 3, 3, true, 2), (22, 5, 4, 4, true, 2), (25, 5, 5, 5, true, 2), (134, 5, 6, 6, false, 0), (138, 5, 7, 7, false, 0), (28, 5, 8, 8, true, 2), (31, 5, 9, 9, true, 2), (141, 5, 10, 10, false, 0), (144, 5, 11, 11, false, 0), (150, 5, 12, 12, false, 0), (34, 5, 13, 13, true, 2), (37, 5, 14, 14, true, 2), (40, 5, 15, 15, true, 2), (43, 5, 16, 16, true, 2), (46, 5, 17, 17, true, 2), (80, 5, 18, 18, false, 1), (84, 5, 19, 19, false, 1), (49, 5, 20, 20, true, 2), (52, 5, 21, 21, true, 2), (55, 5, 22, 22, true, 2), (58, 5, 23, 23, true, 2), (61, 5, 24, 24, true, 2), (235, 5, 25, 25, false, 0), (64, 5, 26, 26, true, 2), (67, 5, 27, 27, true, 2), (70, 5, 28, 28, true, 2), (73, 5, 29, 29, true, 2)]
  | _ => []
def calls : Nat → List (Nat × Nat × Nat × Bool × Bool × Bool × Nat) := fun o => match o with
  | 0 => [(25, 0, 2, true, false, false, 7), (31, 92, 2, true, true, false, 4), (39, 91, 2, false, false, false, 0), (35, 94, 3, true, true, false, 4), (43, 95, 1, false, false, false, 0), (49, 112, 1, false, false, false, 0), (61, 116, 2, false, false, false, 0), (64, 118, 1, true, true, false, 4)]
  | 1 => [(32, 154, 2, false, false, false, 1), (28, 92, 2, true, true, false, 4), (36, 155, 2, false, false, false, 1), (40, 94, 3, true, true, false, 4)]
  | 2 => [(31, 127, 4, false, false, false, 2), (84, 110, 1, false, false, false, 0), (87, 128, 1, false, false, false, 0), (90, 129, 1, false, false, false, 0), (93, 130, 1, false, false, false, 0), (96, 116, 2, false, false, false, 0), (100, 117, 2, false, false, false, 0), (103, 131, 4, false, false, false, 2), (114, 120, 3, false, false, false, 3), (73, 94, 3, true, true, false, 4), (107, 122, 1, false, false, false, 0), (110, 132, 5, false, false, false, 2), (121, 123, 6, false, false, false, 3), (35, 133, 1, false, false, false, 0), (45, 134, 3, false, false, false, 2), (69, 92, 2, true, true, false, 4), (125, 135, 3, false, false, false, 2), (49, 136, 1, false, false, false, 2), (59, 137, 1, false, false, false, 2), (133, 138, 4, true, false, false, 2), (62, 139, 2, false, false, false, 2), (77, 126, 4, false, false, false, 2), (81, 142, 3, false, false, false, 2)]
  | 3 => [(37, 102, 2, true, false, false, 3), (33, 94, 3, true, true, false, 4), (29, 92, 2, true, true, false, 4), (41, 118, 1, true, true, false, 4), (57, 124, 3, false, false, false, 3)]
  | 4 => [(9, 82, 1, false, true, true, 3), (18, 83, 2, false, false, true, 0), (30, 84, 2, false, false, true, 2), (39, 85, 1, false, true, true, 1), (44, 87, 1, true, false, false, 4), (48, 88, 1, true, false, false, 4), (51, 89, 1, true, false, false, 4), (54, 90, 2, false, false, false, 4), (58, 91, 2, false, false, false, 0), (62, 93, 3, false, false, false, 0), (66, 97, 1, true, false, false, 4), (69, 98, 2, false, false, false, 0), (72, 99, 3, false, false, false, 0), (75, 101, 6, false, false, false, 3), (79, 104, 2, true, false, false, 4), (83, 105, 4, false, false, false, 3), (87, 107, 2, false, false, false, 3), (90, 108, 3, false, false, false, 3), (93, 110, 1, false, false, false, 0), (97, 111, 1, false, false, false, 0), (100, 114, 3, false, false, false, 4), (103, 115, 2, false, false, false, 0), (106, 116, 2, false, false, false, 0), (109, 117, 2, false, false, false, 0), (112, 118, 1, true, false, false, 4), (115, 120, 3, false, false, false, 3), (119, 122, 1, false, false, false, 0), (122, 123, 6, false, false, false, 3), (126, 126, 4, false, false, false, 2), (130, 141, 3, false, false, false, 2), (134, 145, 4, false, false, false, 0), (138, 133, 1, false, false, false, 0), (142, 147, 1, false, false, false, 0), (145, 112, 1, false, false, false, 0), (148, 149, 2, false, false, false, 2), (152, 151, 2, false, false, false, 2), (155, 153, 5, false, false, false, 1), (159, 156, 1, false, false, false, 1), (162, 154, 2, false, false, false, 1), (165, 155, 2, false, false, false, 1), (168, 159, 3, false, false, false, 1), (171, 161, 2, false, false, false, 1), (174, 163, 3, false, false, false, 4), (177, 164, 2, false, false, false, 1), (180, 165, 2, false, false, false, 1), (183, 166, 2, false, false, false, 1), (205, 167, 4, false, false, false, 0), (186, 168, 4, false, false, false, 0), (189, 171, 2, false, false, false, 4), (192, 174, 2, false, false, false, 4), (195, 172, 1, false, false, false, 4), (199, 177, 1, false, false, false, 0), (202, 178, 2, false, false, false, 4)]
  | 5 => [(87, 3, 1, true, false, false, 5), (76, 4, 3, true, false, false, 5), (91, 5, 1, true, false, false, 5), (94, 6, 1, true, false, false, 5), (97, 7, 4, false, false, false, 5), (101, 8, 1, false, false, false, 5), (104, 10, 1, true, false, false, 5), (107, 15, 2, false, false, false, 5), (111, 17, 3, false, false, false, 5), (115, 18, 3, false, false, false, 5), (119, 19, 1, true, false, false, 5), (122, 21, 3, false, false, false, 5), (130, 23, 6, false, false, false, 5), (126, 24, 4, false, false, false, 5), (225, 26, 2, false, false, false, 5), (219, 27, 2, false, false, false, 5), (198, 28, 2, false, false, false, 5), (201, 29, 2, false, false, false, 5), (147, 30, 2, false, false, false, 5), (204, 31, 1, false, false, false, 5), (192, 32, 1, false, false, false, 5), (182, 33, 2, false, false, false, 5), (170, 34, 4, false, false, false, 5), (156, 35, 3, false, false, false, 5), (153, 36, 4, false, false, false, 5), (173, 37, 3, false, false, false, 5), (189, 38, 2, false, false, false, 5), (186, 39, 2, false, false, false, 5), (179, 40, 4, false, false, false, 5), (176, 41, 3, false, false, false, 5), (195, 42, 1, false, false, false, 5), (207, 43, 2, false, false, false, 5), (222, 44, 2, false, false, false, 5), (210, 45, 3, false, false, false, 5), (213, 46, 2, false, false, false, 5), (216, 47, 3, false, false, false, 5), (228, 51, 5, false, false, false, 5), (232, 55, 2, false, false, false, 5), (159, 56, 1, false, false, false, 5), (162, 57, 3, false, false, false, 5), (166, 58, 1, false, false, false, 5), (238, 60, 2, false, false, false, 5), (241, 61, 2, false, false, false, 5), (247, 66, 3, false, false, false, 5), (244, 67, 3, false, false, false, 5), (250, 68, 3, false, false, false, 5), (253, 71, 3, false, false, false, 5), (256, 73, 3, false, false, false, 5), (259, 75, 2, false, false, false, 5), (262, 72, 1, false, false, false, 5), (265, 77, 2, false, false, false, 5), (268, 79, 1, false, false, false, 5), (271, 80, 2, false, false, false, 5)]
  | 8 => [(9, 81, 1, false, false, true, 4), (13, 86, 4, false, false, false, 4), (18, 96, 4, false, false, false, 4), (22, 100, 6, false, false, false, 4), (27, 103, 4, false, false, false, 4), (31, 106, 3, false, false, false, 4), (36, 109, 2, false, false, false, 4), (41, 113, 4, false, false, false, 4), (45, 119, 3, false, false, false, 4), (49, 121, 6, false, false, false, 4), (53, 125, 2, false, false, false, 4), (57, 140, 3, false, false, false, 4), (61, 143, 4, false, false, false, 4), (65, 144, 5, false, false, false, 4), (70, 146, 2, false, false, false, 4), (74, 148, 2, false, false, false, 4), (78, 150, 2, false, false, false, 4), (82, 152, 5, false, false, false, 4), (86, 157, 2, false, false, false, 4), (90, 158, 2, false, false, false, 4), (94, 160, 2, false, false, false, 4), (98, 162, 4, false, false, false, 4), (102, 169, 3, false, false, false, 4), (106, 170, 3, false, false, false, 4), (110, 172, 1, false, false, false, 4), (115, 173, 2, false, false, false, 4), (119, 175, 2, false, false, false, 4), (123, 176, 2, false, false, false, 4), (12, 1, 1, false, false, true, 5), (17, 2, 4, false, false, false, 5), (21, 9, 4, false, false, false, 5), (26, 11, 6, false, false, false, 5), (30, 12, 4, false, false, false, 5), (35, 13, 3, false, false, false, 5), (40, 14, 2, false, false, false, 5), (44, 16, 4, false, false, false, 5), (48, 20, 3, false, false, false, 5), (52, 22, 6, false, false, false, 5), (56, 25, 2, false, false, false, 5), (60, 48, 3, false, false, false, 5), (64, 49, 4, false, false, false, 5), (69, 50, 5, false, false, false, 5), (73, 52, 2, false, false, false, 5), (77, 53, 2, false, false, false, 5), (81, 54, 2, false, false, false, 5), (85, 59, 5, false, false, false, 5), (89, 62, 2, false, false, false, 5), (93, 63, 2, false, false, false, 5), (97, 64, 2, false, false, false, 5), (101, 65, 4, false, false, false, 5), (105, 69, 3, false, false, false, 5), (109, 70, 3, false, false, false, 5), (114, 72, 1, false, false, false, 5), (118, 74, 2, false, false, false, 5), (122, 76, 2, false, false, false, 5), (126, 78, 2, false, false, false, 5)]
  | _ => []
def consts : Nat → List (Nat × Int) := fun o => match o with
  | 2 => [(120, 100000)]
  | 4 => [(198, 100000)]
  | 5 => [(125, 1000000)]
  | _ => []
def news : Nat → List (Nat × Nat) := fun o => match o with
  | 4 => [(7, 3), (16, 0), (28, 2), (37, 1)]
  | 8 => [(7, 4), (10, 5)]
  | _ => []
def objs : Nat → List (Nat) := fun o => match o with
  | 0 => [3]
  | 1 => [3]
  | 2 => [3]
  | 3 => [3]
  | 4 => [1]
  | 5 => [1]
  | _ => []
def maths : Nat → List (Nat × Nat) := fun o => match o with
  | 2 => [(128, 1)]
  | 3 => [(45, 0), (51, 1), (54, 2)]
  | _ => []
def nests : List (String × Nat × MethodName × String) := [("KeyFingers", 9, ⟨"KeyFingers$Rules", "<init>", "()V"⟩, "KeyFingers"), ("KeyFingers", 39, ⟨"KeyFingers$Phrases", "<init>", "()V"⟩, "KeyFingers"), ("KeyFingers$Hand", 31, ⟨"KeyFingers", "at", "([II)I"⟩, "KeyFingers"), ("KeyFingers$Hand", 35, ⟨"KeyFingers", "store", "([III)V"⟩, "KeyFingers"), ("KeyFingers$Rules", 33, ⟨"KeyFingers", "store", "([III)V"⟩, "KeyFingers"), ("KeyFingers$Rules", 29, ⟨"KeyFingers", "at", "([II)I"⟩, "KeyFingers"), ("KeyFingers$Rules", 41, ⟨"KeyFingers", "isBlack", "(I)Z"⟩, "KeyFingers"), ("KeyFingers$Rows", 73, ⟨"KeyFingers", "store", "([III)V"⟩, "KeyFingers"), ("KeyFingers$Rows", 69, ⟨"KeyFingers", "at", "([II)I"⟩, "KeyFingers"), ("KeyFingers$Phrases", 28, ⟨"KeyFingers", "at", "([II)I"⟩, "KeyFingers"), ("KeyFingers$Phrases", 40, ⟨"KeyFingers", "store", "([III)V"⟩, "KeyFingers"), ("KeyFingers$Hand", 64, ⟨"KeyFingers", "isBlack", "(I)Z"⟩, "KeyFingers")]
/-- a method's words -/
def wMc (r : MRec) : Cond := .code r.1 r.2.1 r.2.2.1 r.2.2.2.1
def wM (r : MRec) : List Cond := .initialized r.1.cls :: (if r.2.2.2.2.1 then [.static r.1] else .instanceMethod r.1 :: (if r.1.name = "<init>" then [] else [.selects r.1.cls r.1 r.1]))
def wF (o : Nat) (e : Nat × Nat × Nat × Int × Bool × Nat) : List Cond := match vwCl[e.2.1]? with
  | some (C, Tt, N) => [.fieldLink (cnm o) e.1 (Tt e.2.2.1).1 (Tt e.2.2.1).2.1 (Tt e.2.2.1).2.2.1]
  | none => []
def wC (o : Nat) (e : Nat × Nat × Nat × Bool × Bool × Bool × Nat) : List Cond := match mtb[e.2.1]? with
  | some r => if e.2.2.2.2.1 then [] else [.methodLink (cnm o) e.1 r.1]
  | none => []
def wK (o : Nat) (e : Nat × Int) : List Cond := [.constant (cnm o) e.1 (Int32.ofInt e.2)]
def wN (o : Nat) (e : Nat × Nat) : List Cond := match vwCl[e.2]? with
  | some (C, Tt, N) => [.classLink (cnm o) e.1 C, .instantiable C N, .initialized C]
  | none => []
def wO (o : Nat) (e : Nat) : List Cond := [.methodLink (cnm o) e objectInit]
def mjn : Nat → MethodName := fun k => match k with
  | 0 => Lib.Math.abs.name
  | 1 => Lib.Math.min.name
  | _ => Lib.Math.max.name
def wJ (o : Nat) (e : Nat × Nat) : List Cond := [.methodLink (cnm o) e.1 (mjn e.2), .static (mjn e.2)]
def wU (q : vw_C) : List Cond := u_ws q.1 q.2.1 q.2.2
def nCl : Nat := 9
def MW0 : List Cond := mtb0.map wMc
def MW1 : List Cond := mtb0.flatMap wM
def MW2 : List Cond := (List.range nCl).flatMap (fun o => (flds o).flatMap (wF o))
def MW3 : List Cond := (List.range nCl).flatMap (fun o => (calls o).flatMap (wC o))
def MW5 : List Cond := (List.range nCl).flatMap (fun o => (maths o).flatMap (wJ o)) ++ [.initialized "java/lang/Math", .code Lib.Math.abs.name Lib.Math.abs.code 1 (some .int), .code Lib.Math.min.name Lib.Math.min.code 2 (some .int), .code Lib.Math.max.name Lib.Math.max.code 2 (some .int)]
def MW4 : List Cond := (List.range nCl).flatMap (fun o => (consts o).flatMap (wK o)) ++ (List.range nCl).flatMap (fun o => (news o).flatMap (wN o)) ++ (List.range nCl).flatMap (fun o => (objs o).flatMap (wO o)) ++ vwCl.flatMap wU ++ MW5 ++ [.instanceMethod objectInit, .code objectInit ⟨#[0xb1]⟩ 1 none, .arrayClass .int]
def MW : List Cond := MW0 ++ (MW1 ++ (MW2 ++ (MW3 ++ MW4)))
theorem goodIn_cons {big ws : List Cond} {r : MRec} (h : wMc r ∈ big) (k : GoodIn big ws) : GoodIn big (wMc r :: ws) := fun w hw => (List.mem_cons.mp hw).elim (fun e => e ▸ ⟨h, Or.inl rfl⟩) (k w)
theorem goodIn_nil {big : List Cond} : GoodIn big [] := fun _ h => absurd h List.not_mem_nil
theorem tb_1 {w : Cond} (h : w ∈ tables_1_1) : w ∈ lw_tbl := List.mem_append_right _ (List.mem_append_left _ h)
theorem tb_2 {w : Cond} (h : w ∈ tables_1_2) : w ∈ lw_tbl := List.mem_append_right _ (List.mem_append_right _ (List.mem_append_left _ h))
theorem tb_3 {w : Cond} (h : w ∈ tables_1_3) : w ∈ lw_tbl := List.mem_append_right _ (List.mem_append_right _ (List.mem_append_right _ (List.mem_append_left _ h)))
theorem tb_4 {w : Cond} (h : w ∈ tables_1_4) : w ∈ lw_tbl := List.mem_append_right _ (List.mem_append_right _ (List.mem_append_right _ (List.mem_append_right _ h)))
set_option maxRecDepth 100000 in
theorem cwM_reach : wMc rM_reach ∈ lw_tbl := tb_3 (List.mem_of_getElem? (i := 198) rfl)
set_option maxRecDepth 100000 in
theorem cwM_isFinger : wMc rM_isFinger ∈ lw_tbl := tb_3 (List.mem_of_getElem? (i := 194) rfl)
set_option maxRecDepth 100000 in
theorem cwM_mark : wMc rM_mark ∈ lw_tbl := tb_3 (List.mem_of_getElem? (i := 191) rfl)
set_option maxRecDepth 100000 in
theorem cwM_isChanged : wMc rM_isChanged ∈ lw_tbl := tb_3 (List.mem_of_getElem? (i := 187) rfl)
set_option maxRecDepth 100000 in
theorem cwM_lays : wMc rM_lays ∈ lw_tbl := tb_3 (List.mem_of_getElem? (i := 183) rfl)
set_option maxRecDepth 100000 in
theorem cwM_isKey : wMc rM_isKey ∈ lw_tbl := tb_3 (List.mem_of_getElem? (i := 179) rfl)
set_option maxRecDepth 100000 in
theorem cwM_isMoment : wMc rM_isMoment ∈ lw_tbl := tb_3 (List.mem_of_getElem? (i := 176) rfl)
set_option maxRecDepth 100000 in
theorem cwM_within : wMc rM_within ∈ lw_tbl := tb_3 (List.mem_of_getElem? (i := 173) rfl)
set_option maxRecDepth 100000 in
theorem cwM_isHand : wMc rM_isHand ∈ lw_tbl := tb_3 (List.mem_of_getElem? (i := 170) rfl)
set_option maxRecDepth 100000 in
theorem cwM_put : wMc rM_put ∈ lw_tbl := tb_3 (List.mem_of_getElem? (i := 167) rfl)
set_option maxRecDepth 100000 in
theorem cwM_init : wMc rM_init ∈ lw_tbl := tb_3 (List.mem_of_getElem? (i := 71) rfl)
set_option maxRecDepth 100000 in
theorem cwJ_fill : wMc rJ_fill ∈ lw_tbl := tb_1 (List.mem_of_getElem? (i := 50) rfl)
theorem MW0_0 : GoodIn lw_tbl (mtb_0.map wMc) := (goodIn_cons cwJ_fill (goodIn_cons cwM_init (goodIn_cons cwM_put (goodIn_cons cwM_isHand (goodIn_cons cwM_within (goodIn_cons cwM_isMoment (goodIn_cons cwM_isKey (goodIn_cons cwM_lays (goodIn_cons cwM_isChanged (goodIn_cons cwM_mark (goodIn_cons cwM_isFinger (goodIn_cons cwM_reach goodIn_nil))))))))))))
set_option maxRecDepth 100000 in
theorem cwM_stepCost : wMc rM_stepCost ∈ lw_tbl := tb_4 (List.mem_of_getElem? (i := 5) rfl)
set_option maxRecDepth 100000 in
theorem cwM_step : wMc rM_step ∈ lw_tbl := tb_4 (List.mem_of_getElem? (i := 1) rfl)
set_option maxRecDepth 100000 in
theorem cwM_noteCost : wMc rM_noteCost ∈ lw_tbl := tb_3 (List.mem_of_getElem? (i := 237) rfl)
set_option maxRecDepth 100000 in
theorem cwM_costs : wMc rM_costs ∈ lw_tbl := tb_3 (List.mem_of_getElem? (i := 233) rfl)
set_option maxRecDepth 100000 in
theorem cwM_isBlack : wMc rM_isBlack ∈ lw_tbl := tb_3 (List.mem_of_getElem? (i := 229) rfl)
set_option maxRecDepth 100000 in
theorem cwM_placeOf : wMc rM_placeOf ∈ lw_tbl := tb_3 (List.mem_of_getElem? (i := 226) rfl)
set_option maxRecDepth 100000 in
theorem cwM_isNote : wMc rM_isNote ∈ lw_tbl := tb_3 (List.mem_of_getElem? (i := 222) rfl)
set_option maxRecDepth 100000 in
theorem cwM_note : wMc rM_note ∈ lw_tbl := tb_3 (List.mem_of_getElem? (i := 218) rfl)
set_option maxRecDepth 100000 in
theorem cwM_notesOf : wMc rM_notesOf ∈ lw_tbl := tb_3 (List.mem_of_getElem? (i := 214) rfl)
set_option maxRecDepth 100000 in
theorem cwM_clear : wMc rM_clear ∈ lw_tbl := tb_3 (List.mem_of_getElem? (i := 210) rfl)
set_option maxRecDepth 100000 in
theorem cwM_price : wMc rM_price ∈ lw_tbl := tb_3 (List.mem_of_getElem? (i := 206) rfl)
set_option maxRecDepth 100000 in
theorem cwM_reachOf : wMc rM_reachOf ∈ lw_tbl := tb_3 (List.mem_of_getElem? (i := 202) rfl)
theorem MW0_1 : GoodIn lw_tbl (mtb_1.map wMc) := (goodIn_cons cwM_reachOf (goodIn_cons cwM_price (goodIn_cons cwM_clear (goodIn_cons cwM_notesOf (goodIn_cons cwM_note (goodIn_cons cwM_isNote (goodIn_cons cwM_placeOf (goodIn_cons cwM_isBlack (goodIn_cons cwM_costs (goodIn_cons cwM_noteCost (goodIn_cons cwM_step (goodIn_cons cwM_stepCost goodIn_nil))))))))))))
set_option maxRecDepth 100000 in
theorem cwM_isOf : wMc rM_isOf ∈ lw_tbl := tb_4 (List.mem_of_getElem? (i := 54) rfl)
set_option maxRecDepth 100000 in
theorem cwM_goingOn : wMc rM_goingOn ∈ lw_tbl := tb_4 (List.mem_of_getElem? (i := 50) rfl)
set_option maxRecDepth 100000 in
theorem cwM_back : wMc rM_back ∈ lw_tbl := tb_4 (List.mem_of_getElem? (i := 46) rfl)
set_option maxRecDepth 100000 in
theorem cwM_findTie : wMc rM_findTie ∈ lw_tbl := tb_4 (List.mem_of_getElem? (i := 42) rfl)
set_option maxRecDepth 100000 in
theorem cwM_leastRow : wMc rM_leastRow ∈ lw_tbl := tb_4 (List.mem_of_getElem? (i := 38) rfl)
set_option maxRecDepth 100000 in
theorem cwM_doesTieHold : wMc rM_doesTieHold ∈ lw_tbl := tb_4 (List.mem_of_getElem? (i := 34) rfl)
set_option maxRecDepth 100000 in
theorem cwM_layTie : wMc rM_layTie ∈ lw_tbl := tb_4 (List.mem_of_getElem? (i := 30) rfl)
set_option maxRecDepth 100000 in
theorem cwM_layNotes : wMc rM_layNotes ∈ lw_tbl := tb_4 (List.mem_of_getElem? (i := 26) rfl)
set_option maxRecDepth 100000 in
theorem cwM_leastOfHand : wMc rM_leastOfHand ∈ lw_tbl := tb_4 (List.mem_of_getElem? (i := 22) rfl)
set_option maxRecDepth 100000 in
theorem cwM_findHand : wMc rM_findHand ∈ lw_tbl := tb_4 (List.mem_of_getElem? (i := 18) rfl)
set_option maxRecDepth 100000 in
theorem cwM_best : wMc rM_best ∈ lw_tbl := tb_4 (List.mem_of_getElem? (i := 14) rfl)
set_option maxRecDepth 100000 in
theorem cwM_byReach : wMc rM_byReach ∈ lw_tbl := tb_4 (List.mem_of_getElem? (i := 9) rfl)
theorem MW0_2 : GoodIn lw_tbl (mtb_2.map wMc) := (goodIn_cons cwM_byReach (goodIn_cons cwM_best (goodIn_cons cwM_findHand (goodIn_cons cwM_leastOfHand (goodIn_cons cwM_layNotes (goodIn_cons cwM_layTie (goodIn_cons cwM_doesTieHold (goodIn_cons cwM_leastRow (goodIn_cons cwM_findTie (goodIn_cons cwM_back (goodIn_cons cwM_goingOn (goodIn_cons cwM_isOf goodIn_nil))))))))))))
set_option maxRecDepth 100000 in
theorem cwM_jointBehind : wMc rM_jointBehind ∈ lw_tbl := tb_4 (List.mem_of_getElem? (i := 102) rfl)
set_option maxRecDepth 100000 in
theorem cwM_findTied : wMc rM_findTied ∈ lw_tbl := tb_4 (List.mem_of_getElem? (i := 98) rfl)
set_option maxRecDepth 100000 in
theorem cwM_fingerBehind : wMc rM_fingerBehind ∈ lw_tbl := tb_4 (List.mem_of_getElem? (i := 94) rfl)
set_option maxRecDepth 100000 in
theorem cwM_findFingers : wMc rM_findFingers ∈ lw_tbl := tb_4 (List.mem_of_getElem? (i := 90) rfl)
set_option maxRecDepth 100000 in
theorem cwM_startCost : wMc rM_startCost ∈ lw_tbl := tb_4 (List.mem_of_getElem? (i := 86) rfl)
set_option maxRecDepth 100000 in
theorem cwM_leastStart : wMc rM_leastStart ∈ lw_tbl := tb_4 (List.mem_of_getElem? (i := 82) rfl)
set_option maxRecDepth 100000 in
theorem cwM_isOfBoth : wMc rM_isOfBoth ∈ lw_tbl := tb_4 (List.mem_of_getElem? (i := 78) rfl)
set_option maxRecDepth 100000 in
theorem cwM_jointStep : wMc rM_jointStep ∈ lw_tbl := tb_4 (List.mem_of_getElem? (i := 74) rfl)
set_option maxRecDepth 100000 in
theorem cwM_findJoint : wMc rM_findJoint ∈ lw_tbl := tb_4 (List.mem_of_getElem? (i := 70) rfl)
set_option maxRecDepth 100000 in
theorem cwM_findWith : wMc rM_findWith ∈ lw_tbl := tb_4 (List.mem_of_getElem? (i := 66) rfl)
set_option maxRecDepth 100000 in
theorem cwM_after : wMc rM_after ∈ lw_tbl := tb_4 (List.mem_of_getElem? (i := 62) rfl)
set_option maxRecDepth 100000 in
theorem cwM_stepAt : wMc rM_stepAt ∈ lw_tbl := tb_4 (List.mem_of_getElem? (i := 58) rfl)
theorem MW0_3 : GoodIn lw_tbl (mtb_3.map wMc) := (goodIn_cons cwM_stepAt (goodIn_cons cwM_after (goodIn_cons cwM_findWith (goodIn_cons cwM_findJoint (goodIn_cons cwM_jointStep (goodIn_cons cwM_isOfBoth (goodIn_cons cwM_leastStart (goodIn_cons cwM_startCost (goodIn_cons cwM_findFingers (goodIn_cons cwM_fingerBehind (goodIn_cons cwM_findTied (goodIn_cons cwM_jointBehind goodIn_nil))))))))))))
set_option maxRecDepth 100000 in
theorem cwM_phrase : wMc rM_phrase ∈ lw_tbl := tb_4 (List.mem_of_getElem? (i := 150) rfl)
set_option maxRecDepth 100000 in
theorem cwM_leastUp : wMc rM_leastUp ∈ lw_tbl := tb_4 (List.mem_of_getElem? (i := 146) rfl)
set_option maxRecDepth 100000 in
theorem cwM_goesOn : wMc rM_goesOn ∈ lw_tbl := tb_4 (List.mem_of_getElem? (i := 142) rfl)
set_option maxRecDepth 100000 in
theorem cwM_begin : wMc rM_begin ∈ lw_tbl := tb_4 (List.mem_of_getElem? (i := 138) rfl)
set_option maxRecDepth 100000 in
theorem cwM_plainTo : wMc rM_plainTo ∈ lw_tbl := tb_4 (List.mem_of_getElem? (i := 134) rfl)
set_option maxRecDepth 100000 in
theorem cwM_stuck : wMc rM_stuck ∈ lw_tbl := tb_4 (List.mem_of_getElem? (i := 130) rfl)
set_option maxRecDepth 100000 in
theorem cwM_tied : wMc rM_tied ∈ lw_tbl := tb_4 (List.mem_of_getElem? (i := 126) rfl)
set_option maxRecDepth 100000 in
theorem cwM_untie : wMc rM_untie ∈ lw_tbl := tb_4 (List.mem_of_getElem? (i := 122) rfl)
set_option maxRecDepth 100000 in
theorem cwM_ties : wMc rM_ties ∈ lw_tbl := tb_4 (List.mem_of_getElem? (i := 118) rfl)
set_option maxRecDepth 100000 in
theorem cwM_tie : wMc rM_tie ∈ lw_tbl := tb_4 (List.mem_of_getElem? (i := 114) rfl)
set_option maxRecDepth 100000 in
theorem cwM_would : wMc rM_would ∈ lw_tbl := tb_4 (List.mem_of_getElem? (i := 110) rfl)
set_option maxRecDepth 100000 in
theorem cwM_finger : wMc rM_finger ∈ lw_tbl := tb_4 (List.mem_of_getElem? (i := 106) rfl)
theorem MW0_4 : GoodIn lw_tbl (mtb_4.map wMc) := (goodIn_cons cwM_finger (goodIn_cons cwM_would (goodIn_cons cwM_tie (goodIn_cons cwM_ties (goodIn_cons cwM_untie (goodIn_cons cwM_tied (goodIn_cons cwM_stuck (goodIn_cons cwM_plainTo (goodIn_cons cwM_begin (goodIn_cons cwM_goesOn (goodIn_cons cwM_leastUp (goodIn_cons cwM_phrase goodIn_nil))))))))))))
set_option maxRecDepth 100000 in
theorem cwM_isSo : wMc rM_isSo ∈ lw_tbl := tb_4 (List.mem_of_getElem? (i := 198) rfl)
set_option maxRecDepth 100000 in
theorem cwM_moment : wMc rM_moment ∈ lw_tbl := tb_4 (List.mem_of_getElem? (i := 194) rfl)
set_option maxRecDepth 100000 in
theorem cwM_tieEcho : wMc rM_tieEcho ∈ lw_tbl := tb_4 (List.mem_of_getElem? (i := 190) rfl)
set_option maxRecDepth 100000 in
theorem cwM_likeness : wMc rM_likeness ∈ lw_tbl := tb_4 (List.mem_of_getElem? (i := 186) rfl)
set_option maxRecDepth 100000 in
theorem cwM_isEcho : wMc rM_isEcho ∈ lw_tbl := tb_4 (List.mem_of_getElem? (i := 182) rfl)
set_option maxRecDepth 100000 in
theorem cwM_echoAt : wMc rM_echoAt ∈ lw_tbl := tb_4 (List.mem_of_getElem? (i := 178) rfl)
set_option maxRecDepth 100000 in
theorem cwM_echo : wMc rM_echo ∈ lw_tbl := tb_4 (List.mem_of_getElem? (i := 174) rfl)
set_option maxRecDepth 100000 in
theorem cwM_name : wMc rM_name ∈ lw_tbl := tb_4 (List.mem_of_getElem? (i := 170) rfl)
set_option maxRecDepth 100000 in
theorem cwM_prune : wMc rM_prune ∈ lw_tbl := tb_4 (List.mem_of_getElem? (i := 166) rfl)
set_option maxRecDepth 100000 in
theorem cwM_forget : wMc rM_forget ∈ lw_tbl := tb_4 (List.mem_of_getElem? (i := 162) rfl)
set_option maxRecDepth 100000 in
theorem cwM_goes : wMc rM_goes ∈ lw_tbl := tb_4 (List.mem_of_getElem? (i := 158) rfl)
set_option maxRecDepth 100000 in
theorem cwM_phraseOf : wMc rM_phraseOf ∈ lw_tbl := tb_4 (List.mem_of_getElem? (i := 154) rfl)
theorem MW0_5 : GoodIn lw_tbl (mtb_5.map wMc) := (goodIn_cons cwM_phraseOf (goodIn_cons cwM_goes (goodIn_cons cwM_forget (goodIn_cons cwM_prune (goodIn_cons cwM_name (goodIn_cons cwM_echo (goodIn_cons cwM_echoAt (goodIn_cons cwM_isEcho (goodIn_cons cwM_likeness (goodIn_cons cwM_tieEcho (goodIn_cons cwM_moment (goodIn_cons cwM_isSo goodIn_nil))))))))))))
set_option maxRecDepth 100000 in
theorem cwH_init : wMc rH_init ∈ lw_tbl := tb_1 (List.mem_of_getElem? (i := 46) rfl)
set_option maxRecDepth 100000 in
theorem cwU_init : wMc rU_init ∈ lw_tbl := tb_1 (List.mem_of_getElem? (i := 21) rfl)
set_option maxRecDepth 100000 in
theorem cwK_init : wMc rK_init ∈ lw_tbl := tb_1 (List.mem_of_getElem? (i := 13) rfl)
set_option maxRecDepth 100000 in
theorem cwM_manyMoments : wMc rM_manyMoments ∈ lw_tbl := tb_4 (List.mem_of_getElem? (i := 235) rfl)
set_option maxRecDepth 100000 in
theorem cwM_manyMarks : wMc rM_manyMarks ∈ lw_tbl := tb_4 (List.mem_of_getElem? (i := 231) rfl)
set_option maxRecDepth 100000 in
theorem cwM_many : wMc rM_many ∈ lw_tbl := tb_4 (List.mem_of_getElem? (i := 227) rfl)
set_option maxRecDepth 100000 in
theorem cwM_sumBehind : wMc rM_sumBehind ∈ lw_tbl := tb_4 (List.mem_of_getElem? (i := 223) rfl)
set_option maxRecDepth 100000 in
theorem cwM_help : wMc rM_help ∈ lw_tbl := tb_4 (List.mem_of_getElem? (i := 219) rfl)
set_option maxRecDepth 100000 in
theorem cwM_swaps : wMc rM_swaps ∈ lw_tbl := tb_4 (List.mem_of_getElem? (i := 214) rfl)
set_option maxRecDepth 100000 in
theorem cwM_swap : wMc rM_swap ∈ lw_tbl := tb_4 (List.mem_of_getElem? (i := 210) rfl)
set_option maxRecDepth 100000 in
theorem cwM_together : wMc rM_together ∈ lw_tbl := tb_4 (List.mem_of_getElem? (i := 206) rfl)
set_option maxRecDepth 100000 in
theorem cwM_sum : wMc rM_sum ∈ lw_tbl := tb_4 (List.mem_of_getElem? (i := 202) rfl)
theorem MW0_6 : GoodIn lw_tbl (mtb_6.map wMc) := (goodIn_cons cwM_sum (goodIn_cons cwM_together (goodIn_cons cwM_swap (goodIn_cons cwM_swaps (goodIn_cons cwM_help (goodIn_cons cwM_sumBehind (goodIn_cons cwM_many (goodIn_cons cwM_manyMarks (goodIn_cons cwM_manyMoments (goodIn_cons cwK_init (goodIn_cons cwU_init (goodIn_cons cwH_init goodIn_nil))))))))))))
set_option maxRecDepth 100000 in
theorem cwH_renumber : wMc rH_renumber ∈ lw_tbl := tb_1 (List.mem_of_getElem? (i := 186) rfl)
set_option maxRecDepth 100000 in
theorem cwK_store : wMc rK_store ∈ lw_tbl := tb_1 (List.mem_of_getElem? (i := 182) rfl)
set_option maxRecDepth 100000 in
theorem cwH_give : wMc rH_give ∈ lw_tbl := tb_1 (List.mem_of_getElem? (i := 178) rfl)
set_option maxRecDepth 100000 in
theorem cwK_at : wMc rK_at ∈ lw_tbl := tb_1 (List.mem_of_getElem? (i := 174) rfl)
set_option maxRecDepth 100000 in
theorem cwH_keyAt : wMc rH_keyAt ∈ lw_tbl := tb_1 (List.mem_of_getElem? (i := 171) rfl)
set_option maxRecDepth 100000 in
theorem cwK_playerOf : wMc rK_playerOf ∈ lw_tbl := tb_1 (List.mem_of_getElem? (i := 167) rfl)
set_option maxRecDepth 100000 in
theorem cwK_isKey : wMc rK_isKey ∈ lw_tbl := tb_1 (List.mem_of_getElem? (i := 163) rfl)
set_option maxRecDepth 100000 in
theorem cwK_isMoment : wMc rK_isMoment ∈ lw_tbl := tb_1 (List.mem_of_getElem? (i := 160) rfl)
set_option maxRecDepth 100000 in
theorem cwK_isHand : wMc rK_isHand ∈ lw_tbl := tb_1 (List.mem_of_getElem? (i := 157) rfl)
set_option maxRecDepth 100000 in
theorem cwK_put : wMc rK_put ∈ lw_tbl := tb_1 (List.mem_of_getElem? (i := 154) rfl)
set_option maxRecDepth 100000 in
theorem cwP_init : wMc rP_init ∈ lw_tbl := tb_1 (List.mem_of_getElem? (i := 117) rfl)
set_option maxRecDepth 100000 in
theorem cwR_init : wMc rR_init ∈ lw_tbl := tb_1 (List.mem_of_getElem? (i := 80) rfl)
theorem MW0_7 : GoodIn lw_tbl (mtb_7.map wMc) := (goodIn_cons cwR_init (goodIn_cons cwP_init (goodIn_cons cwK_put (goodIn_cons cwK_isHand (goodIn_cons cwK_isMoment (goodIn_cons cwK_isKey (goodIn_cons cwK_playerOf (goodIn_cons cwH_keyAt (goodIn_cons cwK_at (goodIn_cons cwH_give (goodIn_cons cwK_store (goodIn_cons cwH_renumber goodIn_nil))))))))))))
set_option maxRecDepth 100000 in
theorem cwU_priceOf : wMc rU_priceOf ∈ lw_tbl := tb_1 (List.mem_of_getElem? (i := 233) rfl)
set_option maxRecDepth 100000 in
theorem cwK_price : wMc rK_price ∈ lw_tbl := tb_1 (List.mem_of_getElem? (i := 229) rfl)
set_option maxRecDepth 100000 in
theorem cwU_reachPart : wMc rU_reachPart ∈ lw_tbl := tb_1 (List.mem_of_getElem? (i := 224) rfl)
set_option maxRecDepth 100000 in
theorem cwK_isBelow : wMc rK_isBelow ∈ lw_tbl := tb_1 (List.mem_of_getElem? (i := 220) rfl)
set_option maxRecDepth 100000 in
theorem cwK_reachOf : wMc rK_reachOf ∈ lw_tbl := tb_1 (List.mem_of_getElem? (i := 217) rfl)
set_option maxRecDepth 100000 in
theorem cwU_reachPlace : wMc rU_reachPlace ∈ lw_tbl := tb_1 (List.mem_of_getElem? (i := 212) rfl)
set_option maxRecDepth 100000 in
theorem cwU_setReach : wMc rU_setReach ∈ lw_tbl := tb_1 (List.mem_of_getElem? (i := 209) rfl)
set_option maxRecDepth 100000 in
theorem cwK_reach : wMc rK_reach ∈ lw_tbl := tb_1 (List.mem_of_getElem? (i := 205) rfl)
set_option maxRecDepth 100000 in
theorem cwH_setMark : wMc rH_setMark ∈ lw_tbl := tb_1 (List.mem_of_getElem? (i := 201) rfl)
set_option maxRecDepth 100000 in
theorem cwH_markAt : wMc rH_markAt ∈ lw_tbl := tb_1 (List.mem_of_getElem? (i := 197) rfl)
set_option maxRecDepth 100000 in
theorem cwK_isFinger : wMc rK_isFinger ∈ lw_tbl := tb_1 (List.mem_of_getElem? (i := 193) rfl)
set_option maxRecDepth 100000 in
theorem cwK_mark : wMc rK_mark ∈ lw_tbl := tb_1 (List.mem_of_getElem? (i := 190) rfl)
theorem MW0_8 : GoodIn lw_tbl (mtb_8.map wMc) := (goodIn_cons cwK_mark (goodIn_cons cwK_isFinger (goodIn_cons cwH_markAt (goodIn_cons cwH_setMark (goodIn_cons cwK_reach (goodIn_cons cwU_setReach (goodIn_cons cwU_reachPlace (goodIn_cons cwK_reachOf (goodIn_cons cwK_isBelow (goodIn_cons cwU_reachPart (goodIn_cons cwK_price (goodIn_cons cwU_priceOf goodIn_nil))))))))))))
set_option maxRecDepth 100000 in
theorem cwK_costs : wMc rK_costs ∈ lw_tbl := tb_2 (List.mem_of_getElem? (i := 40) rfl)
set_option maxRecDepth 100000 in
theorem cwK_isBlack : wMc rK_isBlack ∈ lw_tbl := tb_2 (List.mem_of_getElem? (i := 36) rfl)
set_option maxRecDepth 100000 in
theorem cwH_markOf : wMc rH_markOf ∈ lw_tbl := tb_2 (List.mem_of_getElem? (i := 33) rfl)
set_option maxRecDepth 100000 in
theorem cwH_keyOf : wMc rH_keyOf ∈ lw_tbl := tb_2 (List.mem_of_getElem? (i := 29) rfl)
set_option maxRecDepth 100000 in
theorem cwH_momentOf : wMc rH_momentOf ∈ lw_tbl := tb_2 (List.mem_of_getElem? (i := 25) rfl)
set_option maxRecDepth 100000 in
theorem cwK_isNote : wMc rK_isNote ∈ lw_tbl := tb_2 (List.mem_of_getElem? (i := 21) rfl)
set_option maxRecDepth 100000 in
theorem cwK_note : wMc rK_note ∈ lw_tbl := tb_2 (List.mem_of_getElem? (i := 17) rfl)
set_option maxRecDepth 100000 in
theorem cwH_dropTie : wMc rH_dropTie ∈ lw_tbl := tb_2 (List.mem_of_getElem? (i := 13) rfl)
set_option maxRecDepth 100000 in
theorem cwH_restAlways : wMc rH_restAlways ∈ lw_tbl := tb_2 (List.mem_of_getElem? (i := 9) rfl)
set_option maxRecDepth 100000 in
theorem cwH_noteCount : wMc rH_noteCount ∈ lw_tbl := tb_2 (List.mem_of_getElem? (i := 5) rfl)
set_option maxRecDepth 100000 in
theorem cwK_clear : wMc rK_clear ∈ lw_tbl := tb_2 (List.mem_of_getElem? (i := 1) rfl)
set_option maxRecDepth 100000 in
theorem cwU_setPrice : wMc rU_setPrice ∈ lw_tbl := tb_1 (List.mem_of_getElem? (i := 237) rfl)
theorem MW0_9 : GoodIn lw_tbl (mtb_9.map wMc) := (goodIn_cons cwU_setPrice (goodIn_cons cwK_clear (goodIn_cons cwH_noteCount (goodIn_cons cwH_restAlways (goodIn_cons cwH_dropTie (goodIn_cons cwK_note (goodIn_cons cwK_isNote (goodIn_cons cwH_momentOf (goodIn_cons cwH_keyOf (goodIn_cons cwH_markOf (goodIn_cons cwK_isBlack (goodIn_cons cwK_costs goodIn_nil))))))))))))
set_option maxRecDepth 100000 in
theorem cwR_loadNote : wMc rR_loadNote ∈ lw_tbl := tb_2 (List.mem_of_getElem? (i := 101) rfl)
set_option maxRecDepth 100000 in
theorem cwH_tiedLength : wMc rH_tiedLength ∈ lw_tbl := tb_2 (List.mem_of_getElem? (i := 95) rfl)
set_option maxRecDepth 100000 in
theorem cwH_secondTied : wMc rH_secondTied ∈ lw_tbl := tb_2 (List.mem_of_getElem? (i := 91) rfl)
set_option maxRecDepth 100000 in
theorem cwH_firstTied : wMc rH_firstTied ∈ lw_tbl := tb_2 (List.mem_of_getElem? (i := 87) rfl)
set_option maxRecDepth 100000 in
theorem cwR_load : wMc rR_load ∈ lw_tbl := tb_2 (List.mem_of_getElem? (i := 82) rfl)
set_option maxRecDepth 100000 in
theorem cwR_leastCost : wMc rR_leastCost ∈ lw_tbl := tb_2 (List.mem_of_getElem? (i := 78) rfl)
set_option maxRecDepth 100000 in
theorem cwK_best : wMc rK_best ∈ lw_tbl := tb_2 (List.mem_of_getElem? (i := 74) rfl)
set_option maxRecDepth 100000 in
theorem cwU_reachCost : wMc rU_reachCost ∈ lw_tbl := tb_2 (List.mem_of_getElem? (i := 70) rfl)
set_option maxRecDepth 100000 in
theorem cwU_stepCost : wMc rU_stepCost ∈ lw_tbl := tb_2 (List.mem_of_getElem? (i := 57) rfl)
set_option maxRecDepth 100000 in
theorem cwH_side : wMc rH_side ∈ lw_tbl := tb_2 (List.mem_of_getElem? (i := 53) rfl)
set_option maxRecDepth 100000 in
theorem cwK_step : wMc rK_step ∈ lw_tbl := tb_2 (List.mem_of_getElem? (i := 49) rfl)
set_option maxRecDepth 100000 in
theorem cwU_noteCost : wMc rU_noteCost ∈ lw_tbl := tb_2 (List.mem_of_getElem? (i := 44) rfl)
theorem MW0_10 : GoodIn lw_tbl (mtb_10.map wMc) := (goodIn_cons cwU_noteCost (goodIn_cons cwK_step (goodIn_cons cwH_side (goodIn_cons cwU_stepCost (goodIn_cons cwU_reachCost (goodIn_cons cwK_best (goodIn_cons cwR_leastCost (goodIn_cons cwR_load (goodIn_cons cwH_firstTied (goodIn_cons cwH_secondTied (goodIn_cons cwH_tiedLength (goodIn_cons cwR_loadNote goodIn_nil))))))))))))
set_option maxRecDepth 100000 in
theorem cwK_would : wMc rK_would ∈ lw_tbl := tb_2 (List.mem_of_getElem? (i := 156) rfl)
set_option maxRecDepth 100000 in
theorem cwR_follow : wMc rR_follow ∈ lw_tbl := tb_2 (List.mem_of_getElem? (i := 152) rfl)
set_option maxRecDepth 100000 in
theorem cwR_bestFinger : wMc rR_bestFinger ∈ lw_tbl := tb_2 (List.mem_of_getElem? (i := 147) rfl)
set_option maxRecDepth 100000 in
theorem cwK_finger : wMc rK_finger ∈ lw_tbl := tb_2 (List.mem_of_getElem? (i := 143) rfl)
set_option maxRecDepth 100000 in
theorem cwR_leadTo : wMc rR_leadTo ∈ lw_tbl := tb_2 (List.mem_of_getElem? (i := 139) rfl)
set_option maxRecDepth 100000 in
theorem cwR_addFrom : wMc rR_addFrom ∈ lw_tbl := tb_2 (List.mem_of_getElem? (i := 135) rfl)
set_option maxRecDepth 100000 in
theorem cwR_fold : wMc rR_fold ∈ lw_tbl := tb_2 (List.mem_of_getElem? (i := 132) rfl)
set_option maxRecDepth 100000 in
theorem cwR_answerOfTable : wMc rR_answerOfTable ∈ lw_tbl := tb_2 (List.mem_of_getElem? (i := 128) rfl)
set_option maxRecDepth 100000 in
theorem cwR_costBehind : wMc rR_costBehind ∈ lw_tbl := tb_2 (List.mem_of_getElem? (i := 123) rfl)
set_option maxRecDepth 100000 in
theorem cwR_sweep : wMc rR_sweep ∈ lw_tbl := tb_2 (List.mem_of_getElem? (i := 118) rfl)
set_option maxRecDepth 100000 in
theorem cwH_tieHolds : wMc rH_tieHolds ∈ lw_tbl := tb_2 (List.mem_of_getElem? (i := 114) rfl)
set_option maxRecDepth 100000 in
theorem cwR_loadSteps : wMc rR_loadSteps ∈ lw_tbl := tb_2 (List.mem_of_getElem? (i := 109) rfl)
theorem MW0_11 : GoodIn lw_tbl (mtb_11.map wMc) := (goodIn_cons cwR_loadSteps (goodIn_cons cwH_tieHolds (goodIn_cons cwR_sweep (goodIn_cons cwR_costBehind (goodIn_cons cwR_answerOfTable (goodIn_cons cwR_fold (goodIn_cons cwR_addFrom (goodIn_cons cwR_leadTo (goodIn_cons cwK_finger (goodIn_cons cwR_bestFinger (goodIn_cons cwR_follow (goodIn_cons cwK_would goodIn_nil))))))))))))
set_option maxRecDepth 100000 in
theorem cwP_drop : wMc rP_drop ∈ lw_tbl := tb_2 (List.mem_of_getElem? (i := 207) rfl)
set_option maxRecDepth 100000 in
theorem cwP_placeOf : wMc rP_placeOf ∈ lw_tbl := tb_2 (List.mem_of_getElem? (i := 202) rfl)
set_option maxRecDepth 100000 in
theorem cwP_come : wMc rP_come ∈ lw_tbl := tb_2 (List.mem_of_getElem? (i := 198) rfl)
set_option maxRecDepth 100000 in
theorem cwK_phrase : wMc rK_phrase ∈ lw_tbl := tb_2 (List.mem_of_getElem? (i := 194) rfl)
set_option maxRecDepth 100000 in
theorem cwR_firstBlocked : wMc rR_firstBlocked ∈ lw_tbl := tb_2 (List.mem_of_getElem? (i := 190) rfl)
set_option maxRecDepth 100000 in
theorem cwK_stuck : wMc rK_stuck ∈ lw_tbl := tb_2 (List.mem_of_getElem? (i := 186) rfl)
set_option maxRecDepth 100000 in
theorem cwR_untiedCost : wMc rR_untiedCost ∈ lw_tbl := tb_2 (List.mem_of_getElem? (i := 182) rfl)
set_option maxRecDepth 100000 in
theorem cwK_tied : wMc rK_tied ∈ lw_tbl := tb_2 (List.mem_of_getElem? (i := 178) rfl)
set_option maxRecDepth 100000 in
theorem cwH_hasTie : wMc rH_hasTie ∈ lw_tbl := tb_2 (List.mem_of_getElem? (i := 173) rfl)
set_option maxRecDepth 100000 in
theorem cwK_untie : wMc rK_untie ∈ lw_tbl := tb_2 (List.mem_of_getElem? (i := 169) rfl)
set_option maxRecDepth 100000 in
theorem cwH_setTie : wMc rH_setTie ∈ lw_tbl := tb_2 (List.mem_of_getElem? (i := 164) rfl)
set_option maxRecDepth 100000 in
theorem cwK_tie : wMc rK_tie ∈ lw_tbl := tb_2 (List.mem_of_getElem? (i := 160) rfl)
theorem MW0_12 : GoodIn lw_tbl (mtb_12.map wMc) := (goodIn_cons cwK_tie (goodIn_cons cwH_setTie (goodIn_cons cwK_untie (goodIn_cons cwH_hasTie (goodIn_cons cwK_tied (goodIn_cons cwR_untiedCost (goodIn_cons cwK_stuck (goodIn_cons cwR_firstBlocked (goodIn_cons cwK_phrase (goodIn_cons cwP_come (goodIn_cons cwP_placeOf (goodIn_cons cwP_drop goodIn_nil))))))))))))
set_option maxRecDepth 100000 in
theorem cwH_isEcho : wMc rH_isEcho ∈ lw_tbl := tb_3 (List.mem_of_getElem? (i := 18) rfl)
set_option maxRecDepth 100000 in
theorem cwP_lengthAt : wMc rP_lengthAt ∈ lw_tbl := tb_3 (List.mem_of_getElem? (i := 14) rfl)
set_option maxRecDepth 100000 in
theorem cwP_startAt : wMc rP_startAt ∈ lw_tbl := tb_3 (List.mem_of_getElem? (i := 10) rfl)
set_option maxRecDepth 100000 in
theorem cwP_handAt : wMc rP_handAt ∈ lw_tbl := tb_3 (List.mem_of_getElem? (i := 6) rfl)
set_option maxRecDepth 100000 in
theorem cwK_echoStart : wMc rK_echoStart ∈ lw_tbl := tb_3 (List.mem_of_getElem? (i := 2) rfl)
set_option maxRecDepth 100000 in
theorem cwK_echo : wMc rK_echo ∈ lw_tbl := tb_2 (List.mem_of_getElem? (i := 238) rfl)
set_option maxRecDepth 100000 in
theorem cwP_nameAt : wMc rP_nameAt ∈ lw_tbl := tb_2 (List.mem_of_getElem? (i := 234) rfl)
set_option maxRecDepth 100000 in
theorem cwK_name : wMc rK_name ∈ lw_tbl := tb_2 (List.mem_of_getElem? (i := 230) rfl)
set_option maxRecDepth 100000 in
theorem cwP_dropLonger : wMc rP_dropLonger ∈ lw_tbl := tb_2 (List.mem_of_getElem? (i := 226) rfl)
set_option maxRecDepth 100000 in
theorem cwK_prune : wMc rK_prune ∈ lw_tbl := tb_2 (List.mem_of_getElem? (i := 222) rfl)
set_option maxRecDepth 100000 in
theorem cwK_forget : wMc rK_forget ∈ lw_tbl := tb_2 (List.mem_of_getElem? (i := 216) rfl)
set_option maxRecDepth 100000 in
theorem cwP_size : wMc rP_size ∈ lw_tbl := tb_2 (List.mem_of_getElem? (i := 212) rfl)
theorem MW0_13 : GoodIn lw_tbl (mtb_13.map wMc) := (goodIn_cons cwP_size (goodIn_cons cwK_forget (goodIn_cons cwK_prune (goodIn_cons cwP_dropLonger (goodIn_cons cwK_name (goodIn_cons cwP_nameAt (goodIn_cons cwK_echo (goodIn_cons cwK_echoStart (goodIn_cons cwP_handAt (goodIn_cons cwP_startAt (goodIn_cons cwP_lengthAt (goodIn_cons cwH_isEcho goodIn_nil))))))))))))
set_option maxRecDepth 100000 in
theorem cwK_countOf : wMc rK_countOf ∈ lw_tbl := tb_3 (List.mem_of_getElem? (i := 66) rfl)
set_option maxRecDepth 100000 in
theorem cwH_markCount : wMc rH_markCount ∈ lw_tbl := tb_3 (List.mem_of_getElem? (i := 62) rfl)
set_option maxRecDepth 100000 in
theorem cwK_many : wMc rK_many ∈ lw_tbl := tb_3 (List.mem_of_getElem? (i := 58) rfl)
set_option maxRecDepth 100000 in
theorem cwK_help : wMc rK_help ∈ lw_tbl := tb_3 (List.mem_of_getElem? (i := 53) rfl)
set_option maxRecDepth 100000 in
theorem cwK_exchange : wMc rK_exchange ∈ lw_tbl := tb_3 (List.mem_of_getElem? (i := 48) rfl)
set_option maxRecDepth 100000 in
theorem cwK_swap : wMc rK_swap ∈ lw_tbl := tb_3 (List.mem_of_getElem? (i := 44) rfl)
set_option maxRecDepth 100000 in
theorem cwK_sum : wMc rK_sum ∈ lw_tbl := tb_3 (List.mem_of_getElem? (i := 40) rfl)
set_option maxRecDepth 100000 in
theorem cwK_kindOf : wMc rK_kindOf ∈ lw_tbl := tb_3 (List.mem_of_getElem? (i := 36) rfl)
set_option maxRecDepth 100000 in
theorem cwK_moment : wMc rK_moment ∈ lw_tbl := tb_3 (List.mem_of_getElem? (i := 32) rfl)
set_option maxRecDepth 100000 in
theorem cwK_tieEcho : wMc rK_tieEcho ∈ lw_tbl := tb_3 (List.mem_of_getElem? (i := 28) rfl)
set_option maxRecDepth 100000 in
theorem cwH_likeness : wMc rH_likeness ∈ lw_tbl := tb_3 (List.mem_of_getElem? (i := 23) rfl)
theorem MW0_14 : GoodIn lw_tbl (mtb_14.map wMc) := (goodIn_cons cwH_likeness (goodIn_cons cwK_tieEcho (goodIn_cons cwK_moment (goodIn_cons cwK_kindOf (goodIn_cons cwK_sum (goodIn_cons cwK_swap (goodIn_cons cwK_exchange (goodIn_cons cwK_help (goodIn_cons cwK_many (goodIn_cons cwH_markCount (goodIn_cons cwK_countOf goodIn_nil)))))))))))
theorem MW0_in : GoodIn lw_tbl MW0 := by
  unfold MW0 mtb0
  simp only [List.map_append]
  exact goodIn_app MW0_0 (goodIn_app MW0_1 (goodIn_app MW0_2 (goodIn_app MW0_3 (goodIn_app MW0_4 (goodIn_app MW0_5 (goodIn_app MW0_6 (goodIn_app MW0_7 (goodIn_app MW0_8 (goodIn_app MW0_9 (goodIn_app MW0_10 (goodIn_app MW0_11 (goodIn_app MW0_12 (goodIn_app MW0_13 MW0_14)))))))))))))
set_option maxRecDepth 100000 in
theorem MW1_0 : GoodIn lw_tbl (mtb_0.flatMap wM) := goodIn_r _ [67, 112, 70, 613, 70, 708, 709, 70, 712, 70, 715, 70, 718, 70, 721, 70, 725, 17, 70, 729, 18, 70, 732, 733, 70, 736, 70, 739, 740] (by decide +kernel) (by decide +kernel)
set_option maxRecDepth 100000 in
theorem MW1_1 : GoodIn lw_tbl (mtb_1.flatMap wM) := goodIn_r _ [70, 743, 744, 70, 747, 748, 70, 751, 752, 70, 756, 19, 70, 759, 760, 70, 764, 20, 70, 768, 21, 70, 771, 70, 774, 775, 70, 779, 22, 70, 782, 783, 70, 787, 23] (by decide +kernel) (by decide +kernel)
set_option maxRecDepth 100000 in
theorem MW1_2 : GoodIn lw_tbl (mtb_2.flatMap wM) := goodIn_r _ [70, 791, 24, 70, 795, 796, 70, 800, 25, 70, 804, 26, 70, 808, 27, 70, 812, 28, 70, 816, 29, 70, 820, 30, 70, 824, 31, 70, 828, 32, 70, 832, 33, 70, 836, 34] (by decide +kernel) (by decide +kernel)
set_option maxRecDepth 100000 in
theorem MW1_3 : GoodIn lw_tbl (mtb_3.flatMap wM) := goodIn_r _ [70, 840, 35, 70, 844, 36, 70, 848, 37, 70, 852, 38, 70, 856, 39, 70, 860, 40, 70, 864, 41, 70, 868, 42, 70, 872, 43, 70, 876, 44, 70, 880, 45, 70, 884, 46] (by decide +kernel) (by decide +kernel)
set_option maxRecDepth 100000 in
theorem MW1_4 : GoodIn lw_tbl (mtb_4.flatMap wM) := goodIn_r _ [70, 887, 888, 70, 891, 892, 70, 895, 896, 70, 900, 47, 70, 903, 904, 70, 907, 908, 70, 911, 912, 70, 916, 48, 70, 920, 49, 70, 924, 50, 70, 928, 51, 70, 931, 932] (by decide +kernel) (by decide +kernel)
set_option maxRecDepth 100000 in
theorem MW1_5 : GoodIn lw_tbl (mtb_5.flatMap wM) := goodIn_r _ [70, 936, 52, 70, 940, 53, 70, 943, 944, 70, 947, 948, 70, 951, 952, 70, 955, 956, 70, 960, 54, 70, 964, 55, 70, 968, 56, 70, 971, 972, 70, 975, 976, 70, 980, 57] (by decide +kernel) (by decide +kernel)
set_option maxRecDepth 100000 in
theorem MW1_6 : GoodIn lw_tbl (mtb_6.flatMap wM) := goodIn_r _ [70, 983, 984, 70, 988, 58, 70, 991, 992, 70, 996, 59, 70, 1000, 1001, 70, 1005, 60, 70, 1008, 1009, 70, 1013, 61, 70, 1017, 62, 64, 75, 65, 83, 66, 108] (by decide +kernel) (by decide +kernel)
set_option maxRecDepth 100000 in
theorem MW1_7 : GoodIn lw_tbl (mtb_7.flatMap wM) := goodIn_r _ [68, 142, 69, 179, 64, 215, 216, 64, 219, 64, 222, 64, 225, 64, 229, 0, 66, 232, 233, 64, 236, 66, 239, 240, 64, 244, 66, 248, 1] (by decide +kernel) (by decide +kernel)
set_option maxRecDepth 100000 in
theorem MW1_8 : GoodIn lw_tbl (mtb_8.flatMap wM) := goodIn_r _ [64, 251, 252, 64, 255, 66, 258, 259, 66, 262, 263, 64, 266, 267, 65, 270, 271, 65, 274, 64, 278, 279, 64, 282, 65, 285, 286, 64, 290, 291, 65, 294, 295] (by decide +kernel) (by decide +kernel)
set_option maxRecDepth 100000 in
theorem MW1_9 : GoodIn lw_tbl (mtb_9.flatMap wM) := goodIn_r _ [65, 298, 299, 64, 302, 303, 66, 306, 307, 66, 310, 311, 66, 314, 315, 64, 318, 319, 64, 323, 2, 66, 326, 327, 66, 330, 331, 66, 334, 335, 64, 338, 64, 341, 342] (by decide +kernel) (by decide +kernel)
set_option maxRecDepth 100000 in
theorem MW1_10 : GoodIn lw_tbl (mtb_10.flatMap wM) := goodIn_r _ [65, 345, 346, 64, 350, 351, 66, 354, 355, 65, 358, 359, 65, 372, 3, 64, 375, 376, 68, 379, 380, 68, 384, 4, 66, 388, 389, 66, 392, 393, 66, 396, 397, 68, 403, 5] (by decide +kernel) (by decide +kernel)
set_option maxRecDepth 100000 in
theorem MW1_11 : GoodIn lw_tbl (mtb_11.flatMap wM) := goodIn_r _ [68, 411, 6, 66, 415, 416, 68, 420, 7, 68, 425, 8, 68, 430, 9, 68, 434, 10, 68, 437, 68, 441, 11, 64, 444, 445, 68, 448, 449, 68, 454, 12, 64, 457, 458] (by decide +kernel) (by decide +kernel)
set_option maxRecDepth 100000 in
theorem MW1_12 : GoodIn lw_tbl (mtb_12.flatMap wM) := goodIn_r _ [64, 461, 462, 66, 465, 466, 64, 470, 471, 66, 474, 475, 64, 479, 480, 68, 483, 484, 64, 487, 488, 68, 491, 492, 64, 495, 496, 69, 499, 500, 69, 503, 504, 69, 508, 509] (by decide +kernel) (by decide +kernel)
set_option maxRecDepth 100000 in
theorem MW1_13 : GoodIn lw_tbl (mtb_13.flatMap wM) := goodIn_r _ [69, 513, 514, 64, 517, 518, 64, 523, 524, 69, 527, 528, 64, 531, 532, 69, 535, 536, 64, 539, 540, 64, 544, 13, 69, 547, 548, 69, 551, 552, 69, 555, 556, 66, 559, 560] (by decide +kernel) (by decide +kernel)
set_option maxRecDepth 100000 in
theorem MW1_14 : GoodIn lw_tbl (mtb_14.flatMap wM) := goodIn_r _ [66, 564, 565, 64, 569, 570, 64, 573, 574, 64, 578, 14, 64, 581, 582, 64, 585, 586, 64, 590, 15, 64, 594, 595, 64, 599, 600, 66, 603, 604, 64, 608, 16] (by decide +kernel) (by decide +kernel)
theorem MW1_in : GoodIn lw_tbl MW1 := by
  unfold MW1 mtb0
  simp only [List.flatMap_append]
  exact goodIn_app MW1_0 (goodIn_app MW1_1 (goodIn_app MW1_2 (goodIn_app MW1_3 (goodIn_app MW1_4 (goodIn_app MW1_5 (goodIn_app MW1_6 (goodIn_app MW1_7 (goodIn_app MW1_8 (goodIn_app MW1_9 (goodIn_app MW1_10 (goodIn_app MW1_11 (goodIn_app MW1_12 (goodIn_app MW1_13 MW1_14)))))))))))))
set_option maxRecDepth 100000 in
theorem MW2_0 : GoodIn lw_tbl ((flds 0).flatMap (wF 0)) := goodIn_r _ [114, 115, 116, 117, 118, 119, 120, 121] (by decide +kernel) (by decide +kernel)
set_option maxRecDepth 100000 in
theorem MW2_1 : GoodIn lw_tbl ((flds 1).flatMap (wF 1)) := goodIn_r _ [182, 183, 184, 185, 186] (by decide +kernel) (by decide +kernel)
set_option maxRecDepth 100000 in
theorem MW2_2 : GoodIn lw_tbl ((flds 2).flatMap (wF 2)) := goodIn_r _ [145, 146, 147, 148, 149, 150, 151, 152, 153, 154] (by decide +kernel) (by decide +kernel)
set_option maxRecDepth 100000 in
theorem MW2_3 : GoodIn lw_tbl ((flds 3).flatMap (wF 3)) := goodIn_r _ [97, 98] (by decide +kernel) (by decide +kernel)
set_option maxRecDepth 100000 in
theorem MW2_4 : GoodIn lw_tbl ((flds 4).flatMap (wF 4)) := goodIn_r _ [198, 199, 200, 201, 202] (by decide +kernel) (by decide +kernel)
set_option maxRecDepth 100000 in
theorem MW2_5 : GoodIn lw_tbl ((flds 5).flatMap (wF 5)) := goodIn_r _ [616, 617, 618, 619, 620, 621, 622, 623, 624, 625, 626, 627, 628, 629, 630, 631, 632, 633, 634, 635, 636, 637, 638, 639, 640, 641, 642, 643, 644, 645] (by decide +kernel) (by decide +kernel)
set_option maxRecDepth 100000 in
theorem MW2_6 : GoodIn lw_tbl ((flds 6).flatMap (wF 6)) := goodIn_r _ [] (by decide +kernel) (by decide +kernel)
set_option maxRecDepth 100000 in
theorem MW2_7 : GoodIn lw_tbl ((flds 7).flatMap (wF 7)) := goodIn_r _ [] (by decide +kernel) (by decide +kernel)
set_option maxRecDepth 100000 in
theorem MW2_8 : GoodIn lw_tbl ((flds 8).flatMap (wF 8)) := goodIn_r _ [] (by decide +kernel) (by decide +kernel)
theorem MW2_in : GoodIn lw_tbl ((List.range nCl).flatMap (fun o => (flds o).flatMap (wF o))) := by
  intro w hw
  obtain ⟨o, ho, h⟩ := List.mem_flatMap.mp hw
  have ho : o < 9 := List.mem_range.mp ho
  match o, ho, h with
  | 0, _, h => exact MW2_0 w h
  | 1, _, h => exact MW2_1 w h
  | 2, _, h => exact MW2_2 w h
  | 3, _, h => exact MW2_3 w h
  | 4, _, h => exact MW2_4 w h
  | 5, _, h => exact MW2_5 w h
  | 6, _, h => exact MW2_6 w h
  | 7, _, h => exact MW2_7 w h
  | 8, _, h => exact MW2_8 w h
set_option maxRecDepth 100000 in
theorem MW3_0 : GoodIn lw_tbl ((calls 0).flatMap (wC 0)) := goodIn_r _ [111, 242, 246, 313, 562] (by decide +kernel) (by decide +kernel)
set_option maxRecDepth 100000 in
theorem MW3_1 : GoodIn lw_tbl ((calls 1).flatMap (wC 1)) := goodIn_r _ [502, 507] (by decide +kernel) (by decide +kernel)
set_option maxRecDepth 100000 in
theorem MW3_2 : GoodIn lw_tbl ((calls 2).flatMap (wC 2)) := goodIn_r _ [382, 386, 387, 391, 395, 399, 400, 401, 405, 408, 409, 413, 414, 418, 423, 428, 432, 436, 439, 451, 452] (by decide +kernel) (by decide +kernel)
set_option maxRecDepth 100000 in
theorem MW3_3 : GoodIn lw_tbl ((calls 3).flatMap (wC 3)) := goodIn_r _ [273, 370] (by decide +kernel) (by decide +kernel)
set_option maxRecDepth 100000 in
theorem MW3_4 : GoodIn lw_tbl ((calls 4).flatMap (wC 4)) := goodIn_r _ [107, 141, 218, 221, 224, 227, 231, 238, 254, 257, 261, 269, 281, 284, 293, 297, 305, 309, 321, 325, 329, 333, 337, 344, 353, 357, 378, 447, 464, 468, 473, 477, 482, 490, 498, 512, 520, 521, 526, 534, 542, 546, 550, 554, 558, 563, 576, 588, 592, 602, 606] (by decide +kernel) (by decide +kernel)
set_option maxRecDepth 100000 in
theorem MW3_5 : GoodIn lw_tbl ((calls 5).flatMap (wC 5)) := goodIn_r _ [711, 714, 717, 720, 723, 727, 735, 754, 762, 766, 770, 777, 785, 789, 798, 802, 806, 810, 814, 818, 822, 826, 830, 834, 838, 842, 846, 850, 854, 858, 862, 866, 870, 874, 878, 882, 898, 914, 918, 922, 926, 934, 938, 958, 962, 966, 978, 986, 994, 998, 1003, 1011, 1015] (by decide +kernel) (by decide +kernel)
set_option maxRecDepth 100000 in
theorem MW3_6 : GoodIn lw_tbl ((calls 6).flatMap (wC 6)) := goodIn_r _ [] (by decide +kernel) (by decide +kernel)
set_option maxRecDepth 100000 in
theorem MW3_7 : GoodIn lw_tbl ((calls 7).flatMap (wC 7)) := goodIn_r _ [] (by decide +kernel) (by decide +kernel)
set_option maxRecDepth 100000 in
theorem MW3_8 : GoodIn lw_tbl ((calls 8).flatMap (wC 8)) := goodIn_r _ [74, 214, 250, 265, 277, 289, 301, 317, 340, 349, 374, 443, 456, 460, 469, 478, 486, 494, 516, 522, 530, 538, 568, 572, 580, 584, 593, 598, 612, 707, 731, 738, 742, 746, 750, 758, 773, 781, 794, 886, 890, 894, 902, 906, 910, 930, 942, 946, 950, 954, 970, 974, 982, 990, 999, 1007] (by decide +kernel) (by decide +kernel)
theorem MW3_in : GoodIn lw_tbl ((List.range nCl).flatMap (fun o => (calls o).flatMap (wC o))) := by
  intro w hw
  obtain ⟨o, ho, h⟩ := List.mem_flatMap.mp hw
  have ho : o < 9 := List.mem_range.mp ho
  match o, ho, h with
  | 0, _, h => exact MW3_0 w h
  | 1, _, h => exact MW3_1 w h
  | 2, _, h => exact MW3_2 w h
  | 3, _, h => exact MW3_3 w h
  | 4, _, h => exact MW3_4 w h
  | 5, _, h => exact MW3_5 w h
  | 6, _, h => exact MW3_6 w h
  | 7, _, h => exact MW3_7 w h
  | 8, _, h => exact MW3_8 w h
set_option maxRecDepth 100000 in
theorem MWk_0 : GoodIn lw_tbl ((consts 0).flatMap (wK 0)) := goodIn_r _ [] (by decide +kernel) (by decide +kernel)
set_option maxRecDepth 100000 in
theorem MWk_1 : GoodIn lw_tbl ((consts 1).flatMap (wK 1)) := goodIn_r _ [] (by decide +kernel) (by decide +kernel)
set_option maxRecDepth 100000 in
theorem MWk_2 : GoodIn lw_tbl ((consts 2).flatMap (wK 2)) := goodIn_r _ [406] (by decide +kernel) (by decide +kernel)
set_option maxRecDepth 100000 in
theorem MWk_3 : GoodIn lw_tbl ((consts 3).flatMap (wK 3)) := goodIn_r _ [] (by decide +kernel) (by decide +kernel)
set_option maxRecDepth 100000 in
theorem MWk_4 : GoodIn lw_tbl ((consts 4).flatMap (wK 4)) := goodIn_r _ [597] (by decide +kernel) (by decide +kernel)
set_option maxRecDepth 100000 in
theorem MWk_5 : GoodIn lw_tbl ((consts 5).flatMap (wK 5)) := goodIn_r _ [793] (by decide +kernel) (by decide +kernel)
set_option maxRecDepth 100000 in
theorem MWk_6 : GoodIn lw_tbl ((consts 6).flatMap (wK 6)) := goodIn_r _ [] (by decide +kernel) (by decide +kernel)
set_option maxRecDepth 100000 in
theorem MWk_7 : GoodIn lw_tbl ((consts 7).flatMap (wK 7)) := goodIn_r _ [] (by decide +kernel) (by decide +kernel)
set_option maxRecDepth 100000 in
theorem MWk_8 : GoodIn lw_tbl ((consts 8).flatMap (wK 8)) := goodIn_r _ [] (by decide +kernel) (by decide +kernel)
theorem MWk_in : GoodIn lw_tbl ((List.range nCl).flatMap (fun o => (consts o).flatMap (wK o))) := by
  intro w hw
  obtain ⟨o, ho, h⟩ := List.mem_flatMap.mp hw
  have ho : o < 9 := List.mem_range.mp ho
  match o, ho, h with
  | 0, _, h => exact MWk_0 w h
  | 1, _, h => exact MWk_1 w h
  | 2, _, h => exact MWk_2 w h
  | 3, _, h => exact MWk_3 w h
  | 4, _, h => exact MWk_4 w h
  | 5, _, h => exact MWk_5 w h
  | 6, _, h => exact MWk_6 w h
  | 7, _, h => exact MWk_7 w h
  | 8, _, h => exact MWk_8 w h
set_option maxRecDepth 100000 in
theorem MWn_0 : GoodIn lw_tbl ((news 0).flatMap (wN 0)) := goodIn_r _ [] (by decide +kernel) (by decide +kernel)
set_option maxRecDepth 100000 in
theorem MWn_1 : GoodIn lw_tbl ((news 1).flatMap (wN 1)) := goodIn_r _ [] (by decide +kernel) (by decide +kernel)
set_option maxRecDepth 100000 in
theorem MWn_2 : GoodIn lw_tbl ((news 2).flatMap (wN 2)) := goodIn_r _ [] (by decide +kernel) (by decide +kernel)
set_option maxRecDepth 100000 in
theorem MWn_3 : GoodIn lw_tbl ((news 3).flatMap (wN 3)) := goodIn_r _ [] (by decide +kernel) (by decide +kernel)
set_option maxRecDepth 100000 in
theorem MWn_4 : GoodIn lw_tbl ((news 4).flatMap (wN 4)) := goodIn_r _ [80, 81, 65, 105, 106, 66, 139, 140, 68, 176, 177, 69] (by decide +kernel) (by decide +kernel)
set_option maxRecDepth 100000 in
theorem MWn_5 : GoodIn lw_tbl ((news 5).flatMap (wN 5)) := goodIn_r _ [] (by decide +kernel) (by decide +kernel)
set_option maxRecDepth 100000 in
theorem MWn_6 : GoodIn lw_tbl ((news 6).flatMap (wN 6)) := goodIn_r _ [] (by decide +kernel) (by decide +kernel)
set_option maxRecDepth 100000 in
theorem MWn_7 : GoodIn lw_tbl ((news 7).flatMap (wN 7)) := goodIn_r _ [] (by decide +kernel) (by decide +kernel)
set_option maxRecDepth 100000 in
theorem MWn_8 : GoodIn lw_tbl ((news 8).flatMap (wN 8)) := goodIn_r _ [72, 73, 64, 610, 611, 70] (by decide +kernel) (by decide +kernel)
theorem MWn_in : GoodIn lw_tbl ((List.range nCl).flatMap (fun o => (news o).flatMap (wN o))) := by
  intro w hw
  obtain ⟨o, ho, h⟩ := List.mem_flatMap.mp hw
  have ho : o < 9 := List.mem_range.mp ho
  match o, ho, h with
  | 0, _, h => exact MWn_0 w h
  | 1, _, h => exact MWn_1 w h
  | 2, _, h => exact MWn_2 w h
  | 3, _, h => exact MWn_3 w h
  | 4, _, h => exact MWn_4 w h
  | 5, _, h => exact MWn_5 w h
  | 6, _, h => exact MWn_6 w h
  | 7, _, h => exact MWn_7 w h
  | 8, _, h => exact MWn_8 w h
set_option maxRecDepth 100000 in
theorem MWo_0 : GoodIn lw_tbl ((objs 0).flatMap (wO 0)) := goodIn_r _ [110] (by decide +kernel) (by decide +kernel)
set_option maxRecDepth 100000 in
theorem MWo_1 : GoodIn lw_tbl ((objs 1).flatMap (wO 1)) := goodIn_r _ [181] (by decide +kernel) (by decide +kernel)
set_option maxRecDepth 100000 in
theorem MWo_2 : GoodIn lw_tbl ((objs 2).flatMap (wO 2)) := goodIn_r _ [144] (by decide +kernel) (by decide +kernel)
set_option maxRecDepth 100000 in
theorem MWo_3 : GoodIn lw_tbl ((objs 3).flatMap (wO 3)) := goodIn_r _ [85] (by decide +kernel) (by decide +kernel)
set_option maxRecDepth 100000 in
theorem MWo_4 : GoodIn lw_tbl ((objs 4).flatMap (wO 4)) := goodIn_r _ [77] (by decide +kernel) (by decide +kernel)
set_option maxRecDepth 100000 in
theorem MWo_5 : GoodIn lw_tbl ((objs 5).flatMap (wO 5)) := goodIn_r _ [615] (by decide +kernel) (by decide +kernel)
set_option maxRecDepth 100000 in
theorem MWo_6 : GoodIn lw_tbl ((objs 6).flatMap (wO 6)) := goodIn_r _ [] (by decide +kernel) (by decide +kernel)
set_option maxRecDepth 100000 in
theorem MWo_7 : GoodIn lw_tbl ((objs 7).flatMap (wO 7)) := goodIn_r _ [] (by decide +kernel) (by decide +kernel)
set_option maxRecDepth 100000 in
theorem MWo_8 : GoodIn lw_tbl ((objs 8).flatMap (wO 8)) := goodIn_r _ [] (by decide +kernel) (by decide +kernel)
theorem MWo_in : GoodIn lw_tbl ((List.range nCl).flatMap (fun o => (objs o).flatMap (wO o))) := by
  intro w hw
  obtain ⟨o, ho, h⟩ := List.mem_flatMap.mp hw
  have ho : o < 9 := List.mem_range.mp ho
  match o, ho, h with
  | 0, _, h => exact MWo_0 w h
  | 1, _, h => exact MWo_1 w h
  | 2, _, h => exact MWo_2 w h
  | 3, _, h => exact MWo_3 w h
  | 4, _, h => exact MWo_4 w h
  | 5, _, h => exact MWo_5 w h
  | 6, _, h => exact MWo_6 w h
  | 7, _, h => exact MWo_7 w h
  | 8, _, h => exact MWo_8 w h
set_option maxRecDepth 100000 in
theorem MWu_in : GoodIn lw_tbl (vwCl.flatMap wU) := goodIn_r _ [122, 124, 126, 128, 130, 132, 134, 136, 187, 189, 191, 193, 195, 155, 157, 159, 161, 163, 165, 167, 169, 171, 173, 99, 101, 203, 205, 207, 209, 211, 646, 648, 650, 652, 654, 656, 658, 660, 662, 664, 666, 668, 670, 672, 674, 676, 678, 680, 682, 684, 686, 688, 690, 692, 694, 696, 698, 700, 702, 704] (by decide +kernel) (by decide +kernel)
set_option maxRecDepth 100000 in
theorem MWj_0 : GoodIn lw_tbl ((maths 0).flatMap (wJ 0)) := goodIn_r _ [] (by decide +kernel) (by decide +kernel)
set_option maxRecDepth 100000 in
theorem MWj_1 : GoodIn lw_tbl ((maths 1).flatMap (wJ 1)) := goodIn_r _ [] (by decide +kernel) (by decide +kernel)
set_option maxRecDepth 100000 in
theorem MWj_2 : GoodIn lw_tbl ((maths 2).flatMap (wJ 2)) := goodIn_r _ [427, 365] (by decide +kernel) (by decide +kernel)
set_option maxRecDepth 100000 in
theorem MWj_3 : GoodIn lw_tbl ((maths 3).flatMap (wJ 3)) := goodIn_r _ [361, 362, 364, 365, 367, 368] (by decide +kernel) (by decide +kernel)
set_option maxRecDepth 100000 in
theorem MWj_4 : GoodIn lw_tbl ((maths 4).flatMap (wJ 4)) := goodIn_r _ [] (by decide +kernel) (by decide +kernel)
set_option maxRecDepth 100000 in
theorem MWj_5 : GoodIn lw_tbl ((maths 5).flatMap (wJ 5)) := goodIn_r _ [] (by decide +kernel) (by decide +kernel)
set_option maxRecDepth 100000 in
theorem MWj_6 : GoodIn lw_tbl ((maths 6).flatMap (wJ 6)) := goodIn_r _ [] (by decide +kernel) (by decide +kernel)
set_option maxRecDepth 100000 in
theorem MWj_7 : GoodIn lw_tbl ((maths 7).flatMap (wJ 7)) := goodIn_r _ [] (by decide +kernel) (by decide +kernel)
set_option maxRecDepth 100000 in
theorem MWj_8 : GoodIn lw_tbl ((maths 8).flatMap (wJ 8)) := goodIn_r _ [] (by decide +kernel) (by decide +kernel)
theorem MWj_in : GoodIn lw_tbl ((List.range nCl).flatMap (fun o => (maths o).flatMap (wJ o))) := by
  intro w hw
  obtain ⟨o, ho, h⟩ := List.mem_flatMap.mp hw
  have ho : o < 9 := List.mem_range.mp ho
  match o, ho, h with
  | 0, _, h => exact MWj_0 w h
  | 1, _, h => exact MWj_1 w h
  | 2, _, h => exact MWj_2 w h
  | 3, _, h => exact MWj_3 w h
  | 4, _, h => exact MWj_4 w h
  | 5, _, h => exact MWj_5 w h
  | 6, _, h => exact MWj_6 w h
  | 7, _, h => exact MWj_7 w h
  | 8, _, h => exact MWj_8 w h
set_option maxRecDepth 100000 in
theorem MWj0 : GoodIn lw_tbl ([.initialized "java/lang/Math"]) := goodIn_r _ [71] (by decide +kernel) (by decide +kernel)
set_option maxRecDepth 100000 in
theorem cwJ_abs : Cond.code Lib.Math.abs.name Lib.Math.abs.code 1 (some .int) ∈ lw_tbl := tb_2 (List.mem_of_getElem? (i := 60) rfl)
set_option maxRecDepth 100000 in
theorem cwJ_min : Cond.code Lib.Math.min.name Lib.Math.min.code 2 (some .int) ∈ lw_tbl := tb_2 (List.mem_of_getElem? (i := 63) rfl)
set_option maxRecDepth 100000 in
theorem cwJ_max : Cond.code Lib.Math.max.name Lib.Math.max.code 2 (some .int) ∈ lw_tbl := tb_2 (List.mem_of_getElem? (i := 66) rfl)
theorem MWj1 : GoodIn lw_tbl [.code Lib.Math.abs.name Lib.Math.abs.code 1 (some .int), .code Lib.Math.min.name Lib.Math.min.code 2 (some .int), .code Lib.Math.max.name Lib.Math.max.code 2 (some .int)] := by
  intro w hw
  simp only [List.mem_cons, List.not_mem_nil, or_false] at hw
  rcases hw with rfl | rfl | rfl
  · exact ⟨cwJ_abs, Or.inl rfl⟩
  · exact ⟨cwJ_min, Or.inl rfl⟩
  · exact ⟨cwJ_max, Or.inl rfl⟩
theorem MW5_in : GoodIn lw_tbl MW5 := goodIn_app MWj_in (goodIn_app MWj0 MWj1)
set_option maxRecDepth 100000 in
theorem MWx_in : GoodIn lw_tbl ([.instanceMethod objectInit, .code objectInit ⟨#[0xb1]⟩ 1 none, .arrayClass .int]) := goodIn_r _ [78, 79, 104] (by decide +kernel) (by decide +kernel)
theorem MW_in : GoodIn lw_tbl MW := goodIn_app MW0_in (goodIn_app MW1_in (goodIn_app MW2_in (goodIn_app MW3_in (goodIn_app (goodIn_app (goodIn_app (goodIn_app (goodIn_app MWk_in MWn_in) MWo_in) MWu_in) MW5_in) MWx_in))))
/-! checks of the tables -/
def okR (r : MRec) : Bool := plainName r.1.cls && (r.1.cls != "java/lang/invoke/MethodHandle") && (r.1.cls != "java/lang/invoke/VarHandle") && Nat.ble r.2.2.1 21 && (cnm r.2.2.2.2.2 == r.1.cls)
def kdf : FieldType → Nat
  | .int => 0
  | .boolean => 1
  | .object _ => 2
  | .array _ => 2
  | _ => 3
def okF (e : Nat × Nat × Nat × Int × Bool × Nat) : Bool := match vwCl[e.2.1]? with
  | some (C, Tt, N) => decide (e.2.2.1 < N) && ((Tt e.2.2.1).2.2.2 == e.2.2.2.2.1) && decide ((parseFieldDescriptor (Tt e.2.2.1).2.2.1).map kdf = some e.2.2.2.2.2) && ((Tt e.2.2.1).1 == C) && decide (e.2.2.2.1 = (e.2.2.1 : Int))
  | none => false
def okC (o : Nat) (e : Nat × Nat × Nat × Bool × Bool × Bool × Nat) : Bool := match mtb[e.2.1]? with
  | some r => decide (e.2.1 < mtb0.length) && (r.2.2.2.2.1 == e.2.2.2.1) && decide ((parseMethodDescriptor r.1.desc).map (fun d => d.parameters.length + (if e.2.2.2.1 then 0 else 1)) = some e.2.2.1) && (e.2.2.2.2.2.1 == (r.1.name == "<init>")) && (r.2.2.2.2.2 == e.2.2.2.2.2.2) && (!e.2.2.2.2.1 || nests.any (fun q => q.1 == cnm o && q.2.1 == e.1 && decide (q.2.2.1 = r.1)))
  | none => false
set_option maxRecDepth 100000 in
theorem okR_0 : mtb_0.all okR = true := by decide +kernel
set_option maxRecDepth 100000 in
theorem okR_1 : mtb_1.all okR = true := by decide +kernel
set_option maxRecDepth 100000 in
theorem okR_2 : mtb_2.all okR = true := by decide +kernel
set_option maxRecDepth 100000 in
theorem okR_3 : mtb_3.all okR = true := by decide +kernel
set_option maxRecDepth 100000 in
theorem okR_4 : mtb_4.all okR = true := by decide +kernel
set_option maxRecDepth 100000 in
theorem okR_5 : mtb_5.all okR = true := by decide +kernel
set_option maxRecDepth 100000 in
theorem okR_6 : mtb_6.all okR = true := by decide +kernel
set_option maxRecDepth 100000 in
theorem okR_7 : mtb_7.all okR = true := by decide +kernel
set_option maxRecDepth 100000 in
theorem okR_8 : mtb_8.all okR = true := by decide +kernel
set_option maxRecDepth 100000 in
theorem okR_9 : mtb_9.all okR = true := by decide +kernel
set_option maxRecDepth 100000 in
theorem okR_10 : mtb_10.all okR = true := by decide +kernel
set_option maxRecDepth 100000 in
theorem okR_11 : mtb_11.all okR = true := by decide +kernel
set_option maxRecDepth 100000 in
theorem okR_12 : mtb_12.all okR = true := by decide +kernel
set_option maxRecDepth 100000 in
theorem okR_13 : mtb_13.all okR = true := by decide +kernel
set_option maxRecDepth 100000 in
theorem okR_14 : mtb_14.all okR = true := by decide +kernel
theorem okR_all : ∀ r ∈ mtb0, okR r = true := by
  unfold mtb0
  simp only [List.forall_mem_append]
  exact ⟨List.all_eq_true.mp okR_0, ⟨List.all_eq_true.mp okR_1, ⟨List.all_eq_true.mp okR_2, ⟨List.all_eq_true.mp okR_3, ⟨List.all_eq_true.mp okR_4, ⟨List.all_eq_true.mp okR_5, ⟨List.all_eq_true.mp okR_6, ⟨List.all_eq_true.mp okR_7, ⟨List.all_eq_true.mp okR_8, ⟨List.all_eq_true.mp okR_9, ⟨List.all_eq_true.mp okR_10, ⟨List.all_eq_true.mp okR_11, ⟨List.all_eq_true.mp okR_12, ⟨List.all_eq_true.mp okR_13, List.all_eq_true.mp okR_14⟩⟩⟩⟩⟩⟩⟩⟩⟩⟩⟩⟩⟩⟩
set_option maxRecDepth 100000 in
theorem okF_0 : ((flds 0).all okF) = true := by decide +kernel
set_option maxRecDepth 100000 in
theorem okF_1 : ((flds 1).all okF) = true := by decide +kernel
set_option maxRecDepth 100000 in
theorem okF_2 : ((flds 2).all okF) = true := by decide +kernel
set_option maxRecDepth 100000 in
theorem okF_3 : ((flds 3).all okF) = true := by decide +kernel
set_option maxRecDepth 100000 in
theorem okF_4 : ((flds 4).all okF) = true := by decide +kernel
set_option maxRecDepth 100000 in
theorem okF_5 : ((flds 5).all okF) = true := by decide +kernel
set_option maxRecDepth 100000 in
theorem okF_6 : ((flds 6).all okF) = true := by decide +kernel
set_option maxRecDepth 100000 in
theorem okF_7 : ((flds 7).all okF) = true := by decide +kernel
set_option maxRecDepth 100000 in
theorem okF_8 : ((flds 8).all okF) = true := by decide +kernel
set_option maxRecDepth 100000 in
theorem okC_0 : ((calls 0).all (okC 0)) = true := by decide +kernel
set_option maxRecDepth 100000 in
theorem okC_1 : ((calls 1).all (okC 1)) = true := by decide +kernel
set_option maxRecDepth 100000 in
theorem okC_2 : ((calls 2).all (okC 2)) = true := by decide +kernel
set_option maxRecDepth 100000 in
theorem okC_3 : ((calls 3).all (okC 3)) = true := by decide +kernel
set_option maxRecDepth 100000 in
theorem okC_4 : ((calls 4).all (okC 4)) = true := by decide +kernel
set_option maxRecDepth 100000 in
theorem okC_5 : ((calls 5).all (okC 5)) = true := by decide +kernel
set_option maxRecDepth 100000 in
theorem okC_6 : ((calls 6).all (okC 6)) = true := by decide +kernel
set_option maxRecDepth 100000 in
theorem okC_7 : ((calls 7).all (okC 7)) = true := by decide +kernel
set_option maxRecDepth 100000 in
theorem okC_8 : ((calls 8).all (okC 8)) = true := by decide +kernel
theorem okF_all (o : Nat) : ∀ e ∈ flds o, okF e = true := by
  match o with
  | 0 => exact List.all_eq_true.mp okF_0
  | 1 => exact List.all_eq_true.mp okF_1
  | 2 => exact List.all_eq_true.mp okF_2
  | 3 => exact List.all_eq_true.mp okF_3
  | 4 => exact List.all_eq_true.mp okF_4
  | 5 => exact List.all_eq_true.mp okF_5
  | 6 => exact List.all_eq_true.mp okF_6
  | 7 => exact List.all_eq_true.mp okF_7
  | 8 => exact List.all_eq_true.mp okF_8
  | n + 9 => exact fun e h => absurd h List.not_mem_nil
theorem okC_all (o : Nat) : ∀ e ∈ calls o, okC o e = true := by
  match o with
  | 0 => exact List.all_eq_true.mp okC_0
  | 1 => exact List.all_eq_true.mp okC_1
  | 2 => exact List.all_eq_true.mp okC_2
  | 3 => exact List.all_eq_true.mp okC_3
  | 4 => exact List.all_eq_true.mp okC_4
  | 5 => exact List.all_eq_true.mp okC_5
  | 6 => exact List.all_eq_true.mp okC_6
  | 7 => exact List.all_eq_true.mp okC_7
  | 8 => exact List.all_eq_true.mp okC_8
  | n + 9 => exact fun e h => absurd h List.not_mem_nil
theorem MW_r {r : MRec} (h : r ∈ mtb0) : wMc r ∈ MW ∧ ∀ w ∈ wM r, w ∈ MW := ⟨List.mem_append_left _ (List.mem_map.mpr ⟨r, h, rfl⟩), fun w hw => List.mem_append_right _ (List.mem_append_left _ (List.mem_flatMap.mpr ⟨r, h, hw⟩))⟩
theorem MW_F {o : Nat} (ho : o < nCl) {e : Nat × Nat × Nat × Int × Bool × Nat} (h : e ∈ flds o) : ∀ w ∈ wF o e, w ∈ MW := fun w hw => List.mem_append_right _ (List.mem_append_right _ (List.mem_append_left _ (List.mem_flatMap.mpr ⟨o, List.mem_range.mpr ho, List.mem_flatMap.mpr ⟨e, h, hw⟩⟩)))
theorem MW_C {o : Nat} (ho : o < nCl) {e : Nat × Nat × Nat × Bool × Bool × Bool × Nat} (h : e ∈ calls o) : ∀ w ∈ wC o e, w ∈ MW := fun w hw => List.mem_append_right _ (List.mem_append_right _ (List.mem_append_right _ (List.mem_append_left _ (List.mem_flatMap.mpr ⟨o, List.mem_range.mpr ho, List.mem_flatMap.mpr ⟨e, h, hw⟩⟩))))
theorem MW_4 {w : Cond} (h : w ∈ MW4) : w ∈ MW := List.mem_append_right _ (List.mem_append_right _ (List.mem_append_right _ (List.mem_append_right _ h)))
theorem MW_K {o : Nat} (ho : o < nCl) {e : Nat × Int} (h : e ∈ consts o) : ∀ w ∈ wK o e, w ∈ MW := fun w hw => MW_4 (List.mem_append_left _ (List.mem_append_left _ (List.mem_append_left _ (List.mem_append_left _ (List.mem_append_left _ (List.mem_flatMap.mpr ⟨o, List.mem_range.mpr ho, List.mem_flatMap.mpr ⟨e, h, hw⟩⟩))))))
theorem MW_N {o : Nat} (ho : o < nCl) {e : Nat × Nat} (h : e ∈ news o) : ∀ w ∈ wN o e, w ∈ MW := fun w hw => MW_4 (List.mem_append_left _ (List.mem_append_left _ (List.mem_append_left _ (List.mem_append_left _ (List.mem_append_right _ (List.mem_flatMap.mpr ⟨o, List.mem_range.mpr ho, List.mem_flatMap.mpr ⟨e, h, hw⟩⟩))))))
theorem MW_O {o : Nat} (ho : o < nCl) {e : Nat} (h : e ∈ objs o) : ∀ w ∈ wO o e, w ∈ MW := fun w hw => MW_4 (List.mem_append_left _ (List.mem_append_left _ (List.mem_append_left _ (List.mem_append_right _ (List.mem_flatMap.mpr ⟨o, List.mem_range.mpr ho, List.mem_flatMap.mpr ⟨e, h, hw⟩⟩)))))
theorem MW_U {q : vw_C} (h : q ∈ vwCl) : ∀ w ∈ u_ws q.1 q.2.1 q.2.2, w ∈ MW := fun w hw => MW_4 (List.mem_append_left _ (List.mem_append_left _ (List.mem_append_right _ (List.mem_flatMap.mpr ⟨q, h, hw⟩))))
theorem MW_J {o : Nat} (ho : o < nCl) {e : Nat × Nat} (h : e ∈ maths o) : ∀ w ∈ wJ o e, w ∈ MW := fun w hw => MW_4 (List.mem_append_left _ (List.mem_append_right _ (List.mem_append_left _ (List.mem_flatMap.mpr ⟨o, List.mem_range.mpr ho, List.mem_flatMap.mpr ⟨e, h, hw⟩⟩))))
theorem MW_J5 {w : Cond} (h : w ∈ ([.initialized "java/lang/Math", .code Lib.Math.abs.name Lib.Math.abs.code 1 (some .int), .code Lib.Math.min.name Lib.Math.min.code 2 (some .int), .code Lib.Math.max.name Lib.Math.max.code 2 (some .int)] : List Cond)) : w ∈ MW := MW_4 (List.mem_append_left _ (List.mem_append_right _ (List.mem_append_right _ h)))
theorem MW_X {w : Cond} (h : w ∈ ([.instanceMethod objectInit, .code objectInit ⟨#[0xb1]⟩ 1 none, .arrayClass .int] : List Cond)) : w ∈ MW := MW_4 (List.mem_append_right _ h)
theorem MW_good {ws : List Cond} (h : ∀ w ∈ ws, w ∈ MW) : GoodIn MW ws := fun w hw => ⟨h w hw, (MW_in w (h w hw)).2⟩
theorem cls_ok : ∀ (ci : Nat) (q : vw_C), vwCl[ci]? = some q → ∃ ty0 : Nat → FieldType, (∀ k, k < q.2.2 → parseFieldDescriptor (q.2.1 k).2.2.1 = some (ty0 k)) ∧ (∀ a, a < q.2.2 → ∀ b, b < q.2.2 → a ≠ b → (q.2.1 a).2.1 ≠ (q.2.1 b).2.1) := by
  intro ci q h
  match ci, h with
  | 0, h => cases h; exact ⟨tyX0, tyX0_ok, nmX0⟩
  | 1, h => cases h; exact ⟨tyX1, tyX1_ok, nmX1⟩
  | 2, h => cases h; exact ⟨tyX2, tyX2_ok, nmX2⟩
  | 3, h => cases h; exact ⟨tyX3, tyX3_ok, nmX3⟩
  | 4, h => cases h; exact ⟨tyX4, tyX4_ok, nmX4⟩
  | 5, h => cases h; exact ⟨tyX5, tyX5_ok, nmX5⟩
  | n + 6, h => simp [vwCl] at h
theorem cnm_ok : ∀ (ci : Nat) (q : vw_C), vwCl[ci]? = some q → cnm ci = q.1 := by
  intro ci q h
  match ci, h with
  | 0, h => cases h; rfl
  | 1, h => cases h; rfl
  | 2, h => cases h; rfl
  | 3, h => cases h; rfl
  | 4, h => cases h; rfl
  | 5, h => cases h; rfl
  | n + 6, h => simp [vwCl] at h
end
section
/-! ===== a machine of pictures: values are ints (Int) or cells (by number; 0 is the script); the memory is a function ===== -/
abbrev Vl : Type := Int ⊕ Nat
abbrev Mm : Type := Nat → Int → Int
abbrev Fk : Type := Option (Option Nat)
abbrev Sh : Type := Nat ⊕ (Nat × List Fk)
abbrev Ly : Type := List Sh
abbrev Lc : Type := List (Option Vl)
abbrev R32 (x : Int) : Prop := -2147483648 ≤ x ∧ x ≤ 2147483647
def MOk (M : Mm) : Prop := ∀ k j, R32 (M k j)
def mset (M : Mm) (a : Nat) (i x : Int) : Mm := fun k j => if k = a ∧ j = i then x else M k j
def mzero (M : Mm) (a : Nat) : Mm := fun k j => if k = a then 0 else M k j
def adr (b0 b : Nat) : Nat → Nat
  | 0 => b
  | k + 1 => b0 + k
def val (b0 b : Nat) : Vl → Value
  | .inl x => .int (Int32.ofInt x)
  | .inr k => .ref (adr b0 b k)
def fv (b0 b : Nat) (M : Mm) (k j : Nat) : Fk → Value
  | none => .int (Int32.ofInt (M k j))
  | some none => .null
  | some (some r) => .ref (adr b0 b r)
def ent (b0 b : Nat) (cA : ClassId) (M : Mm) (k : Nat) : Sh → va_E
  | .inl n => .inl (cA, n, .inl (fun j : Nat => Int32.ofInt (M k j)))
  | .inr q => .inr (q.1, q.2.mapIdx (fun j f => fv b0 b M k j f))
def wl (b0 b : Nat) (cA : ClassId) (T : Ly) (M : Mm) : va_W := T.mapIdx (fun k sh => (b0 + k, ent b0 b cA M (k + 1) sh))
def shp : Ly → Nat → Option Sh
  | [], _ => none
  | a :: _, 0 => some a
  | _ :: t, k + 1 => shp t k
theorem shp_eq : ∀ (S : Ly) (k : Nat), shp S k = S[k]? := by
  intro S
  induction S with
  | nil => intro k; simp [shp]
  | cons a t ih => intro k; cases k with
    | zero => simp [shp]
    | succ k => simp [shp, ih k]
def shf : List Fk → Nat → Option Fk
  | [], _ => none
  | a :: _, 0 => some a
  | _ :: t, k + 1 => shf t k
theorem shf_eq : ∀ (S : List Fk) (k : Nat), shf S k = S[k]? := by
  intro S
  induction S with
  | nil => intro k; simp [shf]
  | cons a t ih => intro k; cases k with
    | zero => simp [shf]
    | succ k => simp [shf, ih k]
def setF : Ly → Nat → Nat → Fk → Ly
  | [], _, _, _ => []
  | .inr q :: t, 0, k, v => .inr (q.1, q.2.set k v) :: t
  | .inl n :: t, 0, _, _ => .inl n :: t
  | a :: t, j + 1, k, v => a :: setF t j k v
theorem setF_eq : ∀ (S : Ly) (a k : Nat) (v : Fk) (q : Nat × List Fk), S[a]? = some (.inr q) → setF S a k v = S.set a (.inr (q.1, q.2.set k v)) := by
  intro S
  induction S with
  | nil => intro a k v q h; simp at h
  | cons x t ih =>
    intro a k v q h
    cases a with
    | zero => simp at h; subst h; simp [setF]
    | succ a => simp at h; cases x <;> simp [setF, ih a k v q h]
def getL : Lc → Nat → Option Vl
  | [], _ => none
  | a :: _, 0 => a
  | _ :: t, k + 1 => getL t k
def setL : Nat → Lc → Vl → Lc
  | 0, [], v => [some v]
  | 0, _ :: t, v => some v :: t
  | n + 1, [], v => none :: setL n [] v
  | n + 1, a :: t, v => a :: setL n t v
def setK : Nat → Lc → Vl → (Lc → Prop) → Prop
  | 0, [], v, k => k [some v]
  | 0, _ :: t, v, k => k (some v :: t)
  | n + 1, [], v, k => setK n [] v (fun t => k (none :: t))
  | n + 1, a :: t, v, k => setK n t v (fun t' => k (a :: t'))
theorem setK_eq : ∀ (n : Nat) (L : Lc) (v : Vl) (k : Lc → Prop), setK n L v k = k (setL n L v) := by
  intro n
  induction n with
  | zero => intro L v k; cases L <;> rfl
  | succ n ih => intro L v k; cases L <;> simp [setK, setL, ih]
theorem getL_setL : ∀ (n : Nat) (L : Lc) (v : Vl) (i : Nat), getL (setL n L v) i = if i = n then some v else getL L i := by
  intro n
  induction n with
  | zero => intro L v i; cases L <;> cases i <;> simp [setL, getL]
  | succ n ih => intro L v i; cases L <;> cases i <;> simp [setL, getL, ih]
def popK : Nat → List Vl → List Vl → (List Vl → List Vl → Prop) → Prop
  | 0, st, acc, k => k acc st
  | n + 1, v :: st, acc, k => popK n st (v :: acc) k
  | _ + 1, [], _, _ => False
def pushO : Option Vl → List Vl → List Vl
  | none, st => st
  | some v, st => v :: st
def lk1 {α : Type} : Nat → List (Nat × α) → Option α
  | _, [] => none
  | i, (a, r) :: t => bif Nat.beq i a then some r else lk1 i t
theorem lk1_mem {α : Type} {i : Nat} {r : α} : ∀ {l : List (Nat × α)}, lk1 i l = some r → (i, r) ∈ l := by
  intro l
  induction l with
  | nil => intro h; cases h
  | cons p t ih =>
    obtain ⟨a, q⟩ := p
    intro h
    unfold lk1 at h
    cases hb : Nat.beq i a with
    | true =>
      rw [hb] at h
      have := Nat.eq_of_beq_eq_true hb
      subst this
      simp at h; subst h
      exact List.mem_cons_self
    | false => rw [hb] at h; exact List.mem_cons_of_mem _ (ih h)
def memb : List Nat → Nat → Bool
  | [], _ => false
  | a :: t, i => bif Nat.beq i a then true else memb t i
theorem memb_mem {i : Nat} : ∀ {l : List Nat}, memb l i = true → i ∈ l := by
  intro l
  induction l with
  | nil => intro h; cases h
  | cons a t ih =>
    intro h
    unfold memb at h
    cases hb : Nat.beq i a with
    | true => have := Nat.eq_of_beq_eq_true hb; subst this; exact List.mem_cons_self
    | false => rw [hb] at h; exact List.mem_cons_of_mem _ (ih h)
def andI (x y : Int) : Int := (Int32.ofInt x &&& Int32.ofInt y).toInt
def shlI (x y : Int) : Int := (Int32.ofInt x <<< (Int32.ofInt y &&& 31)).toInt
def shrI (x y : Int) : Int := (Int32.ofInt x >>> (Int32.ofInt y &&& 31)).toInt
def divI (x y : Int) : Int := (Int32.ofInt x / Int32.ofInt y).toInt
def remI (x y : Int) : Int := (Int32.ofInt x - Int32.ofInt x / Int32.ofInt y * Int32.ofInt y).toInt
def cmpP : Jvm.ClassFile.Cond → Int → Int → Prop
  | .eq, x, y => x = y
  | .ne, x, y => x ≠ y
  | .lt, x, y => x < y
  | .ge, x, y => y ≤ x
  | .gt, x, y => y < x
  | .le, x, y => x ≤ y
def brn : Jvm.ClassFile.Cond → Int → Int → Prop → Prop → Prop
  | .eq, x, y, A, B => if x = y then A else B
  | .ne, x, y, A, B => if x = y then B else A
  | .lt, x, y, A, B => if x < y then A else B
  | .ge, x, y, A, B => if x < y then B else A
  | .gt, x, y, A, B => if y < x then A else B
  | .le, x, y, A, B => if y < x then B else A
theorem ite_i {c : Prop} [Decidable c] {A B : Prop} (h1 : c → A) (h2 : ¬ c → B) : if c then A else B := by
  split
  · exact h1 ‹_›
  · exact h2 ‹_›
theorem brn_spec {c : Jvm.ClassFile.Cond} {x y : Int} {A B : Prop} (h : brn c x y A B) : (cmpP c x y → A) ∧ (¬ cmpP c x y → B) := by
  cases c with
  | eq => exact ⟨fun q => by simpa [brn, show x = y from q] using h, fun q => by simpa [brn, show ¬ x = y from q] using h⟩
  | ne => exact ⟨fun q => by simpa [brn, show ¬ x = y from q] using h, fun q => by simpa [brn, show x = y from Classical.not_not.mp q] using h⟩
  | lt => exact ⟨fun q => by simpa [brn, show x < y from q] using h, fun q => by simpa [brn, show ¬ x < y from q] using h⟩
  | ge => exact ⟨fun q => by simpa [brn, show ¬ x < y from Int.not_lt.mpr q] using h, fun q => by simpa [brn, show x < y from Int.not_le.mp q] using h⟩
  | gt => exact ⟨fun q => by simpa [brn, show y < x from q] using h, fun q => by simpa [brn, show ¬ y < x from q] using h⟩
  | le => exact ⟨fun q => by simpa [brn, show ¬ y < x from Int.not_lt.mpr q] using h, fun q => by simpa [brn, show y < x from Int.not_le.mp q] using h⟩
def swK (x : Int) : List (Int × Nat) → (Nat → Prop) → Prop
  | [], _ => True
  | (v, t) :: l, k => (x = v → k t) ∧ swK x l k
theorem i32_toInt {x : Int} (h : R32 x) : (Int32.ofInt x).toInt = x := Int32.toInt_ofInt_of_le (by omega) (by omega)
theorem R32_toInt (x : Int32) : R32 x.toInt := by
  have h1 := x.le_toInt
  have h2 := x.toInt_lt
  constructor <;> omega
theorem i8_32 {n : Int} (h1 : -128 ≤ n) (h2 : n ≤ 127) : (Int8.ofInt n).toInt32 = Int32.ofInt n := by
  have e1 : Int8.minValue.toInt = -128 := by decide +kernel
  have e2 : Int8.maxValue.toInt = 127 := by decide +kernel
  exact Int8.toInt32_ofInt (by omega) (by omega)
theorem i16_32 {n : Int} (h1 : -32768 ≤ n) (h2 : n ≤ 32767) : (Int16.ofInt n).toInt32 = Int32.ofInt n := by
  have e1 : Int16.minValue.toInt = -32768 := by decide +kernel
  have e2 : Int16.maxValue.toInt = 32767 := by decide +kernel
  exact Int16.toInt32_ofInt (by omega) (by omega)
theorem i32_lt {x y : Int} (hx : R32 x) (hy : R32 y) : Int32.ofInt x < Int32.ofInt y ↔ x < y := by rw [Int32.lt_iff_toInt_lt, i32_toInt hx, i32_toInt hy]
theorem i32_le {x y : Int} (hx : R32 x) (hy : R32 y) : Int32.ofInt x ≤ Int32.ofInt y ↔ x ≤ y := by rw [Int32.le_iff_toInt_le, i32_toInt hx, i32_toInt hy]
theorem i32_eq {x y : Int} (hx : R32 x) (hy : R32 y) : Int32.ofInt x = Int32.ofInt y ↔ x = y := by rw [← Int32.toInt_inj, i32_toInt hx, i32_toInt hy]
theorem i32_zero : (0 : Int32) = Int32.ofInt 0 := by decide +kernel
theorem i32_nat {x : Int} (h : R32 x) : (Int32.ofInt x).toNatClampNeg = x.toNat := Int32.toNatClampNeg_ofInt_of_le (by omega) (by omega)
theorem i32_in {x : Int} {n : Nat} (h0 : 0 ≤ x) (h1 : x < (n : Int)) (h : R32 x) : vp_in (Int32.ofInt x) n := by
  rw [vp_in_iff, i32_toInt h]; exact ⟨h0, h1⟩
/-! ===== worlds ===== -/
def WD (dC : Nat → ClassId) (dI : Nat → Nat → Nat) (cA : ClassId) (b0 b N : Nat) (xs : Nat → Int32) (S : Ly) (M : Mm) (H : Heap) : Prop :=
  ∃ T : Ly, S = .inl N :: T ∧ MOk M ∧ (∀ j : Nat, j < N → M 0 j = (xs j).toInt) ∧ va_P (dC, dI) vwCl (wl b0 b cA T M) H
def SF (dC : Nat → ClassId) (dI : Nat → Nat → Nat) (cA : ClassId) (b0 b N : Nat) (xs : Nat → Int32) (U : State) : Prop :=
  va_K (dC, dI) vwCl [(cA, .int)] U ∧ (∀ q ∈ nests, va_Nw (.methodLinkNest q.1 q.2.1 q.2.2.1 q.2.2.2) U) ∧ va_X b N xs U U.heap ∧ b < b0 ∧ b0 ≤ U.heap.size ∧ N < 2 ^ 31
abbrev rmm (d mc ms : Nat) : Room := { frames := d, cells := mc, slots := ms, locals := 40 * d }
def QQ (mc : Nat) (dC : Nat → ClassId) (dI : Nat → Nat → Nat) (cA : ClassId) (b0 b N : Nat) (xs : Nat → Int32) (Φ : Option Vl → Ly → Mm → Prop) : Array Value → State → Outcome → State → Prop := fun _ st oc t =>
  (∃ (r : Option Vl) (S : Ly) (M : Mm), oc = .returned (r.map (val b0 b)) ∧ Φ r S M ∧ WD dC dI cA b0 b N xs S M t.heap ∧ st.heap.size + mc + 1 = b0 + S.length) ∧ va_F (fun q => b0 ≤ q) st t
/-- a method's contract -/
def Ret (d mc ms y : Nat) (as : List Vl) (S : Ly) (M : Mm) (Φ : Option Vl → Ly → Mm → Prop) : Prop :=
  ∀ r : MRec, mtb[y]? = some r → ∀ (l : Launch) (dC : Nat → ClassId) (dI : Nat → Nat → Nat) (cA : ClassId) (b0 b N : Nat) (xs : Nat → Int32),
    Met l r.1 (wMc r :: MW) (rmm d mc ms) (va_Pc (as.map (val b0 b)) (fun U => WD dC dI cA b0 b N xs S M U.heap ∧ SF dC dI cA b0 b N xs U ∧ U.heap.size + 1 = b0 + S.length)) (QQ mc dC dI cA b0 b N xs Φ) mc ms (fun q => b0 ≤ q)
def LV (b0 b : Nat) (ls : Array Slot) (nL : Nat) (L : Lc) : Prop := ls.size = nL ∧ lv_wf ls ∧ ∀ (i : Nat) (v : Vl), getL L i = some v → ls[i]? = some (.val (val b0 b v))
def CX (r : MRec) (dC : Nat → ClassId) (dI : Nat → Nat → Nat) (cA : ClassId) (b0 b N : Nat) (xs : Nat → Int32) (p : Program) (s : State) (m : MethodId) (args : Array Value) (meth : Method) (c : Code) : Prop :=
  p.tables.exec = Jvm.exec ∧ c.code = r.2.1 ∧ meth.sig.returnType = r.2.2.2.1 ∧ c.maxLocals = r.2.2.1 ∧ s.vm.findClass (cnm r.2.2.2.2.2) = some m.cls ∧ (∀ w ∈ MW, w.before args s = true) ∧ meth.locks = false ∧ meth.name = r.1.name ∧ SF dC dI cA b0 b N xs s
/-- inside a method: from pc with these locals, stack, memory it comes to its end with Φ -/
def AJ (d mc ms y : Nat) (Φ : Option Vl → Ly → Mm → Prop) (kc ks pc : Nat) (L : Lc) (st : List Vl) (S : Ly) (M : Mm) : Prop :=
  ∀ r : MRec, mtb[y]? = some r → ∀ (l : Launch) (dC : Nat → ClassId) (dI : Nat → Nat → Nat) (cA : ClassId) (b0 b N : Nat) (xs : Nat → Int32) (p : Program) (e : Env) (s : State) (m : MethodId) (args : Array Value) (below : List Frame) (meth : Method) (c : Code) (H : Heap) (locs : List Loc) (ls : Array Slot),
    CX r dC dI cA b0 b N xs p s m args meth c → WD dC dI cA b0 b N xs S M H → va_S (fun q => b0 ≤ q) s.heap H locs → s.heap.size + kc + 1 = b0 + S.length → LV b0 b ls r.2.2.1 L →
    W p l e (rmm d mc ms) s m args below meth c H locs kc ks (MQ below (QQ mc dC dI cA b0 b N xs Φ) args s mc ms (fun q => b0 ≤ q)) (F0 m pc ls (st.map (val b0 b)))
def DC (y pc : Nat) (i : Instr) (n : Nat) : Prop := ∀ r : MRec, mtb[y]? = some r → decode r.2.1 pc = .ok (i, n)
/-- the class of a method is a class of the tables -/
def OC (y o : Nat) : Prop := o < nCl ∧ ∀ r : MRec, mtb[y]? = some r → r.2.2.2.2.2 = o
theorem AJ.MOk_ {d mc ms y : Nat} {Φ : Option Vl → Ly → Mm → Prop} {kc ks pc : Nat} {L : Lc} {st : List Vl} {S : Ly} {M : Mm} (h : MOk M → AJ d mc ms y Φ kc ks pc L st S M) : AJ d mc ms y Φ kc ks pc L st S M := by
  intro r hr l dC dI cA b0 b N xs p e s m args below meth c H locs ls C hW hS hz hL
  obtain ⟨T, h1, h3, h4, h5⟩ := id hW
  exact h h3 r hr l dC dI cA b0 b N xs p e s m args below meth c H locs ls C hW hS hz hL
theorem wl_get (b0 b : Nat) (cA : ClassId) (T : Ly) (M : Mm) (k : Nat) : (wl b0 b cA T M)[k]? = (T[k]?).map (fun sh => (b0 + k, ent b0 b cA M (k + 1) sh)) := by
  unfold wl; rw [List.getElem?_mapIdx]
theorem wl_D (b0 b : Nat) (cA : ClassId) (T : Ly) (M : Mm) : va_D (fun q => b0 ≤ q) (wl b0 b cA T M) := by
  refine ⟨fun i j p q hi hj h => ?_, fun k q hk => ?_⟩
  · rw [wl_get] at hi hj
    obtain ⟨_, _, rfl⟩ := Option.map_eq_some_iff.mp hi
    obtain ⟨_, _, rfl⟩ := Option.map_eq_some_iff.mp hj
    simp at h; exact h
  · rw [wl_get] at hk
    obtain ⟨_, _, rfl⟩ := Option.map_eq_some_iff.mp hk
    exact Nat.le_add_right _ _
theorem LV.set {b0 b : Nat} {ls ls' : Array Slot} {nL i : Nat} {L : Lc} {v : Vl} (h : LV b0 b ls nL L) (h' : storeLocals ls i (val b0 b v) = some ls') (hi : i < nL) : LV b0 b ls' nL (setL i L v) := by
  have hc : (val b0 b v).category = 1 := by cases v <;> rfl
  refine ⟨?_, ?_, fun j w hj => ?_⟩
  · obtain ⟨l2, e2, q2⟩ := lv_store1 (l := []) ⟨h.1, h.2.1, fun q hq => (by cases hq)⟩ hi hc
    cases e2.symm.trans h'
    exact q2.1
  · obtain ⟨l2, e2, q2⟩ := lv_store1 (l := []) ⟨h.1, h.2.1, fun q hq => (by cases hq)⟩ hi hc
    cases e2.symm.trans h'
    exact q2.2.1
  · rw [getL_setL] at hj
    by_cases hij : j = i
    · subst hij
      simp at hj; subst hj
      obtain ⟨l2, e2, q2⟩ := lv_store1 (l := []) ⟨h.1, h.2.1, fun q hq => (by cases hq)⟩ hi hc
      cases e2.symm.trans h'
      exact q2.2.2 _ List.mem_cons_self
    · rw [if_neg hij] at hj
      obtain ⟨l2, e2, q2⟩ := lv_store1 (l := [(j, val b0 b w)]) ⟨h.1, h.2.1, fun q hq => by
        rcases List.mem_cons.mp hq with rfl | hq
        · exact h.2.2 j w hj
        · cases hq⟩ hi hc
      cases e2.symm.trans h'
      have hcw : (val b0 b w).category = 1 := by cases w <;> rfl
      exact q2.2.2 (j, val b0 b w) (List.mem_cons_of_mem _ (List.mem_filter.mpr ⟨List.mem_cons_self, by simp [hij, hcw]⟩))
theorem LV.has {b0 b : Nat} {ls : Array Slot} {nL : Nat} {L : Lc} (h : LV b0 b ls nL L) : lv_has ls nL [] := ⟨h.1, h.2.1, fun q hq => (by cases hq)⟩

theorem A_iload {d mc ms y : Nat} {Φ : Option Vl → Ly → Mm → Prop} {kc ks pc : Nat} {L : Lc} {st : List Vl} {S : Ly} {M : Mm} {i : Nat} {x : Int} (hd : DC y pc (.iload i) 2) (hg : getL L i = some (.inl x)) (k : AJ d mc ms y Φ kc ks (pc + 2) L (.inl x :: st) S M) : AJ d mc ms y Φ kc ks pc L st S M := by
  intro r hr l dC dI cA b0 b N xs p e s m args below meth c H locs ls C hW hS hz hL
  have K := k r hr l dC dI cA b0 b N xs p e s m args below meth c H locs ls C hW hS hz hL
  obtain ⟨hx, hb, hrt, hml, hown, hts, hlk, hnm, hSF⟩ := id C
  exact lv_iload hx hb (hd r hr) (hL.2.2 _ _ hg) K
theorem A_iload_n {d mc ms y : Nat} {Φ : Option Vl → Ly → Mm → Prop} {kc ks pc : Nat} {L : Lc} {st : List Vl} {S : Ly} {M : Mm} {i : Fin 4} {x : Int} (hd : DC y pc (.iload_n i) 1) (hg : getL L i.val = some (.inl x)) (k : AJ d mc ms y Φ kc ks (pc + 1) L (.inl x :: st) S M) : AJ d mc ms y Φ kc ks pc L st S M := by
  intro r hr l dC dI cA b0 b N xs p e s m args below meth c H locs ls C hW hS hz hL
  have K := k r hr l dC dI cA b0 b N xs p e s m args below meth c H locs ls C hW hS hz hL
  obtain ⟨hx, hb, hrt, hml, hown, hts, hlk, hnm, hSF⟩ := id C
  exact lv_iload_n hx hb (hd r hr) rfl (hL.2.2 _ _ hg) K
theorem A_aload {d mc ms y : Nat} {Φ : Option Vl → Ly → Mm → Prop} {kc ks pc : Nat} {L : Lc} {st : List Vl} {S : Ly} {M : Mm} {i : Nat} {x : Nat} (hd : DC y pc (.aload i) 2) (hg : getL L i = some (.inr x)) (k : AJ d mc ms y Φ kc ks (pc + 2) L (.inr x :: st) S M) : AJ d mc ms y Φ kc ks pc L st S M := by
  intro r hr l dC dI cA b0 b N xs p e s m args below meth c H locs ls C hW hS hz hL
  have K := k r hr l dC dI cA b0 b N xs p e s m args below meth c H locs ls C hW hS hz hL
  obtain ⟨hx, hb, hrt, hml, hown, hts, hlk, hnm, hSF⟩ := id C
  exact lv_aload hx hb (hd r hr) (hL.2.2 _ _ hg) K
theorem A_aload_n {d mc ms y : Nat} {Φ : Option Vl → Ly → Mm → Prop} {kc ks pc : Nat} {L : Lc} {st : List Vl} {S : Ly} {M : Mm} {i : Fin 4} {x : Nat} (hd : DC y pc (.aload_n i) 1) (hg : getL L i.val = some (.inr x)) (k : AJ d mc ms y Φ kc ks (pc + 1) L (.inr x :: st) S M) : AJ d mc ms y Φ kc ks pc L st S M := by
  intro r hr l dC dI cA b0 b N xs p e s m args below meth c H locs ls C hW hS hz hL
  have K := k r hr l dC dI cA b0 b N xs p e s m args below meth c H locs ls C hW hS hz hL
  obtain ⟨hx, hb, hrt, hml, hown, hts, hlk, hnm, hSF⟩ := id C
  exact lv_aload_n hx hb (hd r hr) rfl (hL.2.2 _ _ hg) K
/-- a local that a method stores is one of its locals -/
def LT (y i : Nat) : Prop := ∀ r : MRec, mtb[y]? = some r → i < r.2.2.1
theorem A_istore {d mc ms y : Nat} {Φ : Option Vl → Ly → Mm → Prop} {kc ks pc : Nat} {L : Lc} {st : List Vl} {S : Ly} {M : Mm} {i : Nat} {x : Int} (hd : DC y pc (.istore i) 2) (hi : LT y i) (k : AJ d mc ms y Φ kc ks (pc + 2) (setL i L (.inl x)) st S M) : AJ d mc ms y Φ kc ks pc L (.inl x :: st) S M := by
  intro r hr l dC dI cA b0 b N xs p e s m args below meth c H locs ls C hW hS hz hL
  obtain ⟨hx, hb, hrt, hml, hown, hts, hlk, hnm, hSF⟩ := id C
  obtain ⟨ls', e', -⟩ := lv_store1 (v := .int (Int32.ofInt x)) hL.has (hi r hr) rfl
  have K := k r hr l dC dI cA b0 b N xs p e s m args below meth c H locs ls' C hW hS hz (hL.set (v := .inl x) e' (hi r hr))
  have hdg := hd r hr
  show W _ _ _ _ _ _ _ _ _ _ _ _ _ _ _ (F0 m pc ls (.int (Int32.ofInt x) :: st.map (val b0 b)))
  intro T hT X
  obtain ⟨t, a, b1⟩ := K T hT X
  refine ⟨t, ?_, b1⟩
  jvm_step X.here [X.here.top, ↓top_set X.here.top, hx, hb, hdg, e']
  exact a
theorem A_istore_n {d mc ms y : Nat} {Φ : Option Vl → Ly → Mm → Prop} {kc ks pc : Nat} {L : Lc} {st : List Vl} {S : Ly} {M : Mm} {i : Fin 4} {x : Int} (hd : DC y pc (.istore_n i) 1) (hi : LT y i.val) (k : AJ d mc ms y Φ kc ks (pc + 1) (setL i.val L (.inl x)) st S M) : AJ d mc ms y Φ kc ks pc L (.inl x :: st) S M := by
  intro r hr l dC dI cA b0 b N xs p e s m args below meth c H locs ls C hW hS hz hL
  obtain ⟨hx, hb, hrt, hml, hown, hts, hlk, hnm, hSF⟩ := id C
  obtain ⟨ls', e', -⟩ := lv_store1 (v := .int (Int32.ofInt x)) hL.has (hi r hr) rfl
  have K := k r hr l dC dI cA b0 b N xs p e s m args below meth c H locs ls' C hW hS hz (hL.set (v := .inl x) e' (hi r hr))
  have hdg := hd r hr
  show W _ _ _ _ _ _ _ _ _ _ _ _ _ _ _ (F0 m pc ls (.int (Int32.ofInt x) :: st.map (val b0 b)))
  intro T hT X
  obtain ⟨t, a, b1⟩ := K T hT X
  refine ⟨t, ?_, b1⟩
  jvm_step X.here [X.here.top, ↓top_set X.here.top, hx, hb, hdg, e']
  exact a
theorem A_astore {d mc ms y : Nat} {Φ : Option Vl → Ly → Mm → Prop} {kc ks pc : Nat} {L : Lc} {st : List Vl} {S : Ly} {M : Mm} {i : Nat} {x : Nat} (hd : DC y pc (.astore i) 2) (hi : LT y i) (k : AJ d mc ms y Φ kc ks (pc + 2) (setL i L (.inr x)) st S M) : AJ d mc ms y Φ kc ks pc L (.inr x :: st) S M := by
  intro r hr l dC dI cA b0 b N xs p e s m args below meth c H locs ls C hW hS hz hL
  obtain ⟨hx, hb, hrt, hml, hown, hts, hlk, hnm, hSF⟩ := id C
  obtain ⟨ls', e', -⟩ := lv_store1 (v := .ref (adr b0 b x)) hL.has (hi r hr) rfl
  have K := k r hr l dC dI cA b0 b N xs p e s m args below meth c H locs ls' C hW hS hz (hL.set (v := .inr x) e' (hi r hr))
  have hdg := hd r hr
  show W _ _ _ _ _ _ _ _ _ _ _ _ _ _ _ (F0 m pc ls (.ref (adr b0 b x) :: st.map (val b0 b)))
  intro T hT X
  obtain ⟨t, a, b1⟩ := K T hT X
  refine ⟨t, ?_, b1⟩
  jvm_step X.here [X.here.top, ↓top_set X.here.top, hx, hb, hdg, e', Value.isRef]
  exact a
theorem A_astore_n {d mc ms y : Nat} {Φ : Option Vl → Ly → Mm → Prop} {kc ks pc : Nat} {L : Lc} {st : List Vl} {S : Ly} {M : Mm} {i : Fin 4} {x : Nat} (hd : DC y pc (.astore_n i) 1) (hi : LT y i.val) (k : AJ d mc ms y Φ kc ks (pc + 1) (setL i.val L (.inr x)) st S M) : AJ d mc ms y Φ kc ks pc L (.inr x :: st) S M := by
  intro r hr l dC dI cA b0 b N xs p e s m args below meth c H locs ls C hW hS hz hL
  obtain ⟨hx, hb, hrt, hml, hown, hts, hlk, hnm, hSF⟩ := id C
  obtain ⟨ls', e', -⟩ := lv_store1 (v := .ref (adr b0 b x)) hL.has (hi r hr) rfl
  have K := k r hr l dC dI cA b0 b N xs p e s m args below meth c H locs ls' C hW hS hz (hL.set (v := .inr x) e' (hi r hr))
  have hdg := hd r hr
  show W _ _ _ _ _ _ _ _ _ _ _ _ _ _ _ (F0 m pc ls (.ref (adr b0 b x) :: st.map (val b0 b)))
  intro T hT X
  obtain ⟨t, a, b1⟩ := K T hT X
  refine ⟨t, ?_, b1⟩
  jvm_step X.here [X.here.top, ↓top_set X.here.top, hx, hb, hdg, e', Value.isRef]
  exact a
theorem A_iinc {d mc ms y : Nat} {Φ : Option Vl → Ly → Mm → Prop} {kc ks pc : Nat} {L : Lc} {st : List Vl} {S : Ly} {M : Mm} {i : Nat} {x n : Int} (hd : DC y pc (.iinc i n) 3) (hi : LT y i) (hg : getL L i = some (.inl x)) (k : AJ d mc ms y Φ kc ks (pc + 3) (setL i L (.inl (x + n))) st S M) : AJ d mc ms y Φ kc ks pc L st S M := by
  intro r hr l dC dI cA b0 b N xs p e s m args below meth c H locs ls C hW hS hz hL
  obtain ⟨hx, hb, hrt, hml, hown, hts, hlk, hnm, hSF⟩ := id C
  obtain ⟨ls', e', -⟩ := lv_store1 (v := .int (Int32.ofInt x + Int32.ofInt n)) hL.has (hi r hr) rfl
  have K := k r hr l dC dI cA b0 b N xs p e s m args below meth c H locs ls' C hW hS hz (hL.set (v := .inl (x + n)) (by show storeLocals ls i (.int (Int32.ofInt (x + n))) = _; rw [Int32.ofInt_add]; exact e') (hi r hr))
  have hdg := hd r hr
  have hg' := hL.2.2 _ _ hg
  change ls[i]? = some (.val (.int (Int32.ofInt x))) at hg'
  intro T hT X
  obtain ⟨t, a, b1⟩ := K T hT X
  refine ⟨t, ?_, b1⟩
  jvm_step X.here [X.here.top, ↓top_set X.here.top, hx, hb, hdg, hg', e']
  exact a
theorem A_iconst {d mc ms y : Nat} {Φ : Option Vl → Ly → Mm → Prop} {kc ks pc : Nat} {L : Lc} {st : List Vl} {S : Ly} {M : Mm} {n : Int} (hd : DC y pc (.iconst n) 1) (k : AJ d mc ms y Φ kc ks (pc + 1) L (.inl n :: st) S M) : AJ d mc ms y Φ kc ks pc L st S M := by
  intro r hr l dC dI cA b0 b N xs p e s m args below meth c H locs ls C hW hS hz hL
  have K := k r hr l dC dI cA b0 b N xs p e s m args below meth c H locs ls C hW hS hz hL
  obtain ⟨hx, hb, hrt, hml, hown, hts, hlk, hnm, hSF⟩ := id C
  exact lv_iconst (v := Int32.ofInt n) hx hb (hd r hr) rfl K
theorem A_bipush {d mc ms y : Nat} {Φ : Option Vl → Ly → Mm → Prop} {kc ks pc : Nat} {L : Lc} {st : List Vl} {S : Ly} {M : Mm} {n : Int} (hd : DC y pc (.bipush n) 2) (h1 : -128 ≤ n) (h2 : n ≤ 127) (k : AJ d mc ms y Φ kc ks (pc + 2) L (.inl n :: st) S M) : AJ d mc ms y Φ kc ks pc L st S M := by
  intro r hr l dC dI cA b0 b N xs p e s m args below meth c H locs ls C hW hS hz hL
  have K := k r hr l dC dI cA b0 b N xs p e s m args below meth c H locs ls C hW hS hz hL
  obtain ⟨hx, hb, hrt, hml, hown, hts, hlk, hnm, hSF⟩ := id C
  exact lv_bipush (v := Int32.ofInt n) hx hb (hd r hr) (i8_32 h1 h2) K
theorem A_sipush {d mc ms y : Nat} {Φ : Option Vl → Ly → Mm → Prop} {kc ks pc : Nat} {L : Lc} {st : List Vl} {S : Ly} {M : Mm} {n : Int} (hd : DC y pc (.sipush n) 3) (h1 : -32768 ≤ n) (h2 : n ≤ 32767) (k : AJ d mc ms y Φ kc ks (pc + 3) L (.inl n :: st) S M) : AJ d mc ms y Φ kc ks pc L st S M := by
  intro r hr l dC dI cA b0 b N xs p e s m args below meth c H locs ls C hW hS hz hL
  have K := k r hr l dC dI cA b0 b N xs p e s m args below meth c H locs ls C hW hS hz hL
  obtain ⟨hx, hb, hrt, hml, hown, hts, hlk, hnm, hSF⟩ := id C
  exact lv_sipush (v := Int32.ofInt n) hx hb (hd r hr) (i16_32 h1 h2) K
theorem own_of {y o : Nat} {r : MRec} (ho : OC y o) (hr : mtb[y]? = some r) {s : State} {m : MethodId} (h : s.vm.findClass (cnm r.2.2.2.2.2) = some m.cls) : s.vm.findClass (cnm o) = some m.cls := by
  rw [ho.2 r hr] at h; exact h
theorem A_ldc {d mc ms y : Nat} {Φ : Option Vl → Ly → Mm → Prop} {kc ks pc : Nat} {L : Lc} {st : List Vl} {S : Ly} {M : Mm} {o idx : Nat} {v : Int} (hd : DC y pc (.ldc idx) 2) (ho : OC y o) (hc : lk1 idx (consts o) = some v) (k : AJ d mc ms y Φ kc ks (pc + 2) L (.inl v :: st) S M) : AJ d mc ms y Φ kc ks pc L st S M := by
  intro r hr l dC dI cA b0 b N xs p e s m args below meth c H locs ls C hW hS hz hL
  have K := k r hr l dC dI cA b0 b N xs p e s m args below meth c H locs ls C hW hS hz hL
  obtain ⟨hx, hb, hrt, hml, hown, hts, hlk, hnm, hSF⟩ := id C
  exact lv_ldc hx hb (own_of ho hr hown) (hts _ (MW_K ho.1 (lk1_mem hc) _ (List.mem_singleton.mpr rfl))) (hd r hr) K
theorem A_iadd {d mc ms y : Nat} {Φ : Option Vl → Ly → Mm → Prop} {kc ks pc : Nat} {L : Lc} {st : List Vl} {S : Ly} {M : Mm} {x z : Int} (hd : DC y pc .iadd 1) (k : AJ d mc ms y Φ kc ks (pc + 1) L (.inl (x + z) :: st) S M) : AJ d mc ms y Φ kc ks pc L (.inl z :: .inl x :: st) S M := by
  intro r hr l dC dI cA b0 b N xs p e s m args below meth c H locs ls C hW hS hz hL
  have K := k r hr l dC dI cA b0 b N xs p e s m args below meth c H locs ls C hW hS hz hL
  obtain ⟨hx, hb, hrt, hml, hown, hts, hlk, hnm, hSF⟩ := id C
  refine lv_iadd (x := Int32.ofInt x) (y := Int32.ofInt z) hx hb (hd r hr) ?_
  rw [← Int32.ofInt_add]
  exact K
theorem A_isub {d mc ms y : Nat} {Φ : Option Vl → Ly → Mm → Prop} {kc ks pc : Nat} {L : Lc} {st : List Vl} {S : Ly} {M : Mm} {x z : Int} (hd : DC y pc .isub 1) (k : AJ d mc ms y Φ kc ks (pc + 1) L (.inl (x - z) :: st) S M) : AJ d mc ms y Φ kc ks pc L (.inl z :: .inl x :: st) S M := by
  intro r hr l dC dI cA b0 b N xs p e s m args below meth c H locs ls C hW hS hz hL
  have K := k r hr l dC dI cA b0 b N xs p e s m args below meth c H locs ls C hW hS hz hL
  obtain ⟨hx, hb, hrt, hml, hown, hts, hlk, hnm, hSF⟩ := id C
  refine lv_isub (x := Int32.ofInt x) (y := Int32.ofInt z) hx hb (hd r hr) ?_
  rw [← Int32.ofInt_sub]
  exact K
theorem A_imul {d mc ms y : Nat} {Φ : Option Vl → Ly → Mm → Prop} {kc ks pc : Nat} {L : Lc} {st : List Vl} {S : Ly} {M : Mm} {x z : Int} (hd : DC y pc .imul 1) (k : AJ d mc ms y Φ kc ks (pc + 1) L (.inl (x * z) :: st) S M) : AJ d mc ms y Φ kc ks pc L (.inl z :: .inl x :: st) S M := by
  intro r hr l dC dI cA b0 b N xs p e s m args below meth c H locs ls C hW hS hz hL
  have K := k r hr l dC dI cA b0 b N xs p e s m args below meth c H locs ls C hW hS hz hL
  obtain ⟨hx, hb, hrt, hml, hown, hts, hlk, hnm, hSF⟩ := id C
  refine lv_imul (x := Int32.ofInt x) (y := Int32.ofInt z) hx hb (hd r hr) ?_
  rw [← Int32.ofInt_mul]
  exact K
theorem A_ineg {d mc ms y : Nat} {Φ : Option Vl → Ly → Mm → Prop} {kc ks pc : Nat} {L : Lc} {st : List Vl} {S : Ly} {M : Mm} {x : Int} (hd : DC y pc .ineg 1) (k : AJ d mc ms y Φ kc ks (pc + 1) L (.inl (-x) :: st) S M) : AJ d mc ms y Φ kc ks pc L (.inl x :: st) S M := by
  intro r hr l dC dI cA b0 b N xs p e s m args below meth c H locs ls C hW hS hz hL
  have K := k r hr l dC dI cA b0 b N xs p e s m args below meth c H locs ls C hW hS hz hL
  obtain ⟨hx, hb, hrt, hml, hown, hts, hlk, hnm, hSF⟩ := id C
  have K2 : W _ _ _ _ _ _ _ _ _ _ _ _ _ _ _ (F0 m (pc + 1) ls (.int (Int32.ofInt (-x)) :: st.map (val b0 b))) := K
  refine lv_ineg (x := Int32.ofInt x) hx hb (hd r hr) ?_
  have e0 : (0 : Int32) - Int32.ofInt x = Int32.ofInt (-x) := by rw [i32_zero, ← Int32.ofInt_sub]; congr 1; omega
  first | (rw [e0]; exact K2) | (rw [← Int32.ofInt_neg]; exact K2)
theorem A_iand {d mc ms y : Nat} {Φ : Option Vl → Ly → Mm → Prop} {kc ks pc : Nat} {L : Lc} {st : List Vl} {S : Ly} {M : Mm} {x z : Int} (hd : DC y pc .iand 1) (k : AJ d mc ms y Φ kc ks (pc + 1) L (.inl (andI x z) :: st) S M) : AJ d mc ms y Φ kc ks pc L (.inl z :: .inl x :: st) S M := by
  intro r hr l dC dI cA b0 b N xs p e s m args below meth c H locs ls C hW hS hz hL
  have K := k r hr l dC dI cA b0 b N xs p e s m args below meth c H locs ls C hW hS hz hL
  obtain ⟨hx, hb, hrt, hml, hown, hts, hlk, hnm, hSF⟩ := id C
  refine lv_iand (x := Int32.ofInt x) (y := Int32.ofInt z) hx hb (hd r hr) ?_
  have K2 : W _ _ _ _ _ _ _ _ _ _ _ _ _ _ _ (F0 m (pc + 1) ls (.int (Int32.ofInt (andI x z)) :: st.map (val b0 b))) := K
  unfold andI at K2
  rw [Int32.ofInt_toInt] at K2
  exact K2
theorem A_ishl {d mc ms y : Nat} {Φ : Option Vl → Ly → Mm → Prop} {kc ks pc : Nat} {L : Lc} {st : List Vl} {S : Ly} {M : Mm} {x z : Int} (hd : DC y pc .ishl 1) (k : AJ d mc ms y Φ kc ks (pc + 1) L (.inl (shlI x z) :: st) S M) : AJ d mc ms y Φ kc ks pc L (.inl z :: .inl x :: st) S M := by
  intro r hr l dC dI cA b0 b N xs p e s m args below meth c H locs ls C hW hS hz hL
  have K := k r hr l dC dI cA b0 b N xs p e s m args below meth c H locs ls C hW hS hz hL
  obtain ⟨hx, hb, hrt, hml, hown, hts, hlk, hnm, hSF⟩ := id C
  refine lv_ishl (x := Int32.ofInt x) (y := Int32.ofInt z) hx hb (hd r hr) ?_
  have K2 : W _ _ _ _ _ _ _ _ _ _ _ _ _ _ _ (F0 m (pc + 1) ls (.int (Int32.ofInt (shlI x z)) :: st.map (val b0 b))) := K
  unfold shlI at K2
  rw [Int32.ofInt_toInt] at K2
  exact K2
theorem A_ishr {d mc ms y : Nat} {Φ : Option Vl → Ly → Mm → Prop} {kc ks pc : Nat} {L : Lc} {st : List Vl} {S : Ly} {M : Mm} {x z : Int} (hd : DC y pc .ishr 1) (k : AJ d mc ms y Φ kc ks (pc + 1) L (.inl (shrI x z) :: st) S M) : AJ d mc ms y Φ kc ks pc L (.inl z :: .inl x :: st) S M := by
  intro r hr l dC dI cA b0 b N xs p e s m args below meth c H locs ls C hW hS hz hL
  have K := k r hr l dC dI cA b0 b N xs p e s m args below meth c H locs ls C hW hS hz hL
  obtain ⟨hx, hb, hrt, hml, hown, hts, hlk, hnm, hSF⟩ := id C
  refine lv_ishr (x := Int32.ofInt x) (y := Int32.ofInt z) hx hb (hd r hr) ?_
  have K2 : W _ _ _ _ _ _ _ _ _ _ _ _ _ _ _ (F0 m (pc + 1) ls (.int (Int32.ofInt (shrI x z)) :: st.map (val b0 b))) := K
  unfold shrI at K2
  rw [Int32.ofInt_toInt] at K2
  exact K2
theorem A_idiv {d mc ms y : Nat} {Φ : Option Vl → Ly → Mm → Prop} {kc ks pc : Nat} {L : Lc} {st : List Vl} {S : Ly} {M : Mm} {x z : Int} (hd : DC y pc .idiv 1) (hz1 : R32 z) (hz2 : z ≠ 0) (k : AJ d mc ms y Φ kc ks (pc + 1) L (.inl (divI x z) :: st) S M) : AJ d mc ms y Φ kc ks pc L (.inl z :: .inl x :: st) S M := by
  intro r hr l dC dI cA b0 b N xs p e s m args below meth c H locs ls C hW hS hz hL
  have K := k r hr l dC dI cA b0 b N xs p e s m args below meth c H locs ls C hW hS hz hL
  obtain ⟨hx, hb, hrt, hml, hown, hts, hlk, hnm, hSF⟩ := id C
  refine lv_idiv (x := Int32.ofInt x) (y := Int32.ofInt z) hx hb (hd r hr) (by rw [i32_zero, i32_eq hz1 (by omega)]; exact hz2) ?_
  have K2 : W _ _ _ _ _ _ _ _ _ _ _ _ _ _ _ (F0 m (pc + 1) ls (.int (Int32.ofInt (divI x z)) :: st.map (val b0 b))) := K
  unfold divI at K2
  rw [Int32.ofInt_toInt] at K2
  exact K2
theorem A_irem {d mc ms y : Nat} {Φ : Option Vl → Ly → Mm → Prop} {kc ks pc : Nat} {L : Lc} {st : List Vl} {S : Ly} {M : Mm} {x z : Int} (hd : DC y pc .irem 1) (hz1 : R32 z) (hz2 : z ≠ 0) (k : AJ d mc ms y Φ kc ks (pc + 1) L (.inl (remI x z) :: st) S M) : AJ d mc ms y Φ kc ks pc L (.inl z :: .inl x :: st) S M := by
  intro r hr l dC dI cA b0 b N xs p e s m args below meth c H locs ls C hW hS hz hL
  have K := k r hr l dC dI cA b0 b N xs p e s m args below meth c H locs ls C hW hS hz hL
  obtain ⟨hx, hb, hrt, hml, hown, hts, hlk, hnm, hSF⟩ := id C
  refine lv_irem (x := Int32.ofInt x) (y := Int32.ofInt z) hx hb (hd r hr) (by rw [i32_zero, i32_eq hz1 (by omega)]; exact hz2) ?_
  have K2 : W _ _ _ _ _ _ _ _ _ _ _ _ _ _ _ (F0 m (pc + 1) ls (.int (Int32.ofInt (remI x z)) :: st.map (val b0 b))) := K
  unfold remI at K2
  rw [Int32.ofInt_toInt] at K2
  exact K2
theorem A_dup {d mc ms y : Nat} {Φ : Option Vl → Ly → Mm → Prop} {kc ks pc : Nat} {L : Lc} {st : List Vl} {S : Ly} {M : Mm} {v : Vl} (hd : DC y pc .dup 1) (k : AJ d mc ms y Φ kc ks (pc + 1) L (v :: v :: st) S M) : AJ d mc ms y Φ kc ks pc L (v :: st) S M := by
  intro r hr l dC dI cA b0 b N xs p e s m args below meth c H locs ls C hW hS hz hL
  have K := k r hr l dC dI cA b0 b N xs p e s m args below meth c H locs ls C hW hS hz hL
  obtain ⟨hx, hb, hrt, hml, hown, hts, hlk, hnm, hSF⟩ := id C
  exact lv_dup (va := val b0 b v) hx hb (hd r hr) (by cases v <;> rfl) K
theorem A_goto {d mc ms y : Nat} {Φ : Option Vl → Ly → Mm → Prop} {kc ks pc : Nat} {L : Lc} {st : List Vl} {S : Ly} {M : Mm} {off : Int} {t : Nat} (hd : DC y pc (.goto off) 3) (ht : (pc : Int) + off = (t : Int)) (k : AJ d mc ms y Φ kc ks t L st S M) : AJ d mc ms y Φ kc ks pc L st S M := by
  intro r hr l dC dI cA b0 b N xs p e s m args below meth c H locs ls C hW hS hz hL
  have K := k r hr l dC dI cA b0 b N xs p e s m args below meth c H locs ls C hW hS hz hL
  obtain ⟨hx, hb, hrt, hml, hown, hts, hlk, hnm, hSF⟩ := id C
  exact lv_goto hx hb (hd r hr) ht K
theorem A_ifCond {d mc ms y : Nat} {Φ : Option Vl → Ly → Mm → Prop} {kc ks pc : Nat} {L : Lc} {st : List Vl} {S : Ly} {M : Mm} {c : Jvm.ClassFile.Cond} {off x : Int} {t : Nat} (hd : DC y pc (.ifCond c off) 3) (ht : (pc : Int) + off = (t : Int)) (hR : R32 x)
    (k1 : cmpP c x 0 → AJ d mc ms y Φ kc ks t L st S M) (k2 : ¬ cmpP c x 0 → AJ d mc ms y Φ kc ks (pc + 3) L st S M) : AJ d mc ms y Φ kc ks pc L (.inl x :: st) S M := by
  intro r hr l dC dI cA b0 b N xs p e s m args below meth c1 H locs ls C hW hS hz hL
  obtain ⟨hx, hb, hrt, hml, hown, hts, hlk, hnm, hSF⟩ := id C
  have K1 := fun hh => k1 hh r hr l dC dI cA b0 b N xs p e s m args below meth c1 H locs ls C hW hS hz hL
  have K2 := fun hh => k2 hh r hr l dC dI cA b0 b N xs p e s m args below meth c1 H locs ls C hW hS hz hL
  have hdg := hd r hr
  have h0 : R32 0 := by omega
  cases c with
  | eq => exact lv_if_eq hx hb hdg ht (fun q => K1 ((i32_eq hR h0).mp (q.trans i32_zero))) (fun q => K2 (fun w => q (((i32_eq hR h0).mpr w).trans i32_zero.symm)))
  | ne => exact lv_if_ne hx hb hdg ht (fun q => K1 (fun w => q (((i32_eq hR h0).mpr w).trans i32_zero.symm))) (fun q => K2 (fun w => w ((i32_eq hR h0).mp (q.trans i32_zero))))
  | lt => exact lv_if_lt hx hb hdg ht (fun q => K1 ((i32_lt hR h0).mp (i32_zero ▸ q))) (fun q => K2 (fun w => q (i32_zero ▸ (i32_lt hR h0).mpr w)))
  | ge => exact lv_if_ge hx hb hdg ht (fun q => K1 ((i32_le h0 hR).mp (i32_zero ▸ q))) (fun q => K2 (fun w => q (i32_zero ▸ (i32_le h0 hR).mpr w)))
  | gt => exact lv_if_gt hx hb hdg ht (fun q => K1 ((i32_lt h0 hR).mp (i32_zero ▸ q))) (fun q => K2 (fun w => q (i32_zero ▸ (i32_lt h0 hR).mpr w)))
  | le => exact lv_if_le hx hb hdg ht (fun q => K1 ((i32_le hR h0).mp (i32_zero ▸ q))) (fun q => K2 (fun w => q (i32_zero ▸ (i32_le hR h0).mpr w)))
theorem A_if_icmp {d mc ms y : Nat} {Φ : Option Vl → Ly → Mm → Prop} {kc ks pc : Nat} {L : Lc} {st : List Vl} {S : Ly} {M : Mm} {c : Jvm.ClassFile.Cond} {off x z : Int} {t : Nat} (hd : DC y pc (.if_icmp c off) 3) (ht : (pc : Int) + off = (t : Int)) (hR : R32 x) (h0 : R32 z)
    (k1 : cmpP c x z → AJ d mc ms y Φ kc ks t L st S M) (k2 : ¬ cmpP c x z → AJ d mc ms y Φ kc ks (pc + 3) L st S M) : AJ d mc ms y Φ kc ks pc L (.inl z :: .inl x :: st) S M := by
  intro r hr l dC dI cA b0 b N xs p e s m args below meth c1 H locs ls C hW hS hz hL
  obtain ⟨hx, hb, hrt, hml, hown, hts, hlk, hnm, hSF⟩ := id C
  have K1 := fun hh => k1 hh r hr l dC dI cA b0 b N xs p e s m args below meth c1 H locs ls C hW hS hz hL
  have K2 := fun hh => k2 hh r hr l dC dI cA b0 b N xs p e s m args below meth c1 H locs ls C hW hS hz hL
  have hdg := hd r hr
  cases c with
  | eq => exact lv_icmp_eq hx hb hdg ht (fun q => K1 ((i32_eq hR h0).mp q)) (fun q => K2 (fun w => q ((i32_eq hR h0).mpr w)))
  | ne => exact lv_icmp_ne hx hb hdg ht (fun q => K1 (fun w => q ((i32_eq hR h0).mpr w))) (fun q => K2 (fun w => w ((i32_eq hR h0).mp q)))
  | lt => exact lv_icmp_lt hx hb hdg ht (fun q => K1 ((i32_lt hR h0).mp q)) (fun q => K2 (fun w => q ((i32_lt hR h0).mpr w)))
  | ge => exact lv_icmp_ge hx hb hdg ht (fun q => K1 ((i32_le h0 hR).mp q)) (fun q => K2 (fun w => q ((i32_le h0 hR).mpr w)))
  | gt => exact lv_icmp_gt hx hb hdg ht (fun q => K1 ((i32_lt h0 hR).mp q)) (fun q => K2 (fun w => q ((i32_lt h0 hR).mpr w)))
  | le => exact lv_icmp_le hx hb hdg ht (fun q => K1 ((i32_le hR h0).mp q)) (fun q => K2 (fun w => q ((i32_le hR h0).mpr w)))
theorem A_tableswitch {d mc ms y : Nat} {Φ : Option Vl → Ly → Mm → Prop} {kc ks pc : Nat} {L : Lc} {st : List Vl} {S : Ly} {M : Mm} {dd lo hi x : Int} {offs : Array Int} {len dt : Nat} {tl : List (Int × Nat)} (hd : DC y pc (.tableswitch dd lo hi offs) len) (hR : R32 x) (hdt : (pc : Int) + dd = (dt : Int)) (hlen : hi + 1 = lo + offs.size)
    (htl : ∀ j : Nat, j < offs.size → ∃ (o1 : Int) (t : Nat), offs[j]? = some o1 ∧ (pc : Int) + o1 = (t : Int) ∧ (lo + j, t) ∈ tl)
    (k1 : (x < lo ∨ hi < x) → AJ d mc ms y Φ kc ks dt L st S M) (k2 : ∀ (v : Int) (t : Nat), (v, t) ∈ tl → x = v → AJ d mc ms y Φ kc ks t L st S M) : AJ d mc ms y Φ kc ks pc L (.inl x :: st) S M := by
  intro r hr l dC dI cA b0 b N xs p e s m args below meth c H locs ls C hW hS hz hL
  obtain ⟨hx, hb, hrt, hml, hown, hts, hlk, hnm, hSF⟩ := id C
  have K1 := fun hh => k1 hh r hr l dC dI cA b0 b N xs p e s m args below meth c H locs ls C hW hS hz hL
  have hdg := hd r hr
  by_cases hlo : x < lo
  · exact lv_tableOut hx hb hdg (by rw [i32_toInt hR]; exact Or.inl hlo) hdt (K1 (Or.inl hlo))
  · by_cases hhi : hi < x
    · exact lv_tableOut hx hb hdg (by rw [i32_toInt hR]; exact Or.inr hhi) hdt (K1 (Or.inr hhi))
    · obtain ⟨o1, t, e1, e2, e3⟩ := htl (x - lo).toNat (by omega)
      have e4 : lo + ((x - lo).toNat : Int) = x := by omega
      exact lv_tableIn hx hb hdg (by rw [i32_toInt hR]; exact hlo) (by rw [i32_toInt hR]; exact hhi) (by rw [i32_toInt hR]; exact e1) e2 (k2 _ t e3 e4.symm r hr l dC dI cA b0 b N xs p e s m args below meth c H locs ls C hW hS hz hL)
theorem fld_ok {o idx ci k tk : Nat} {kI : Int} {fin : Bool} (ho : o < nCl) (h : (idx, ci, k, kI, fin, tk) ∈ flds o) : ∃ (C : String) (Tt : u_T) (N : Nat) (ty : FieldType), vwCl[ci]? = some (C, Tt, N) ∧ k < N ∧ Cond.fieldLink (cnm o) idx (Tt k).1 (Tt k).2.1 (Tt k).2.2.1 ∈ MW ∧ (Tt k).2.2.2 = fin ∧ parseFieldDescriptor (Tt k).2.2.1 = some ty ∧ kdf ty = tk ∧ (Tt k).1 = C ∧ kI = (k : Int) := by
  have h1 := okF_all o _ h
  have h2 := MW_F ho h
  unfold okF at h1
  unfold wF at h2
  dsimp only at h1 h2
  cases hv : vwCl[ci]? with
  | none => rw [hv] at h1; cases h1
  | some q =>
    obtain ⟨C, Tt, N⟩ := q
    rw [hv] at h1 h2
    simp only [Bool.and_eq_true, decide_eq_true_eq, beq_iff_eq] at h1
    obtain ⟨⟨⟨⟨a1, a2⟩, a3⟩, a4⟩, a5⟩ := h1
    obtain ⟨ty, b1, b2⟩ := Option.map_eq_some_iff.mp a3
    exact ⟨C, Tt, N, ty, rfl, a1, h2 _ (List.mem_singleton.mpr rfl), a2, b1, b2, a4, a5⟩
theorem cls_in {ci : Nat} {q : vw_C} (h : vwCl[ci]? = some q) : ∀ w ∈ u_ws q.1 q.2.1 q.2.2, w ∈ MW := MW_U (List.mem_of_getElem? h)
theorem WD.cell {dC : Nat → ClassId} {dI : Nat → Nat → Nat} {cA : ClassId} {b0 b N : Nat} {xs : Nat → Int32} {S : Ly} {M : Mm} {H : Heap} {a : Nat} {sh : Sh} (h : WD dC dI cA b0 b N xs S M H) (hs : shp S a = some sh) (ha : a ≠ 0) :
    ∃ (T : Ly) (q : Nat), a = q + 1 ∧ S = .inl N :: T ∧ T[q]? = some sh ∧ va_P (dC, dI) vwCl (wl b0 b cA T M) H ∧ (wl b0 b cA T M)[q]? = some (b0 + q, ent b0 b cA M (q + 1) sh) := by
  obtain ⟨T, rfl, h3, h4, h5⟩ := h
  cases a with
  | zero => exact absurd rfl ha
  | succ q =>
    rw [shp_eq] at hs
    have hs : T[q]? = some sh := by simpa using hs
    exact ⟨T, q, rfl, rfl, hs, h5, by rw [wl_get, hs]; rfl⟩
theorem WD.obj {dC : Nat → ClassId} {dI : Nat → Nat → Nat} {cA : ClassId} {b0 b N : Nat} {xs : Nat → Int32} {S : Ly} {M : Mm} {H : Heap} {a : Nat} {q : Nat × List Fk} (h : WD dC dI cA b0 b N xs S M H) (hs : shp S a = some (.inr q)) : a ≠ 0 := by
  obtain ⟨T, rfl, -⟩ := h
  intro ha
  subst ha
  cases hs
theorem A_getI {d mc ms y : Nat} {Φ : Option Vl → Ly → Mm → Prop} {kc ks pc : Nat} {L : Lc} {st : List Vl} {S : Ly} {M : Mm} {o idx a ci kf tk : Nat} {kI : Int} {fin : Bool} {fs : List Fk} (hd : DC y pc (.getfield idx) 3) (ho : OC y o) (hf : lk1 idx (flds o) = some (ci, kf, kI, fin, tk)) (hs : shp S a = some (.inr (ci, fs))) (hk : shf fs kf = some none) (k : AJ d mc ms y Φ kc ks (pc + 3) L (.inl (M a kI) :: st) S M) : AJ d mc ms y Φ kc ks pc L (.inr a :: st) S M := by
  intro r hr l dC dI cA b0 b N xs p e s m args below meth c H locs ls C hW hS hz hL
  obtain ⟨hx, hb, hrt, hml, hown, hts, hlk, hnm, hSF⟩ := id C
  obtain ⟨T, q, rfl, rfl, hT, hP, he⟩ := hW.cell hs (hW.obj hs)
  obtain ⟨C0, Tt, N0, ty, hc, hkN, hl, hfin, hpd, hkd, hC, hkI⟩ := fld_ok ho.1 (lk1_mem hf)
  subst hkI
  have K := k r hr l dC dI cA b0 b N xs p e s m args below meth c H locs ls C hW hS hz hL
  exact va_get (D := (dC, dI)) (ci := ci) (C := C0) (T := Tt) (N := N0) hx hb hts (cls_in hc) (own_of ho hr hown) hSF.1 hP q he hc kf hkN (hts _ hl) (fun _ h9 => h9) (v := .int (Int32.ofInt (M (q + 1) kf))) (by rw [List.getElem?_mapIdx]; rw [shf_eq] at hk; rw [hk]; rfl) (hd r hr) K
theorem A_getR {d mc ms y : Nat} {Φ : Option Vl → Ly → Mm → Prop} {kc ks pc : Nat} {L : Lc} {st : List Vl} {S : Ly} {M : Mm} {o idx a ci kf tk rr : Nat} {kI : Int} {fin : Bool} {fs : List Fk} (hd : DC y pc (.getfield idx) 3) (ho : OC y o) (hf : lk1 idx (flds o) = some (ci, kf, kI, fin, tk)) (hs : shp S a = some (.inr (ci, fs))) (hk : shf fs kf = some (some (some rr))) (k : AJ d mc ms y Φ kc ks (pc + 3) L (.inr rr :: st) S M) : AJ d mc ms y Φ kc ks pc L (.inr a :: st) S M := by
  intro r hr l dC dI cA b0 b N xs p e s m args below meth c H locs ls C hW hS hz hL
  obtain ⟨hx, hb, hrt, hml, hown, hts, hlk, hnm, hSF⟩ := id C
  obtain ⟨T, q, rfl, rfl, hT, hP, he⟩ := hW.cell hs (hW.obj hs)
  obtain ⟨C0, Tt, N0, ty, hc, hkN, hl, hfin, hpd, hkd, hC, hkI⟩ := fld_ok ho.1 (lk1_mem hf)
  subst hkI
  have K := k r hr l dC dI cA b0 b N xs p e s m args below meth c H locs ls C hW hS hz hL
  exact va_get (D := (dC, dI)) (ci := ci) (C := C0) (T := Tt) (N := N0) hx hb hts (cls_in hc) (own_of ho hr hown) hSF.1 hP q he hc kf hkN (hts _ hl) (fun _ h9 => h9) (v := .ref (adr b0 b rr)) (by rw [List.getElem?_mapIdx]; rw [shf_eq] at hk; rw [hk]; rfl) (hd r hr) K
theorem ent_other {b0 b : Nat} {cA : ClassId} {M : Mm} {a k : Nat} {i x : Int} (h : k ≠ a) (sh : Sh) : ent b0 b cA (mset M a i x) k sh = ent b0 b cA M k sh := by
  cases sh with
  | inl n => simp [ent, mset, h]
  | inr q =>
    have : (fun (j : Nat) (f : Fk) => fv b0 b (mset M a i x) k j f) = fun j f => fv b0 b M k j f := by
      funext j f
      cases f <;> simp [fv, mset, h]
    simp [ent, this]
theorem wl_put {b0 b : Nat} {cA : ClassId} {T : Ly} {M : Mm} {q : Nat} {i x : Int} {sh : Sh} {E : va_E} (hT : T[q]? = some sh) (hE : ent b0 b cA (mset M (q + 1) i x) (q + 1) sh = E) : (wl b0 b cA T M).set q (b0 + q, E) = wl b0 b cA T (mset M (q + 1) i x) := by
  apply List.ext_getElem?
  intro k
  rw [wl_get, List.getElem?_set]
  by_cases hk : q = k
  · subst hk
    have hlt : q < T.length := (List.getElem?_eq_some_iff.mp hT).1
    rw [if_pos rfl, if_pos (by simpa [wl] using hlt), hT]
    simp [hE]
  · rw [if_neg hk, wl_get]
    cases T[k]? with
    | none => rfl
    | some s2 => simp only [Option.map_some]; rw [ent_other (by omega)]
theorem MOk.set {M : Mm} (h : MOk M) {a : Nat} {i x : Int} (hx : R32 x) : MOk (mset M a i x) := by
  intro k j
  unfold mset
  split
  · exact hx
  · exact h k j
theorem WD.put {dC : Nat → ClassId} {dI : Nat → Nat → Nat} {cA : ClassId} {b0 b N : Nat} {xs : Nat → Int32} {T : Ly} {M : Mm} {H H1 : Heap} {q : Nat} {i x : Int} {sh : Sh} {E : va_E} (h : WD dC dI cA b0 b N xs (.inl N :: T) M H) (hT : T[q]? = some sh) (hE : ent b0 b cA (mset M (q + 1) i x) (q + 1) sh = E) (hx : R32 x)
    (hP : va_P (dC, dI) vwCl ((wl b0 b cA T M).set q (b0 + q, E)) H1) : WD dC dI cA b0 b N xs (.inl N :: T) (mset M (q + 1) i x) H1 := by
  obtain ⟨T', e1, h3, h4, h5⟩ := h
  cases e1
  refine ⟨T, rfl, h3.set hx, fun j hj => ?_, by rw [← wl_put hT hE]; exact hP⟩
  rw [← h4 j hj]; simp [mset]
theorem A_putI {d mc ms y : Nat} {Φ : Option Vl → Ly → Mm → Prop} {kc ks pc : Nat} {L : Lc} {st : List Vl} {S : Ly} {M : Mm} {o idx a ci kf tk : Nat} {kI : Int} {fin : Bool} {fs : List Fk} {x : Int} (hd : DC y pc (.putfield idx) 3) (ho : OC y o) (hf : lk1 idx (flds o) = some (ci, kf, kI, fin, tk)) (hs : shp S a = some (.inr (ci, fs))) (hk : shf fs kf = some none) (hxr : R32 x) (htk : tk < 2) (hb1 : tk = 1 → x = 0 ∨ x = 1) (hfi : fin = true → o = ci ∧ ∀ r : MRec, mtb[y]? = some r → r.1.name = "<init>") (k : AJ d mc ms y Φ kc ks (pc + 3) L st S (mset M a kI x)) : AJ d mc ms y Φ kc ks pc L (.inl x :: .inr a :: st) S M := by
  intro r hr l dC dI cA b0 b N xs p e s m args below meth c H locs ls C hW hS hz hL
  obtain ⟨hx, hb, hrt, hml, hown, hts, hlk, hnm, hSF⟩ := id C
  obtain ⟨T, q, rfl, rfl, hT, hP, he⟩ := hW.cell hs (hW.obj hs)
  obtain ⟨C0, Tt, N0, ty, hc, hkN, hl, hfin, hpd, hkd, hC, hkI⟩ := fld_ok ho.1 (lk1_mem hf)
  subst hkI
  obtain ⟨ty0, hty, hnmz⟩ := cls_ok ci _ hc
  have hk2 : fs[kf]? = some none := by rw [← shf_eq]; exact hk
  have hlt : kf < fs.length := (List.getElem?_eq_some_iff.mp hk2).1
  have hn : narrow ty (.int (Int32.ofInt x)) = .int (Int32.ofInt x) ∧ fits ty (.int (Int32.ofInt x)) = true := by
    cases ty with
    | int => exact ⟨rfl, rfl⟩
    | boolean =>
      rcases hb1 (by rw [← hkd]; rfl) with rfl | rfl
      · exact ⟨by decide +kernel, by decide +kernel⟩
      · exact ⟨by decide +kernel, by decide +kernel⟩
    | _ => exact absurd hkd (by intro h; simp [kdf] at h; omega)
  have hE : ent b0 b cA (mset M (q + 1) kf x) (q + 1) (.inr (ci, fs)) = .inr (ci, (fs.mapIdx (fun j f => fv b0 b M (q + 1) j f)).set kf (.int (Int32.ofInt x))) := by
    show Sum.inr (ci, _) = Sum.inr (ci, _)
    congr 2
    apply List.ext_getElem?
    intro j
    rw [List.getElem?_mapIdx, List.getElem?_set, List.getElem?_mapIdx]
    by_cases hj : kf = j
    · subst hj
      rw [if_pos rfl, if_pos (by simpa using hlt), hk2]
      simp [fv, mset]
    · rw [if_neg hj]
      cases fs[j]? with
      | none => rfl
      | some f => cases f with
        | none =>
          have hne : ¬ ((j : Int) = (kf : Int)) := by omega
          simp [fv, mset, hne]
        | some f => cases f <;> rfl
  have go : ∀ (H1 : Heap) (locs1 : List Loc), va_P (dC, dI) vwCl ((wl b0 b cA T M).set q (b0 + q, .inr (ci, (fs.mapIdx (fun j f => fv b0 b M (q + 1) j f)).set kf (.int (Int32.ofInt x))))) H1 → va_D (fun q => b0 ≤ q) ((wl b0 b cA T M).set q (b0 + q, .inr (ci, (fs.mapIdx (fun j f => fv b0 b M (q + 1) j f)).set kf (.int (Int32.ofInt x))))) → va_S (fun q => b0 ≤ q) s.heap H1 locs1 → W p l e (rmm d mc ms) s m args below meth c H1 locs1 kc ks (MQ below (QQ mc dC dI cA b0 b N xs Φ) args s mc ms (fun q => b0 ≤ q)) (F0 m (pc + 3) ls (st.map (val b0 b))) :=
    fun H1 locs1 hP1 _ hS1 => k r hr l dC dI cA b0 b N xs p e s m args below meth c H1 locs1 ls C (hW.put hT hE hxr hP1) hS1 hz hL
  cases fin with
  | false => exact va_put (D := (dC, dI)) (ci := ci) (C := C0) (T := Tt) (N := N0) hx hb hts (cls_in hc) ty0 hty hnmz (own_of ho hr hown) hSF.1 hP (wl_D b0 b cA T M) hS q he hc kf hkN (hts _ hl) (fun _ h9 => h9) hfin (ty := ty) (v := .int (Int32.ofInt x)) hpd hn.1 hn.2 (by simpa using hlt) (hd r hr) go
  | true =>
    obtain ⟨hoc, hini⟩ := hfi rfl
    subst hoc
    exact va_putF (D := (dC, dI)) (ci := o) (C := C0) (T := Tt) (N := N0) hx hb hts (cls_in hc) ty0 hty hnmz (own_of ho hr hown) hSF.1 hP (wl_D b0 b cA T M) hS q he hc kf hkN (hts _ hl) (fun _ h9 => h9) hfin (hnm.trans (hini r hr)) (by rw [hC]; exact (cnm_ok o _ hc).symm) (ty := ty) (v := .int (Int32.ofInt x)) hpd hn.1 hn.2 (by simpa using hlt) (hd r hr) go
theorem A_iald {d mc ms y : Nat} {Φ : Option Vl → Ly → Mm → Prop} {kc ks pc : Nat} {L : Lc} {st : List Vl} {S : Ly} {M : Mm} {a n : Nat} {i : Int} (hd : DC y pc .iaload 1) (hs : shp S a = some (.inl n)) (h0 : 0 ≤ i) (h1 : i < (n : Int)) (hR : R32 i) (k : AJ d mc ms y Φ kc ks (pc + 1) L (.inl (M a i) :: st) S M) : AJ d mc ms y Φ kc ks pc L (.inl i :: .inr a :: st) S M := by
  intro r hr l dC dI cA b0 b N xs p e s m args below meth c H locs ls C hW hS hz hL
  by_cases ha : a = 0
  · subst ha
    obtain ⟨hx, hb, hrt, hml, hown, hts, hlk, hnm, hSF⟩ := id C
    have K := k r hr l dC dI cA b0 b N xs p e s m args below meth c H locs ls C hW hS hz hL
    obtain ⟨T, rfl, hM, hX, hP⟩ := id hW
    have hn : N = n := by simpa [shp] using hs
    subst hn
    obtain ⟨-, -, hX0, hb0, hbs, -⟩ := hSF
    refine va_sld hx hb hX0 (Nat.lt_of_lt_of_le hb0 hbs) (Nat.not_le.mpr hb0) hS (i := Int32.ofInt i) (i32_in h0 h1 hR) (hd r hr) ?_
    have e1 : xs (Int32.ofInt i).toNatClampNeg = Int32.ofInt (M 0 i) := by
      rw [i32_nat hR]
      have h2 := hX i.toNat (by omega)
      rw [show ((i.toNat : Nat) : Int) = i by omega] at h2
      rw [h2, Int32.ofInt_toInt]
    rw [e1]
    exact K
  · obtain ⟨hx, hb, hrt, hml, hown, hts, hlk, hnm, hSF⟩ := id C
    obtain ⟨T, q, rfl, rfl, hT, hP, he⟩ := hW.cell hs ha
    have K := k r hr l dC dI cA b0 b N xs p e s m args below meth c H locs ls C hW hS hz hL
    refine va_iald hx hb hSF.1 hP q 0 he rfl (i := Int32.ofInt i) (i32_in h0 h1 hR) (hd r hr) ?_
    have e1 : Int32.ofInt (M (q + 1) (((Int32.ofInt i).toNatClampNeg : Nat) : Int)) = Int32.ofInt (M (q + 1) i) := by
      rw [i32_nat hR, show ((i.toNat : Nat) : Int) = i by omega]
    rw [e1]
    exact K
theorem A_iast {d mc ms y : Nat} {Φ : Option Vl → Ly → Mm → Prop} {kc ks pc : Nat} {L : Lc} {st : List Vl} {S : Ly} {M : Mm} {a n : Nat} {i x : Int} (hd : DC y pc .iastore 1) (hs : shp S a = some (.inl n)) (ha : a ≠ 0) (h0 : 0 ≤ i) (h1 : i < (n : Int)) (hR : R32 i) (hxr : R32 x) (k : AJ d mc ms y Φ kc ks (pc + 1) L st S (mset M a i x)) : AJ d mc ms y Φ kc ks pc L (.inl x :: .inl i :: .inr a :: st) S M := by
  intro r hr l dC dI cA b0 b N xs p e s m args below meth c H locs ls C hW hS hz hL
  obtain ⟨hx, hb, hrt, hml, hown, hts, hlk, hnm, hSF⟩ := id C
  obtain ⟨T, q, rfl, rfl, hT, hP, he⟩ := hW.cell hs ha
  have hE : ent b0 b cA (mset M (q + 1) i x) (q + 1) (.inl n) = .inl (cA, n, .inl (upd (fun j : Nat => Int32.ofInt (M (q + 1) j)) (Int32.ofInt i).toNatClampNeg (Int32.ofInt x))) := by
    show Sum.inl (cA, n, Sum.inl _) = Sum.inl (cA, n, Sum.inl _)
    apply congrArg (fun g => Sum.inl (cA, n, Sum.inl g))
    funext j
    simp only [mset, upd, i32_nat hR]
    by_cases hj : j = i.toNat
    · rw [if_pos ⟨trivial, by omega⟩, if_pos hj]
    · rw [if_neg (by rintro ⟨-, h⟩; omega), if_neg hj]
  exact va_iast hx hb hSF.1 hP (wl_D b0 b cA T M) hS q 0 he rfl (i := Int32.ofInt i) (x := Int32.ofInt x) (i32_in h0 h1 hR) (hd r hr) (fun H1 locs1 hP1 _ hS1 => k r hr l dC dI cA b0 b N xs p e s m args below meth c H1 locs1 ls C (hW.put hT hE hxr hP1) hS1 hz hL)
theorem A_alen {d mc ms y : Nat} {Φ : Option Vl → Ly → Mm → Prop} {kc ks pc : Nat} {L : Lc} {st : List Vl} {S : Ly} {M : Mm} {a n : Nat} (hd : DC y pc .arraylength 1) (hs : shp S a = some (.inl n)) (k : AJ d mc ms y Φ kc ks (pc + 1) L (.inl (n : Int) :: st) S M) : AJ d mc ms y Φ kc ks pc L (.inr a :: st) S M := by
  intro r hr l dC dI cA b0 b N xs p e s m args below meth c H locs ls C hW hS hz hL
  by_cases ha : a = 0
  · subst ha
    obtain ⟨hx, hb, hrt, hml, hown, hts, hlk, hnm, hSF⟩ := id C
    have K := k r hr l dC dI cA b0 b N xs p e s m args below meth c H locs ls C hW hS hz hL
    obtain ⟨T, rfl, hM, hX, hP⟩ := id hW
    have hn : N = n := by simpa [shp] using hs
    subst hn
    obtain ⟨-, -, hX0, hb0, hbs, -⟩ := hSF
    refine va_slen hx hb hX0 (Nat.lt_of_lt_of_le hb0 hbs) (Nat.not_le.mpr hb0) hS (hd r hr) ?_
    rw [← Int32.ofInt_eq_ofNat]
    exact K
  · obtain ⟨hx, hb, hrt, hml, hown, hts, hlk, hnm, hSF⟩ := id C
    obtain ⟨T, q, rfl, rfl, hT, hP, he⟩ := hW.cell hs ha
    have K := k r hr l dC dI cA b0 b N xs p e s m args below meth c H locs ls C hW hS hz hL
    exact va_alen hx hb hSF.1 hP q 0 he rfl (v := Int32.ofInt n) Int32.ofInt_eq_ofNat.symm (hd r hr) K
theorem WD.size {dC : Nat → ClassId} {dI : Nat → Nat → Nat} {cA : ClassId} {b0 b N : Nat} {xs : Nat → Int32} {S : Ly} {M : Mm} {H : Heap} (h : WD dC dI cA b0 b N xs S M H) (hb : b0 ≤ H.size) : b0 + S.length ≤ H.size + 1 := by
  obtain ⟨T, rfl, h3, h4, h5⟩ := h
  rcases Nat.eq_zero_or_pos T.length with h0 | h0
  · simp [h0]; exact hb
  · have hlt : T.length - 1 < T.length := by omega
    have h6 := h5 (T.length - 1) (b0 + (T.length - 1), ent b0 b cA M (T.length - 1 + 1) T[T.length - 1]) (by rw [wl_get, List.getElem?_eq_getElem hlt]; rfl)
    have h7 := h6.lt
    simp only [List.length_cons] at *
    omega
theorem stand_size {p : Program} {l : Launch} {e : Env} {R : Room} {s : State} {m : MethodId} {args : Array Value} {below : List Frame} {meth : Method} {c : Code} {T : State} {locs : List Loc} {kc ks : Nat} (X : Stand p l e R s m args below meth c T locs kc ks) : T.heap.size ≤ s.heap.size + kc := X.same.2.2.1
theorem A_iret {d mc ms y : Nat} {Φ : Option Vl → Ly → Mm → Prop} {kc ks pc : Nat} {L : Lc} {st : List Vl} {S : Ly} {M : Mm} {x : Int} (hd : DC y pc .ireturn 1) (ht : ∀ r : MRec, mtb[y]? = some r → r.2.2.2.1 = some .int) (hk1 : kc = mc) (hk2 : ks ≤ ms) (k : Φ (some (.inl x)) S M) : AJ d mc ms y Φ kc ks pc L [.inl x] S M := by
  intro r hr l dC dI cA b0 b N xs p e s m args below meth c H locs ls C hW hS hz hL
  obtain ⟨hx, hb, hrt, hml, hown, hts, hlk, hnm, hSF⟩ := id C
  subst hk1
  refine W.widen (Nat.le_refl _) hk2 ?_
  exact W.iret (v := Int32.ofInt x) hx hb (hrt.trans (ht r hr)) (fun t ht hW2 => ⟨⟨some (.inl x), S, M, rfl, k, by rw [ht]; exact hW, hz⟩, hS.F ht⟩) hS.2.2 (hd r hr)
theorem A_zret {d mc ms y : Nat} {Φ : Option Vl → Ly → Mm → Prop} {kc ks pc : Nat} {L : Lc} {st : List Vl} {S : Ly} {M : Mm} {x : Int} (hd : DC y pc .ireturn 1) (ht : ∀ r : MRec, mtb[y]? = some r → r.2.2.2.1 = some .boolean) (hx01 : x = 0 ∨ x = 1) (hk1 : kc = mc) (hk2 : ks ≤ ms) (k : Φ (some (.inl x)) S M) : AJ d mc ms y Φ kc ks pc L [.inl x] S M := by
  intro r hr l dC dI cA b0 b N xs p e s m args below meth c H locs ls C hW hS hz hL
  obtain ⟨hx, hb, hrt, hml, hown, hts, hlk, hnm, hSF⟩ := id C
  subst hk1
  refine W.widen (Nat.le_refl _) hk2 ?_
  exact W.zret (v := Int32.ofInt x) hx hb (hrt.trans (ht r hr)) (by rcases hx01 with rfl | rfl <;> decide +kernel) (fun t ht hW2 => ⟨⟨some (.inl x), S, M, rfl, k, by rw [ht]; exact hW, hz⟩, hS.F ht⟩) hS.2.2 (hd r hr)
theorem A_vret {d mc ms y : Nat} {Φ : Option Vl → Ly → Mm → Prop} {kc ks pc : Nat} {L : Lc} {st : List Vl} {S : Ly} {M : Mm} (hd : DC y pc .return_ 1) (ht : ∀ r : MRec, mtb[y]? = some r → r.2.2.2.1 = none) (hk1 : kc = mc) (hk2 : ks ≤ ms) (k : Φ none S M) : AJ d mc ms y Φ kc ks pc L [] S M := by
  intro r hr l dC dI cA b0 b N xs p e s m args below meth c H locs ls C hW hS hz hL
  obtain ⟨hx, hb, hrt, hml, hown, hts, hlk, hnm, hSF⟩ := id C
  subst hk1
  refine W.widen (Nat.le_refl _) hk2 ?_
  exact W.vret hx hb (hrt.trans (ht r hr)) (fun t ht hW2 => ⟨⟨none, S, M, rfl, k, by rw [ht]; exact hW, hz⟩, hS.F ht⟩) hS.2.2 (hd r hr)
theorem A_aret {d mc ms y : Nat} {Φ : Option Vl → Ly → Mm → Prop} {kc ks pc : Nat} {L : Lc} {st : List Vl} {S : Ly} {M : Mm} {a : Nat} {cn : String} (hd : DC y pc .areturn 1) (ht : ∀ r : MRec, mtb[y]? = some r → r.2.2.2.1 = some (.object cn)) (hk1 : kc = mc) (hk2 : ks ≤ ms) (k : Φ (some (.inr a)) S M) : AJ d mc ms y Φ kc ks pc L [.inr a] S M := by
  intro r hr l dC dI cA b0 b N xs p e s m args below meth c H locs ls C hW hS hz hL
  obtain ⟨hx, hb, hrt, hml, hown, hts, hlk, hnm, hSF⟩ := id C
  subst hk1
  refine W.widen (Nat.le_refl _) hk2 ?_
  exact W.aret (v := .ref (adr b0 b a)) hx hb (hrt.trans (ht r hr)) (Or.inl ⟨_, rfl⟩) (Or.inr ⟨_, rfl⟩) (fun t ht hW2 => ⟨⟨some (.inr a), S, M, rfl, k, by rw [ht]; exact hW, hz⟩, hS.F ht⟩) hS.2.2 (hd r hr)
theorem cat_sum (b0 b : Nat) : ∀ st : List Vl, ((st.map (val b0 b)).map fun v => v.category).sum = st.length := by
  intro st
  induction st with
  | nil => rfl
  | cons v t ih =>
    have : (val b0 b v).category = 1 := by cases v <;> rfl
    simp only [List.map_cons, List.sum_cons, List.length_cons, this]
    simp only [List.map_map] at ih ⊢
    omega
theorem A_objInit {d mc ms y : Nat} {Φ : Option Vl → Ly → Mm → Prop} {kc ks pc : Nat} {L : Lc} {st : List Vl} {S : Ly} {M : Mm} {o idx a : Nat} (hd : DC y pc (.invokespecial idx) 3) (ho : OC y o) (hc : memb (objs o) idx = true) (hd1 : 1 ≤ d) (hl : st.length ≤ 8) (k : AJ d mc ms y Φ kc ks (pc + 3) L st S M) : AJ d mc ms y Φ kc ks pc L (.inr a :: st) S M := by
  intro r hr l dC dI cA b0 b N xs p e s m args below meth c H locs ls C hW hS hz hL
  have K := k r hr l dC dI cA b0 b N xs p e s m args below meth c H locs ls C hW hS hz hL
  obtain ⟨hx, hb, hrt, hml, hown, hts, hlk, hnm, hSF⟩ := id C
  refine W.objInit hx hb (own_of ho hr hown) (hts _ (MW_O ho.1 (memb_mem hc) _ (List.mem_singleton.mpr rfl))) (hts _ (MW_X List.mem_cons_self)) (hts _ (MW_X (List.mem_cons_of_mem _ List.mem_cons_self))) rfl (hL.1.trans hml.symm) rfl (hd r hr) hd1 ?_ K
  have h1 := cat_sum b0 b st
  have h2 := lv_room (m := m) (pc := pc) (ls := ls) (rest := (val b0 b (.inr a)) :: st.map (val b0 b)) (st := st.map (val b0 b)) (by rw [h1]; exact hl)
  show _ + _ + 12 ≤ 40 * d
  refine Nat.le_trans (Nat.add_le_add_right h2 12) ?_
  omega
theorem A_abs {d mc ms y : Nat} {Φ : Option Vl → Ly → Mm → Prop} {kc ks pc : Nat} {L : Lc} {st : List Vl} {S : Ly} {M : Mm} {o idx : Nat} {x : Int} (hd : DC y pc (.invokestatic idx) 3) (ho : OC y o) (hc : lk1 idx (maths o) = some 0) (hR : R32 x) (hd1 : 1 ≤ d) (hl : st.length ≤ 8) (hcl : kc ≤ mc) (hsl : ks ≤ ms) (k : AJ d mc ms y Φ kc ks (pc + 3) L (.inl (x.natAbs : Int) :: st) S M) : AJ d mc ms y Φ kc ks pc L (.inl x :: st) S M := by
  intro r hr l dC dI cA b0 b N xs p e s m args below meth c H locs ls C hW hS hz hL
  have K := k r hr l dC dI cA b0 b N xs p e s m args below meth c H locs ls C hW hS hz hL
  obtain ⟨hx, hb, hrt, hml, hown, hts, hlk, hnm, hSF⟩ := id C
  have K2 : W _ _ _ _ _ _ _ _ _ _ _ _ _ _ _ (F0 m (pc + 3) ls (.int (Int32.ofInt (x.natAbs : Int)) :: st.map (val b0 b))) := K
  refine va_mabs (x := Int32.ofInt x) hx hb (hml.trans hL.1.symm) (own_of ho hr hown) (hts _ (MW_J ho.1 (lk1_mem hc) _ List.mem_cons_self)) (hts _ (MW_J ho.1 (lk1_mem hc) _ (List.mem_cons_of_mem _ List.mem_cons_self))) (hts _ (MW_J5 List.mem_cons_self)) (hts _ (MW_J5 (List.mem_cons_of_mem _ (List.mem_cons_self)))) hd1 (by rw [cat_sum b0 b st]; show _ ≤ 40 * d; omega) hcl hsl (hd r hr) ?_
  have e1 : (if 0 ≤ Int32.ofInt x then Int32.ofInt x else 0 - Int32.ofInt x) = Int32.ofInt (x.natAbs : Int) := by
    by_cases h : 0 ≤ x
    · rw [if_pos (by rw [i32_zero]; exact (i32_le (by omega) hR).mpr h)]; congr 1; omega
    · rw [if_neg (by rw [i32_zero, i32_le (by omega) hR]; exact h), i32_zero, ← Int32.ofInt_sub]; congr 1; omega
  rw [e1]; exact K2
theorem A_min {d mc ms y : Nat} {Φ : Option Vl → Ly → Mm → Prop} {kc ks pc : Nat} {L : Lc} {st : List Vl} {S : Ly} {M : Mm} {o idx : Nat} {x z : Int} (hd : DC y pc (.invokestatic idx) 3) (ho : OC y o) (hc : lk1 idx (maths o) = some 1) (hR : R32 x) (hR2 : R32 z) (hd1 : 1 ≤ d) (hl : st.length ≤ 8) (hcl : kc ≤ mc) (hsl : ks ≤ ms) (k : AJ d mc ms y Φ kc ks (pc + 3) L (.inl (min x z) :: st) S M) : AJ d mc ms y Φ kc ks pc L (.inl z :: .inl x :: st) S M := by
  intro r hr l dC dI cA b0 b N xs p e s m args below meth c H locs ls C hW hS hz hL
  have K := k r hr l dC dI cA b0 b N xs p e s m args below meth c H locs ls C hW hS hz hL
  obtain ⟨hx, hb, hrt, hml, hown, hts, hlk, hnm, hSF⟩ := id C
  have K2 : W _ _ _ _ _ _ _ _ _ _ _ _ _ _ _ (F0 m (pc + 3) ls (.int (Int32.ofInt (min x z)) :: st.map (val b0 b))) := K
  refine va_mmin (x := Int32.ofInt x) (y := Int32.ofInt z) hx hb (hml.trans hL.1.symm) (own_of ho hr hown) (hts _ (MW_J ho.1 (lk1_mem hc) _ List.mem_cons_self)) (hts _ (MW_J ho.1 (lk1_mem hc) _ (List.mem_cons_of_mem _ List.mem_cons_self))) (hts _ (MW_J5 List.mem_cons_self)) (hts _ (MW_J5 (List.mem_cons_of_mem _ (List.mem_cons_of_mem _ (List.mem_cons_self))))) hd1 (by rw [cat_sum b0 b st]; show _ ≤ 40 * d; omega) hcl hsl (hd r hr) ?_
  have e1 : (if Int32.ofInt z < Int32.ofInt x then Int32.ofInt z else Int32.ofInt x) = Int32.ofInt (min x z) := by
    by_cases h : z < x
    · rw [if_pos ((i32_lt hR2 hR).mpr h)]; congr 1; omega
    · rw [if_neg (by rw [i32_lt hR2 hR]; exact h)]; congr 1; omega
  rw [e1]; exact K2
theorem A_max {d mc ms y : Nat} {Φ : Option Vl → Ly → Mm → Prop} {kc ks pc : Nat} {L : Lc} {st : List Vl} {S : Ly} {M : Mm} {o idx : Nat} {x z : Int} (hd : DC y pc (.invokestatic idx) 3) (ho : OC y o) (hc : lk1 idx (maths o) = some 2) (hR : R32 x) (hR2 : R32 z) (hd1 : 1 ≤ d) (hl : st.length ≤ 8) (hcl : kc ≤ mc) (hsl : ks ≤ ms) (k : AJ d mc ms y Φ kc ks (pc + 3) L (.inl (max x z) :: st) S M) : AJ d mc ms y Φ kc ks pc L (.inl z :: .inl x :: st) S M := by
  intro r hr l dC dI cA b0 b N xs p e s m args below meth c H locs ls C hW hS hz hL
  have K := k r hr l dC dI cA b0 b N xs p e s m args below meth c H locs ls C hW hS hz hL
  obtain ⟨hx, hb, hrt, hml, hown, hts, hlk, hnm, hSF⟩ := id C
  have K2 : W _ _ _ _ _ _ _ _ _ _ _ _ _ _ _ (F0 m (pc + 3) ls (.int (Int32.ofInt (max x z)) :: st.map (val b0 b))) := K
  refine va_mmax (x := Int32.ofInt x) (y := Int32.ofInt z) hx hb (hml.trans hL.1.symm) (own_of ho hr hown) (hts _ (MW_J ho.1 (lk1_mem hc) _ List.mem_cons_self)) (hts _ (MW_J ho.1 (lk1_mem hc) _ (List.mem_cons_of_mem _ List.mem_cons_self))) (hts _ (MW_J5 List.mem_cons_self)) (hts _ (MW_J5 (List.mem_cons_of_mem _ (List.mem_cons_of_mem _ (List.mem_cons_of_mem _ (List.mem_cons_self)))))) hd1 (by rw [cat_sum b0 b st]; show _ ≤ 40 * d; omega) hcl hsl (hd r hr) ?_
  have e1 : (if Int32.ofInt x < Int32.ofInt z then Int32.ofInt z else Int32.ofInt x) = Int32.ofInt (max x z) := by
    by_cases h : x < z
    · rw [if_pos ((i32_lt hR hR2).mpr h)]; congr 1; omega
    · rw [if_neg (by rw [i32_lt hR hR2]; exact h)]; congr 1; omega
  rw [e1]; exact K2
theorem call_ok {o idx y' np cl : Nat} {st nest ini : Bool} (h : (idx, y', np, st, nest, ini, cl) ∈ calls o) : ∃ r : MRec, mtb[y']? = some r ∧ r ∈ mtb0 ∧ r.2.2.2.2.1 = st ∧ (parseMethodDescriptor r.1.desc).map (fun d => d.parameters.length + (if st then 0 else 1)) = some np ∧ (ini = (r.1.name == "<init>")) ∧ r.2.2.2.2.2 = cl ∧ (nest = true → ∃ host : String, (cnm o, idx, r.1, host) ∈ nests) ∧ (nest = false → o < nCl → Cond.methodLink (cnm o) idx r.1 ∈ MW) := by
  have h1 := okC_all o _ h
  have h2 := fun ho => MW_C (o := o) ho h
  unfold okC at h1
  unfold wC at h2
  dsimp only at h1 h2
  cases hv : mtb[y']? with
  | none => rw [hv] at h1; cases h1
  | some r =>
    rw [hv] at h1 h2
    simp only [Bool.and_eq_true, decide_eq_true_eq, beq_iff_eq, Bool.or_eq_true, Bool.not_eq_true', List.any_eq_true] at h1
    obtain ⟨⟨⟨⟨⟨a1, a2⟩, a3⟩, a4⟩, a5⟩, a6⟩ := h1
    refine ⟨r, rfl, ?_, a2, a3, a4, a5, fun hn => ?_, fun hn ho => h2 ho _ (by rw [hn]; exact List.mem_singleton.mpr rfl)⟩
    · have hv2 : mtb0[y']? = some r := by rw [← hv]; unfold mtb; rw [List.getElem?_append_left a1]
      exact List.mem_of_getElem? hv2
    · rcases a6 with a6 | ⟨q, q1, ⟨q2, q3⟩, q4⟩
      · rw [hn] at a6; cases a6
      · obtain ⟨n1, n2, n3, n4⟩ := q
        dsimp only at q2 q3 q4
        subst q2; subst q3; subst q4
        exact ⟨n4, q1⟩
theorem rec_ok {r : MRec} (h : r ∈ mtb0) : plainName r.1.cls = true ∧ (r.1.cls ≠ "java/lang/invoke/MethodHandle" ∧ r.1.cls ≠ "java/lang/invoke/VarHandle") ∧ r.2.2.1 ≤ 21 ∧ cnm r.2.2.2.2.2 = r.1.cls := by
  have h1 := okR_all r h
  unfold okR at h1
  simp only [Bool.and_eq_true, bne_iff_ne, beq_iff_eq] at h1
  exact ⟨h1.1.1.1.1, ⟨h1.1.1.1.2, h1.1.1.2⟩, Nat.le_of_ble_eq_true h1.1.2, h1.2⟩
theorem SF.to {dC : Nat → ClassId} {dI : Nat → Nat → Nat} {cA : ClassId} {b0 b N : Nat} {xs : Nat → Int32} {s U : State} {H : Heap} {locs : List Loc} (h : SF dC dI cA b0 b N xs s) (hS : va_S (fun q => b0 ≤ q) s.heap H locs) (hU : U.heap = H) (hW : s.WarmedH U.vm) : SF dC dI cA b0 b N xs U := by
  obtain ⟨h1, h2, h3, h4, h5, h6⟩ := h
  refine ⟨va_K.moved hW.alike h1, fun q hq => va_Nw.warmM hW (h2 q hq), ?_, h4, ?_, h6⟩
  · exact va_X.moved hW.alike (va_X.kept h3 (by rw [hU]; exact hS.2.1 b (Nat.lt_of_lt_of_le h4 h5) (Nat.not_le.mpr h4)))
  · rw [hU]; exact Nat.le_trans h5 hS.1
theorem blind_ok {dC : Nat → ClassId} {dI : Nat → Nat → Nat} {cA : ClassId} {b0 b N : Nat} {xs : Nat → Int32} {av : List Value} {S : Ly} {M : Mm} : FrameBlind (va_Pc av (fun U => WD dC dI cA b0 b N xs S M U.heap ∧ SF dC dI cA b0 b N xs U ∧ U.heap.size + 1 = b0 + S.length)) := by
  intro a U g mk q
  obtain ⟨q0, q1, ⟨h1, h2, h3, h4, h5, h6⟩, q3⟩ := q
  exact ⟨q0, q1, ⟨va_K.moved (u := U) (U := U.calling g mk a) (Vm.Alike.refl U.vm) h1, fun q hq => va_Nw.same (u := U) (U := U.calling g mk a) rfl rfl (h2 q hq), va_X.moved (u := U) (U := U.calling g mk a) (Vm.Alike.refl U.vm) h3, h4, h5, h6⟩, q3⟩
theorem am_call {p : Program} {l : Launch} {e : Env} {R : Room} {s : State} {m : MethodId} {args : Array Value} {below : List Frame} {meth : Method} {c : Code} {H : Heap} {locs : List Loc} {kc ks : Nat} {Q : State → Prop} {pc : Nat} {ls : Array Slot} {st0 : List Value} {rest : List Vl} {a : Array Value} {mc' ms' : Nat}
    {dC : Nat → ClassId} {dI : Nat → Nat → Nat} {cA : ClassId} {b0 b N : Nat} {xs : Nat → Int32} {Φ : Option Vl → Ly → Mm → Prop} {S : Ly}
    (hr : va_Run p l e R s m args below meth c H locs kc ks mc' ms' (F0 m pc ls st0) (rest.map (val b0 b)) (QQ mc' dC dI cA b0 b N xs Φ a) (fun q => b0 ≤ q)) (hS : va_S (fun q => b0 ≤ q) s.heap H locs) (hz : s.heap.size + kc + 1 = b0 + S.length) (hH : H.size + 1 = b0 + S.length)
    (kk : ∀ (r : Option Vl) (S' : Ly) (M' : Mm) (H1 : Heap) (locs1 : List Loc), Φ r S' M' → WD dC dI cA b0 b N xs S' M' H1 → va_S (fun q => b0 ≤ q) s.heap H1 locs1 → s.heap.size + (kc + mc') + 1 = b0 + S'.length → W p l e R s m args below meth c H1 locs1 (kc + mc') (ks + ms') Q (F0 m (pc + 3) ls ((pushO r rest).map (val b0 b)))) :
    W p l e R s m args below meth c H locs kc ks Q (F0 m pc ls st0) := by
  intro T hT X
  obtain ⟨v, st₀, t, T', L, h0, X', hL, e1, e2, ⟨⟨r, S', M', hv, hp, hw, hz'⟩, hz2, hk⟩, st⟩ := hr T hT X
  cases hv
  rw [h0] at hz2 hk hz'
  have K := kk r S' M' T'.heap (locs ++ L) hp (by rw [e1]; exact hw) ⟨Nat.le_trans hS.1 (by rw [e1]; exact hz2), fun q h1 h2 => by rw [e1, hk q (Nat.lt_of_lt_of_le h1 hS.1) h2]; exact hS.2.1 q h1 h2, fun q hq => by
      rcases List.mem_append.mp hq with h | h
      · exact hS.2.2 q h
      · exact hL q h⟩ (by omega)
  have e3 : (r.map (val b0 b)).toList ++ rest.map (val b0 b) = (pushO r rest).map (val b0 b) := by cases r <;> rfl
  rw [← e3] at K
  obtain ⟨t2, a1, b1⟩ := K T' rfl X'
  exact ⟨t2, st t2 a1, b1⟩
theorem A_callS {d mc ms y : Nat} {Φ : Option Vl → Ly → Mm → Prop} {kc ks pc : Nat} {L : Lc} {st : List Vl} {S : Ly} {M : Mm} {o idx y' np cl d' mc' ms' : Nat} {nest ini : Bool} {as rest : List Vl} {Φ' : Option Vl → Ly → Mm → Prop} (hd : DC y pc (.invokestatic idx) 3) (ho : OC y o) (hc : lk1 idx (calls o) = some (y', np, true, nest, ini, cl)) (hn : as.length = np) (hl : rest.length ≤ 8) (hd' : d' + 1 ≤ d) (hk1 : kc + mc' ≤ mc) (hk2 : ks + ms' ≤ ms) (hR : Ret d' mc' ms' y' as S M Φ') (k : ∀ (r : Option Vl) (S' : Ly) (M' : Mm), Φ' r S' M' → MOk M' → AJ d mc ms y Φ (kc + mc') (ks + ms') (pc + 3) L (pushO r rest) S' M') : AJ d mc ms y Φ kc ks pc L (as.reverse ++ rest) S M := by
  intro r hr l dC dI cA b0 b N xs p e s m args below meth c H locs ls C hW hS hz hL
  obtain ⟨hx, hb, hrt, hml, hown, hts, hlk, hnm, hSF⟩ := id C
  obtain ⟨r', hr', hm', hst, hpar, hini, hcl, hnest, hlink⟩ := call_ok (lk1_mem hc)
  obtain ⟨hpl, hne, hmx, hcn⟩ := rec_ok hm'
  obtain ⟨w0, w1⟩ := MW_r hm'
  have hM := hR r' hr' l dC dI cA b0 b N xs
  have hgood : GoodIn MW (wMc r' :: MW) := MW_good (fun w hw => by rcases List.mem_cons.mp hw with rfl | hw; exact w0; exact hw)
  intro T0 hT0 X0
  have hsz : H.size + 1 = b0 + S.length := by
    have h1 := stand_size X0
    have h2 := hW.size (Nat.le_trans hSF.2.2.2.2.1 hS.1)
    rw [hT0] at h1
    omega
  refine (?_ : W p l e (rmm d mc ms) s m args below meth c H locs kc ks (MQ below (QQ mc dC dI cA b0 b N xs Φ) args s mc ms (fun q => b0 ≤ q)) (F0 m pc ls (List.map (val b0 b) ((as.reverse ++ rest))))) T0 hT0 X0
  have hU : ∀ U : State, U.heap = H → s.WarmedH U.vm → va_Pc (as.map (val b0 b)) (fun U => WD dC dI cA b0 b N xs S M U.heap ∧ SF dC dI cA b0 b N xs U ∧ U.heap.size + 1 = b0 + S.length) (as.map (val b0 b)).toArray U := fun U hU1 hU2 => ⟨rfl, by rw [hU1]; exact hW, hSF.to hS hU1 hU2, by rw [hU1]; exact hsz⟩
  have hroom : (rmm d' mc' ms').frames + 1 ≤ (rmm d mc ms).frames ∧ 8 + (r'.2.2.1 + 11) + (rmm d' mc' ms').locals ≤ (rmm d mc ms).locals := ⟨hd', by show 8 + (r'.2.2.1 + 11) + 40 * d' ≤ 40 * d; omega⟩
  have hrest : 2 * (F0 m pc ls (List.map (val b0 b) ((as.reverse ++ rest)))).monitorRoom + ((rest.map (val b0 b)).map fun v => v.category).sum ≤ 8 := lv_room (by rw [cat_sum b0 b rest]; exact hl)
  have hgo := fun (r : Option Vl) (S' : Ly) (M' : Mm) (H1 : Heap) (locs1 : List Loc) (hΦ : Φ' r S' M') (hW1 : WD dC dI cA b0 b N xs S' M' H1) (hS1 : va_S (fun q => b0 ≤ q) s.heap H1 locs1) (hz1 : s.heap.size + (kc + mc') + 1 = b0 + S'.length) => k r S' M' hΦ (by obtain ⟨_, _, h3, _⟩ := id hW1; exact h3) _ hr l dC dI cA b0 b N xs p e s m args below meth c H1 locs1 ls C hW1 hS1 hz1 hL
  have hstw : (Cond.static r'.1).before args s = true := hts _ (w1 _ (by unfold wM; rw [hst]; exact List.mem_cons_of_mem _ (List.mem_singleton.mpr rfl)))
  have hiw : (Cond.initialized r'.1.cls).before args s = true := hts _ (w1 _ (by unfold wM; exact List.mem_cons_self))
  have hpar2 : (parseMethodDescriptor r'.1.desc).map (fun d => d.parameters.length) = some np := by simpa using hpar
  have hstk : List.map (val b0 b) (as.reverse ++ rest) = (as.map (val b0 b)).reverse ++ rest.map (val b0 b) := by simp
  cases nest with
  | false => exact am_call (va_runS (As := as.map (val b0 b)) (rest := rest.map (val b0 b)) ⟨hx, hb, hml, own_of ho hr hown, hts⟩ hM ⟨callB_of np hts hgood rfl rfl rfl hiw (hts _ (hlink rfl ho.1)) ⟨hne.1, hne.2, hpar2⟩ hroom, hstw⟩ ⟨blind_ok, hU⟩ rfl (by simpa using hn) hL.1 hstk hrest (hd r hr) ⟨hk1, hk2⟩) hS hz hsz hgo
  | true =>
    obtain ⟨host, hho⟩ := hnest rfl
    exact am_call (va_runSN (As := as.map (val b0 b)) (rest := rest.map (val b0 b)) ⟨hx, hb, hml, own_of ho hr hown, hts⟩ hM ⟨va_cnB np hts hgood rfl rfl rfl (hSF.2.1 _ hho) hiw ⟨hne.1, hne.2, hpar2⟩ hroom, hstw, trivial⟩ ⟨blind_ok, hU⟩ rfl (by simpa using hn) hL.1 hstk hrest (hd r hr) ⟨hk1, hk2⟩) hS hz hsz hgo
theorem A_callV {d mc ms y : Nat} {Φ : Option Vl → Ly → Mm → Prop} {kc ks pc : Nat} {L : Lc} {st : List Vl} {S : Ly} {M : Mm} {o idx y' np cl d' mc' ms' : Nat} {nest ini : Bool} {as rest : List Vl} {Φ' : Option Vl → Ly → Mm → Prop} {a : Nat} {asr : List Vl} {fs : List Fk} (hd : DC y pc (.invokevirtual idx) 3) (ho : OC y o) (hc : lk1 idx (calls o) = some (y', np, false, false, false, cl)) (has : as = .inr a :: asr) (hn : as.length = np) (hs : shp S a = some (.inr (cl, fs))) (hl : rest.length ≤ 8) (hd' : d' + 1 ≤ d) (hk1 : kc + mc' ≤ mc) (hk2 : ks + ms' ≤ ms) (hR : Ret d' mc' ms' y' as S M Φ') (k : ∀ (r : Option Vl) (S' : Ly) (M' : Mm), Φ' r S' M' → MOk M' → AJ d mc ms y Φ (kc + mc') (ks + ms') (pc + 3) L (pushO r rest) S' M') : AJ d mc ms y Φ kc ks pc L (as.reverse ++ rest) S M := by
  intro r hr l dC dI cA b0 b N xs p e s m args below meth c H locs ls C hW hS hz hL
  obtain ⟨hx, hb, hrt, hml, hown, hts, hlk, hnm, hSF⟩ := id C
  obtain ⟨r', hr', hm', hst, hpar, hini, hcl, hnest, hlink⟩ := call_ok (lk1_mem hc)
  obtain ⟨hpl, hne, hmx, hcn⟩ := rec_ok hm'
  obtain ⟨w0, w1⟩ := MW_r hm'
  have hM := hR r' hr' l dC dI cA b0 b N xs
  have hgood : GoodIn MW (wMc r' :: MW) := MW_good (fun w hw => by rcases List.mem_cons.mp hw with rfl | hw; exact w0; exact hw)
  intro T0 hT0 X0
  have hsz : H.size + 1 = b0 + S.length := by
    have h1 := stand_size X0
    have h2 := hW.size (Nat.le_trans hSF.2.2.2.2.1 hS.1)
    rw [hT0] at h1
    omega
  refine (?_ : W p l e (rmm d mc ms) s m args below meth c H locs kc ks (MQ below (QQ mc dC dI cA b0 b N xs Φ) args s mc ms (fun q => b0 ≤ q)) (F0 m pc ls (List.map (val b0 b) ((as.reverse ++ rest))))) T0 hT0 X0
  have hU : ∀ U : State, U.heap = H → s.WarmedH U.vm → va_Pc (as.map (val b0 b)) (fun U => WD dC dI cA b0 b N xs S M U.heap ∧ SF dC dI cA b0 b N xs U ∧ U.heap.size + 1 = b0 + S.length) (as.map (val b0 b)).toArray U := fun U hU1 hU2 => ⟨rfl, by rw [hU1]; exact hW, hSF.to hS hU1 hU2, by rw [hU1]; exact hsz⟩
  have hroom : (rmm d' mc' ms').frames + 1 ≤ (rmm d mc ms).frames ∧ 8 + (r'.2.2.1 + 11) + (rmm d' mc' ms').locals ≤ (rmm d mc ms).locals := ⟨hd', by show 8 + (r'.2.2.1 + 11) + 40 * d' ≤ 40 * d; omega⟩
  have hrest : 2 * (F0 m pc ls (List.map (val b0 b) ((as.reverse ++ rest)))).monitorRoom + ((rest.map (val b0 b)).map fun v => v.category).sum ≤ 8 := lv_room (by rw [cat_sum b0 b rest]; exact hl)
  have hgo := fun (r : Option Vl) (S' : Ly) (M' : Mm) (H1 : Heap) (locs1 : List Loc) (hΦ : Φ' r S' M') (hW1 : WD dC dI cA b0 b N xs S' M' H1) (hS1 : va_S (fun q => b0 ≤ q) s.heap H1 locs1) (hz1 : s.heap.size + (kc + mc') + 1 = b0 + S'.length) => k r S' M' hΦ (by obtain ⟨_, _, h3, _⟩ := id hW1; exact h3) _ hr l dC dI cA b0 b N xs p e s m args below meth c H1 locs1 ls C hW1 hS1 hz1 hL
  subst has
  have hninit : r'.1.name ≠ "<init>" := by intro h; rw [h] at hini; simp at hini
  have hwm : wM r' = [.initialized r'.1.cls, .instanceMethod r'.1, .selects r'.1.cls r'.1 r'.1] := by unfold wM; rw [hst, if_neg hninit]; rfl
  have hpar2 : (parseMethodDescriptor r'.1.desc).map (fun d => d.parameters.length) = some asr.length := by
    cases hp : parseMethodDescriptor r'.1.desc with
    | none => rw [hp] at hpar; cases hpar
    | some dd => rw [hp] at hpar; simp at hpar hn ⊢; omega
  have hstk : List.map (val b0 b) ((.inr a :: asr).reverse ++ rest) = (asr.map (val b0 b)).reverse ++ .ref (adr b0 b a) :: rest.map (val b0 b) := by simp [val]
  obtain ⟨T, q, rfl, rfl, hT, hP, he⟩ := hW.cell hs (hW.obj hs)
  have hcv : vwCl[cl]? = some (r'.1.cls, (vwCl[cl]?.getD ("", fun _ => ("", "", "", false), 0)).2) := by
    obtain ⟨q', h1, -⟩ := hP q _ he
    have h2 := cnm_ok cl q' h1
    rw [h1]
    obtain ⟨n1, n2⟩ := q'
    dsimp only at h2 ⊢
    rw [← hcn, hcl, h2]; rfl
  have hrv := va_recv (s := s) hSF.1 hP hcv he
  refine am_call (va_runV (b := adr b0 b (q + 1)) (As := asr.map (val b0 b)) (rest := rest.map (val b0 b)) ⟨hx, hb, hml, own_of ho hr hown, hts⟩ hM (cwV (C := r'.1.cls) asr.length hts (MW_good ?_) rfl rfl rfl ⟨rfl, hne.1, hne.2, hpar2⟩ hroom) ⟨blind_ok, hrv, hU⟩ rfl (by simp) hL.1 hstk hrest (hd r hr) ⟨hk1, hk2⟩) hS hz hsz hgo
  intro w hw
  unfold wsV at hw
  simp only [List.mem_append, List.mem_cons, List.not_mem_nil, or_false] at hw
  rcases hw with (rfl | rfl | rfl | rfl) | rfl | hw
  · exact hlink rfl ho.1
  · exact w1 _ (by rw [hwm]; simp)
  · exact w1 _ (by rw [hwm]; simp)
  · exact w1 _ (by rw [hwm]; simp)
  · exact w0
  · exact hw
theorem A_callI {d mc ms y : Nat} {Φ : Option Vl → Ly → Mm → Prop} {kc ks pc : Nat} {L : Lc} {st : List Vl} {S : Ly} {M : Mm} {o idx y' np cl d' mc' ms' : Nat} {nest ini : Bool} {as rest : List Vl} {Φ' : Option Vl → Ly → Mm → Prop} {a : Nat} {asr : List Vl} (hd : DC y pc (.invokespecial idx) 3) (ho : OC y o) (hc : lk1 idx (calls o) = some (y', np, false, nest, true, cl)) (has : as = .inr a :: asr) (hn : as.length = np) (hret : ∀ r : MRec, mtb[y']? = some r → r.2.2.2.1 = none) (hl : rest.length ≤ 8) (hd' : d' + 1 ≤ d) (hk1 : kc + mc' ≤ mc) (hk2 : ks + ms' ≤ ms) (hR : Ret d' mc' ms' y' as S M Φ') (k : ∀ (r : Option Vl) (S' : Ly) (M' : Mm), Φ' r S' M' → MOk M' → AJ d mc ms y Φ (kc + mc') (ks + ms') (pc + 3) L (pushO r rest) S' M') : AJ d mc ms y Φ kc ks pc L (as.reverse ++ rest) S M := by
  intro r hr l dC dI cA b0 b N xs p e s m args below meth c H locs ls C hW hS hz hL
  obtain ⟨hx, hb, hrt, hml, hown, hts, hlk, hnm, hSF⟩ := id C
  obtain ⟨r', hr', hm', hst, hpar, hini, hcl, hnest, hlink⟩ := call_ok (lk1_mem hc)
  obtain ⟨hpl, hne, hmx, hcn⟩ := rec_ok hm'
  obtain ⟨w0, w1⟩ := MW_r hm'
  have hM := hR r' hr' l dC dI cA b0 b N xs
  have hgood : GoodIn MW (wMc r' :: MW) := MW_good (fun w hw => by rcases List.mem_cons.mp hw with rfl | hw; exact w0; exact hw)
  intro T0 hT0 X0
  have hsz : H.size + 1 = b0 + S.length := by
    have h1 := stand_size X0
    have h2 := hW.size (Nat.le_trans hSF.2.2.2.2.1 hS.1)
    rw [hT0] at h1
    omega
  refine (?_ : W p l e (rmm d mc ms) s m args below meth c H locs kc ks (MQ below (QQ mc dC dI cA b0 b N xs Φ) args s mc ms (fun q => b0 ≤ q)) (F0 m pc ls (List.map (val b0 b) ((as.reverse ++ rest))))) T0 hT0 X0
  have hU : ∀ U : State, U.heap = H → s.WarmedH U.vm → va_Pc (as.map (val b0 b)) (fun U => WD dC dI cA b0 b N xs S M U.heap ∧ SF dC dI cA b0 b N xs U ∧ U.heap.size + 1 = b0 + S.length) (as.map (val b0 b)).toArray U := fun U hU1 hU2 => ⟨rfl, by rw [hU1]; exact hW, hSF.to hS hU1 hU2, by rw [hU1]; exact hsz⟩
  have hroom : (rmm d' mc' ms').frames + 1 ≤ (rmm d mc ms).frames ∧ 8 + (r'.2.2.1 + 11) + (rmm d' mc' ms').locals ≤ (rmm d mc ms).locals := ⟨hd', by show 8 + (r'.2.2.1 + 11) + 40 * d' ≤ 40 * d; omega⟩
  have hrest : 2 * (F0 m pc ls (List.map (val b0 b) ((as.reverse ++ rest)))).monitorRoom + ((rest.map (val b0 b)).map fun v => v.category).sum ≤ 8 := lv_room (by rw [cat_sum b0 b rest]; exact hl)
  have hgo := fun (r : Option Vl) (S' : Ly) (M' : Mm) (H1 : Heap) (locs1 : List Loc) (hΦ : Φ' r S' M') (hW1 : WD dC dI cA b0 b N xs S' M' H1) (hS1 : va_S (fun q => b0 ≤ q) s.heap H1 locs1) (hz1 : s.heap.size + (kc + mc') + 1 = b0 + S'.length) => k r S' M' hΦ (by obtain ⟨_, _, h3, _⟩ := id hW1; exact h3) _ hr l dC dI cA b0 b N xs p e s m args below meth c H1 locs1 ls C hW1 hS1 hz1 hL
  subst has
  have hinit : r'.1.name = "<init>" := by simpa using hini.symm
  have hwm : wM r' = [.initialized r'.1.cls, .instanceMethod r'.1] := by unfold wM; rw [hst, if_pos hinit]; rfl
  have hpar2 : (parseMethodDescriptor r'.1.desc).map (fun d => d.parameters.length) = some asr.length := by
    cases hp : parseMethodDescriptor r'.1.desc with
    | none => rw [hp] at hpar; cases hpar
    | some dd => rw [hp] at hpar; simp at hpar hn ⊢; omega
  have hstk : List.map (val b0 b) ((.inr a :: asr).reverse ++ rest) = (asr.map (val b0 b)).reverse ++ .ref (adr b0 b a) :: rest.map (val b0 b) := by simp [val]
  have hiw : (Cond.initialized r'.1.cls).before args s = true := hts _ (w1 _ (by rw [hwm]; simp))
  have hmw : (Cond.instanceMethod r'.1).before args s = true := hts _ (w1 _ (by rw [hwm]; simp))
  have hret := hret r' hr'
  have hcw : (wMc r' :: MW) = Cond.code r'.1 r'.2.1 r'.2.2.1 none :: MW := by unfold wMc; rw [hret]
  cases nest with
  | false => exact am_call (va_runI (b := adr b0 b a) (As := asr.map (val b0 b)) (rest := rest.map (val b0 b)) ⟨hx, hb, hml, own_of ho hr hown, hts⟩ hM ⟨callB_of asr.length hts hgood hcw rfl rfl hiw (hts _ (hlink rfl ho.1)) ⟨hne.1, hne.2, hpar2⟩ hroom, hinit, hmw⟩ ⟨blind_ok, hU⟩ rfl (by simp) hL.1 hstk hrest (hd r hr) ⟨hk1, hk2⟩) hS hz hsz hgo
  | true =>
    obtain ⟨host, hho⟩ := hnest rfl
    exact am_call (va_runIN (b := adr b0 b a) (As := asr.map (val b0 b)) (rest := rest.map (val b0 b)) ⟨hx, hb, hml, own_of ho hr hown, hts⟩ hM ⟨va_cnB asr.length hts hgood hcw rfl rfl (hSF.2.1 _ hho) hiw ⟨hne.1, hne.2, hpar2⟩ hroom, hinit, hmw⟩ ⟨blind_ok, hU⟩ rfl (by simp) hL.1 hstk hrest (hd r hr) ⟨hk1, hk2⟩) hS hz hsz hgo
theorem args_LV (b0 b : Nat) : ∀ (as : List Vl) (i0 i : Nat) (v : Vl), getL (as.map some) i = some v → (i0 + i, val b0 b v) ∈ lv_args i0 (as.map (val b0 b)) := by
  intro as
  induction as with
  | nil => intro i0 i v h; cases h
  | cons w t ih =>
    intro i0 i v h
    have hc : (val b0 b w).category = 1 := by cases w <;> rfl
    simp only [List.map_cons, lv_args]
    rw [if_neg (by rw [hc]; decide)]
    cases i with
    | zero => simp [getL] at h; subst h; exact List.mem_cons_self
    | succ i =>
      have h1 := ih (i0 + 1) i v h
      rw [show i0 + 1 + i = i0 + (i + 1) by omega] at h1
      exact List.mem_cons_of_mem _ h1
theorem lg_len (b0 b : Nat) : ∀ as : List Vl, (lg_sl (as.map (val b0 b))).length = as.length := by
  intro as
  induction as with
  | nil => rfl
  | cons w t ih =>
    have hc : (val b0 b w).category = 1 := by cases w <;> rfl
    unfold lg_sl at ih ⊢
    simp only [List.map_cons, List.flatMap_cons, List.length_append, ih, List.length_cons]
    rw [if_neg (by rw [hc]; decide)]
    simp; omega
theorem Ret.ofAJ {d mc ms y : Nat} {as : List Vl} {S : Ly} {M : Mm} {Φ : Option Vl → Ly → Mm → Prop} (hy : y < mtb0.length) (hn : ∀ r : MRec, mtb[y]? = some r → as.length ≤ r.2.2.1) (h : MOk M → AJ d mc ms y Φ 0 0 0 (as.map some) [] S M) : Ret d mc ms y as S M Φ := by
  intro r hr l dC dI cA b0 b N xs
  have hm : r ∈ mtb0 := by
    have hv2 : mtb0[y]? = some r := by rw [← hr]; unfold mtb; rw [List.getElem?_append_left hy]
    exact List.mem_of_getElem? hv2
  obtain ⟨hpl, hne, hmx, hcn⟩ := rec_ok hm
  refine Met.ofW (cc := r.2.1) (maxL := r.2.2.1) (ret := r.2.2.2.1) hpl rfl ?_
  intro p e s m args below meth c s₁ B hml hv
  obtain ⟨rfl, hW, hSF, hsz⟩ := hv
  have hts := atoms_spec (ws := wMc r :: MW) B.pre
  have hl := lv_entry (as.map (val b0 b)) (n := r.2.2.1) (by rw [lg_len]; exact hn r hr)
  rw [lg_entry_eq]
  generalize (lg_sl (as.map (val b0 b)) ++ List.replicate (r.2.2.1 - (lg_sl (as.map (val b0 b))).length) Slot.unset).toArray = ls at hl ⊢
  refine AJ.MOk_ h r hr l dC dI cA b0 b N xs p e s m _ below meth c s.heap [] ls ⟨B.exec, B.bytes, B.returns, hml, ?_, fun w hw => hts w (List.mem_cons_of_mem _ hw), B.notSynchronized, (name_of_methodNamed B.named B.method).1, hSF⟩ hW va_S.rf hsz ⟨hl.1, hl.2.1, fun i v hi => ?_⟩
  · rw [hcn]; exact findClass_of_methodNamed B.named
  · have h1 := args_LV b0 b as 0 i v hi
    rw [Nat.zero_add] at h1
    exact hl.2.2 _ h1
theorem ent_z {b0 b : Nat} {cA : ClassId} {M : Mm} {a k : Nat} (h : k ≠ a) (sh : Sh) : ent b0 b cA (mzero M a) k sh = ent b0 b cA M k sh := by
  cases sh with
  | inl n => simp [ent, mzero, h]
  | inr q =>
    have : (fun (j : Nat) (f : Fk) => fv b0 b (mzero M a) k j f) = fun j f => fv b0 b M k j f := by
      funext j f
      cases f <;> simp [fv, mzero, h]
    simp [ent, this]
theorem wl_push {b0 b : Nat} {cA : ClassId} {T : Ly} {M : Mm} {sh : Sh} : wl b0 b cA (T ++ [sh]) (mzero M (T.length + 1)) = wl b0 b cA T M ++ [(b0 + T.length, ent b0 b cA (mzero M (T.length + 1)) (T.length + 1) sh)] := by
  apply List.ext_getElem?
  intro k
  rw [wl_get]
  by_cases hk : k < T.length
  · rw [List.getElem?_append_left hk, List.getElem?_append_left (by simpa [wl] using hk), wl_get]
    cases T[k]? with
    | none => rfl
    | some s2 => simp only [Option.map_some]; rw [ent_z (by omega)]
  · rw [List.getElem?_append_right (by omega), List.getElem?_append_right (by simp [wl]; omega)]
    have hl : (wl b0 b cA T M).length = T.length := by simp [wl]
    rw [hl]
    by_cases h0 : k - T.length = 0
    · rw [h0]
      have : k = T.length := by omega
      subst this
      rfl
    · have : ∃ j, k - T.length = j + 1 := ⟨k - T.length - 1, by omega⟩
      obtain ⟨j, hj⟩ := this
      rw [hj]; rfl
theorem wl_fresh {b0 b : Nat} {cA : ClassId} {T : Ly} {M : Mm} {q : Nat} {E : va_E} {H1 : Heap} {dC : Nat → ClassId} {dI : Nat → Nat → Nat} (hP : va_P (dC, dI) vwCl (wl b0 b cA T M ++ [(q, E)]) H1) (hD : va_D (fun q => b0 ≤ q) (wl b0 b cA T M ++ [(q, E)])) (hz : H1.size ≤ b0 + T.length + 1) : q = b0 + T.length := by
  have hl : (wl b0 b cA T M).length = T.length := by simp [wl]
  have hq : (wl b0 b cA T M ++ [(q, E)])[T.length]? = some (q, E) := by rw [List.getElem?_append_right (by omega), hl]; simp
  have h1 := (hP _ _ hq).lt
  have h2 : b0 ≤ q := hD.2 _ _ hq
  dsimp only at h1
  by_cases h : q = b0 + T.length
  · exact h
  · have hlt : q - b0 < T.length := by omega
    have h3 : (wl b0 b cA T M ++ [(q, E)])[q - b0]? = some (b0 + (q - b0), ent b0 b cA M (q - b0 + 1) T[q - b0]) := by
      rw [List.getElem?_append_left (by omega), wl_get, List.getElem?_eq_getElem hlt]; rfl
    have h4 := hD.1 _ _ _ _ hq h3 (by dsimp only; omega)
    omega
theorem WD.push {dC : Nat → ClassId} {dI : Nat → Nat → Nat} {cA : ClassId} {b0 b N : Nat} {xs : Nat → Int32} {T : Ly} {M : Mm} {H H1 : Heap} {sh : Sh} (h : WD dC dI cA b0 b N xs (.inl N :: T) M H) (hP : va_P (dC, dI) vwCl (wl b0 b cA T M ++ [(b0 + T.length, ent b0 b cA (mzero M (T.length + 1)) (T.length + 1) sh)]) H1) : WD dC dI cA b0 b N xs (.inl N :: T ++ [sh]) (mzero M (T.length + 1)) H1 := by
  obtain ⟨T', e1, h3, h4, h5⟩ := h
  cases e1
  refine ⟨T ++ [sh], rfl, fun k j => ?_, fun j hj => ?_, by rw [wl_push]; exact hP⟩
  · unfold mzero; split
    · omega
    · exact h3 k j
  · rw [← h4 j hj]; simp [mzero]
theorem A_newarr {d mc ms y : Nat} {Φ : Option Vl → Ly → Mm → Prop} {kc ks pc : Nat} {L : Lc} {st : List Vl} {S : Ly} {M : Mm} {n : Nat} (hd : DC y pc (.newarray .int) 2) (hn : n ≤ 100000) (hk1 : kc + 1 ≤ mc) (hk2 : ks + n ≤ ms) (k : AJ d mc ms y Φ (kc + 1) (ks + n) (pc + 2) L (.inr S.length :: st) (S ++ [.inl n]) (mzero M S.length)) : AJ d mc ms y Φ kc ks pc L (.inl (n : Int) :: st) S M := by
  intro r hr l dC dI cA b0 b N xs p e s m args below meth c H locs ls C hW hS hz hL
  obtain ⟨hx, hb, hrt, hml, hown, hts, hlk, hnm, hSF⟩ := id C
  obtain ⟨T, rfl, h3, h4, hP⟩ := id hW
  have hRn : R32 (n : Int) := by constructor <;> omega
  refine va_newa (atype := .int) hx hb (hts _ (MW_X (List.mem_cons_of_mem _ (List.mem_cons_of_mem _ List.mem_cons_self)))) rfl hSF.1 hP (wl_D b0 b cA T M) hS (fun q hq => Nat.le_trans hSF.2.2.2.2.1 hq) (n := Int32.ofInt n) (N' := n) (a0 := (n, .inl (fun _ => 0))) (fun cA => rfl) (by rw [i32_zero, i32_lt hRn (by omega)]; omega) (by rw [i32_nat hRn]; simp) (by show n * 4 ≤ 536870912; omega) hk1 hk2 (hd r hr) (fun q cA' H1 hK1 hP1 hD1 hS1 => ?_)
  have hcA : cA' = cA := by
    have g1 : s.vm.findClass ("[" ++ FieldType.int.toString) = some cA := (hSF.1.2 0 _ rfl).2
    have g2 : s.vm.findClass ("[" ++ FieldType.int.toString) = some cA' := (hK1.2 1 _ rfl).2
    exact Option.some.inj (g2.symm.trans g1)
  subst hcA
  intro T1 hT1 X1
  have hq : q = b0 + T.length := wl_fresh hP1 hD1 (by
    have g1 := stand_size X1
    rw [hT1] at g1
    simp only [List.length_cons] at hz
    omega)
  subst hq
  have hE : ent b0 b cA' (mzero M (T.length + 1)) (T.length + 1) (.inl n) = .inl (cA', n, .inl (fun _ => 0)) := by
    show Sum.inl (cA', n, Sum.inl _) = Sum.inl (cA', n, Sum.inl _)
    apply congrArg (fun g => Sum.inl (cA', n, Sum.inl g))
    funext j
    simp only [mzero, if_pos]
    decide +kernel
  rw [← hE] at hP1
  have hW1 := hW.push hP1
  exact k r hr l dC dI cA' b0 b N xs p e s m args below meth c H1 locs ls C hW1 hS1 (by simp only [List.length_cons, List.length_append, List.length_nil] at hz ⊢; omega) hL T1 hT1 X1
def dfv : List Fk → Nat → Value := fun fs j => match fs[j]? with
  | some none => .int 0
  | _ => .null
theorem A_new {d mc ms y : Nat} {Φ : Option Vl → Ly → Mm → Prop} {kc ks pc : Nat} {L : Lc} {st : List Vl} {S : Ly} {M : Mm} {o idx ci : Nat} {q : vw_C} {fs : List Fk} (hd : DC y pc (.new idx) 3) (ho : OC y o) (hn : lk1 idx (news o) = some ci) (hq : vwCl[ci]? = some q) (hfl : fs.length = q.2.2) (hfs : ∀ j, j < q.2.2 → (parseFieldDescriptor (q.2.1 j).2.2.1).map defaultValue = some (dfv fs j)) (hf2 : ∀ f ∈ fs, f = none ∨ f = some none) (hk1 : kc + 1 ≤ mc) (hk2 : ks + q.2.2 ≤ ms) (k : AJ d mc ms y Φ (kc + 1) (ks + q.2.2) (pc + 3) L (.inr S.length :: st) (S ++ [.inr (ci, fs)]) (mzero M S.length)) : AJ d mc ms y Φ kc ks pc L st S M := by
  intro r hr l dC dI cA b0 b N xs p e s m args below meth c H locs ls C hW hS hz hL
  obtain ⟨hx, hb, hrt, hml, hown, hts, hlk, hnm, hSF⟩ := id C
  obtain ⟨T, rfl, h3, h4, hP⟩ := id hW
  obtain ⟨C0, Tt, N0⟩ := q
  obtain ⟨ty0, hty, hnmz⟩ := cls_ok ci _ hq
  have hw := MW_N ho.1 (lk1_mem hn)
  unfold wN at hw
  rw [hq] at hw
  have hE : ent b0 b cA (mzero M (T.length + 1)) (T.length + 1) (.inr (ci, fs)) = .inr (ci, fs.mapIdx (fun j f => fv b0 b (mzero M (T.length + 1)) (T.length + 1) j f)) := rfl
  refine va_new (ci := ci) (fs := fs.mapIdx (fun j f => fv b0 b (mzero M (T.length + 1)) (T.length + 1) j f)) (C := C0) (T := Tt) (N := N0) hx hb hts (cls_in hq) ty0 hty (own_of ho hr hown) (hts _ (hw _ (by simp))) (hts _ (hw _ (by simp))) (hts _ (hw _ (by simp))) hSF.1 hP (wl_D b0 b cA T M) hS (fun q hq => Nat.le_trans hSF.2.2.2.2.1 hq) hq (fun j hj => ?_) hk1 hk2 (hd r hr) (fun q H1 hP1 hD1 hS1 => ?_)
  · have g1 := hfs j hj
    have g3 := hty j hj
    dsimp only at g1 g3
    rw [g3] at g1
    rw [Option.some.inj g1]
    unfold dfv vp_V
    have hjl : j < fs.length := by rw [hfl]; exact hj
    have g2 : fs[j]? = some fs[j] := List.getElem?_eq_getElem hjl
    rw [List.getD_eq_getElem?_getD, List.getElem?_mapIdx, g2]
    rcases hf2 fs[j] (List.getElem_mem hjl) with g | g
    · rw [g]; simp [fv, mzero]
    · rw [g]; rfl
  · intro T1 hT1 X1
    have hq : q = b0 + T.length := wl_fresh hP1 hD1 (by
      have g1 := stand_size X1
      rw [hT1] at g1
      simp only [List.length_cons] at hz
      omega)
    subst hq
    have hW1 := hW.push (sh := .inr (ci, fs)) (by rw [hE]; exact hP1)
    exact k r hr l dC dI cA b0 b N xs p e s m args below meth c H1 locs ls C hW1 hS1 (by simp only [List.length_cons, List.length_append, List.length_nil] at hz ⊢; omega) hL T1 hT1 X1
theorem WD.putR {dC : Nat → ClassId} {dI : Nat → Nat → Nat} {cA : ClassId} {b0 b N : Nat} {xs : Nat → Int32} {T : Ly} {M : Mm} {H H1 : Heap} {q : Nat} {ci kf rr : Nat} {fs : List Fk} (h : WD dC dI cA b0 b N xs (.inl N :: T) M H) (hT : T[q]? = some (.inr (ci, fs))) (hk : kf < fs.length)
    (hP : va_P (dC, dI) vwCl ((wl b0 b cA T M).set q (b0 + q, .inr (ci, (fs.mapIdx (fun j f => fv b0 b M (q + 1) j f)).set kf (.ref (adr b0 b rr))))) H1) : WD dC dI cA b0 b N xs (setF (.inl N :: T) (q + 1) kf (some (some rr))) M H1 := by
  obtain ⟨T', e1, h3, h4, h5⟩ := h
  cases e1
  have hs := setF_eq T q kf (some (some rr)) _ hT
  refine ⟨setF T q kf (some (some rr)), rfl, h3, h4, ?_⟩
  rw [hs]
  have hlt : q < T.length := (List.getElem?_eq_some_iff.mp hT).1
  have e : (wl b0 b cA T M).set q (b0 + q, .inr (ci, (fs.mapIdx (fun j f => fv b0 b M (q + 1) j f)).set kf (.ref (adr b0 b rr)))) = wl b0 b cA (T.set q (.inr (ci, fs.set kf (some (some rr))))) M := by
    apply List.ext_getElem?
    intro k
    rw [wl_get, List.getElem?_set, List.getElem?_set]
    by_cases hkq : q = k
    · subst hkq
      rw [if_pos rfl, if_pos rfl, if_pos (by simpa [wl] using hlt), if_pos hlt]
      simp only [Option.map_some, ent]
      congr 4
      apply List.ext_getElem?
      intro j
      rw [List.getElem?_set, List.getElem?_mapIdx, List.getElem?_mapIdx, List.getElem?_set]
      by_cases hj : kf = j
      · subst hj
        rw [if_pos rfl, if_pos rfl, if_pos (by simpa using hk), if_pos hk]
        rfl
      · rw [if_neg hj, if_neg hj]
    · rw [if_neg hkq, if_neg hkq, wl_get]
  rw [← e]; exact hP
theorem A_putR {d mc ms y : Nat} {Φ : Option Vl → Ly → Mm → Prop} {kc ks pc : Nat} {L : Lc} {st : List Vl} {S : Ly} {M : Mm} {o idx a ci kf tk rr : Nat} {kI : Int} {fs : List Fk} (hd : DC y pc (.putfield idx) 3) (ho : OC y o) (hf : lk1 idx (flds o) = some (ci, kf, kI, true, tk)) (hs : shp S a = some (.inr (ci, fs))) (hkl : kf < fs.length) (htk : tk = 2) (hfi : o = ci ∧ ∀ r : MRec, mtb[y]? = some r → r.1.name = "<init>") (k : AJ d mc ms y Φ kc ks (pc + 3) L st (setF S a kf (some (some rr))) M) : AJ d mc ms y Φ kc ks pc L (.inr rr :: .inr a :: st) S M := by
  intro r hr l dC dI cA b0 b N xs p e s m args below meth c H locs ls C hW hS hz hL
  obtain ⟨hx, hb, hrt, hml, hown, hts, hlk, hnm, hSF⟩ := id C
  obtain ⟨T, q, rfl, rfl, hT, hP, he⟩ := hW.cell hs (hW.obj hs)
  obtain ⟨C0, Tt, N0, ty, hc, hkN, hl, hfin, hpd, hkd, hC, hkI⟩ := fld_ok ho.1 (lk1_mem hf)
  obtain ⟨ty0, hty, hnmz⟩ := cls_ok ci _ hc
  have hn : narrow ty (.ref (adr b0 b rr)) = .ref (adr b0 b rr) ∧ fits ty (.ref (adr b0 b rr)) = true := by
    cases ty with
    | object _ => exact ⟨rfl, rfl⟩
    | array _ => exact ⟨rfl, rfl⟩
    | _ => exact absurd hkd (by intro h; simp [kdf] at h; omega)
  obtain ⟨hoc, hini⟩ := hfi
  subst hoc
  refine va_putF (D := (dC, dI)) (ci := o) (C := C0) (T := Tt) (N := N0) hx hb hts (cls_in hc) ty0 hty hnmz (own_of ho hr hown) hSF.1 hP (wl_D b0 b cA T M) hS q he hc kf hkN (hts _ hl) (fun _ h9 => h9) hfin (hnm.trans (hini r hr)) (by rw [hC]; exact (cnm_ok o _ hc).symm) (ty := ty) (v := .ref (adr b0 b rr)) hpd hn.1 hn.2 (by simpa using hkl) (hd r hr) (fun H1 locs1 hP1 _ hS1 => ?_)
  refine k r hr l dC dI cA b0 b N xs p e s m args below meth c H1 locs1 ls C (hW.putR hT hkl hP1) hS1 ?_ hL
  have hs2 := setF_eq T q kf (some (some rr)) _ hT
  show _ = b0 + (Sum.inl N :: setF T q kf (some (some rr))).length
  rw [hs2]
  simpa using hz
/-! ===== wp: the rows by program ===== -/
abbrev En : Type := Nat × Instr × Nat × List (Int × Nat)
def CL (d y : Nat) (as : List Vl) (S : Ly) (M : Mm) (K : Option Vl → Ly → Mm → Prop) : Prop :=
  ∃ (d' : Nat) (Φ' : Option Vl → Ly → Mm → Prop), d' + 1 ≤ d ∧ Ret d' 0 0 y as S M Φ' ∧ ∀ (r : Option Vl) (S' : Ly) (M' : Mm), Φ' r S' M' → MOk M' → K r S' M'
def iln : Instr → Nat
  | .aload_n _ => 1 | .iload_n _ => 1 | .astore_n _ => 1 | .istore_n _ => 1 | .aload _ => 2 | .iload _ => 2 | .astore _ => 2 | .istore _ => 2
  | .iinc _ _ => 3 | .iconst _ => 1 | .bipush _ => 2 | .sipush _ => 3 | .ldc _ => 2 | .iadd => 1 | .isub => 1 | .imul => 1 | .ineg => 1 | .iand => 1 | .ishl => 1 | .ishr => 1
  | .idiv => 1 | .irem => 1 | .dup => 1 | .getfield _ => 3 | .putfield _ => 3 | .iaload => 1 | .iastore => 1 | .arraylength => 1 | .goto _ => 3 | .ifCond _ _ => 3 | .if_icmp _ _ => 3
  | .ireturn => 1 | .areturn => 1 | .return_ => 1 | .invokevirtual _ => 3 | .invokestatic _ => 3 | .invokespecial _ => 3 | .new _ => 3 | .newarray _ => 2 | _ => 0
def chk (nL pc : Nat) (ax : List (Int × Nat)) : Instr → Bool
  | .istore_n k => Nat.blt k.val nL
  | .astore_n k => Nat.blt k.val nL
  | .istore k => Nat.blt k nL
  | .astore k => Nat.blt k nL
  | .iinc k _ => Nat.blt k nL
  | .bipush n => decide (-128 ≤ n) && decide (n ≤ 127)
  | .sipush n => decide (-32768 ≤ n) && decide (n ≤ 32767)
  | .goto off => match ax with | (_, t) :: _ => decide ((pc : Int) + off = (t : Int)) | _ => false
  | .ifCond _ off => match ax with | (_, t) :: _ => decide ((pc : Int) + off = (t : Int)) | _ => false
  | .if_icmp _ off => match ax with | (_, t) :: _ => decide ((pc : Int) + off = (t : Int)) | _ => false
  | .tableswitch dd lo hi offs => match ax with
    | (_, t) :: tl => decide ((pc : Int) + dd = (t : Int)) && decide (hi + 1 = lo + offs.size) && (List.range offs.size).all (fun j => match offs[j]?, tl[j]? with
      | some o1, some (v, t) => decide ((pc : Int) + o1 = (t : Int)) && decide (v = lo + j)
      | _, _ => false)
    | _ => false
  | _ => true
def isTs : Instr → Bool
  | .tableswitch .. => true
  | _ => false
def okE (cc : ByteArray) (nL : Nat) (e : En) : Bool := decide (decode cc e.1 = .ok (e.2.1, e.2.2.1 - e.1)) && (isTs e.2.1 || decide (e.2.2.1 = e.1 + iln e.2.1)) && chk nL e.1 e.2.2.2 e.2.1
def MO (y o : Nat) (isI : Bool) (rt : Option FieldType) (P : List En) : Prop := ∃ r : MRec, mtb[y]? = some r ∧ r.2.2.2.2.2 = o ∧ o < nCl ∧ r.2.2.2.1 = rt ∧ (isI = true → r.1.name = "<init>") ∧ P.all (okE r.2.1 r.2.2.1) = true
def okPut (isI fin : Bool) (o ci tk : Nat) (x : Int) : Prop := match tk with
  | 0 => (bif fin then (bif isI && Nat.beq o ci then True else False) else True)
  | 1 => (x = 0 ∨ x = 1) ∧ (bif fin then (bif isI && Nat.beq o ci then True else False) else True)
  | _ => False
def stp (d y o : Nat) (isI fin : Bool) (rt : Option FieldType) (Φ : Option Vl → Ly → Mm → Prop) (i : Instr) (nx : Nat) (ax : List (Int × Nat)) (L : Lc) (st : List Vl) (S : Ly) (M : Mm) (K : Nat → Lc → List Vl → Ly → Mm → Prop) : Prop :=
  match i with
  | .iload_n k => match getL L k.val with | some (.inl x) => K nx L (.inl x :: st) S M | _ => False
  | .iload k => match getL L k with | some (.inl x) => K nx L (.inl x :: st) S M | _ => False
  | .aload_n k => match getL L k.val with | some (.inr x) => K nx L (.inr x :: st) S M | _ => False
  | .aload k => match getL L k with | some (.inr x) => K nx L (.inr x :: st) S M | _ => False
  | .istore_n k => match st with | .inl x :: st' => setK k.val L (.inl x) (fun L' => K nx L' st' S M) | _ => False
  | .istore k => match st with | .inl x :: st' => setK k L (.inl x) (fun L' => K nx L' st' S M) | _ => False
  | .astore_n k => match st with | .inr x :: st' => setK k.val L (.inr x) (fun L' => K nx L' st' S M) | _ => False
  | .astore k => match st with | .inr x :: st' => setK k L (.inr x) (fun L' => K nx L' st' S M) | _ => False
  | .iinc k n => match getL L k with | some (.inl x) => setK k L (.inl (x + n)) (fun L' => K nx L' st S M) | _ => False
  | .iconst n => K nx L (.inl n :: st) S M
  | .bipush n => K nx L (.inl n :: st) S M
  | .sipush n => K nx L (.inl n :: st) S M
  | .ldc idx => match lk1 idx (consts o) with | some v => K nx L (.inl v :: st) S M | none => False
  | .iadd => match st with | .inl z :: .inl x :: st' => K nx L (.inl (x + z) :: st') S M | _ => False
  | .isub => match st with | .inl z :: .inl x :: st' => K nx L (.inl (x - z) :: st') S M | _ => False
  | .imul => match st with | .inl z :: .inl x :: st' => K nx L (.inl (x * z) :: st') S M | _ => False
  | .ineg => match st with | .inl x :: st' => K nx L (.inl (-x) :: st') S M | _ => False
  | .iand => match st with | .inl z :: .inl x :: st' => K nx L (.inl (andI x z) :: st') S M | _ => False
  | .ishl => match st with | .inl z :: .inl x :: st' => K nx L (.inl (shlI x z) :: st') S M | _ => False
  | .ishr => match st with | .inl z :: .inl x :: st' => K nx L (.inl (shrI x z) :: st') S M | _ => False
  | .idiv => match st with | .inl z :: .inl x :: st' => (R32 z ∧ z ≠ 0) ∧ K nx L (.inl (divI x z) :: st') S M | _ => False
  | .irem => match st with | .inl z :: .inl x :: st' => (R32 z ∧ z ≠ 0) ∧ K nx L (.inl (remI x z) :: st') S M | _ => False
  | .dup => match st with | v :: st' => K nx L (v :: v :: st') S M | _ => False
  | .getfield idx => match st with
    | .inr a :: st' => match lk1 idx (flds o) with
      | some (ci, k, kI, _, _) => match shp S a with
        | some (.inr (ci', fs)) => bif Nat.beq ci' ci then (match shf fs k with
          | some none => K nx L (.inl (M a kI) :: st') S M
          | some (some (some rr)) => K nx L (.inr rr :: st') S M
          | _ => False) else False
        | _ => False
      | none => False
    | _ => False
  | .putfield idx => match st with
    | .inl x :: .inr a :: st' => match lk1 idx (flds o) with
      | some (ci, k, kI, fn, tk) => match shp S a with
        | some (.inr (ci', fs)) => bif Nat.beq ci' ci then (match shf fs k with
          | some none => (R32 x ∧ okPut isI fn o ci tk x) ∧ K nx L st' S (mset M a kI x)
          | _ => False) else False
        | _ => False
      | none => False
    | .inr rr :: .inr a :: st' => match lk1 idx (flds o) with
      | some (ci, k, _, true, 2) => match shp S a with
        | some (.inr (ci', fs)) => bif Nat.beq ci' ci && (isI && Nat.beq o ci) && Nat.blt k fs.length then K nx L st' (setF S a k (some (some rr))) M else False
        | _ => False
      | _ => False
    | _ => False
  | .iaload => match st with
    | .inl j :: .inr a :: st' => match shp S a with | some (.inl n) => (0 ≤ j ∧ j < (n : Int) ∧ R32 j) ∧ K nx L (.inl (M a j) :: st') S M | _ => False
    | _ => False
  | .iastore => match st with
    | .inl x :: .inl j :: .inr a :: st' => match shp S a with | some (.inl n) => (a ≠ 0 ∧ 0 ≤ j ∧ j < (n : Int) ∧ R32 j ∧ R32 x) ∧ K nx L st' S (mset M a j x) | _ => False
    | _ => False
  | .arraylength => match st with
    | .inr a :: st' => match shp S a with | some (.inl n) => K nx L (.inl (n : Int) :: st') S M | _ => False
    | _ => False
  | .goto _ => match ax with | (_, t) :: _ => K t L st S M | _ => False
  | .ifCond c _ => match st, ax with | .inl x :: st', (_, t) :: _ => R32 x ∧ brn c x 0 (K t L st' S M) (K nx L st' S M) | _, _ => False
  | .if_icmp c _ => match st, ax with | .inl z :: .inl x :: st', (_, t) :: _ => (R32 x ∧ R32 z) ∧ brn c x z (K t L st' S M) (K nx L st' S M) | _, _ => False
  | .tableswitch _ lo hi _ => match st, ax with | .inl x :: st', (_, t) :: tl => R32 x ∧ ((x < lo ∨ hi < x) → K t L st' S M) ∧ swK x tl (fun t => K t L st' S M) | _, _ => False
  | .ireturn => bif fin then (match st with
    | [.inl x] => match rt with
      | some .int => Φ (some (.inl x)) S M
      | some .boolean => (x = 0 ∨ x = 1) ∧ Φ (some (.inl x)) S M
      | _ => False
    | _ => False) else False
  | .areturn => bif fin then (match st with
    | [.inr a] => match rt with
      | some (.object _) => Φ (some (.inr a)) S M
      | _ => False
    | _ => False) else False
  | .return_ => bif fin then (match st with
    | [] => match rt with
      | none => Φ none S M
      | _ => False
    | _ => False) else False
  | .invokevirtual idx => match lk1 idx (calls o) with
    | some (y', np, false, false, false, cl) => popK np st [] (fun as rest => match as with
      | .inr a :: _ => match shp S a with
        | some (.inr (ci, _)) => bif Nat.beq ci cl && Nat.ble rest.length 8 then CL d y' as S M (fun r S' M' => K nx L (pushO r rest) S' M') else False
        | _ => False
      | _ => False)
    | _ => False
  | .invokestatic idx => match lk1 idx (maths o) with
    | some 0 => match st with | .inl x :: st' => bif Nat.ble st'.length 8 && Nat.ble 1 d then R32 x ∧ K nx L (.inl (x.natAbs : Int) :: st') S M else False | _ => False
    | some 1 => match st with | .inl z :: .inl x :: st' => bif Nat.ble st'.length 8 && Nat.ble 1 d then (R32 x ∧ R32 z) ∧ K nx L (.inl (min x z) :: st') S M else False | _ => False
    | some 2 => match st with | .inl z :: .inl x :: st' => bif Nat.ble st'.length 8 && Nat.ble 1 d then (R32 x ∧ R32 z) ∧ K nx L (.inl (max x z) :: st') S M else False | _ => False
    | some _ => False
    | none => match lk1 idx (calls o) with
      | some (y', np, true, _, _, _) => popK np st [] (fun as rest => bif Nat.ble rest.length 8 then CL d y' as S M (fun r S' M' => K nx L (pushO r rest) S' M') else False)
      | _ => False
  | .invokespecial idx => bif memb (objs o) idx && Nat.ble 1 d then (match st with | .inr _ :: st' => bif Nat.ble st'.length 8 then K nx L st' S M else False | _ => False) else False
  | _ => False
def wp (d mc ms kc ks y o : Nat) (isI fin : Bool) (rt : Option FieldType) (Φ : Option Vl → Ly → Mm → Prop) (P : List En) (sp : List Nat) : Nat → Nat → Lc → List Vl → Ly → Mm → Prop
  | 0, pc, L, st, S, M => AJ d mc ms y Φ kc ks pc L st S M
  | n + 1, pc, L, st, S, M => match lk1 pc P with
    | none => False
    | some (i, nx, ax) => stp d y o isI fin rt Φ i nx ax L st S M (fun pc' L' st' S' M' => bif memb sp pc' then AJ d mc ms y Φ kc ks pc' L' st' S' M' else wp d mc ms kc ks y o isI fin rt Φ P sp n pc' L' st' S' M')
theorem popK_spec : ∀ (n : Nat) (st acc : List Vl) (k : List Vl → List Vl → Prop), popK n st acc k → ∃ as rest, as.length = n + acc.length ∧ acc.reverse ++ st = as.reverse ++ rest ∧ k as rest := by
  intro n
  induction n with
  | zero => intro st acc k h; exact ⟨acc, st, by simp, rfl, h⟩
  | succ n ih =>
    intro st acc k h
    cases st with
    | nil => cases h
    | cons v t =>
      obtain ⟨as, rest, h1, h2, h3⟩ := ih t (v :: acc) k h
      refine ⟨as, rest, by rw [h1]; simp; omega, ?_, h3⟩
      rw [← h2]; simp
theorem swK_spec {x : Int} {k : Nat → Prop} : ∀ {tl : List (Int × Nat)}, swK x tl k → ∀ (v : Int) (t : Nat), (v, t) ∈ tl → x = v → k t := by
  intro tl
  induction tl with
  | nil => intro _ v t h; cases h
  | cons p l ih =>
    obtain ⟨a, b⟩ := p
    intro h v t hm hx
    rcases List.mem_cons.mp hm with e | e
    · cases e; exact h.1 hx
    · exact ih h.2 v t e hx
end
section
theorem mo_entry {y o : Nat} {isI : Bool} {rt : Option FieldType} {P : List En} (hm : MO y o isI rt P) {pc : Nat} {i : Instr} {nx : Nat} {ax : List (Int × Nat)} (he : (pc, i, nx, ax) ∈ P) :
    DC y pc i (nx - pc) ∧ OC y o ∧ (isTs i = true ∨ nx = pc + iln i) ∧ (∀ r : MRec, mtb[y]? = some r → r.2.2.2.1 = rt) ∧ (isI = true → ∀ r : MRec, mtb[y]? = some r → r.1.name = "<init>") ∧ ∃ r : MRec, mtb[y]? = some r ∧ chk r.2.2.1 pc ax i = true := by
  obtain ⟨r, hr, h1, h2, h3, h4, h5⟩ := hm
  have h6 := List.all_eq_true.mp h5 _ he
  unfold okE at h6
  simp only [Bool.and_eq_true, decide_eq_true_eq, Bool.or_eq_true] at h6
  obtain ⟨⟨g1, g2⟩, g3⟩ := h6
  have hu : ∀ r' : MRec, mtb[y]? = some r' → r' = r := fun r' h => Option.some.inj (h.symm.trans hr)
  refine ⟨fun r' h => by rw [hu r' h]; exact g1, ⟨h2, fun r' h => by rw [hu r' h]; exact h1⟩, g2, fun r' h => by rw [hu r' h]; exact h3, fun hi r' h => by rw [hu r' h]; exact h4 hi, r, hr, g3⟩
theorem LT_of {y i : Nat} {r : MRec} (hr : mtb[y]? = some r) (h : Nat.blt i r.2.2.1 = true) : LT y i := fun r' h' => by
  have : r' = r := Option.some.inj (h'.symm.trans hr)
  rw [this]; exact Nat.le_of_ble_eq_true h
theorem okPut_of {isI fin : Bool} {o ci tk y : Nat} {x : Int} (h : okPut isI fin o ci tk x) (hi : isI = true → ∀ r : MRec, mtb[y]? = some r → r.1.name = "<init>") : tk < 2 ∧ (tk = 1 → x = 0 ∨ x = 1) ∧ (fin = true → o = ci ∧ ∀ r : MRec, mtb[y]? = some r → r.1.name = "<init>") := by
  have key : (bif fin then (bif isI && Nat.beq o ci then True else False) else True) → (fin = true → o = ci ∧ ∀ r : MRec, mtb[y]? = some r → r.1.name = "<init>") := by
    intro h hf
    rw [hf] at h
    cases hI : isI with
    | false => rw [hI] at h; exact False.elim h
    | true =>
      rw [hI] at h
      cases hb : Nat.beq o ci with
      | false => rw [hb] at h; exact False.elim h
      | true => exact ⟨Nat.eq_of_beq_eq_true hb, hi hI⟩
  match tk, h with
  | 0, h => exact ⟨by omega, fun h => by omega, key h⟩
  | 1, h => exact ⟨by omega, fun _ => h.1, key h.2⟩

set_option maxHeartbeats 4000000 in
theorem stp_sound {d mc ms kc ks y o : Nat} {isI fin : Bool} {rt : Option FieldType} {Φ : Option Vl → Ly → Mm → Prop} {P : List En} {i : Instr} {pc nx : Nat} {ax : List (Int × Nat)} {L : Lc} {st : List Vl} {S : Ly} {M : Mm} {K : Nat → Lc → List Vl → Ly → Mm → Prop} (hm : MO y o isI rt P) (he : (pc, i, nx, ax) ∈ P) (hkm : kc ≤ mc) (hks : ks ≤ ms) (hfin : fin = true → kc = mc ∧ ks ≤ ms)
    (hK : ∀ pc' L' st' S' M', K pc' L' st' S' M' → AJ d mc ms y Φ kc ks pc' L' st' S' M') (h : stp d y o isI fin rt Φ i nx ax L st S M K) : AJ d mc ms y Φ kc ks pc L st S M := by
  obtain ⟨hd, ho, hnx, hrt, hini, r0, hr0, hch⟩ := mo_entry hm he
  cases i with
  | iload_n k =>
    obtain rfl : nx = pc + 1 := by
      rcases hnx with q | q
      · cases q
      · exact q
    dsimp only [stp] at h
    split at h
    · rename_i x hg
      exact A_iload_n (by simpa using hd) hg (hK _ _ _ _ _ h)
    · exact False.elim h
  | iload k =>
    obtain rfl : nx = pc + 2 := by
      rcases hnx with q | q
      · cases q
      · exact q
    dsimp only [stp] at h
    split at h
    · rename_i x hg
      exact A_iload (by simpa using hd) hg (hK _ _ _ _ _ h)
    · exact False.elim h
  | aload_n k =>
    obtain rfl : nx = pc + 1 := by
      rcases hnx with q | q
      · cases q
      · exact q
    dsimp only [stp] at h
    split at h
    · rename_i x hg
      exact A_aload_n (by simpa using hd) hg (hK _ _ _ _ _ h)
    · exact False.elim h
  | aload k =>
    obtain rfl : nx = pc + 2 := by
      rcases hnx with q | q
      · cases q
      · exact q
    dsimp only [stp] at h
    split at h
    · rename_i x hg
      exact A_aload (by simpa using hd) hg (hK _ _ _ _ _ h)
    · exact False.elim h
  | istore_n k =>
    obtain rfl : nx = pc + 1 := by
      rcases hnx with q | q
      · cases q
      · exact q
    dsimp only [stp] at h
    split at h
    · rw [setK_eq] at h
      exact A_istore_n (by simpa using hd) (LT_of hr0 hch) (hK _ _ _ _ _ h)
    · exact False.elim h
  | istore k =>
    obtain rfl : nx = pc + 2 := by
      rcases hnx with q | q
      · cases q
      · exact q
    dsimp only [stp] at h
    split at h
    · rw [setK_eq] at h
      exact A_istore (by simpa using hd) (LT_of hr0 hch) (hK _ _ _ _ _ h)
    · exact False.elim h
  | astore_n k =>
    obtain rfl : nx = pc + 1 := by
      rcases hnx with q | q
      · cases q
      · exact q
    dsimp only [stp] at h
    split at h
    · rw [setK_eq] at h
      exact A_astore_n (by simpa using hd) (LT_of hr0 hch) (hK _ _ _ _ _ h)
    · exact False.elim h
  | astore k =>
    obtain rfl : nx = pc + 2 := by
      rcases hnx with q | q
      · cases q
      · exact q
    dsimp only [stp] at h
    split at h
    · rw [setK_eq] at h
      exact A_astore (by simpa using hd) (LT_of hr0 hch) (hK _ _ _ _ _ h)
    · exact False.elim h
  | iinc k n =>
    obtain rfl : nx = pc + 3 := by
      rcases hnx with q | q
      · cases q
      · exact q
    dsimp only [stp] at h
    split at h
    · rename_i x hg
      rw [setK_eq] at h
      exact A_iinc (by simpa using hd) (LT_of hr0 hch) hg (hK _ _ _ _ _ h)
    · exact False.elim h
  | iconst n =>
    obtain rfl : nx = pc + 1 := by
      rcases hnx with q | q
      · cases q
      · exact q
    exact A_iconst (by simpa using hd) (hK _ _ _ _ _ h)
  | bipush n =>
    obtain rfl : nx = pc + 2 := by
      rcases hnx with q | q
      · cases q
      · exact q
    simp only [chk, Bool.and_eq_true, decide_eq_true_eq] at hch
    exact A_bipush (by simpa using hd) hch.1 hch.2 (hK _ _ _ _ _ h)
  | sipush n =>
    obtain rfl : nx = pc + 3 := by
      rcases hnx with q | q
      · cases q
      · exact q
    simp only [chk, Bool.and_eq_true, decide_eq_true_eq] at hch
    exact A_sipush (by simpa using hd) hch.1 hch.2 (hK _ _ _ _ _ h)
  | ldc idx =>
    obtain rfl : nx = pc + 2 := by
      rcases hnx with q | q
      · cases q
      · exact q
    dsimp only [stp] at h
    split at h
    · rename_i v hv
      exact A_ldc (by simpa using hd) ho hv (hK _ _ _ _ _ h)
    · exact False.elim h
  | iadd =>
    obtain rfl : nx = pc + 1 := by
      rcases hnx with q | q
      · cases q
      · exact q
    dsimp only [stp] at h
    split at h
    · exact A_iadd (by simpa using hd) (hK _ _ _ _ _ h)
    · exact False.elim h
  | isub =>
    obtain rfl : nx = pc + 1 := by
      rcases hnx with q | q
      · cases q
      · exact q
    dsimp only [stp] at h
    split at h
    · exact A_isub (by simpa using hd) (hK _ _ _ _ _ h)
    · exact False.elim h
  | imul =>
    obtain rfl : nx = pc + 1 := by
      rcases hnx with q | q
      · cases q
      · exact q
    dsimp only [stp] at h
    split at h
    · exact A_imul (by simpa using hd) (hK _ _ _ _ _ h)
    · exact False.elim h
  | ineg =>
    obtain rfl : nx = pc + 1 := by
      rcases hnx with q | q
      · cases q
      · exact q
    dsimp only [stp] at h
    split at h
    · exact A_ineg (by simpa using hd) (hK _ _ _ _ _ h)
    · exact False.elim h
  | iand =>
    obtain rfl : nx = pc + 1 := by
      rcases hnx with q | q
      · cases q
      · exact q
    dsimp only [stp] at h
    split at h
    · exact A_iand (by simpa using hd) (hK _ _ _ _ _ h)
    · exact False.elim h
  | ishl =>
    obtain rfl : nx = pc + 1 := by
      rcases hnx with q | q
      · cases q
      · exact q
    dsimp only [stp] at h
    split at h
    · exact A_ishl (by simpa using hd) (hK _ _ _ _ _ h)
    · exact False.elim h
  | ishr =>
    obtain rfl : nx = pc + 1 := by
      rcases hnx with q | q
      · cases q
      · exact q
    dsimp only [stp] at h
    split at h
    · exact A_ishr (by simpa using hd) (hK _ _ _ _ _ h)
    · exact False.elim h
  | dup =>
    obtain rfl : nx = pc + 1 := by
      rcases hnx with q | q
      · cases q
      · exact q
    dsimp only [stp] at h
    split at h
    · exact A_dup (by simpa using hd) (hK _ _ _ _ _ h)
    · exact False.elim h
  | idiv =>
    obtain rfl : nx = pc + 1 := by
      rcases hnx with q | q
      · cases q
      · exact q
    dsimp only [stp] at h
    split at h
    · exact A_idiv (by simpa using hd) h.1.1 h.1.2 (hK _ _ _ _ _ h.2)
    · exact False.elim h
  | irem =>
    obtain rfl : nx = pc + 1 := by
      rcases hnx with q | q
      · cases q
      · exact q
    dsimp only [stp] at h
    split at h
    · exact A_irem (by simpa using hd) h.1.1 h.1.2 (hK _ _ _ _ _ h.2)
    · exact False.elim h
  | getfield idx =>
    obtain rfl : nx = pc + 3 := by
      rcases hnx with q | q
      · cases q
      · exact q
    dsimp only [stp] at h
    split at h
    · rename_i a st'
      split at h
      · rename_i ci kf kI fn tk hf
        split at h
        · rename_i ci' fs hs
          cases hbq : Nat.beq ci' ci with
          | false => rw [hbq] at h; exact False.elim h
          | true =>
            rw [hbq] at h
            obtain rfl := Nat.eq_of_beq_eq_true hbq
            dsimp only [cond_true] at h
            split at h
            · rename_i hk
              exact A_getI (by simpa using hd) ho hf hs hk (hK _ _ _ _ _ h)
            · rename_i rr hk
              exact A_getR (by simpa using hd) ho hf hs hk (hK _ _ _ _ _ h)
            · exact False.elim h
        · exact False.elim h
      · exact False.elim h
    · exact False.elim h
  | putfield idx =>
    obtain rfl : nx = pc + 3 := by
      rcases hnx with q | q
      · cases q
      · exact q
    dsimp only [stp] at h
    split at h
    · rename_i x a st'
      split at h
      · rename_i ci kf kI fn tk hf
        split at h
        · rename_i ci' fs hs
          cases hbq : Nat.beq ci' ci with
          | false => rw [hbq] at h; exact False.elim h
          | true =>
            rw [hbq] at h
            obtain rfl := Nat.eq_of_beq_eq_true hbq
            dsimp only [cond_true] at h
            split at h
            · rename_i hk
              obtain ⟨g1, g2, g3⟩ := okPut_of h.1.2 hini
              exact A_putI (by simpa using hd) ho hf hs hk h.1.1 g1 g2 g3 (hK _ _ _ _ _ h.2)
            · exact False.elim h
        · exact False.elim h
      · exact False.elim h
    · rename_i rr a st'
      split at h
      · rename_i ci kf kI hf
        split at h
        · rename_i ci' fs hs
          cases hbq : (Nat.beq ci' ci && (isI && Nat.beq o ci) && Nat.blt kf fs.length) with
          | false => rw [hbq] at h; exact False.elim h
          | true =>
            rw [hbq] at h
            simp only [Bool.and_eq_true] at hbq
            obtain ⟨⟨q1, q2, q3⟩, q4⟩ := hbq
            obtain rfl := Nat.eq_of_beq_eq_true q1
            exact A_putR (by simpa using hd) ho hf hs (Nat.le_of_ble_eq_true q4) rfl ⟨Nat.eq_of_beq_eq_true q3, hini q2⟩ (hK _ _ _ _ _ h)
        · exact False.elim h
      · exact False.elim h
    · exact False.elim h
  | iaload =>
    obtain rfl : nx = pc + 1 := by
      rcases hnx with q | q
      · cases q
      · exact q
    dsimp only [stp] at h
    split at h
    · split at h
      · rename_i hs
        exact A_iald (by simpa using hd) hs h.1.1 h.1.2.1 h.1.2.2 (hK _ _ _ _ _ h.2)
      · exact False.elim h
    · exact False.elim h
  | iastore =>
    obtain rfl : nx = pc + 1 := by
      rcases hnx with q | q
      · cases q
      · exact q
    dsimp only [stp] at h
    split at h
    · split at h
      · rename_i hs
        exact A_iast (by simpa using hd) hs h.1.1 h.1.2.1 h.1.2.2.1 h.1.2.2.2.1 h.1.2.2.2.2 (hK _ _ _ _ _ h.2)
      · exact False.elim h
    · exact False.elim h
  | arraylength =>
    obtain rfl : nx = pc + 1 := by
      rcases hnx with q | q
      · cases q
      · exact q
    dsimp only [stp] at h
    split at h
    · split at h
      · rename_i hs
        exact A_alen (by simpa using hd) hs (hK _ _ _ _ _ h)
      · exact False.elim h
    · exact False.elim h
  | goto off =>
    obtain rfl : nx = pc + 3 := by
      rcases hnx with q | q
      · cases q
      · exact q
    dsimp only [stp] at h
    split at h
    · simp only [chk, decide_eq_true_eq] at hch
      exact A_goto (by simpa using hd) hch (hK _ _ _ _ _ h)
    · exact False.elim h
  | ifCond c off =>
    obtain rfl : nx = pc + 3 := by
      rcases hnx with q | q
      · cases q
      · exact q
    dsimp only [stp] at h
    split at h
    · simp only [chk, decide_eq_true_eq] at hch
      exact A_ifCond (by simpa using hd) hch h.1 (fun q => hK _ _ _ _ _ ((brn_spec h.2).1 q)) (fun q => hK _ _ _ _ _ ((brn_spec h.2).2 q))
    · exact False.elim h
  | if_icmp c off =>
    obtain rfl : nx = pc + 3 := by
      rcases hnx with q | q
      · cases q
      · exact q
    dsimp only [stp] at h
    split at h
    · simp only [chk, decide_eq_true_eq] at hch
      exact A_if_icmp (by simpa using hd) hch h.1.1 h.1.2 (fun q => hK _ _ _ _ _ ((brn_spec h.2).1 q)) (fun q => hK _ _ _ _ _ ((brn_spec h.2).2 q))
    · exact False.elim h
  | tableswitch dd lo hi offs =>
    dsimp only [stp] at h
    split at h
    · rename_i x st' q0 t tl
      simp only [chk, Bool.and_eq_true, decide_eq_true_eq, List.all_eq_true, List.mem_range] at hch
      obtain ⟨⟨g1, g2⟩, g3⟩ := hch
      refine A_tableswitch hd h.1 g1 g2 (fun j hj => ?_) (fun q => hK _ _ _ _ _ (h.2.1 q)) (fun v t ht hxv => hK _ _ _ _ _ (swK_spec h.2.2 v t ht hxv))
      have g4 := g3 j hj
      split at g4
      · rename_i o1 v t2 e1 e2
        simp only [Bool.and_eq_true, decide_eq_true_eq] at g4
        exact ⟨o1, t2, e1, g4.1, by rw [← g4.2]; exact List.mem_of_getElem? e2⟩
      · cases g4
    · exact False.elim h
  | ireturn =>
    obtain rfl : nx = pc + 1 := by
      rcases hnx with q | q
      · cases q
      · exact q
    dsimp only [stp] at h
    cases hf : fin with
    | false => rw [hf] at h; exact False.elim h
    | true =>
      rw [hf] at h
      dsimp only [cond_true] at h
      obtain ⟨e1, e2⟩ := hfin hf
      split at h
      · split at h
        · exact A_iret (st := []) (by simpa using hd) hrt e1 e2 h
        · exact A_zret (st := []) (by simpa using hd) hrt h.1 e1 e2 h.2
        · exact False.elim h
      · exact False.elim h
  | areturn =>
    obtain rfl : nx = pc + 1 := by
      rcases hnx with q | q
      · cases q
      · exact q
    dsimp only [stp] at h
    cases hf : fin with
    | false => rw [hf] at h; exact False.elim h
    | true =>
      rw [hf] at h
      dsimp only [cond_true] at h
      obtain ⟨e1, e2⟩ := hfin hf
      split at h
      · split at h
        · exact A_aret (st := []) (by simpa using hd) hrt e1 e2 h
        · exact False.elim h
      · exact False.elim h
  | return_ =>
    obtain rfl : nx = pc + 1 := by
      rcases hnx with q | q
      · cases q
      · exact q
    dsimp only [stp] at h
    cases hf : fin with
    | false => rw [hf] at h; exact False.elim h
    | true =>
      rw [hf] at h
      dsimp only [cond_true] at h
      obtain ⟨e1, e2⟩ := hfin hf
      split at h
      · split at h
        · exact A_vret (st := []) (by simpa using hd) hrt e1 e2 h
        · exact False.elim h
      · exact False.elim h
  | invokevirtual idx =>
    obtain rfl : nx = pc + 3 := by
      rcases hnx with q | q
      · cases q
      · exact q
    dsimp only [stp] at h
    split at h
    · rename_i y' np cl hc
      obtain ⟨as, rest, h1, h2, h3⟩ := popK_spec _ _ _ _ h
      split at h3
      · rename_i a tl
        split at h3
        · rename_i ci fs hs
          cases hbq : (Nat.beq ci cl && Nat.ble rest.length 8) with
          | false => rw [hbq] at h3; exact False.elim h3
          | true =>
            rw [hbq] at h3
            obtain ⟨d', Φ', g1, g2, g3⟩ := h3
            simp only [Bool.and_eq_true] at hbq
            obtain rfl := Nat.eq_of_beq_eq_true hbq.1
            have e0 : st = (Sum.inr a :: tl).reverse ++ rest := by simpa using h2
            rw [e0]
            exact A_callV (st := []) (nest := false) (ini := false) (mc' := 0) (ms' := 0) (by simpa using hd) ho hc rfl (by simpa using h1) hs (Nat.le_of_ble_eq_true hbq.2) g1 hkm hks g2 (fun r S' M' q1 q2 => hK _ _ _ _ _ (g3 r S' M' q1 q2))
        · exact False.elim h3
      · exact False.elim h3
    · exact False.elim h
  | invokestatic idx =>
    obtain rfl : nx = pc + 3 := by
      rcases hnx with q | q
      · cases q
      · exact q
    dsimp only [stp] at h
    split at h
    · rename_i hc
      split at h
      · rename_i x st'
        cases hbq : (Nat.ble st'.length 8 && Nat.ble 1 d) with
        | false => rw [hbq] at h; exact False.elim h
        | true =>
          rw [hbq] at h
          simp only [Bool.and_eq_true] at hbq
          exact A_abs (by simpa using hd) ho hc h.1 (Nat.le_of_ble_eq_true hbq.2) (Nat.le_of_ble_eq_true hbq.1) hkm hks (hK _ _ _ _ _ h.2)
      · exact False.elim h
    · rename_i hc
      split at h
      · rename_i z x st'
        cases hbq : (Nat.ble st'.length 8 && Nat.ble 1 d) with
        | false => rw [hbq] at h; exact False.elim h
        | true =>
          rw [hbq] at h
          simp only [Bool.and_eq_true] at hbq
          exact A_min (by simpa using hd) ho hc h.1.1 h.1.2 (Nat.le_of_ble_eq_true hbq.2) (Nat.le_of_ble_eq_true hbq.1) hkm hks (hK _ _ _ _ _ h.2)
      · exact False.elim h
    · rename_i hc
      split at h
      · rename_i z x st'
        cases hbq : (Nat.ble st'.length 8 && Nat.ble 1 d) with
        | false => rw [hbq] at h; exact False.elim h
        | true =>
          rw [hbq] at h
          simp only [Bool.and_eq_true] at hbq
          exact A_max (by simpa using hd) ho hc h.1.1 h.1.2 (Nat.le_of_ble_eq_true hbq.2) (Nat.le_of_ble_eq_true hbq.1) hkm hks (hK _ _ _ _ _ h.2)
      · exact False.elim h
    · exact False.elim h
    · split at h
      · rename_i y' np nest ini cl hc
        obtain ⟨as, rest, h1, h2, h3⟩ := popK_spec _ _ _ _ h
        cases hbq : Nat.ble rest.length 8 with
        | false => rw [hbq] at h3; exact False.elim h3
        | true =>
          rw [hbq] at h3
          obtain ⟨d', Φ', g1, g2, g3⟩ := h3
          have e0 : st = as.reverse ++ rest := by simpa using h2
          rw [e0]
          exact A_callS (st := []) (mc' := 0) (ms' := 0) (by simpa using hd) ho hc (by simpa using h1) (Nat.le_of_ble_eq_true hbq) g1 hkm hks g2 (fun r S' M' q1 q2 => hK _ _ _ _ _ (g3 r S' M' q1 q2))
      · exact False.elim h
  | invokespecial idx =>
    obtain rfl : nx = pc + 3 := by
      rcases hnx with q | q
      · cases q
      · exact q
    dsimp only [stp] at h
    cases hbq : (memb (objs o) idx && Nat.ble 1 d) with
    | false => rw [hbq] at h; exact False.elim h
    | true =>
      rw [hbq] at h
      dsimp only [cond_true] at h
      simp only [Bool.and_eq_true] at hbq
      split at h
      · rename_i a st'
        cases hb2 : Nat.ble st'.length 8 with
        | false => rw [hb2] at h; exact False.elim h
        | true =>
          rw [hb2] at h
          exact A_objInit (by simpa using hd) ho hbq.1 (Nat.le_of_ble_eq_true hbq.2) (Nat.le_of_ble_eq_true hb2) (hK _ _ _ _ _ h)
      · exact False.elim h
  | _ => exact False.elim h
theorem wp_sound {d mc ms kc ks y o : Nat} {isI fin : Bool} {rt : Option FieldType} {Φ : Option Vl → Ly → Mm → Prop} {P : List En} {sp : List Nat} (hm : MO y o isI rt P) (hkm : kc ≤ mc) (hks : ks ≤ ms) (hfin : fin = true → kc = mc ∧ ks ≤ ms) : ∀ (n pc : Nat) (L : Lc) (st : List Vl) (S : Ly) (M : Mm), wp d mc ms kc ks y o isI fin rt Φ P sp n pc L st S M → AJ d mc ms y Φ kc ks pc L st S M := by
  intro n
  induction n with
  | zero => intro pc L st S M h; exact h
  | succ n ih =>
    intro pc L st S M h
    unfold wp at h
    split at h
    · exact False.elim h
    · rename_i i nx ax hl
      refine stp_sound hm (lk1_mem hl) hkm hks hfin (fun pc' L' st' S' M' hk => ?_) h
      cases hb : memb sp pc' with
      | true => rw [hb] at hk; exact hk
      | false => rw [hb] at hk; exact ih _ _ _ _ _ hk
theorem aj_wp {d y o : Nat} {isI : Bool} {rt : Option FieldType} {Φ : Option Vl → Ly → Mm → Prop} {P : List En} (hm : MO y o isI rt P) (sp : List Nat) (n : Nat) {pc : Nat} {L : Lc} {st : List Vl} {S : Ly} {M : Mm} (h : MOk M → wp d 0 0 0 0 y o isI true rt Φ P sp n pc L st S M) : AJ d 0 0 y Φ 0 0 pc L st S M := AJ.MOk_ (fun hM => wp_sound hm (Nat.le_refl _) (Nat.le_refl _) (fun _ => ⟨rfl, Nat.le_refl _⟩) n pc L st S M (h hM))
theorem ret_wp {d y o nL : Nat} {isI : Bool} {rt : Option FieldType} {Φ : Option Vl → Ly → Mm → Prop} {P : List En} (hm : MO y o isI rt P) (hy : y < mtb0.length) (hl : ∀ r : MRec, mtb[y]? = some r → r.2.2.1 = nL) (sp : List Nat) (n : Nat) {as : List Vl} (hn : as.length ≤ nL) {S : Ly} {M : Mm} (h : MOk M → wp d 0 0 0 0 y o isI true rt Φ P sp n 0 (as.map some) [] S M) : Ret d 0 0 y as S M Φ :=
  Ret.ofAJ hy (fun r hr => by rw [hl r hr]; exact hn) (fun hM => wp_sound hm (Nat.le_refl _) (Nat.le_refl _) (fun _ => ⟨rfl, Nat.le_refl _⟩) n 0 _ [] S M (h hM))
end
section
theorem mtb0_len : mtb0.length = 179 := by decide +kernel
theorem all_cut {α : Type} {f : α → Bool} {l : List α} (i n : Nat) (h : ((l.drop i).take n).all f = true) (k : (l.drop (i + n)).all f = true) : (l.drop i).all f = true := by
  rw [← List.take_append_drop n (l.drop i), List.all_append, h, List.drop_drop, k]; rfl
def pJ_fill : List En := [(0, .iconst 0, 1, []),
  (1, .istore_n 2, 2, []),
  (2, .aload_n 0, 3, []),
  (3, .arraylength, 4, []),
  (4, .istore_n 3, 5, []),
  (5, .iload_n 2, 6, []),
  (6, .iload_n 3, 7, []),
  (7, .if_icmp .ge 13, 10, [(0, 20)]),
  (10, .aload_n 0, 11, []),
  (11, .iload_n 2, 12, []),
  (12, .iload_n 1, 13, []),
  (13, .iastore, 14, []),
  (14, .iinc 2 1, 17, []),
  (17, .goto (-12), 20, [(0, 5)]),
  (20, .return_, 21, [])]
set_option maxRecDepth 100000 in
theorem moJ_fill : MO mJ_fill 7 false none pJ_fill := ⟨rJ_fill, rfl, rfl, by decide, rfl, (fun h => by cases h), (by decide +kernel)⟩
theorem aJ_fill {d : Nat} {Φ : Option Vl → Ly → Mm → Prop} (sp : List Nat) (n : Nat) {pc : Nat} {L : Lc} {st : List Vl} {S : Ly} {M : Mm} (h : MOk M → wp d 0 0 0 0 mJ_fill 7 false true none Φ pJ_fill sp n pc L st S M) : AJ d 0 0 mJ_fill Φ 0 0 pc L st S M := aj_wp moJ_fill sp n h
theorem eJ_fill {d : Nat} {Φ : Option Vl → Ly → Mm → Prop} (sp : List Nat) (n : Nat) {as : List Vl} (hn : as.length ≤ 4) {S : Ly} {M : Mm} (h : MOk M → wp d 0 0 0 0 mJ_fill 7 false true none Φ pJ_fill sp n 0 (as.map some) [] S M) : Ret d 0 0 mJ_fill as S M Φ := ret_wp moJ_fill (by rw [mtb0_len]; decide) (fun r h => by cases (show some rJ_fill = some r from h); rfl) sp n hn h
def pM_init : List En := [(0, .aload_n 0, 1, []),
  (1, .invokespecial 1, 4, []),
  (4, .aload_n 0, 5, []),
  (5, .bipush 60, 7, []),
  (7, .newarray .int, 9, []),
  (9, .putfield 7, 12, []),
  (12, .aload_n 0, 13, []),
  (13, .bipush 60, 15, []),
  (15, .newarray .int, 17, []),
  (17, .putfield 13, 20, []),
  (20, .aload_n 0, 21, []),
  (21, .bipush 46, 23, []),
  (23, .newarray .int, 25, []),
  (25, .dup, 26, []),
  (26, .iconst 0, 27, []),
  (27, .iconst 0, 28, []),
  (28, .iastore, 29, []),
  (29, .dup, 30, []),
  (30, .iconst 1, 31, []),
  (31, .iconst 0, 32, []),
  (32, .iastore, 33, []),
  (33, .dup, 34, []),
  (34, .iconst 2, 35, []),
  (35, .iconst 0, 36, []),
  (36, .iastore, 37, []),
  (37, .dup, 38, []),
  (38, .iconst 3, 39, []),
  (39, .iconst 0, 40, []),
  (40, .iastore, 41, []),
  (41, .dup, 42, []),
  (42, .iconst 4, 43, []),
  (43, .iconst 0, 44, []),
  (44, .iastore, 45, []),
  (45, .dup, 46, []),
  (46, .iconst 5, 47, []),
  (47, .iconst 0, 48, []),
  (48, .iastore, 49, []),
  (49, .dup, 50, []),
  (50, .bipush 6, 52, []),
  (52, .iconst 0, 53, []),
  (53, .iastore, 54, []),
  (54, .dup, 55, []),
  (55, .bipush 7, 57, []),
  (57, .iconst 0, 58, []),
  (58, .iastore, 59, []),
  (59, .dup, 60, []),
  (60, .bipush 8, 62, []),
  (62, .iconst 0, 63, []),
  (63, .iastore, 64, []),
  (64, .dup, 65, []),
  (65, .bipush 9, 67, []),
  (67, .iconst 0, 68, []),
  (68, .iastore, 69, []),
  (69, .dup, 70, []),
  (70, .bipush 10, 72, []),
  (72, .iconst 0, 73, []),
  (73, .iastore, 74, []),
  (74, .dup, 75, []),
  (75, .bipush 11, 77, []),
  (77, .iconst 0, 78, []),
  (78, .iastore, 79, []),
  (79, .dup, 80, []),
  (80, .bipush 12, 82, []),
  (82, .iconst 1, 83, []),
  (83, .iastore, 84, []),
  (84, .dup, 85, []),
  (85, .bipush 13, 87, []),
  (87, .iconst 2, 88, []),
  (88, .iastore, 89, []),
  (89, .dup, 90, []),
  (90, .bipush 14, 92, []),
  (92, .iconst 3, 93, []),
  (93, .iastore, 94, []),
  (94, .dup, 95, []),
  (95, .bipush 15, 97, []),
  (97, .iconst 5, 98, []),
  (98, .iastore, 99, []),
  (99, .dup, 100, []),
  (100, .bipush 16, 102, []),
  (102, .iconst 0, 103, []),
  (103, .iastore, 104, []),
  (104, .dup, 105, []),
  (105, .bipush 17, 107, []),
  (107, .iconst 0, 108, []),
  (108, .iastore, 109, []),
  (109, .dup, 110, []),
  (110, .bipush 18, 112, []),
  (112, .iconst 0, 113, []),
  (113, .iastore, 114, []),
  (114, .dup, 115, []),
  (115, .bipush 19, 117, []),
  (117, .iconst 0, 118, []),
  (118, .iastore, 119, []),
  (119, .dup, 120, []),
  (120, .bipush 20, 122, []),
  (122, .iconst 0, 123, []),
  (123, .iastore, 124, []),
  (124, .dup, 125, []),
  (125, .bipush 21, 127, []),
  (127, .iconst 0, 128, []),
  (128, .iastore, 129, []),
  (129, .dup, 130, []),
  (130, .bipush 22, 132, []),
  (132, .iconst 0, 133, []),
  (133, .iastore, 134, []),
  (134, .dup, 135, []),
  (135, .bipush 23, 137, []),
  (137, .iconst 1, 138, []),
  (138, .iastore, 139, []),
  (139, .dup, 140, []),
  (140, .bipush 24, 142, []),
  (142, .iconst 2, 143, []),
  (143, .iastore, 144, []),
  (144, .dup, 145, []),
  (145, .bipush 25, 147, []),
  (147, .iconst 3, 148, []),
  (148, .iastore, 149, []),
  (149, .dup, 150, []),
  (150, .bipush 26, 152, []),
  (152, .iconst 0, 153, []),
  (153, .iastore, 154, []),
  (154, .dup, 155, []),
  (155, .bipush 27, 157, []),
  (157, .iconst 0, 158, []),
  (158, .iastore, 159, []),
  (159, .dup, 160, []),
  (160, .bipush 28, 162, []),
  (162, .iconst 0, 163, []),
  (163, .iastore, 164, []),
  (164, .dup, 165, []),
  (165, .bipush 29, 167, []),
  (167, .iconst 0, 168, []),
  (168, .iastore, 169, []),
  (169, .dup, 170, []),
  (170, .bipush 30, 172, []),
  (172, .iconst 0, 173, []),
  (173, .iastore, 174, []),
  (174, .dup, 175, []),
  (175, .bipush 31, 177, []),
  (177, .iconst 0, 178, []),
  (178, .iastore, 179, []),
  (179, .dup, 180, []),
  (180, .bipush 32, 182, []),
  (182, .iconst 0, 183, []),
  (183, .iastore, 184, []),
  (184, .dup, 185, []),
  (185, .bipush 33, 187, []),
  (187, .iconst 0, 188, []),
  (188, .iastore, 189, []),
  (189, .dup, 190, []),
  (190, .bipush 34, 192, []),
  (192, .iconst 1, 193, []),
  (193, .iastore, 194, []),
  (194, .dup, 195, []),
  (195, .bipush 35, 197, []),
  (197, .iconst 2, 198, []),
  (198, .iastore, 199, []),
  (199, .dup, 200, []),
  (200, .bipush 36, 202, []),
  (202, .iconst 0, 203, []),
  (203, .iastore, 204, []),
  (204, .dup, 205, []),
  (205, .bipush 37, 207, []),
  (207, .iconst 0, 208, []),
  (208, .iastore, 209, []),
  (209, .dup, 210, []),
  (210, .bipush 38, 212, []),
  (212, .iconst 0, 213, []),
  (213, .iastore, 214, []),
  (214, .dup, 215, []),
  (215, .bipush 39, 217, []),
  (217, .iconst 0, 218, []),
  (218, .iastore, 219, []),
  (219, .dup, 220, []),
  (220, .bipush 40, 222, []),
  (222, .iconst 0, 223, []),
  (223, .iastore, 224, []),
  (224, .dup, 225, []),
  (225, .bipush 41, 227, []),
  (227, .iconst 0, 228, []),
  (228, .iastore, 229, []),
  (229, .dup, 230, []),
  (230, .bipush 42, 232, []),
  (232, .iconst 0, 233, []),
  (233, .iastore, 234, []),
  (234, .dup, 235, []),
  (235, .bipush 43, 237, []),
  (237, .iconst 0, 238, []),
  (238, .iastore, 239, []),
  (239, .dup, 240, []),
  (240, .bipush 44, 242, []),
  (242, .iconst 0, 243, []),
  (243, .iastore, 244, []),
  (244, .dup, 245, []),
  (245, .bipush 45, 247, []),
  (247, .iconst 1, 248, []),
  (248, .iastore, 249, []),
  (249, .putfield 16, 252, []),
  (252, .aload_n 0, 253, []),
  (253, .bipush 46, 255, []),
  (255, .newarray .int, 257, []),
  (257, .dup, 258, []),
  (258, .iconst 0, 259, []),
  (259, .iconst 0, 260, []),
  (260, .iastore, 261, []),
  (261, .dup, 262, []),
  (262, .iconst 1, 263, []),
  (263, .iconst 0, 264, []),
  (264, .iastore, 265, []),
  (265, .dup, 266, []),
  (266, .iconst 2, 267, []),
  (267, .iconst 0, 268, []),
  (268, .iastore, 269, []),
  (269, .dup, 270, []),
  (270, .iconst 3, 271, []),
  (271, .iconst 0, 272, []),
  (272, .iastore, 273, []),
  (273, .dup, 274, []),
  (274, .iconst 4, 275, []),
  (275, .iconst 0, 276, []),
  (276, .iastore, 277, []),
  (277, .dup, 278, []),
  (278, .iconst 5, 279, []),
  (279, .iconst 0, 280, []),
  (280, .iastore, 281, []),
  (281, .dup, 282, []),
  (282, .bipush 6, 284, []),
  (284, .iconst 0, 285, []),
  (285, .iastore, 286, []),
  (286, .dup, 287, []),
  (287, .bipush 7, 289, []),
  (289, .iconst 0, 290, []),
  (290, .iastore, 291, []),
  (291, .dup, 292, []),
  (292, .bipush 8, 294, []),
  (294, .iconst 0, 295, []),
  (295, .iastore, 296, []),
  (296, .dup, 297, []),
  (297, .bipush 9, 299, []),
  (299, .iconst 0, 300, []),
  (300, .iastore, 301, []),
  (301, .dup, 302, []),
  (302, .bipush 10, 304, []),
  (304, .iconst 0, 305, []),
  (305, .iastore, 306, []),
  (306, .dup, 307, []),
  (307, .bipush 11, 309, []),
  (309, .iconst 0, 310, []),
  (310, .iastore, 311, []),
  (311, .dup, 312, []),
  (312, .bipush 12, 314, []),
  (314, .iconst 5, 315, []),
  (315, .iastore, 316, []),
  (316, .dup, 317, []),
  (317, .bipush 13, 319, []),
  (319, .bipush 7, 321, []),
  (321, .iastore, 322, []),
  (322, .dup, 323, []),
  (323, .bipush 14, 325, []),
  (325, .bipush 9, 327, []),
  (327, .iastore, 328, []),
  (328, .dup, 329, []),
  (329, .bipush 15, 331, []),
  (331, .bipush 11, 333, []),
  (333, .iastore, 334, []),
  (334, .dup, 335, []),
  (335, .bipush 16, 337, []),
  (337, .iconst 0, 338, []),
  (338, .iastore, 339, []),
  (339, .dup, 340, []),
  (340, .bipush 17, 342, []),
  (342, .iconst 0, 343, []),
  (343, .iastore, 344, []),
  (344, .dup, 345, []),
  (345, .bipush 18, 347, []),
  (347, .iconst 0, 348, []),
  (348, .iastore, 349, []),
  (349, .dup, 350, []),
  (350, .bipush 19, 352, []),
  (352, .iconst 0, 353, []),
  (353, .iastore, 354, []),
  (354, .dup, 355, []),
  (355, .bipush 20, 357, []),
  (357, .iconst 0, 358, []),
  (358, .iastore, 359, []),
  (359, .dup, 360, []),
  (360, .bipush 21, 362, []),
  (362, .iconst 0, 363, []),
  (363, .iastore, 364, []),
  (364, .dup, 365, []),
  (365, .bipush 22, 367, []),
  (367, .iconst 0, 368, []),
  (368, .iastore, 369, []),
  (369, .dup, 370, []),
  (370, .bipush 23, 372, []),
  (372, .iconst 2, 373, []),
  (373, .iastore, 374, []),
  (374, .dup, 375, []),
  (375, .bipush 24, 377, []),
  (377, .iconst 4, 378, []),
  (378, .iastore, 379, []),
  (379, .dup, 380, []),
  (380, .bipush 25, 382, []),
  (382, .bipush 6, 384, []),
  (384, .iastore, 385, []),
  (385, .dup, 386, []),
  (386, .bipush 26, 388, []),
  (388, .iconst 0, 389, []),
  (389, .iastore, 390, []),
  (390, .dup, 391, []),
  (391, .bipush 27, 393, []),
  (393, .iconst 0, 394, []),
  (394, .iastore, 395, []),
  (395, .dup, 396, []),
  (396, .bipush 28, 398, []),
  (398, .iconst 0, 399, []),
  (399, .iastore, 400, []),
  (400, .dup, 401, []),
  (401, .bipush 29, 403, []),
  (403, .iconst 0, 404, []),
  (404, .iastore, 405, []),
  (405, .dup, 406, []),
  (406, .bipush 30, 408, []),
  (408, .iconst 0, 409, []),
  (409, .iastore, 410, []),
  (410, .dup, 411, []),
  (411, .bipush 31, 413, []),
  (413, .iconst 0, 414, []),
  (414, .iastore, 415, []),
  (415, .dup, 416, []),
  (416, .bipush 32, 418, []),
  (418, .iconst 0, 419, []),
  (419, .iastore, 420, []),
  (420, .dup, 421, []),
  (421, .bipush 33, 423, []),
  (423, .iconst 0, 424, []),
  (424, .iastore, 425, []),
  (425, .dup, 426, []),
  (426, .bipush 34, 428, []),
  (428, .iconst 2, 429, []),
  (429, .iastore, 430, []),
  (430, .dup, 431, []),
  (431, .bipush 35, 433, []),
  (433, .iconst 4, 434, []),
  (434, .iastore, 435, []),
  (435, .dup, 436, []),
  (436, .bipush 36, 438, []),
  (438, .iconst 0, 439, []),
  (439, .iastore, 440, []),
  (440, .dup, 441, []),
  (441, .bipush 37, 443, []),
  (443, .iconst 0, 444, []),
  (444, .iastore, 445, []),
  (445, .dup, 446, []),
  (446, .bipush 38, 448, []),
  (448, .iconst 0, 449, []),
  (449, .iastore, 450, []),
  (450, .dup, 451, []),
  (451, .bipush 39, 453, []),
  (453, .iconst 0, 454, []),
  (454, .iastore, 455, []),
  (455, .dup, 456, []),
  (456, .bipush 40, 458, []),
  (458, .iconst 0, 459, []),
  (459, .iastore, 460, []),
  (460, .dup, 461, []),
  (461, .bipush 41, 463, []),
  (463, .iconst 0, 464, []),
  (464, .iastore, 465, []),
  (465, .dup, 466, []),
  (466, .bipush 42, 468, []),
  (468, .iconst 0, 469, []),
  (469, .iastore, 470, []),
  (470, .dup, 471, []),
  (471, .bipush 43, 473, []),
  (473, .iconst 0, 474, []),
  (474, .iastore, 475, []),
  (475, .dup, 476, []),
  (476, .bipush 44, 478, []),
  (478, .iconst 0, 479, []),
  (479, .iastore, 480, []),
  (480, .dup, 481, []),
  (481, .bipush 45, 483, []),
  (483, .iconst 2, 484, []),
  (484, .iastore, 485, []),
  (485, .putfield 19, 488, []),
  (488, .aload_n 0, 489, []),
  (489, .bipush 46, 491, []),
  (491, .newarray .int, 493, []),
  (493, .dup, 494, []),
  (494, .iconst 0, 495, []),
  (495, .iconst 0, 496, []),
  (496, .iastore, 497, []),
  (497, .dup, 498, []),
  (498, .iconst 1, 499, []),
  (499, .iconst 0, 500, []),
  (500, .iastore, 501, []),
  (501, .dup, 502, []),
  (502, .iconst 2, 503, []),
  (503, .iconst 0, 504, []),
  (504, .iastore, 505, []),
  (505, .dup, 506, []),
  (506, .iconst 3, 507, []),
  (507, .iconst 0, 508, []),
  (508, .iastore, 509, []),
  (509, .dup, 510, []),
  (510, .iconst 4, 511, []),
  (511, .iconst 0, 512, []),
  (512, .iastore, 513, []),
  (513, .dup, 514, []),
  (514, .iconst 5, 515, []),
  (515, .iconst 0, 516, []),
  (516, .iastore, 517, []),
  (517, .dup, 518, []),
  (518, .bipush 6, 520, []),
  (520, .iconst 0, 521, []),
  (521, .iastore, 522, []),
  (522, .dup, 523, []),
  (523, .bipush 7, 525, []),
  (525, .iconst 0, 526, []),
  (526, .iastore, 527, []),
  (527, .dup, 528, []),
  (528, .bipush 8, 530, []),
  (530, .iconst 0, 531, []),
  (531, .iastore, 532, []),
  (532, .dup, 533, []),
  (533, .bipush 9, 535, []),
  (535, .iconst 0, 536, []),
  (536, .iastore, 537, []),
  (537, .dup, 538, []),
  (538, .bipush 10, 540, []),
  (540, .iconst 0, 541, []),
  (541, .iastore, 542, []),
  (542, .dup, 543, []),
  (543, .bipush 11, 545, []),
  (545, .iconst 0, 546, []),
  (546, .iastore, 547, []),
  (547, .dup, 548, []),
  (548, .bipush 12, 550, []),
  (550, .bipush 8, 552, []),
  (552, .iastore, 553, []),
  (553, .dup, 554, []),
  (554, .bipush 13, 556, []),
  (556, .bipush 10, 558, []),
  (558, .iastore, 559, []),
  (559, .dup, 560, []),
  (560, .bipush 14, 562, []),
  (562, .bipush 12, 564, []),
  (564, .iastore, 565, []),
  (565, .dup, 566, []),
  (566, .bipush 15, 568, []),
  (568, .bipush 14, 570, []),
  (570, .iastore, 571, []),
  (571, .dup, 572, []),
  (572, .bipush 16, 574, []),
  (574, .iconst 0, 575, []),
  (575, .iastore, 576, []),
  (576, .dup, 577, []),
  (577, .bipush 17, 579, []),
  (579, .iconst 0, 580, []),
  (580, .iastore, 581, []),
  (581, .dup, 582, []),
  (582, .bipush 18, 584, []),
  (584, .iconst 0, 585, []),
  (585, .iastore, 586, []),
  (586, .dup, 587, []),
  (587, .bipush 19, 589, []),
  (589, .iconst 0, 590, []),
  (590, .iastore, 591, []),
  (591, .dup, 592, []),
  (592, .bipush 20, 594, []),
  (594, .iconst 0, 595, []),
  (595, .iastore, 596, []),
  (596, .dup, 597, []),
  (597, .bipush 21, 599, []),
  (599, .iconst 0, 600, []),
  (600, .iastore, 601, []),
  (601, .dup, 602, []),
  (602, .bipush 22, 604, []),
  (604, .iconst 0, 605, []),
  (605, .iastore, 606, []),
  (606, .dup, 607, []),
  (607, .bipush 23, 609, []),
  (609, .iconst 4, 610, []),
  (610, .iastore, 611, []),
  (611, .dup, 612, []),
  (612, .bipush 24, 614, []),
  (614, .bipush 6, 616, []),
  (616, .iastore, 617, []),
  (617, .dup, 618, []),
  (618, .bipush 25, 620, []),
  (620, .bipush 9, 622, []),
  (622, .iastore, 623, []),
  (623, .dup, 624, []),
  (624, .bipush 26, 626, []),
  (626, .iconst 0, 627, []),
  (627, .iastore, 628, []),
  (628, .dup, 629, []),
  (629, .bipush 27, 631, []),
  (631, .iconst 0, 632, []),
  (632, .iastore, 633, []),
  (633, .dup, 634, []),
  (634, .bipush 28, 636, []),
  (636, .iconst 0, 637, []),
  (637, .iastore, 638, []),
  (638, .dup, 639, []),
  (639, .bipush 29, 641, []),
  (641, .iconst 0, 642, []),
  (642, .iastore, 643, []),
  (643, .dup, 644, []),
  (644, .bipush 30, 646, []),
  (646, .iconst 0, 647, []),
  (647, .iastore, 648, []),
  (648, .dup, 649, []),
  (649, .bipush 31, 651, []),
  (651, .iconst 0, 652, []),
  (652, .iastore, 653, []),
  (653, .dup, 654, []),
  (654, .bipush 32, 656, []),
  (656, .iconst 0, 657, []),
  (657, .iastore, 658, []),
  (658, .dup, 659, []),
  (659, .bipush 33, 661, []),
  (661, .iconst 0, 662, []),
  (662, .iastore, 663, []),
  (663, .dup, 664, []),
  (664, .bipush 34, 666, []),
  (666, .iconst 3, 667, []),
  (667, .iastore, 668, []),
  (668, .dup, 669, []),
  (669, .bipush 35, 671, []),
  (671, .bipush 6, 673, []),
  (673, .iastore, 674, []),
  (674, .dup, 675, []),
  (675, .bipush 36, 677, []),
  (677, .iconst 0, 678, []),
  (678, .iastore, 679, []),
  (679, .dup, 680, []),
  (680, .bipush 37, 682, []),
  (682, .iconst 0, 683, []),
  (683, .iastore, 684, []),
  (684, .dup, 685, []),
  (685, .bipush 38, 687, []),
  (687, .iconst 0, 688, []),
  (688, .iastore, 689, []),
  (689, .dup, 690, []),
  (690, .bipush 39, 692, []),
  (692, .iconst 0, 693, []),
  (693, .iastore, 694, []),
  (694, .dup, 695, []),
  (695, .bipush 40, 697, []),
  (697, .iconst 0, 698, []),
  (698, .iastore, 699, []),
  (699, .dup, 700, []),
  (700, .bipush 41, 702, []),
  (702, .iconst 0, 703, []),
  (703, .iastore, 704, []),
  (704, .dup, 705, []),
  (705, .bipush 42, 707, []),
  (707, .iconst 0, 708, []),
  (708, .iastore, 709, []),
  (709, .dup, 710, []),
  (710, .bipush 43, 712, []),
  (712, .iconst 0, 713, []),
  (713, .iastore, 714, []),
  (714, .dup, 715, []),
  (715, .bipush 44, 717, []),
  (717, .iconst 0, 718, []),
  (718, .iastore, 719, []),
  (719, .dup, 720, []),
  (720, .bipush 45, 722, []),
  (722, .iconst 4, 723, []),
  (723, .iastore, 724, []),
  (724, .putfield 22, 727, []),
  (727, .aload_n 0, 728, []),
  (728, .bipush 7, 730, []),
  (730, .newarray .int, 732, []),
  (732, .dup, 733, []),
  (733, .iconst 0, 734, []),
  (734, .iconst 3, 735, []),
  (735, .iastore, 736, []),
  (736, .dup, 737, []),
  (737, .iconst 1, 738, []),
  (738, .iconst 1, 739, []),
  (739, .iastore, 740, []),
  (740, .dup, 741, []),
  (741, .iconst 2, 742, []),
  (742, .iconst 2, 743, []),
  (743, .iastore, 744, []),
  (744, .dup, 745, []),
  (745, .iconst 3, 746, []),
  (746, .bipush 8, 748, []),
  (748, .iastore, 749, []),
  (749, .dup, 750, []),
  (750, .iconst 4, 751, []),
  (751, .iconst 3, 752, []),
  (752, .iastore, 753, []),
  (753, .dup, 754, []),
  (754, .iconst 5, 755, []),
  (755, .iconst 1, 756, []),
  (756, .iastore, 757, []),
  (757, .dup, 758, []),
  (758, .bipush 6, 760, []),
  (760, .iconst 1, 761, []),
  (761, .iastore, 762, []),
  (762, .putfield 25, 765, []),
  (765, .aload_n 0, 766, []),
  (766, .bipush 30, 768, []),
  (768, .newarray .int, 770, []),
  (770, .putfield 28, 773, []),
  (773, .aload_n 0, 774, []),
  (774, .bipush 30, 776, []),
  (776, .newarray .int, 778, []),
  (778, .putfield 31, 781, []),
  (781, .aload_n 0, 782, []),
  (782, .bipush 6, 784, []),
  (784, .newarray .int, 786, []),
  (786, .putfield 34, 789, []),
  (789, .aload_n 0, 790, []),
  (790, .bipush 6, 792, []),
  (792, .newarray .int, 794, []),
  (794, .putfield 37, 797, []),
  (797, .aload_n 0, 798, []),
  (798, .sipush 180, 801, []),
  (801, .newarray .int, 803, []),
  (803, .putfield 40, 806, []),
  (806, .aload_n 0, 807, []),
  (807, .sipush 180, 810, []),
  (810, .newarray .int, 812, []),
  (812, .putfield 43, 815, []),
  (815, .aload_n 0, 816, []),
  (816, .bipush 6, 818, []),
  (818, .newarray .int, 820, []),
  (820, .putfield 46, 823, []),
  (823, .aload_n 0, 824, []),
  (824, .iconst 2, 825, []),
  (825, .newarray .int, 827, []),
  (827, .putfield 49, 830, []),
  (830, .aload_n 0, 831, []),
  (831, .bipush 60, 833, []),
  (833, .newarray .int, 835, []),
  (835, .putfield 52, 838, []),
  (838, .aload_n 0, 839, []),
  (839, .iconst 2, 840, []),
  (840, .newarray .int, 842, []),
  (842, .putfield 55, 845, []),
  (845, .aload_n 0, 846, []),
  (846, .iconst 2, 847, []),
  (847, .newarray .int, 849, []),
  (849, .putfield 58, 852, []),
  (852, .aload_n 0, 853, []),
  (853, .iconst 2, 854, []),
  (854, .newarray .int, 856, []),
  (856, .putfield 61, 859, []),
  (859, .aload_n 0, 860, []),
  (860, .bipush 6, 862, []),
  (862, .newarray .int, 864, []),
  (864, .putfield 64, 867, []),
  (867, .aload_n 0, 868, []),
  (868, .bipush 6, 870, []),
  (870, .newarray .int, 872, []),
  (872, .putfield 67, 875, []),
  (875, .aload_n 0, 876, []),
  (876, .bipush 6, 878, []),
  (878, .newarray .int, 880, []),
  (880, .putfield 70, 883, []),
  (883, .aload_n 0, 884, []),
  (884, .bipush 6, 886, []),
  (886, .newarray .int, 888, []),
  (888, .putfield 73, 891, []),
  (891, .iconst 0, 892, []),
  (892, .istore_n 1, 893, []),
  (893, .iload_n 1, 894, []),
  (894, .bipush 60, 896, []),
  (896, .if_icmp .ge 25, 899, [(0, 921)]),
  (899, .aload_n 0, 900, []),
  (900, .getfield 7, 903, []),
  (903, .iload_n 1, 904, []),
  (904, .bipush (-9), 906, []),
  (906, .iastore, 907, []),
  (907, .aload_n 0, 908, []),
  (908, .getfield 13, 911, []),
  (911, .iload_n 1, 912, []),
  (912, .bipush (-9), 914, []),
  (914, .iastore, 915, []),
  (915, .iinc 1 1, 918, []),
  (918, .goto (-25), 921, [(0, 893)]),
  (921, .iconst 0, 922, []),
  (922, .istore_n 1, 923, []),
  (923, .iload_n 1, 924, []),
  (924, .iconst 2, 925, []),
  (925, .if_icmp .ge 17, 928, [(0, 942)]),
  (928, .aload_n 0, 929, []),
  (929, .getfield 55, 932, []),
  (932, .iload_n 1, 933, []),
  (933, .bipush (-9), 935, []),
  (935, .iastore, 936, []),
  (936, .iinc 1 1, 939, []),
  (939, .goto (-16), 942, [(0, 923)]),
  (942, .return_, 943, [])]
set_option maxRecDepth 100000 in
theorem ckM_init_0 : ((pM_init.drop 0).take 50).all (okE rM_init.2.1 rM_init.2.2.1) = true := by decide +kernel
set_option maxRecDepth 100000 in
theorem ckM_init_1 : ((pM_init.drop 50).take 50).all (okE rM_init.2.1 rM_init.2.2.1) = true := by decide +kernel
set_option maxRecDepth 100000 in
theorem ckM_init_2 : ((pM_init.drop 100).take 50).all (okE rM_init.2.1 rM_init.2.2.1) = true := by decide +kernel
set_option maxRecDepth 100000 in
theorem ckM_init_3 : ((pM_init.drop 150).take 50).all (okE rM_init.2.1 rM_init.2.2.1) = true := by decide +kernel
set_option maxRecDepth 100000 in
theorem ckM_init_4 : ((pM_init.drop 200).take 50).all (okE rM_init.2.1 rM_init.2.2.1) = true := by decide +kernel
set_option maxRecDepth 100000 in
theorem ckM_init_5 : ((pM_init.drop 250).take 50).all (okE rM_init.2.1 rM_init.2.2.1) = true := by decide +kernel
set_option maxRecDepth 100000 in
theorem ckM_init_6 : ((pM_init.drop 300).take 50).all (okE rM_init.2.1 rM_init.2.2.1) = true := by decide +kernel
set_option maxRecDepth 100000 in
theorem ckM_init_7 : ((pM_init.drop 350).take 50).all (okE rM_init.2.1 rM_init.2.2.1) = true := by decide +kernel
set_option maxRecDepth 100000 in
theorem ckM_init_8 : ((pM_init.drop 400).take 50).all (okE rM_init.2.1 rM_init.2.2.1) = true := by decide +kernel
set_option maxRecDepth 100000 in
theorem ckM_init_9 : ((pM_init.drop 450).take 50).all (okE rM_init.2.1 rM_init.2.2.1) = true := by decide +kernel
set_option maxRecDepth 100000 in
theorem ckM_init_10 : ((pM_init.drop 500).take 50).all (okE rM_init.2.1 rM_init.2.2.1) = true := by decide +kernel
set_option maxRecDepth 100000 in
theorem ckM_init_11 : ((pM_init.drop 550).take 50).all (okE rM_init.2.1 rM_init.2.2.1) = true := by decide +kernel
set_option maxRecDepth 100000 in
theorem ckM_init_12 : ((pM_init.drop 600).take 50).all (okE rM_init.2.1 rM_init.2.2.1) = true := by decide +kernel
set_option maxRecDepth 100000 in
theorem ckM_init_13 : ((pM_init.drop 650).take 50).all (okE rM_init.2.1 rM_init.2.2.1) = true := by decide +kernel
theorem ckzM_init : (pM_init.drop 700).all (okE rM_init.2.1 rM_init.2.2.1) = true := by decide +kernel
set_option maxRecDepth 100000 in
theorem moM_init : MO mM_init 5 true none pM_init := ⟨rM_init, rfl, rfl, by decide, rfl, (fun _ => rfl), (all_cut 0 50 ckM_init_0 (all_cut 50 50 ckM_init_1 (all_cut 100 50 ckM_init_2 (all_cut 150 50 ckM_init_3 (all_cut 200 50 ckM_init_4 (all_cut 250 50 ckM_init_5 (all_cut 300 50 ckM_init_6 (all_cut 350 50 ckM_init_7 (all_cut 400 50 ckM_init_8 (all_cut 450 50 ckM_init_9 (all_cut 500 50 ckM_init_10 (all_cut 550 50 ckM_init_11 (all_cut 600 50 ckM_init_12 (all_cut 650 50 ckM_init_13 ckzM_init))))))))))))))⟩
theorem aM_init {d : Nat} {Φ : Option Vl → Ly → Mm → Prop} (sp : List Nat) (n : Nat) {pc : Nat} {L : Lc} {st : List Vl} {S : Ly} {M : Mm} (h : MOk M → wp d 0 0 0 0 mM_init 5 true true none Φ pM_init sp n pc L st S M) : AJ d 0 0 mM_init Φ 0 0 pc L st S M := aj_wp moM_init sp n h
theorem eM_init {d : Nat} {Φ : Option Vl → Ly → Mm → Prop} (sp : List Nat) (n : Nat) {as : List Vl} (hn : as.length ≤ 2) {S : Ly} {M : Mm} (h : MOk M → wp d 0 0 0 0 mM_init 5 true true none Φ pM_init sp n 0 (as.map some) [] S M) : Ret d 0 0 mM_init as S M Φ := ret_wp moM_init (by rw [mtb0_len]; decide) (fun r h => by cases (show some rM_init = some r from h); rfl) sp n hn h
def pM_put : List En := [(0, .iload_n 1, 1, []),
  (1, .invokestatic 87, 4, []),
  (4, .ifCond .eq 10, 7, [(0, 14)]),
  (7, .iload_n 2, 8, []),
  (8, .invokestatic 91, 11, []),
  (11, .ifCond .ne 5, 14, [(0, 16)]),
  (14, .iconst (-1), 15, []),
  (15, .ireturn, 16, []),
  (16, .iload_n 3, 17, []),
  (17, .bipush (-9), 19, []),
  (19, .if_icmp .eq 13, 22, [(0, 32)]),
  (22, .iload_n 3, 23, []),
  (23, .invokestatic 94, 26, []),
  (26, .ifCond .ne 6, 29, [(0, 32)]),
  (29, .bipush (-2), 31, []),
  (31, .ireturn, 32, []),
  (32, .aload_n 0, 33, []),
  (33, .getfield 7, 36, []),
  (36, .bipush 30, 38, []),
  (38, .iload_n 1, 39, []),
  (39, .imul, 40, []),
  (40, .iload_n 2, 41, []),
  (41, .iadd, 42, []),
  (42, .iaload, 43, []),
  (43, .istore 4, 45, []),
  (45, .aload_n 0, 46, []),
  (46, .iload_n 1, 47, []),
  (47, .iload_n 2, 48, []),
  (48, .iload_n 3, 49, []),
  (49, .invokevirtual 97, 52, []),
  (52, .aload_n 0, 53, []),
  (53, .invokevirtual 101, 56, []),
  (56, .iload 4, 58, []),
  (58, .ireturn, 59, [])]
set_option maxRecDepth 100000 in
theorem moM_put : MO mM_put 5 false (some .int) pM_put := ⟨rM_put, rfl, rfl, by decide, rfl, (fun h => by cases h), (by decide +kernel)⟩
theorem aM_put {d : Nat} {Φ : Option Vl → Ly → Mm → Prop} (sp : List Nat) (n : Nat) {pc : Nat} {L : Lc} {st : List Vl} {S : Ly} {M : Mm} (h : MOk M → wp d 0 0 0 0 mM_put 5 false true (some .int) Φ pM_put sp n pc L st S M) : AJ d 0 0 mM_put Φ 0 0 pc L st S M := aj_wp moM_put sp n h
theorem eM_put {d : Nat} {Φ : Option Vl → Ly → Mm → Prop} (sp : List Nat) (n : Nat) {as : List Vl} (hn : as.length ≤ 5) {S : Ly} {M : Mm} (h : MOk M → wp d 0 0 0 0 mM_put 5 false true (some .int) Φ pM_put sp n 0 (as.map some) [] S M) : Ret d 0 0 mM_put as S M Φ := ret_wp moM_put (by rw [mtb0_len]; decide) (fun r h => by cases (show some rM_put = some r from h); rfl) sp n hn h
def pM_isHand : List En := [(0, .iload_n 0, 1, []),
  (1, .iconst 0, 2, []),
  (2, .iconst 1, 3, []),
  (3, .invokestatic 76, 6, []),
  (6, .ireturn, 7, [])]
set_option maxRecDepth 100000 in
theorem moM_isHand : MO mM_isHand 5 false (some .boolean) pM_isHand := ⟨rM_isHand, rfl, rfl, by decide, rfl, (fun h => by cases h), (by decide +kernel)⟩
theorem aM_isHand {d : Nat} {Φ : Option Vl → Ly → Mm → Prop} (sp : List Nat) (n : Nat) {pc : Nat} {L : Lc} {st : List Vl} {S : Ly} {M : Mm} (h : MOk M → wp d 0 0 0 0 mM_isHand 5 false true (some .boolean) Φ pM_isHand sp n pc L st S M) : AJ d 0 0 mM_isHand Φ 0 0 pc L st S M := aj_wp moM_isHand sp n h
theorem eM_isHand {d : Nat} {Φ : Option Vl → Ly → Mm → Prop} (sp : List Nat) (n : Nat) {as : List Vl} (hn : as.length ≤ 1) {S : Ly} {M : Mm} (h : MOk M → wp d 0 0 0 0 mM_isHand 5 false true (some .boolean) Φ pM_isHand sp n 0 (as.map some) [] S M) : Ret d 0 0 mM_isHand as S M Φ := ret_wp moM_isHand (by rw [mtb0_len]; decide) (fun r h => by cases (show some rM_isHand = some r from h); rfl) sp n hn h
def pM_within : List En := [(0, .iload_n 0, 1, []),
  (1, .iload_n 1, 2, []),
  (2, .if_icmp .lt 12, 5, [(0, 14)]),
  (5, .iload_n 0, 6, []),
  (6, .iload_n 2, 7, []),
  (7, .if_icmp .gt 7, 10, [(0, 14)]),
  (10, .iconst 1, 11, []),
  (11, .goto 4, 14, [(0, 15)]),
  (14, .iconst 0, 15, []),
  (15, .ireturn, 16, [])]
set_option maxRecDepth 100000 in
theorem moM_within : MO mM_within 5 false (some .boolean) pM_within := ⟨rM_within, rfl, rfl, by decide, rfl, (fun h => by cases h), (by decide +kernel)⟩
theorem aM_within {d : Nat} {Φ : Option Vl → Ly → Mm → Prop} (sp : List Nat) (n : Nat) {pc : Nat} {L : Lc} {st : List Vl} {S : Ly} {M : Mm} (h : MOk M → wp d 0 0 0 0 mM_within 5 false true (some .boolean) Φ pM_within sp n pc L st S M) : AJ d 0 0 mM_within Φ 0 0 pc L st S M := aj_wp moM_within sp n h
theorem eM_within {d : Nat} {Φ : Option Vl → Ly → Mm → Prop} (sp : List Nat) (n : Nat) {as : List Vl} (hn : as.length ≤ 3) {S : Ly} {M : Mm} (h : MOk M → wp d 0 0 0 0 mM_within 5 false true (some .boolean) Φ pM_within sp n 0 (as.map some) [] S M) : Ret d 0 0 mM_within as S M Φ := ret_wp moM_within (by rw [mtb0_len]; decide) (fun r h => by cases (show some rM_within = some r from h); rfl) sp n hn h
def pM_isMoment : List En := [(0, .iload_n 0, 1, []),
  (1, .iconst 0, 2, []),
  (2, .bipush 29, 4, []),
  (4, .invokestatic 76, 7, []),
  (7, .ireturn, 8, [])]
set_option maxRecDepth 100000 in
theorem moM_isMoment : MO mM_isMoment 5 false (some .boolean) pM_isMoment := ⟨rM_isMoment, rfl, rfl, by decide, rfl, (fun h => by cases h), (by decide +kernel)⟩
theorem aM_isMoment {d : Nat} {Φ : Option Vl → Ly → Mm → Prop} (sp : List Nat) (n : Nat) {pc : Nat} {L : Lc} {st : List Vl} {S : Ly} {M : Mm} (h : MOk M → wp d 0 0 0 0 mM_isMoment 5 false true (some .boolean) Φ pM_isMoment sp n pc L st S M) : AJ d 0 0 mM_isMoment Φ 0 0 pc L st S M := aj_wp moM_isMoment sp n h
theorem eM_isMoment {d : Nat} {Φ : Option Vl → Ly → Mm → Prop} (sp : List Nat) (n : Nat) {as : List Vl} (hn : as.length ≤ 1) {S : Ly} {M : Mm} (h : MOk M → wp d 0 0 0 0 mM_isMoment 5 false true (some .boolean) Φ pM_isMoment sp n 0 (as.map some) [] S M) : Ret d 0 0 mM_isMoment as S M Φ := ret_wp moM_isMoment (by rw [mtb0_len]; decide) (fun r h => by cases (show some rM_isMoment = some r from h); rfl) sp n hn h
def pM_isKey : List En := [(0, .iload_n 0, 1, []),
  (1, .iconst 0, 2, []),
  (2, .bipush 59, 4, []),
  (4, .invokestatic 76, 7, []),
  (7, .ireturn, 8, [])]
set_option maxRecDepth 100000 in
theorem moM_isKey : MO mM_isKey 5 false (some .boolean) pM_isKey := ⟨rM_isKey, rfl, rfl, by decide, rfl, (fun h => by cases h), (by decide +kernel)⟩
theorem aM_isKey {d : Nat} {Φ : Option Vl → Ly → Mm → Prop} (sp : List Nat) (n : Nat) {pc : Nat} {L : Lc} {st : List Vl} {S : Ly} {M : Mm} (h : MOk M → wp d 0 0 0 0 mM_isKey 5 false true (some .boolean) Φ pM_isKey sp n pc L st S M) : AJ d 0 0 mM_isKey Φ 0 0 pc L st S M := aj_wp moM_isKey sp n h
theorem eM_isKey {d : Nat} {Φ : Option Vl → Ly → Mm → Prop} (sp : List Nat) (n : Nat) {as : List Vl} (hn : as.length ≤ 1) {S : Ly} {M : Mm} (h : MOk M → wp d 0 0 0 0 mM_isKey 5 false true (some .boolean) Φ pM_isKey sp n 0 (as.map some) [] S M) : Ret d 0 0 mM_isKey as S M Φ := ret_wp moM_isKey (by rw [mtb0_len]; decide) (fun r h => by cases (show some rM_isKey = some r from h); rfl) sp n hn h
def pM_lays : List En := [(0, .bipush 30, 2, []),
  (2, .iload_n 1, 3, []),
  (3, .imul, 4, []),
  (4, .iload_n 2, 5, []),
  (5, .iadd, 6, []),
  (6, .istore 4, 8, []),
  (8, .aload_n 0, 9, []),
  (9, .getfield 7, 12, []),
  (12, .iload 4, 14, []),
  (14, .iaload, 15, []),
  (15, .iload_n 3, 16, []),
  (16, .if_icmp .eq 12, 19, [(0, 28)]),
  (19, .aload_n 0, 20, []),
  (20, .getfield 13, 23, []),
  (23, .iload 4, 25, []),
  (25, .bipush (-9), 27, []),
  (27, .iastore, 28, []),
  (28, .aload_n 0, 29, []),
  (29, .getfield 7, 32, []),
  (32, .iload 4, 34, []),
  (34, .iload_n 3, 35, []),
  (35, .iastore, 36, []),
  (36, .return_, 37, [])]
set_option maxRecDepth 100000 in
theorem moM_lays : MO mM_lays 5 false none pM_lays := ⟨rM_lays, rfl, rfl, by decide, rfl, (fun h => by cases h), (by decide +kernel)⟩
theorem aM_lays {d : Nat} {Φ : Option Vl → Ly → Mm → Prop} (sp : List Nat) (n : Nat) {pc : Nat} {L : Lc} {st : List Vl} {S : Ly} {M : Mm} (h : MOk M → wp d 0 0 0 0 mM_lays 5 false true none Φ pM_lays sp n pc L st S M) : AJ d 0 0 mM_lays Φ 0 0 pc L st S M := aj_wp moM_lays sp n h
theorem eM_lays {d : Nat} {Φ : Option Vl → Ly → Mm → Prop} (sp : List Nat) (n : Nat) {as : List Vl} (hn : as.length ≤ 5) {S : Ly} {M : Mm} (h : MOk M → wp d 0 0 0 0 mM_lays 5 false true none Φ pM_lays sp n 0 (as.map some) [] S M) : Ret d 0 0 mM_lays as S M Φ := ret_wp moM_lays (by rw [mtb0_len]; decide) (fun r h => by cases (show some rM_lays = some r from h); rfl) sp n hn h
def pM_isChanged : List En := [(0, .aload_n 0, 1, []),
  (1, .iconst 0, 2, []),
  (2, .putfield 80, 5, []),
  (5, .aload_n 0, 6, []),
  (6, .iconst 0, 7, []),
  (7, .putfield 84, 10, []),
  (10, .return_, 11, [])]
set_option maxRecDepth 100000 in
theorem moM_isChanged : MO mM_isChanged 5 false none pM_isChanged := ⟨rM_isChanged, rfl, rfl, by decide, rfl, (fun h => by cases h), (by decide +kernel)⟩
theorem aM_isChanged {d : Nat} {Φ : Option Vl → Ly → Mm → Prop} (sp : List Nat) (n : Nat) {pc : Nat} {L : Lc} {st : List Vl} {S : Ly} {M : Mm} (h : MOk M → wp d 0 0 0 0 mM_isChanged 5 false true none Φ pM_isChanged sp n pc L st S M) : AJ d 0 0 mM_isChanged Φ 0 0 pc L st S M := aj_wp moM_isChanged sp n h
theorem eM_isChanged {d : Nat} {Φ : Option Vl → Ly → Mm → Prop} (sp : List Nat) (n : Nat) {as : List Vl} (hn : as.length ≤ 1) {S : Ly} {M : Mm} (h : MOk M → wp d 0 0 0 0 mM_isChanged 5 false true none Φ pM_isChanged sp n 0 (as.map some) [] S M) : Ret d 0 0 mM_isChanged as S M Φ := ret_wp moM_isChanged (by rw [mtb0_len]; decide) (fun r h => by cases (show some rM_isChanged = some r from h); rfl) sp n hn h
def pM_mark : List En := [(0, .iload_n 1, 1, []),
  (1, .invokestatic 87, 4, []),
  (4, .ifCond .eq 10, 7, [(0, 14)]),
  (7, .iload_n 2, 8, []),
  (8, .invokestatic 91, 11, []),
  (11, .ifCond .ne 5, 14, [(0, 16)]),
  (14, .iconst (-1), 15, []),
  (15, .ireturn, 16, []),
  (16, .iload_n 3, 17, []),
  (17, .bipush (-9), 19, []),
  (19, .if_icmp .eq 13, 22, [(0, 32)]),
  (22, .iload_n 3, 23, []),
  (23, .invokestatic 104, 26, []),
  (26, .ifCond .ne 6, 29, [(0, 32)]),
  (29, .bipush (-2), 31, []),
  (31, .ireturn, 32, []),
  (32, .bipush 30, 34, []),
  (34, .iload_n 1, 35, []),
  (35, .imul, 36, []),
  (36, .iload_n 2, 37, []),
  (37, .iadd, 38, []),
  (38, .istore 4, 40, []),
  (40, .aload_n 0, 41, []),
  (41, .getfield 7, 44, []),
  (44, .iload 4, 46, []),
  (46, .iaload, 47, []),
  (47, .bipush (-9), 49, []),
  (49, .if_icmp .ne 6, 52, [(0, 55)]),
  (52, .bipush (-3), 54, []),
  (54, .ireturn, 55, []),
  (55, .aload_n 0, 56, []),
  (56, .getfield 13, 59, []),
  (59, .iload 4, 61, []),
  (61, .iaload, 62, []),
  (62, .istore 5, 64, []),
  (64, .aload_n 0, 65, []),
  (65, .getfield 13, 68, []),
  (68, .iload 4, 70, []),
  (70, .iload_n 3, 71, []),
  (71, .iastore, 72, []),
  (72, .aload_n 0, 73, []),
  (73, .invokevirtual 101, 76, []),
  (76, .iload 5, 78, []),
  (78, .ireturn, 79, [])]
set_option maxRecDepth 100000 in
theorem moM_mark : MO mM_mark 5 false (some .int) pM_mark := ⟨rM_mark, rfl, rfl, by decide, rfl, (fun h => by cases h), (by decide +kernel)⟩
theorem aM_mark {d : Nat} {Φ : Option Vl → Ly → Mm → Prop} (sp : List Nat) (n : Nat) {pc : Nat} {L : Lc} {st : List Vl} {S : Ly} {M : Mm} (h : MOk M → wp d 0 0 0 0 mM_mark 5 false true (some .int) Φ pM_mark sp n pc L st S M) : AJ d 0 0 mM_mark Φ 0 0 pc L st S M := aj_wp moM_mark sp n h
theorem eM_mark {d : Nat} {Φ : Option Vl → Ly → Mm → Prop} (sp : List Nat) (n : Nat) {as : List Vl} (hn : as.length ≤ 6) {S : Ly} {M : Mm} (h : MOk M → wp d 0 0 0 0 mM_mark 5 false true (some .int) Φ pM_mark sp n 0 (as.map some) [] S M) : Ret d 0 0 mM_mark as S M Φ := ret_wp moM_mark (by rw [mtb0_len]; decide) (fun r h => by cases (show some rM_mark = some r from h); rfl) sp n hn h
def pM_isFinger : List En := [(0, .iload_n 0, 1, []),
  (1, .iconst 1, 2, []),
  (2, .iconst 5, 3, []),
  (3, .invokestatic 76, 6, []),
  (6, .ireturn, 7, [])]
set_option maxRecDepth 100000 in
theorem moM_isFinger : MO mM_isFinger 5 false (some .boolean) pM_isFinger := ⟨rM_isFinger, rfl, rfl, by decide, rfl, (fun h => by cases h), (by decide +kernel)⟩
theorem aM_isFinger {d : Nat} {Φ : Option Vl → Ly → Mm → Prop} (sp : List Nat) (n : Nat) {pc : Nat} {L : Lc} {st : List Vl} {S : Ly} {M : Mm} (h : MOk M → wp d 0 0 0 0 mM_isFinger 5 false true (some .boolean) Φ pM_isFinger sp n pc L st S M) : AJ d 0 0 mM_isFinger Φ 0 0 pc L st S M := aj_wp moM_isFinger sp n h
theorem eM_isFinger {d : Nat} {Φ : Option Vl → Ly → Mm → Prop} (sp : List Nat) (n : Nat) {as : List Vl} (hn : as.length ≤ 1) {S : Ly} {M : Mm} (h : MOk M → wp d 0 0 0 0 mM_isFinger 5 false true (some .boolean) Φ pM_isFinger sp n 0 (as.map some) [] S M) : Ret d 0 0 mM_isFinger as S M Φ := ret_wp moM_isFinger (by rw [mtb0_len]; decide) (fun r h => by cases (show some rM_isFinger = some r from h); rfl) sp n hn h
def pM_reach : List En := [(0, .iload_n 1, 1, []),
  (1, .invokestatic 104, 4, []),
  (4, .ifCond .eq 10, 7, [(0, 14)]),
  (7, .iload_n 2, 8, []),
  (8, .invokestatic 104, 11, []),
  (11, .ifCond .ne 5, 14, [(0, 16)]),
  (14, .iconst (-1), 15, []),
  (15, .ireturn, 16, []),
  (16, .iload_n 3, 17, []),
  (17, .iconst 0, 18, []),
  (18, .bipush 24, 20, []),
  (20, .invokestatic 76, 23, []),
  (23, .ifCond .eq 26, 26, [(0, 49)]),
  (26, .iload 4, 28, []),
  (28, .iload_n 3, 29, []),
  (29, .bipush 24, 31, []),
  (31, .invokestatic 76, 34, []),
  (34, .ifCond .eq 15, 37, [(0, 49)]),
  (37, .iload 5, 39, []),
  (39, .iload 4, 41, []),
  (41, .bipush 24, 43, []),
  (43, .invokestatic 76, 46, []),
  (46, .ifCond .ne 6, 49, [(0, 52)]),
  (49, .bipush (-2), 51, []),
  (51, .ireturn, 52, []),
  (52, .iload_n 1, 53, []),
  (53, .iload_n 2, 54, []),
  (54, .if_icmp .lt 6, 57, [(0, 60)]),
  (57, .bipush (-3), 59, []),
  (59, .ireturn, 60, []),
  (60, .aload_n 0, 61, []),
  (61, .getfield 16, 64, []),
  (64, .bipush 10, 66, []),
  (66, .iload_n 1, 67, []),
  (67, .imul, 68, []),
  (68, .iload_n 2, 69, []),
  (69, .iadd, 70, []),
  (70, .iload_n 3, 71, []),
  (71, .iastore, 72, []),
  (72, .aload_n 0, 73, []),
  (73, .getfield 19, 76, []),
  (76, .bipush 10, 78, []),
  (78, .iload_n 1, 79, []),
  (79, .imul, 80, []),
  (80, .iload_n 2, 81, []),
  (81, .iadd, 82, []),
  (82, .iload 4, 84, []),
  (84, .iastore, 85, []),
  (85, .aload_n 0, 86, []),
  (86, .getfield 22, 89, []),
  (89, .bipush 10, 91, []),
  (91, .iload_n 1, 92, []),
  (92, .imul, 93, []),
  (93, .iload_n 2, 94, []),
  (94, .iadd, 95, []),
  (95, .iload 5, 97, []),
  (97, .iastore, 98, []),
  (98, .aload_n 0, 99, []),
  (99, .invokevirtual 101, 102, []),
  (102, .iconst 1, 103, []),
  (103, .ireturn, 104, [])]
set_option maxRecDepth 100000 in
theorem moM_reach : MO mM_reach 5 false (some .int) pM_reach := ⟨rM_reach, rfl, rfl, by decide, rfl, (fun h => by cases h), (by decide +kernel)⟩
theorem aM_reach {d : Nat} {Φ : Option Vl → Ly → Mm → Prop} (sp : List Nat) (n : Nat) {pc : Nat} {L : Lc} {st : List Vl} {S : Ly} {M : Mm} (h : MOk M → wp d 0 0 0 0 mM_reach 5 false true (some .int) Φ pM_reach sp n pc L st S M) : AJ d 0 0 mM_reach Φ 0 0 pc L st S M := aj_wp moM_reach sp n h
theorem eM_reach {d : Nat} {Φ : Option Vl → Ly → Mm → Prop} (sp : List Nat) (n : Nat) {as : List Vl} (hn : as.length ≤ 6) {S : Ly} {M : Mm} (h : MOk M → wp d 0 0 0 0 mM_reach 5 false true (some .int) Φ pM_reach sp n 0 (as.map some) [] S M) : Ret d 0 0 mM_reach as S M Φ := ret_wp moM_reach (by rw [mtb0_len]; decide) (fun r h => by cases (show some rM_reach = some r from h); rfl) sp n hn h
def pM_reachOf : List En := [(0, .iload_n 1, 1, []),
  (1, .invokestatic 104, 4, []),
  (4, .ifCond .eq 10, 7, [(0, 14)]),
  (7, .iload_n 2, 8, []),
  (8, .invokestatic 104, 11, []),
  (11, .ifCond .ne 5, 14, [(0, 16)]),
  (14, .iconst (-1), 15, []),
  (15, .ireturn, 16, []),
  (16, .iload_n 3, 17, []),
  (17, .iconst 0, 18, []),
  (18, .iconst 2, 19, []),
  (19, .invokestatic 76, 22, []),
  (22, .ifCond .ne 6, 25, [(0, 28)]),
  (25, .bipush (-2), 27, []),
  (27, .ireturn, 28, []),
  (28, .iload_n 1, 29, []),
  (29, .iload_n 2, 30, []),
  (30, .if_icmp .lt 6, 33, [(0, 36)]),
  (33, .bipush (-3), 35, []),
  (35, .ireturn, 36, []),
  (36, .iload_n 3, 37, []),
  (37, .ifCond .ne 17, 40, [(0, 54)]),
  (40, .aload_n 0, 41, []),
  (41, .getfield 16, 44, []),
  (44, .bipush 10, 46, []),
  (46, .iload_n 1, 47, []),
  (47, .imul, 48, []),
  (48, .iload_n 2, 49, []),
  (49, .iadd, 50, []),
  (50, .iaload, 51, []),
  (51, .goto 33, 54, [(0, 84)]),
  (54, .iload_n 3, 55, []),
  (55, .iconst 1, 56, []),
  (56, .if_icmp .ne 17, 59, [(0, 73)]),
  (59, .aload_n 0, 60, []),
  (60, .getfield 19, 63, []),
  (63, .bipush 10, 65, []),
  (65, .iload_n 1, 66, []),
  (66, .imul, 67, []),
  (67, .iload_n 2, 68, []),
  (68, .iadd, 69, []),
  (69, .iaload, 70, []),
  (70, .goto 14, 73, [(0, 84)]),
  (73, .aload_n 0, 74, []),
  (74, .getfield 22, 77, []),
  (77, .bipush 10, 79, []),
  (79, .iload_n 1, 80, []),
  (80, .imul, 81, []),
  (81, .iload_n 2, 82, []),
  (82, .iadd, 83, []),
  (83, .iaload, 84, []),
  (84, .ireturn, 85, [])]
set_option maxRecDepth 100000 in
theorem moM_reachOf : MO mM_reachOf 5 false (some .int) pM_reachOf := ⟨rM_reachOf, rfl, rfl, by decide, rfl, (fun h => by cases h), (by decide +kernel)⟩
theorem aM_reachOf {d : Nat} {Φ : Option Vl → Ly → Mm → Prop} (sp : List Nat) (n : Nat) {pc : Nat} {L : Lc} {st : List Vl} {S : Ly} {M : Mm} (h : MOk M → wp d 0 0 0 0 mM_reachOf 5 false true (some .int) Φ pM_reachOf sp n pc L st S M) : AJ d 0 0 mM_reachOf Φ 0 0 pc L st S M := aj_wp moM_reachOf sp n h
theorem eM_reachOf {d : Nat} {Φ : Option Vl → Ly → Mm → Prop} (sp : List Nat) (n : Nat) {as : List Vl} (hn : as.length ≤ 4) {S : Ly} {M : Mm} (h : MOk M → wp d 0 0 0 0 mM_reachOf 5 false true (some .int) Φ pM_reachOf sp n 0 (as.map some) [] S M) : Ret d 0 0 mM_reachOf as S M Φ := ret_wp moM_reachOf (by rw [mtb0_len]; decide) (fun r h => by cases (show some rM_reachOf = some r from h); rfl) sp n hn h
def pM_price : List En := [(0, .iload_n 1, 1, []),
  (1, .iconst 0, 2, []),
  (2, .bipush 6, 4, []),
  (4, .invokestatic 76, 7, []),
  (7, .ifCond .eq 13, 10, [(0, 20)]),
  (10, .iload_n 2, 11, []),
  (11, .iconst 0, 12, []),
  (12, .bipush 20, 14, []),
  (14, .invokestatic 76, 17, []),
  (17, .ifCond .ne 6, 20, [(0, 23)]),
  (20, .bipush (-2), 22, []),
  (22, .ireturn, 23, []),
  (23, .aload_n 0, 24, []),
  (24, .getfield 25, 27, []),
  (27, .iload_n 1, 28, []),
  (28, .iaload, 29, []),
  (29, .istore_n 3, 30, []),
  (30, .aload_n 0, 31, []),
  (31, .getfield 25, 34, []),
  (34, .iload_n 1, 35, []),
  (35, .iload_n 2, 36, []),
  (36, .iastore, 37, []),
  (37, .aload_n 0, 38, []),
  (38, .invokevirtual 101, 41, []),
  (41, .iload_n 3, 42, []),
  (42, .ireturn, 43, [])]
set_option maxRecDepth 100000 in
theorem moM_price : MO mM_price 5 false (some .int) pM_price := ⟨rM_price, rfl, rfl, by decide, rfl, (fun h => by cases h), (by decide +kernel)⟩
theorem aM_price {d : Nat} {Φ : Option Vl → Ly → Mm → Prop} (sp : List Nat) (n : Nat) {pc : Nat} {L : Lc} {st : List Vl} {S : Ly} {M : Mm} (h : MOk M → wp d 0 0 0 0 mM_price 5 false true (some .int) Φ pM_price sp n pc L st S M) : AJ d 0 0 mM_price Φ 0 0 pc L st S M := aj_wp moM_price sp n h
theorem eM_price {d : Nat} {Φ : Option Vl → Ly → Mm → Prop} (sp : List Nat) (n : Nat) {as : List Vl} (hn : as.length ≤ 4) {S : Ly} {M : Mm} (h : MOk M → wp d 0 0 0 0 mM_price 5 false true (some .int) Φ pM_price sp n 0 (as.map some) [] S M) : Ret d 0 0 mM_price as S M Φ := ret_wp moM_price (by rw [mtb0_len]; decide) (fun r h => by cases (show some rM_price = some r from h); rfl) sp n hn h
def pM_clear : List En := [(0, .iload_n 1, 1, []),
  (1, .invokestatic 87, 4, []),
  (4, .ifCond .ne 5, 7, [(0, 9)]),
  (7, .iconst (-1), 8, []),
  (8, .ireturn, 9, []),
  (9, .aload_n 0, 10, []),
  (10, .iload_n 1, 11, []),
  (11, .invokevirtual 107, 14, []),
  (14, .istore_n 2, 15, []),
  (15, .iconst 0, 16, []),
  (16, .istore_n 3, 17, []),
  (17, .iload_n 3, 18, []),
  (18, .bipush 30, 20, []),
  (20, .if_icmp .ge 17, 23, [(0, 37)]),
  (23, .aload_n 0, 24, []),
  (24, .iload_n 1, 25, []),
  (25, .iload_n 3, 26, []),
  (26, .bipush (-9), 28, []),
  (28, .invokevirtual 97, 31, []),
  (31, .iinc 3 1, 34, []),
  (34, .goto (-17), 37, [(0, 17)]),
  (37, .aload_n 0, 38, []),
  (38, .getfield 55, 41, []),
  (41, .iload_n 1, 42, []),
  (42, .bipush (-9), 44, []),
  (44, .iastore, 45, []),
  (45, .aload_n 0, 46, []),
  (46, .invokevirtual 101, 49, []),
  (49, .iload_n 2, 50, []),
  (50, .ireturn, 51, [])]
set_option maxRecDepth 100000 in
theorem moM_clear : MO mM_clear 5 false (some .int) pM_clear := ⟨rM_clear, rfl, rfl, by decide, rfl, (fun h => by cases h), (by decide +kernel)⟩
theorem aM_clear {d : Nat} {Φ : Option Vl → Ly → Mm → Prop} (sp : List Nat) (n : Nat) {pc : Nat} {L : Lc} {st : List Vl} {S : Ly} {M : Mm} (h : MOk M → wp d 0 0 0 0 mM_clear 5 false true (some .int) Φ pM_clear sp n pc L st S M) : AJ d 0 0 mM_clear Φ 0 0 pc L st S M := aj_wp moM_clear sp n h
theorem eM_clear {d : Nat} {Φ : Option Vl → Ly → Mm → Prop} (sp : List Nat) (n : Nat) {as : List Vl} (hn : as.length ≤ 4) {S : Ly} {M : Mm} (h : MOk M → wp d 0 0 0 0 mM_clear 5 false true (some .int) Φ pM_clear sp n 0 (as.map some) [] S M) : Ret d 0 0 mM_clear as S M Φ := ret_wp moM_clear (by rw [mtb0_len]; decide) (fun r h => by cases (show some rM_clear = some r from h); rfl) sp n hn h
def pM_notesOf : List En := [(0, .iconst 0, 1, []),
  (1, .istore_n 2, 2, []),
  (2, .iconst 0, 3, []),
  (3, .istore_n 3, 4, []),
  (4, .iload_n 3, 5, []),
  (5, .bipush 30, 7, []),
  (7, .if_icmp .ge 33, 10, [(0, 40)]),
  (10, .iload_n 2, 11, []),
  (11, .aload_n 0, 12, []),
  (12, .getfield 7, 15, []),
  (15, .bipush 30, 17, []),
  (17, .iload_n 1, 18, []),
  (18, .imul, 19, []),
  (19, .iload_n 3, 20, []),
  (20, .iadd, 21, []),
  (21, .iaload, 22, []),
  (22, .bipush (-9), 24, []),
  (24, .if_icmp .eq 7, 27, [(0, 31)]),
  (27, .iconst 1, 28, []),
  (28, .goto 4, 31, [(0, 32)]),
  (31, .iconst 0, 32, []),
  (32, .iadd, 33, []),
  (33, .istore_n 2, 34, []),
  (34, .iinc 3 1, 37, []),
  (37, .goto (-33), 40, [(0, 4)]),
  (40, .iload_n 2, 41, []),
  (41, .ireturn, 42, [])]
set_option maxRecDepth 100000 in
theorem moM_notesOf : MO mM_notesOf 5 false (some .int) pM_notesOf := ⟨rM_notesOf, rfl, rfl, by decide, rfl, (fun h => by cases h), (by decide +kernel)⟩
theorem aM_notesOf {d : Nat} {Φ : Option Vl → Ly → Mm → Prop} (sp : List Nat) (n : Nat) {pc : Nat} {L : Lc} {st : List Vl} {S : Ly} {M : Mm} (h : MOk M → wp d 0 0 0 0 mM_notesOf 5 false true (some .int) Φ pM_notesOf sp n pc L st S M) : AJ d 0 0 mM_notesOf Φ 0 0 pc L st S M := aj_wp moM_notesOf sp n h
theorem eM_notesOf {d : Nat} {Φ : Option Vl → Ly → Mm → Prop} (sp : List Nat) (n : Nat) {as : List Vl} (hn : as.length ≤ 4) {S : Ly} {M : Mm} (h : MOk M → wp d 0 0 0 0 mM_notesOf 5 false true (some .int) Φ pM_notesOf sp n 0 (as.map some) [] S M) : Ret d 0 0 mM_notesOf as S M Φ := ret_wp moM_notesOf (by rw [mtb0_len]; decide) (fun r h => by cases (show some rM_notesOf = some r from h); rfl) sp n hn h
def pM_note : List En := [(0, .iload_n 1, 1, []),
  (1, .invokestatic 87, 4, []),
  (4, .ifCond .eq 12, 7, [(0, 16)]),
  (7, .aload_n 0, 8, []),
  (8, .iload_n 1, 9, []),
  (9, .iload_n 2, 10, []),
  (10, .invokevirtual 111, 13, []),
  (13, .ifCond .ne 5, 16, [(0, 18)]),
  (16, .iconst (-1), 17, []),
  (17, .ireturn, 18, []),
  (18, .aload_n 0, 19, []),
  (19, .iload_n 1, 20, []),
  (20, .iload_n 2, 21, []),
  (21, .invokevirtual 115, 24, []),
  (24, .istore 4, 26, []),
  (26, .iload_n 3, 27, []),
  (27, .tableswitch 72 0 3 #[29, 37, 45, 53], 56, [(0, 99), (0, 56), (1, 64), (2, 72), (3, 80)]),
  (56, .iload 4, 58, []),
  (58, .bipush 30, 60, []),
  (60, .iload_n 1, 61, []),
  (61, .imul, 62, []),
  (62, .isub, 63, []),
  (63, .ireturn, 64, []),
  (64, .aload_n 0, 65, []),
  (65, .getfield 7, 68, []),
  (68, .iload 4, 70, []),
  (70, .iaload, 71, []),
  (71, .ireturn, 72, []),
  (72, .aload_n 0, 73, []),
  (73, .getfield 13, 76, []),
  (76, .iload 4, 78, []),
  (78, .iaload, 79, []),
  (79, .ireturn, 80, []),
  (80, .aload_n 0, 81, []),
  (81, .getfield 7, 84, []),
  (84, .iload 4, 86, []),
  (86, .iaload, 87, []),
  (87, .invokestatic 119, 90, []),
  (90, .ifCond .eq 7, 93, [(0, 97)]),
  (93, .iconst 1, 94, []),
  (94, .goto 4, 97, [(0, 98)]),
  (97, .iconst 0, 98, []),
  (98, .ireturn, 99, []),
  (99, .bipush (-2), 101, []),
  (101, .ireturn, 102, [])]
set_option maxRecDepth 100000 in
theorem moM_note : MO mM_note 5 false (some .int) pM_note := ⟨rM_note, rfl, rfl, by decide, rfl, (fun h => by cases h), (by decide +kernel)⟩
theorem aM_note {d : Nat} {Φ : Option Vl → Ly → Mm → Prop} (sp : List Nat) (n : Nat) {pc : Nat} {L : Lc} {st : List Vl} {S : Ly} {M : Mm} (h : MOk M → wp d 0 0 0 0 mM_note 5 false true (some .int) Φ pM_note sp n pc L st S M) : AJ d 0 0 mM_note Φ 0 0 pc L st S M := aj_wp moM_note sp n h
theorem eM_note {d : Nat} {Φ : Option Vl → Ly → Mm → Prop} (sp : List Nat) (n : Nat) {as : List Vl} (hn : as.length ≤ 5) {S : Ly} {M : Mm} (h : MOk M → wp d 0 0 0 0 mM_note 5 false true (some .int) Φ pM_note sp n 0 (as.map some) [] S M) : Ret d 0 0 mM_note as S M Φ := ret_wp moM_note (by rw [mtb0_len]; decide) (fun r h => by cases (show some rM_note = some r from h); rfl) sp n hn h
def pM_isNote : List En := [(0, .iload_n 2, 1, []),
  (1, .iconst 0, 2, []),
  (2, .aload_n 0, 3, []),
  (3, .iload_n 1, 4, []),
  (4, .invokevirtual 107, 7, []),
  (7, .iconst 1, 8, []),
  (8, .isub, 9, []),
  (9, .invokestatic 76, 12, []),
  (12, .ireturn, 13, [])]
set_option maxRecDepth 100000 in
theorem moM_isNote : MO mM_isNote 5 false (some .boolean) pM_isNote := ⟨rM_isNote, rfl, rfl, by decide, rfl, (fun h => by cases h), (by decide +kernel)⟩
theorem aM_isNote {d : Nat} {Φ : Option Vl → Ly → Mm → Prop} (sp : List Nat) (n : Nat) {pc : Nat} {L : Lc} {st : List Vl} {S : Ly} {M : Mm} (h : MOk M → wp d 0 0 0 0 mM_isNote 5 false true (some .boolean) Φ pM_isNote sp n pc L st S M) : AJ d 0 0 mM_isNote Φ 0 0 pc L st S M := aj_wp moM_isNote sp n h
theorem eM_isNote {d : Nat} {Φ : Option Vl → Ly → Mm → Prop} (sp : List Nat) (n : Nat) {as : List Vl} (hn : as.length ≤ 3) {S : Ly} {M : Mm} (h : MOk M → wp d 0 0 0 0 mM_isNote 5 false true (some .boolean) Φ pM_isNote sp n 0 (as.map some) [] S M) : Ret d 0 0 mM_isNote as S M Φ := ret_wp moM_isNote (by rw [mtb0_len]; decide) (fun r h => by cases (show some rM_isNote = some r from h); rfl) sp n hn h
def pM_placeOf : List En := [(0, .iload_n 2, 1, []),
  (1, .istore_n 3, 2, []),
  (2, .bipush 30, 4, []),
  (4, .iload_n 1, 5, []),
  (5, .imul, 6, []),
  (6, .istore 4, 8, []),
  (8, .aload_n 0, 9, []),
  (9, .getfield 7, 12, []),
  (12, .iload 4, 14, []),
  (14, .iaload, 15, []),
  (15, .bipush (-9), 17, []),
  (17, .if_icmp .eq 7, 20, [(0, 24)]),
  (20, .iload_n 3, 21, []),
  (21, .ifCond .le 29, 24, [(0, 50)]),
  (24, .iload_n 3, 25, []),
  (25, .aload_n 0, 26, []),
  (26, .getfield 7, 29, []),
  (29, .iload 4, 31, []),
  (31, .iaload, 32, []),
  (32, .bipush (-9), 34, []),
  (34, .if_icmp .eq 7, 37, [(0, 41)]),
  (37, .iconst 1, 38, []),
  (38, .goto 4, 41, [(0, 42)]),
  (41, .iconst 0, 42, []),
  (42, .isub, 43, []),
  (43, .istore_n 3, 44, []),
  (44, .iinc 4 1, 47, []),
  (47, .goto (-39), 50, [(0, 8)]),
  (50, .iload 4, 52, []),
  (52, .ireturn, 53, [])]
set_option maxRecDepth 100000 in
theorem moM_placeOf : MO mM_placeOf 5 false (some .int) pM_placeOf := ⟨rM_placeOf, rfl, rfl, by decide, rfl, (fun h => by cases h), (by decide +kernel)⟩
theorem aM_placeOf {d : Nat} {Φ : Option Vl → Ly → Mm → Prop} (sp : List Nat) (n : Nat) {pc : Nat} {L : Lc} {st : List Vl} {S : Ly} {M : Mm} (h : MOk M → wp d 0 0 0 0 mM_placeOf 5 false true (some .int) Φ pM_placeOf sp n pc L st S M) : AJ d 0 0 mM_placeOf Φ 0 0 pc L st S M := aj_wp moM_placeOf sp n h
theorem eM_placeOf {d : Nat} {Φ : Option Vl → Ly → Mm → Prop} (sp : List Nat) (n : Nat) {as : List Vl} (hn : as.length ≤ 5) {S : Ly} {M : Mm} (h : MOk M → wp d 0 0 0 0 mM_placeOf 5 false true (some .int) Φ pM_placeOf sp n 0 (as.map some) [] S M) : Ret d 0 0 mM_placeOf as S M Φ := ret_wp moM_placeOf (by rw [mtb0_len]; decide) (fun r h => by cases (show some rM_placeOf = some r from h); rfl) sp n hn h
def pM_isBlack : List En := [(0, .iload_n 0, 1, []),
  (1, .bipush 12, 3, []),
  (3, .irem, 4, []),
  (4, .istore_n 1, 5, []),
  (5, .iload_n 1, 6, []),
  (6, .iconst 1, 7, []),
  (7, .if_icmp .eq 26, 10, [(0, 33)]),
  (10, .iload_n 1, 11, []),
  (11, .iconst 3, 12, []),
  (12, .if_icmp .eq 21, 15, [(0, 33)]),
  (15, .iload_n 1, 16, []),
  (16, .bipush 6, 18, []),
  (18, .if_icmp .eq 15, 21, [(0, 33)]),
  (21, .iload_n 1, 22, []),
  (22, .bipush 8, 24, []),
  (24, .if_icmp .eq 9, 27, [(0, 33)]),
  (27, .iload_n 1, 28, []),
  (28, .bipush 10, 30, []),
  (30, .if_icmp .ne 7, 33, [(0, 37)]),
  (33, .iconst 1, 34, []),
  (34, .goto 4, 37, [(0, 38)]),
  (37, .iconst 0, 38, []),
  (38, .ireturn, 39, [])]
set_option maxRecDepth 100000 in
theorem moM_isBlack : MO mM_isBlack 5 false (some .boolean) pM_isBlack := ⟨rM_isBlack, rfl, rfl, by decide, rfl, (fun h => by cases h), (by decide +kernel)⟩
theorem aM_isBlack {d : Nat} {Φ : Option Vl → Ly → Mm → Prop} (sp : List Nat) (n : Nat) {pc : Nat} {L : Lc} {st : List Vl} {S : Ly} {M : Mm} (h : MOk M → wp d 0 0 0 0 mM_isBlack 5 false true (some .boolean) Φ pM_isBlack sp n pc L st S M) : AJ d 0 0 mM_isBlack Φ 0 0 pc L st S M := aj_wp moM_isBlack sp n h
theorem eM_isBlack {d : Nat} {Φ : Option Vl → Ly → Mm → Prop} (sp : List Nat) (n : Nat) {as : List Vl} (hn : as.length ≤ 2) {S : Ly} {M : Mm} (h : MOk M → wp d 0 0 0 0 mM_isBlack 5 false true (some .boolean) Φ pM_isBlack sp n 0 (as.map some) [] S M) : Ret d 0 0 mM_isBlack as S M Φ := ret_wp moM_isBlack (by rw [mtb0_len]; decide) (fun r h => by cases (show some rM_isBlack = some r from h); rfl) sp n hn h
def pM_costs : List En := [(0, .iload_n 2, 1, []),
  (1, .invokestatic 104, 4, []),
  (4, .ifCond .ne 5, 7, [(0, 9)]),
  (7, .iconst (-1), 8, []),
  (8, .ireturn, 9, []),
  (9, .iload_n 1, 10, []),
  (10, .invokestatic 94, 13, []),
  (13, .ifCond .eq 12, 16, [(0, 25)]),
  (16, .aload_n 0, 17, []),
  (17, .iload_n 1, 18, []),
  (18, .iload_n 2, 19, []),
  (19, .invokevirtual 122, 22, []),
  (22, .goto 5, 25, [(0, 27)]),
  (25, .bipush (-2), 27, []),
  (27, .ireturn, 28, [])]
set_option maxRecDepth 100000 in
theorem moM_costs : MO mM_costs 5 false (some .int) pM_costs := ⟨rM_costs, rfl, rfl, by decide, rfl, (fun h => by cases h), (by decide +kernel)⟩
theorem aM_costs {d : Nat} {Φ : Option Vl → Ly → Mm → Prop} (sp : List Nat) (n : Nat) {pc : Nat} {L : Lc} {st : List Vl} {S : Ly} {M : Mm} (h : MOk M → wp d 0 0 0 0 mM_costs 5 false true (some .int) Φ pM_costs sp n pc L st S M) : AJ d 0 0 mM_costs Φ 0 0 pc L st S M := aj_wp moM_costs sp n h
theorem eM_costs {d : Nat} {Φ : Option Vl → Ly → Mm → Prop} (sp : List Nat) (n : Nat) {as : List Vl} (hn : as.length ≤ 3) {S : Ly} {M : Mm} (h : MOk M → wp d 0 0 0 0 mM_costs 5 false true (some .int) Φ pM_costs sp n 0 (as.map some) [] S M) : Ret d 0 0 mM_costs as S M Φ := ret_wp moM_costs (by rw [mtb0_len]; decide) (fun r h => by cases (show some rM_costs = some r from h); rfl) sp n hn h
def pM_noteCost : List En := [(0, .iload_n 2, 1, []),
  (1, .iconst 4, 2, []),
  (2, .if_icmp .ne 13, 5, [(0, 15)]),
  (5, .aload_n 0, 6, []),
  (6, .getfield 25, 9, []),
  (9, .bipush 6, 11, []),
  (11, .iaload, 12, []),
  (12, .goto 4, 15, [(0, 16)]),
  (15, .iconst 0, 16, []),
  (16, .istore_n 3, 17, []),
  (17, .iload_n 1, 18, []),
  (18, .invokestatic 119, 21, []),
  (21, .ifCond .eq 35, 24, [(0, 56)]),
  (24, .iload_n 3, 25, []),
  (25, .iload_n 2, 26, []),
  (26, .iconst 1, 27, []),
  (27, .if_icmp .ne 12, 30, [(0, 39)]),
  (30, .aload_n 0, 31, []),
  (31, .getfield 25, 34, []),
  (34, .iconst 0, 35, []),
  (35, .iaload, 36, []),
  (36, .goto 18, 39, [(0, 54)]),
  (39, .iload_n 2, 40, []),
  (40, .iconst 5, 41, []),
  (41, .if_icmp .ne 12, 44, [(0, 53)]),
  (44, .aload_n 0, 45, []),
  (45, .getfield 25, 48, []),
  (48, .iconst 1, 49, []),
  (49, .iaload, 50, []),
  (50, .goto 4, 53, [(0, 54)]),
  (53, .iconst 0, 54, []),
  (54, .iadd, 55, []),
  (55, .istore_n 3, 56, []),
  (56, .iload_n 3, 57, []),
  (57, .ireturn, 58, [])]
set_option maxRecDepth 100000 in
theorem moM_noteCost : MO mM_noteCost 5 false (some .int) pM_noteCost := ⟨rM_noteCost, rfl, rfl, by decide, rfl, (fun h => by cases h), (by decide +kernel)⟩
theorem aM_noteCost {d : Nat} {Φ : Option Vl → Ly → Mm → Prop} (sp : List Nat) (n : Nat) {pc : Nat} {L : Lc} {st : List Vl} {S : Ly} {M : Mm} (h : MOk M → wp d 0 0 0 0 mM_noteCost 5 false true (some .int) Φ pM_noteCost sp n pc L st S M) : AJ d 0 0 mM_noteCost Φ 0 0 pc L st S M := aj_wp moM_noteCost sp n h
theorem eM_noteCost {d : Nat} {Φ : Option Vl → Ly → Mm → Prop} (sp : List Nat) (n : Nat) {as : List Vl} (hn : as.length ≤ 4) {S : Ly} {M : Mm} (h : MOk M → wp d 0 0 0 0 mM_noteCost 5 false true (some .int) Φ pM_noteCost sp n 0 (as.map some) [] S M) : Ret d 0 0 mM_noteCost as S M Φ := ret_wp moM_noteCost (by rw [mtb0_len]; decide) (fun r h => by cases (show some rM_noteCost = some r from h); rfl) sp n hn h
def pM_step : List En := [(0, .iload_n 1, 1, []),
  (1, .invokestatic 87, 4, []),
  (4, .ifCond .eq 18, 7, [(0, 22)]),
  (7, .iload_n 3, 8, []),
  (8, .invokestatic 104, 11, []),
  (11, .ifCond .eq 11, 14, [(0, 22)]),
  (14, .iload 5, 16, []),
  (16, .invokestatic 104, 19, []),
  (19, .ifCond .ne 5, 22, [(0, 24)]),
  (22, .iconst (-1), 23, []),
  (23, .ireturn, 24, []),
  (24, .iload_n 2, 25, []),
  (25, .invokestatic 94, 28, []),
  (28, .ifCond .eq 11, 31, [(0, 39)]),
  (31, .iload 4, 33, []),
  (33, .invokestatic 94, 36, []),
  (36, .ifCond .ne 6, 39, [(0, 42)]),
  (39, .bipush (-2), 41, []),
  (41, .ireturn, 42, []),
  (42, .aload_n 0, 43, []),
  (43, .iload_n 1, 44, []),
  (44, .iload_n 2, 45, []),
  (45, .iload_n 3, 46, []),
  (46, .iload 4, 48, []),
  (48, .iload 5, 50, []),
  (50, .invokevirtual 130, 53, []),
  (53, .istore 6, 55, []),
  (55, .iload 6, 57, []),
  (57, .ldc 125, 59, []),
  (59, .if_icmp .lt 8, 62, [(0, 67)]),
  (62, .bipush (-9), 64, []),
  (64, .goto 5, 67, [(0, 69)]),
  (67, .iload 6, 69, []),
  (69, .ireturn, 70, [])]
set_option maxRecDepth 100000 in
theorem moM_step : MO mM_step 5 false (some .int) pM_step := ⟨rM_step, rfl, rfl, by decide, rfl, (fun h => by cases h), (by decide +kernel)⟩
theorem aM_step {d : Nat} {Φ : Option Vl → Ly → Mm → Prop} (sp : List Nat) (n : Nat) {pc : Nat} {L : Lc} {st : List Vl} {S : Ly} {M : Mm} (h : MOk M → wp d 0 0 0 0 mM_step 5 false true (some .int) Φ pM_step sp n pc L st S M) : AJ d 0 0 mM_step Φ 0 0 pc L st S M := aj_wp moM_step sp n h
theorem eM_step {d : Nat} {Φ : Option Vl → Ly → Mm → Prop} (sp : List Nat) (n : Nat) {as : List Vl} (hn : as.length ≤ 7) {S : Ly} {M : Mm} (h : MOk M → wp d 0 0 0 0 mM_step 5 false true (some .int) Φ pM_step sp n 0 (as.map some) [] S M) : Ret d 0 0 mM_step as S M Φ := ret_wp moM_step (by rw [mtb0_len]; decide) (fun r h => by cases (show some rM_step = some r from h); rfl) sp n hn h
def pM_stepCost : List En := [(0, .iload_n 1, 1, []),
  (1, .ifCond .ne 10, 4, [(0, 11)]),
  (4, .iload 4, 6, []),
  (6, .iload_n 2, 7, []),
  (7, .isub, 8, []),
  (8, .goto 7, 11, [(0, 15)]),
  (11, .iload_n 2, 12, []),
  (12, .iload 4, 14, []),
  (14, .isub, 15, []),
  (15, .istore 6, 17, []),
  (17, .iload 6, 19, []),
  (19, .ifCond .ge 9, 22, [(0, 28)]),
  (22, .iload 6, 24, []),
  (24, .ineg, 25, []),
  (25, .goto 5, 28, [(0, 30)]),
  (28, .iload 6, 30, []),
  (30, .istore 7, 32, []),
  (32, .iload 6, 34, []),
  (34, .ifCond .ne 20, 37, [(0, 54)]),
  (37, .iload_n 3, 38, []),
  (38, .iload 5, 40, []),
  (40, .if_icmp .ne 12, 43, [(0, 52)]),
  (43, .aload_n 0, 44, []),
  (44, .getfield 25, 47, []),
  (47, .iconst 5, 48, []),
  (48, .iaload, 49, []),
  (49, .goto 4, 52, [(0, 53)]),
  (52, .iconst 0, 53, []),
  (53, .ireturn, 54, []),
  (54, .iload_n 3, 55, []),
  (55, .iload 5, 57, []),
  (57, .if_icmp .ne 40, 60, [(0, 97)]),
  (60, .iload_n 2, 61, []),
  (61, .invokestatic 119, 64, []),
  (64, .ifCond .eq 26, 67, [(0, 90)]),
  (67, .iload 4, 69, []),
  (69, .invokestatic 119, 72, []),
  (72, .ifCond .ne 18, 75, [(0, 90)]),
  (75, .iload 7, 77, []),
  (77, .iconst 1, 78, []),
  (78, .if_icmp .ne 12, 81, [(0, 90)]),
  (81, .aload_n 0, 82, []),
  (82, .getfield 25, 85, []),
  (85, .iconst 4, 86, []),
  (86, .iaload, 87, []),
  (87, .goto 9, 90, [(0, 96)]),
  (90, .aload_n 0, 91, []),
  (91, .getfield 25, 94, []),
  (94, .iconst 3, 95, []),
  (95, .iaload, 96, []),
  (96, .ireturn, 97, []),
  (97, .iload 6, 99, []),
  (99, .ifCond .le 7, 102, [(0, 106)]),
  (102, .iconst 1, 103, []),
  (103, .goto 4, 106, [(0, 107)]),
  (106, .iconst 0, 107, []),
  (107, .iload_n 3, 108, []),
  (108, .iload 5, 110, []),
  (110, .if_icmp .ge 7, 113, [(0, 117)]),
  (113, .iconst 1, 114, []),
  (114, .goto 4, 117, [(0, 118)]),
  (117, .iconst 0, 118, []),
  (118, .if_icmp .ne 13, 121, [(0, 131)]),
  (121, .aload_n 0, 122, []),
  (122, .iload_n 3, 123, []),
  (123, .iload 5, 125, []),
  (125, .iload 7, 127, []),
  (127, .invokevirtual 126, 130, []),
  (130, .ireturn, 131, []),
  (131, .iload_n 3, 132, []),
  (132, .iconst 1, 133, []),
  (133, .if_icmp .ne 8, 136, [(0, 141)]),
  (136, .iload 5, 138, []),
  (138, .goto 4, 141, [(0, 142)]),
  (141, .iload_n 3, 142, []),
  (142, .istore 8, 144, []),
  (144, .iload_n 3, 145, []),
  (145, .iconst 1, 146, []),
  (146, .if_icmp .eq 9, 149, [(0, 155)]),
  (149, .iload 5, 151, []),
  (151, .iconst 1, 152, []),
  (152, .if_icmp .ne 19, 155, [(0, 171)]),
  (155, .iload 8, 157, []),
  (157, .iconst 5, 158, []),
  (158, .if_icmp .eq 13, 161, [(0, 171)]),
  (161, .iload 7, 163, []),
  (163, .iconst 5, 164, []),
  (164, .if_icmp .gt 7, 167, [(0, 171)]),
  (167, .iconst 1, 168, []),
  (168, .goto 4, 171, [(0, 172)]),
  (171, .iconst 0, 172, []),
  (172, .istore 9, 174, []),
  (174, .iload 9, 176, []),
  (176, .ifCond .eq 15, 179, [(0, 191)]),
  (179, .aload_n 0, 180, []),
  (180, .getfield 25, 183, []),
  (183, .iconst 2, 184, []),
  (184, .iaload, 185, []),
  (185, .iload 7, 187, []),
  (187, .iadd, 188, []),
  (188, .goto 5, 191, [(0, 193)]),
  (191, .ldc 125, 193, []),
  (193, .ireturn, 194, [])]
set_option maxRecDepth 100000 in
theorem moM_stepCost : MO mM_stepCost 5 false (some .int) pM_stepCost := ⟨rM_stepCost, rfl, rfl, by decide, rfl, (fun h => by cases h), (by decide +kernel)⟩
theorem aM_stepCost {d : Nat} {Φ : Option Vl → Ly → Mm → Prop} (sp : List Nat) (n : Nat) {pc : Nat} {L : Lc} {st : List Vl} {S : Ly} {M : Mm} (h : MOk M → wp d 0 0 0 0 mM_stepCost 5 false true (some .int) Φ pM_stepCost sp n pc L st S M) : AJ d 0 0 mM_stepCost Φ 0 0 pc L st S M := aj_wp moM_stepCost sp n h
theorem eM_stepCost {d : Nat} {Φ : Option Vl → Ly → Mm → Prop} (sp : List Nat) (n : Nat) {as : List Vl} (hn : as.length ≤ 10) {S : Ly} {M : Mm} (h : MOk M → wp d 0 0 0 0 mM_stepCost 5 false true (some .int) Φ pM_stepCost sp n 0 (as.map some) [] S M) : Ret d 0 0 mM_stepCost as S M Φ := ret_wp moM_stepCost (by rw [mtb0_len]; decide) (fun r h => by cases (show some rM_stepCost = some r from h); rfl) sp n hn h
def pM_byReach : List En := [(0, .iload_n 1, 1, []),
  (1, .iload_n 2, 2, []),
  (2, .if_icmp .ge 12, 5, [(0, 14)]),
  (5, .bipush 10, 7, []),
  (7, .iload_n 1, 8, []),
  (8, .imul, 9, []),
  (9, .iload_n 2, 10, []),
  (10, .iadd, 11, []),
  (11, .goto 9, 14, [(0, 20)]),
  (14, .bipush 10, 16, []),
  (16, .iload_n 2, 17, []),
  (17, .imul, 18, []),
  (18, .iload_n 1, 19, []),
  (19, .iadd, 20, []),
  (20, .istore 4, 22, []),
  (22, .iload_n 3, 23, []),
  (23, .aload_n 0, 24, []),
  (24, .getfield 16, 27, []),
  (27, .iload 4, 29, []),
  (29, .iaload, 30, []),
  (30, .if_icmp .lt 14, 33, [(0, 44)]),
  (33, .iload_n 3, 34, []),
  (34, .aload_n 0, 35, []),
  (35, .getfield 22, 38, []),
  (38, .iload 4, 40, []),
  (40, .iaload, 41, []),
  (41, .if_icmp .le 6, 44, [(0, 47)]),
  (44, .ldc 125, 46, []),
  (46, .ireturn, 47, []),
  (47, .iload_n 3, 48, []),
  (48, .aload_n 0, 49, []),
  (49, .getfield 19, 52, []),
  (52, .iload 4, 54, []),
  (54, .iaload, 55, []),
  (55, .if_icmp .le 15, 58, [(0, 70)]),
  (58, .iload_n 3, 59, []),
  (59, .aload_n 0, 60, []),
  (60, .getfield 19, 63, []),
  (63, .iload 4, 65, []),
  (65, .iaload, 66, []),
  (66, .isub, 67, []),
  (67, .goto 4, 70, [(0, 71)]),
  (70, .iconst 0, 71, []),
  (71, .ireturn, 72, [])]
set_option maxRecDepth 100000 in
theorem moM_byReach : MO mM_byReach 5 false (some .int) pM_byReach := ⟨rM_byReach, rfl, rfl, by decide, rfl, (fun h => by cases h), (by decide +kernel)⟩
theorem aM_byReach {d : Nat} {Φ : Option Vl → Ly → Mm → Prop} (sp : List Nat) (n : Nat) {pc : Nat} {L : Lc} {st : List Vl} {S : Ly} {M : Mm} (h : MOk M → wp d 0 0 0 0 mM_byReach 5 false true (some .int) Φ pM_byReach sp n pc L st S M) : AJ d 0 0 mM_byReach Φ 0 0 pc L st S M := aj_wp moM_byReach sp n h
theorem eM_byReach {d : Nat} {Φ : Option Vl → Ly → Mm → Prop} (sp : List Nat) (n : Nat) {as : List Vl} (hn : as.length ≤ 5) {S : Ly} {M : Mm} (h : MOk M → wp d 0 0 0 0 mM_byReach 5 false true (some .int) Φ pM_byReach sp n 0 (as.map some) [] S M) : Ret d 0 0 mM_byReach as S M Φ := ret_wp moM_byReach (by rw [mtb0_len]; decide) (fun r h => by cases (show some rM_byReach = some r from h); rfl) sp n hn h
def pM_best : List En := [(0, .iload_n 1, 1, []),
  (1, .invokestatic 87, 4, []),
  (4, .ifCond .ne 5, 7, [(0, 9)]),
  (7, .iconst (-1), 8, []),
  (8, .ireturn, 9, []),
  (9, .aload_n 0, 10, []),
  (10, .iload_n 1, 11, []),
  (11, .invokevirtual 225, 14, []),
  (14, .aload_n 0, 15, []),
  (15, .getfield 49, 18, []),
  (18, .iload_n 1, 19, []),
  (19, .iaload, 20, []),
  (20, .ireturn, 21, [])]
set_option maxRecDepth 100000 in
theorem moM_best : MO mM_best 5 false (some .int) pM_best := ⟨rM_best, rfl, rfl, by decide, rfl, (fun h => by cases h), (by decide +kernel)⟩
theorem aM_best {d : Nat} {Φ : Option Vl → Ly → Mm → Prop} (sp : List Nat) (n : Nat) {pc : Nat} {L : Lc} {st : List Vl} {S : Ly} {M : Mm} (h : MOk M → wp d 0 0 0 0 mM_best 5 false true (some .int) Φ pM_best sp n pc L st S M) : AJ d 0 0 mM_best Φ 0 0 pc L st S M := aj_wp moM_best sp n h
theorem eM_best {d : Nat} {Φ : Option Vl → Ly → Mm → Prop} (sp : List Nat) (n : Nat) {as : List Vl} (hn : as.length ≤ 2) {S : Ly} {M : Mm} (h : MOk M → wp d 0 0 0 0 mM_best 5 false true (some .int) Φ pM_best sp n 0 (as.map some) [] S M) : Ret d 0 0 mM_best as S M Φ := ret_wp moM_best (by rw [mtb0_len]; decide) (fun r h => by cases (show some rM_best = some r from h); rfl) sp n hn h
def pM_findHand : List En := [(0, .iload_n 1, 1, []),
  (1, .ifCond .ne 13, 4, [(0, 14)]),
  (4, .aload_n 0, 5, []),
  (5, .getfield 80, 8, []),
  (8, .ifCond .eq 14, 11, [(0, 22)]),
  (11, .goto 10, 14, [(0, 21)]),
  (14, .aload_n 0, 15, []),
  (15, .getfield 84, 18, []),
  (18, .ifCond .eq 4, 21, [(0, 22)]),
  (21, .return_, 22, []),
  (22, .aload_n 0, 23, []),
  (23, .aload_n 0, 24, []),
  (24, .getfield 80, 27, []),
  (27, .ifCond .ne 7, 30, [(0, 34)]),
  (30, .iload_n 1, 31, []),
  (31, .ifCond .ne 7, 34, [(0, 38)]),
  (34, .iconst 1, 35, []),
  (35, .goto 4, 38, [(0, 39)]),
  (38, .iconst 0, 39, []),
  (39, .putfield 80, 42, []),
  (42, .aload_n 0, 43, []),
  (43, .aload_n 0, 44, []),
  (44, .getfield 84, 47, []),
  (47, .ifCond .ne 8, 50, [(0, 55)]),
  (50, .iload_n 1, 51, []),
  (51, .iconst 1, 52, []),
  (52, .if_icmp .ne 7, 55, [(0, 59)]),
  (55, .iconst 1, 56, []),
  (56, .goto 4, 59, [(0, 60)]),
  (59, .iconst 0, 60, []),
  (60, .putfield 84, 63, []),
  (63, .aload_n 0, 64, []),
  (64, .getfield 49, 67, []),
  (67, .iload_n 1, 68, []),
  (68, .aload_n 0, 69, []),
  (69, .iload_n 1, 70, []),
  (70, .invokevirtual 219, 73, []),
  (73, .iastore, 74, []),
  (74, .aload_n 0, 75, []),
  (75, .getfield 49, 78, []),
  (78, .iload_n 1, 79, []),
  (79, .iaload, 80, []),
  (80, .bipush (-9), 82, []),
  (82, .if_icmp .eq 18, 85, [(0, 100)]),
  (85, .aload_n 0, 86, []),
  (86, .getfield 138, 89, []),
  (89, .ifCond .le 11, 92, [(0, 100)]),
  (92, .aload_n 0, 93, []),
  (93, .bipush 30, 95, []),
  (95, .iload_n 1, 96, []),
  (96, .imul, 97, []),
  (97, .invokevirtual 222, 100, []),
  (100, .return_, 101, [])]
set_option maxRecDepth 100000 in
theorem moM_findHand : MO mM_findHand 5 false none pM_findHand := ⟨rM_findHand, rfl, rfl, by decide, rfl, (fun h => by cases h), (by decide +kernel)⟩
theorem aM_findHand {d : Nat} {Φ : Option Vl → Ly → Mm → Prop} (sp : List Nat) (n : Nat) {pc : Nat} {L : Lc} {st : List Vl} {S : Ly} {M : Mm} (h : MOk M → wp d 0 0 0 0 mM_findHand 5 false true none Φ pM_findHand sp n pc L st S M) : AJ d 0 0 mM_findHand Φ 0 0 pc L st S M := aj_wp moM_findHand sp n h
theorem eM_findHand {d : Nat} {Φ : Option Vl → Ly → Mm → Prop} (sp : List Nat) (n : Nat) {as : List Vl} (hn : as.length ≤ 2) {S : Ly} {M : Mm} (h : MOk M → wp d 0 0 0 0 mM_findHand 5 false true none Φ pM_findHand sp n 0 (as.map some) [] S M) : Ret d 0 0 mM_findHand as S M Φ := ret_wp moM_findHand (by rw [mtb0_len]; decide) (fun r h => by cases (show some rM_findHand = some r from h); rfl) sp n hn h
def pM_leastOfHand : List En := [(0, .aload_n 0, 1, []),
  (1, .iload_n 1, 2, []),
  (2, .invokevirtual 198, 5, []),
  (5, .aload_n 0, 6, []),
  (6, .iload_n 1, 7, []),
  (7, .invokevirtual 201, 10, []),
  (10, .aload_n 0, 11, []),
  (11, .invokevirtual 204, 14, []),
  (14, .ireturn, 15, [])]
set_option maxRecDepth 100000 in
theorem moM_leastOfHand : MO mM_leastOfHand 5 false (some .int) pM_leastOfHand := ⟨rM_leastOfHand, rfl, rfl, by decide, rfl, (fun h => by cases h), (by decide +kernel)⟩
theorem aM_leastOfHand {d : Nat} {Φ : Option Vl → Ly → Mm → Prop} (sp : List Nat) (n : Nat) {pc : Nat} {L : Lc} {st : List Vl} {S : Ly} {M : Mm} (h : MOk M → wp d 0 0 0 0 mM_leastOfHand 5 false true (some .int) Φ pM_leastOfHand sp n pc L st S M) : AJ d 0 0 mM_leastOfHand Φ 0 0 pc L st S M := aj_wp moM_leastOfHand sp n h
theorem eM_leastOfHand {d : Nat} {Φ : Option Vl → Ly → Mm → Prop} (sp : List Nat) (n : Nat) {as : List Vl} (hn : as.length ≤ 2) {S : Ly} {M : Mm} (h : MOk M → wp d 0 0 0 0 mM_leastOfHand 5 false true (some .int) Φ pM_leastOfHand sp n 0 (as.map some) [] S M) : Ret d 0 0 mM_leastOfHand as S M Φ := ret_wp moM_leastOfHand (by rw [mtb0_len]; decide) (fun r h => by cases (show some rM_leastOfHand = some r from h); rfl) sp n hn h
def pM_layNotes : List En := [(0, .aload_n 0, 1, []),
  (1, .iload_n 1, 2, []),
  (2, .putfield 134, 5, []),
  (5, .aload_n 0, 6, []),
  (6, .iconst 0, 7, []),
  (7, .putfield 138, 10, []),
  (10, .iconst 0, 11, []),
  (11, .istore_n 2, 12, []),
  (12, .iload_n 2, 13, []),
  (13, .bipush 30, 15, []),
  (15, .if_icmp .ge 85, 18, [(0, 100)]),
  (18, .bipush 30, 20, []),
  (20, .iload_n 1, 21, []),
  (21, .imul, 22, []),
  (22, .iload_n 2, 23, []),
  (23, .iadd, 24, []),
  (24, .istore_n 3, 25, []),
  (25, .aload_n 0, 26, []),
  (26, .getfield 7, 29, []),
  (29, .iload_n 3, 30, []),
  (30, .iaload, 31, []),
  (31, .bipush (-9), 33, []),
  (33, .if_icmp .eq 61, 36, [(0, 94)]),
  (36, .aload_n 0, 37, []),
  (37, .getfield 28, 40, []),
  (40, .aload_n 0, 41, []),
  (41, .getfield 138, 44, []),
  (44, .aload_n 0, 45, []),
  (45, .getfield 7, 48, []),
  (48, .iload_n 3, 49, []),
  (49, .iaload, 50, []),
  (50, .iastore, 51, []),
  (51, .aload_n 0, 52, []),
  (52, .getfield 31, 55, []),
  (55, .aload_n 0, 56, []),
  (56, .getfield 138, 59, []),
  (59, .aload_n 0, 60, []),
  (60, .getfield 13, 63, []),
  (63, .iload_n 3, 64, []),
  (64, .iaload, 65, []),
  (65, .bipush (-9), 67, []),
  (67, .if_icmp .ne 8, 70, [(0, 75)]),
  (70, .bipush 62, 72, []),
  (72, .goto 11, 75, [(0, 83)]),
  (75, .iconst 1, 76, []),
  (76, .aload_n 0, 77, []),
  (77, .getfield 13, 80, []),
  (80, .iload_n 3, 81, []),
  (81, .iaload, 82, []),
  (82, .ishl, 83, []),
  (83, .iastore, 84, []),
  (84, .aload_n 0, 85, []),
  (85, .dup, 86, []),
  (86, .getfield 138, 89, []),
  (89, .iconst 1, 90, []),
  (90, .iadd, 91, []),
  (91, .putfield 138, 94, []),
  (94, .iinc 2 1, 97, []),
  (97, .goto (-85), 100, [(0, 12)]),
  (100, .return_, 101, [])]
set_option maxRecDepth 100000 in
theorem moM_layNotes : MO mM_layNotes 5 false none pM_layNotes := ⟨rM_layNotes, rfl, rfl, by decide, rfl, (fun h => by cases h), (by decide +kernel)⟩
theorem aM_layNotes {d : Nat} {Φ : Option Vl → Ly → Mm → Prop} (sp : List Nat) (n : Nat) {pc : Nat} {L : Lc} {st : List Vl} {S : Ly} {M : Mm} (h : MOk M → wp d 0 0 0 0 mM_layNotes 5 false true none Φ pM_layNotes sp n pc L st S M) : AJ d 0 0 mM_layNotes Φ 0 0 pc L st S M := aj_wp moM_layNotes sp n h
theorem eM_layNotes {d : Nat} {Φ : Option Vl → Ly → Mm → Prop} (sp : List Nat) (n : Nat) {as : List Vl} (hn : as.length ≤ 4) {S : Ly} {M : Mm} (h : MOk M → wp d 0 0 0 0 mM_layNotes 5 false true none Φ pM_layNotes sp n 0 (as.map some) [] S M) : Ret d 0 0 mM_layNotes as S M Φ := ret_wp moM_layNotes (by rw [mtb0_len]; decide) (fun r h => by cases (show some rM_layNotes = some r from h); rfl) sp n hn h
end
section
def pM_layTie : List En := [(0, .aload_n 0, 1, []),
  (1, .aload_n 0, 2, []),
  (2, .getfield 55, 5, []),
  (5, .iload_n 1, 6, []),
  (6, .iaload, 7, []),
  (7, .putfield 141, 10, []),
  (10, .aload_n 0, 11, []),
  (11, .aload_n 0, 12, []),
  (12, .getfield 58, 15, []),
  (15, .iload_n 1, 16, []),
  (16, .iaload, 17, []),
  (17, .putfield 144, 20, []),
  (20, .aload_n 0, 21, []),
  (21, .aload_n 0, 22, []),
  (22, .iload_n 1, 23, []),
  (23, .invokevirtual 147, 26, []),
  (26, .ifCond .eq 12, 29, [(0, 38)]),
  (29, .aload_n 0, 30, []),
  (30, .getfield 61, 33, []),
  (33, .iload_n 1, 34, []),
  (34, .iaload, 35, []),
  (35, .goto 4, 38, [(0, 39)]),
  (38, .iconst 0, 39, []),
  (39, .putfield 150, 42, []),
  (42, .return_, 43, [])]
set_option maxRecDepth 100000 in
theorem moM_layTie : MO mM_layTie 5 false none pM_layTie := ⟨rM_layTie, rfl, rfl, by decide, rfl, (fun h => by cases h), (by decide +kernel)⟩
theorem aM_layTie {d : Nat} {Φ : Option Vl → Ly → Mm → Prop} (sp : List Nat) (n : Nat) {pc : Nat} {L : Lc} {st : List Vl} {S : Ly} {M : Mm} (h : MOk M → wp d 0 0 0 0 mM_layTie 5 false true none Φ pM_layTie sp n pc L st S M) : AJ d 0 0 mM_layTie Φ 0 0 pc L st S M := aj_wp moM_layTie sp n h
theorem eM_layTie {d : Nat} {Φ : Option Vl → Ly → Mm → Prop} (sp : List Nat) (n : Nat) {as : List Vl} (hn : as.length ≤ 2) {S : Ly} {M : Mm} (h : MOk M → wp d 0 0 0 0 mM_layTie 5 false true none Φ pM_layTie sp n 0 (as.map some) [] S M) : Ret d 0 0 mM_layTie as S M Φ := ret_wp moM_layTie (by rw [mtb0_len]; decide) (fun r h => by cases (show some rM_layTie = some r from h); rfl) sp n hn h
def pM_doesTieHold : List En := [(0, .aload_n 0, 1, []),
  (1, .getfield 55, 4, []),
  (4, .iload_n 1, 5, []),
  (5, .iaload, 6, []),
  (6, .bipush (-9), 8, []),
  (8, .if_icmp .eq 28, 11, [(0, 36)]),
  (11, .aload_n 0, 12, []),
  (12, .iload_n 1, 13, []),
  (13, .invokevirtual 107, 16, []),
  (16, .aload_n 0, 17, []),
  (17, .getfield 58, 20, []),
  (20, .iload_n 1, 21, []),
  (21, .iaload, 22, []),
  (22, .aload_n 0, 23, []),
  (23, .getfield 61, 26, []),
  (26, .iload_n 1, 27, []),
  (27, .iaload, 28, []),
  (28, .iadd, 29, []),
  (29, .if_icmp .lt 7, 32, [(0, 36)]),
  (32, .iconst 1, 33, []),
  (33, .goto 4, 36, [(0, 37)]),
  (36, .iconst 0, 37, []),
  (37, .ireturn, 38, [])]
set_option maxRecDepth 100000 in
theorem moM_doesTieHold : MO mM_doesTieHold 5 false (some .boolean) pM_doesTieHold := ⟨rM_doesTieHold, rfl, rfl, by decide, rfl, (fun h => by cases h), (by decide +kernel)⟩
theorem aM_doesTieHold {d : Nat} {Φ : Option Vl → Ly → Mm → Prop} (sp : List Nat) (n : Nat) {pc : Nat} {L : Lc} {st : List Vl} {S : Ly} {M : Mm} (h : MOk M → wp d 0 0 0 0 mM_doesTieHold 5 false true (some .boolean) Φ pM_doesTieHold sp n pc L st S M) : AJ d 0 0 mM_doesTieHold Φ 0 0 pc L st S M := aj_wp moM_doesTieHold sp n h
theorem eM_doesTieHold {d : Nat} {Φ : Option Vl → Ly → Mm → Prop} (sp : List Nat) (n : Nat) {as : List Vl} (hn : as.length ≤ 2) {S : Ly} {M : Mm} (h : MOk M → wp d 0 0 0 0 mM_doesTieHold 5 false true (some .boolean) Φ pM_doesTieHold sp n 0 (as.map some) [] S M) : Ret d 0 0 mM_doesTieHold as S M Φ := ret_wp moM_doesTieHold (by rw [mtb0_len]; decide) (fun r h => by cases (show some rM_doesTieHold = some r from h); rfl) sp n hn h
def pM_leastRow : List En := [(0, .aload_n 0, 1, []),
  (1, .getfield 138, 4, []),
  (4, .ifCond .ne 5, 7, [(0, 9)]),
  (7, .iconst 0, 8, []),
  (8, .ireturn, 9, []),
  (9, .aload_n 0, 10, []),
  (10, .getfield 150, 13, []),
  (13, .ifCond .le 7, 16, [(0, 20)]),
  (16, .aload_n 0, 17, []),
  (17, .invokevirtual 192, 20, []),
  (20, .aload_n 0, 21, []),
  (21, .getfield 138, 24, []),
  (24, .iconst 1, 25, []),
  (25, .isub, 26, []),
  (26, .istore_n 1, 27, []),
  (27, .iload_n 1, 28, []),
  (28, .ifCond .lt 21, 31, [(0, 49)]),
  (31, .aload_n 0, 32, []),
  (32, .getfield 150, 35, []),
  (35, .ifCond .ne 14, 38, [(0, 49)]),
  (38, .aload_n 0, 39, []),
  (39, .iload_n 1, 40, []),
  (40, .invokevirtual 182, 43, []),
  (43, .iinc 1 (-1), 46, []),
  (46, .goto (-19), 49, [(0, 27)]),
  (49, .aload_n 0, 50, []),
  (50, .invokevirtual 195, 53, []),
  (53, .istore_n 1, 54, []),
  (54, .iload_n 1, 55, []),
  (55, .ldc 125, 57, []),
  (57, .if_icmp .lt 8, 60, [(0, 65)]),
  (60, .bipush (-9), 62, []),
  (62, .goto 4, 65, [(0, 66)]),
  (65, .iload_n 1, 66, []),
  (66, .ireturn, 67, [])]
set_option maxRecDepth 100000 in
theorem moM_leastRow : MO mM_leastRow 5 false (some .int) pM_leastRow := ⟨rM_leastRow, rfl, rfl, by decide, rfl, (fun h => by cases h), (by decide +kernel)⟩
theorem aM_leastRow {d : Nat} {Φ : Option Vl → Ly → Mm → Prop} (sp : List Nat) (n : Nat) {pc : Nat} {L : Lc} {st : List Vl} {S : Ly} {M : Mm} (h : MOk M → wp d 0 0 0 0 mM_leastRow 5 false true (some .int) Φ pM_leastRow sp n pc L st S M) : AJ d 0 0 mM_leastRow Φ 0 0 pc L st S M := aj_wp moM_leastRow sp n h
theorem eM_leastRow {d : Nat} {Φ : Option Vl → Ly → Mm → Prop} (sp : List Nat) (n : Nat) {as : List Vl} (hn : as.length ≤ 2) {S : Ly} {M : Mm} (h : MOk M → wp d 0 0 0 0 mM_leastRow 5 false true (some .int) Φ pM_leastRow sp n 0 (as.map some) [] S M) : Ret d 0 0 mM_leastRow as S M Φ := ret_wp moM_leastRow (by rw [mtb0_len]; decide) (fun r h => by cases (show some rM_leastRow = some r from h); rfl) sp n hn h
def pM_findTie : List En := [(0, .aload_n 0, 1, []),
  (1, .getfield 138, 4, []),
  (4, .iconst 1, 5, []),
  (5, .isub, 6, []),
  (6, .istore_n 1, 7, []),
  (7, .iload_n 1, 8, []),
  (8, .aload_n 0, 9, []),
  (9, .getfield 144, 12, []),
  (12, .aload_n 0, 13, []),
  (13, .getfield 150, 16, []),
  (16, .iadd, 17, []),
  (17, .iconst 1, 18, []),
  (18, .isub, 19, []),
  (19, .if_icmp .lt 14, 22, [(0, 33)]),
  (22, .aload_n 0, 23, []),
  (23, .iload_n 1, 24, []),
  (24, .invokevirtual 182, 27, []),
  (27, .iinc 1 (-1), 30, []),
  (30, .goto (-23), 33, [(0, 7)]),
  (33, .iconst 1, 34, []),
  (34, .istore_n 1, 35, []),
  (35, .iload_n 1, 36, []),
  (36, .iconst 5, 37, []),
  (37, .if_icmp .gt 14, 40, [(0, 51)]),
  (40, .aload_n 0, 41, []),
  (41, .iload_n 1, 42, []),
  (42, .invokevirtual 189, 45, []),
  (45, .iinc 1 1, 48, []),
  (48, .goto (-13), 51, [(0, 35)]),
  (51, .aload_n 0, 52, []),
  (52, .getfield 141, 55, []),
  (55, .iconst 1, 56, []),
  (56, .isub, 57, []),
  (57, .istore_n 1, 58, []),
  (58, .iload_n 1, 59, []),
  (59, .ifCond .lt 14, 62, [(0, 73)]),
  (62, .aload_n 0, 63, []),
  (63, .iload_n 1, 64, []),
  (64, .invokevirtual 182, 67, []),
  (67, .iinc 1 (-1), 70, []),
  (70, .goto (-12), 73, [(0, 58)]),
  (73, .return_, 74, [])]
set_option maxRecDepth 100000 in
theorem moM_findTie : MO mM_findTie 5 false none pM_findTie := ⟨rM_findTie, rfl, rfl, by decide, rfl, (fun h => by cases h), (by decide +kernel)⟩
theorem aM_findTie {d : Nat} {Φ : Option Vl → Ly → Mm → Prop} (sp : List Nat) (n : Nat) {pc : Nat} {L : Lc} {st : List Vl} {S : Ly} {M : Mm} (h : MOk M → wp d 0 0 0 0 mM_findTie 5 false true none Φ pM_findTie sp n pc L st S M) : AJ d 0 0 mM_findTie Φ 0 0 pc L st S M := aj_wp moM_findTie sp n h
theorem eM_findTie {d : Nat} {Φ : Option Vl → Ly → Mm → Prop} (sp : List Nat) (n : Nat) {as : List Vl} (hn : as.length ≤ 2) {S : Ly} {M : Mm} (h : MOk M → wp d 0 0 0 0 mM_findTie 5 false true none Φ pM_findTie sp n 0 (as.map some) [] S M) : Ret d 0 0 mM_findTie as S M Φ := ret_wp moM_findTie (by rw [mtb0_len]; decide) (fun r h => by cases (show some rM_findTie = some r from h); rfl) sp n hn h
def pM_back : List En := [(0, .iconst 1, 1, []),
  (1, .istore_n 2, 2, []),
  (2, .iload_n 2, 3, []),
  (3, .iconst 5, 4, []),
  (4, .if_icmp .gt 96, 7, [(0, 100)]),
  (7, .iload_n 1, 8, []),
  (8, .aload_n 0, 9, []),
  (9, .getfield 138, 12, []),
  (12, .iconst 1, 13, []),
  (13, .isub, 14, []),
  (14, .if_icmp .ne 7, 17, [(0, 21)]),
  (17, .iconst 0, 18, []),
  (18, .goto 5, 21, [(0, 23)]),
  (21, .ldc 125, 23, []),
  (23, .istore_n 3, 24, []),
  (24, .iconst 1, 25, []),
  (25, .istore 4, 27, []),
  (27, .iload 4, 29, []),
  (29, .iconst 5, 30, []),
  (30, .if_icmp .gt 52, 33, [(0, 82)]),
  (33, .iload_n 1, 34, []),
  (34, .aload_n 0, 35, []),
  (35, .getfield 138, 38, []),
  (38, .iconst 1, 39, []),
  (39, .isub, 40, []),
  (40, .if_icmp .ge 42, 43, [(0, 82)]),
  (43, .aload_n 0, 44, []),
  (44, .iload_n 1, 45, []),
  (45, .iload_n 2, 46, []),
  (46, .iload 4, 48, []),
  (48, .invokevirtual 170, 51, []),
  (51, .aload_n 0, 52, []),
  (52, .iload_n 1, 53, []),
  (53, .iconst 1, 54, []),
  (54, .iadd, 55, []),
  (55, .iload 4, 57, []),
  (57, .invokevirtual 173, 60, []),
  (60, .iadd, 61, []),
  (61, .istore 5, 63, []),
  (63, .iload 5, 65, []),
  (65, .iload_n 3, 66, []),
  (66, .if_icmp .ge 8, 69, [(0, 74)]),
  (69, .iload 5, 71, []),
  (71, .goto 4, 74, [(0, 75)]),
  (74, .iload_n 3, 75, []),
  (75, .istore_n 3, 76, []),
  (76, .iinc 4 1, 79, []),
  (79, .goto (-52), 82, [(0, 27)]),
  (82, .aload_n 0, 83, []),
  (83, .getfield 40, 86, []),
  (86, .bipush 6, 88, []),
  (88, .iload_n 1, 89, []),
  (89, .imul, 90, []),
  (90, .iload_n 2, 91, []),
  (91, .iadd, 92, []),
  (92, .iload_n 3, 93, []),
  (93, .iastore, 94, []),
  (94, .iinc 2 1, 97, []),
  (97, .goto (-95), 100, [(0, 2)]),
  (100, .return_, 101, [])]
set_option maxRecDepth 100000 in
theorem moM_back : MO mM_back 5 false none pM_back := ⟨rM_back, rfl, rfl, by decide, rfl, (fun h => by cases h), (by decide +kernel)⟩
theorem aM_back {d : Nat} {Φ : Option Vl → Ly → Mm → Prop} (sp : List Nat) (n : Nat) {pc : Nat} {L : Lc} {st : List Vl} {S : Ly} {M : Mm} (h : MOk M → wp d 0 0 0 0 mM_back 5 false true none Φ pM_back sp n pc L st S M) : AJ d 0 0 mM_back Φ 0 0 pc L st S M := aj_wp moM_back sp n h
theorem eM_back {d : Nat} {Φ : Option Vl → Ly → Mm → Prop} (sp : List Nat) (n : Nat) {as : List Vl} (hn : as.length ≤ 6) {S : Ly} {M : Mm} (h : MOk M → wp d 0 0 0 0 mM_back 5 false true none Φ pM_back sp n 0 (as.map some) [] S M) : Ret d 0 0 mM_back as S M Φ := ret_wp moM_back (by rw [mtb0_len]; decide) (fun r h => by cases (show some rM_back = some r from h); rfl) sp n hn h
def pM_goingOn : List En := [(0, .aload_n 0, 1, []),
  (1, .iload_n 1, 2, []),
  (2, .iconst 1, 3, []),
  (3, .iadd, 4, []),
  (4, .iload_n 3, 5, []),
  (5, .invokevirtual 156, 8, []),
  (8, .ifCond .eq 27, 11, [(0, 35)]),
  (11, .aload_n 0, 12, []),
  (12, .iload_n 1, 13, []),
  (13, .iload_n 2, 14, []),
  (14, .iload_n 3, 15, []),
  (15, .invokevirtual 153, 18, []),
  (18, .aload_n 0, 19, []),
  (19, .aload_n 0, 20, []),
  (20, .getfield 28, 23, []),
  (23, .iload_n 1, 24, []),
  (24, .iconst 1, 25, []),
  (25, .iadd, 26, []),
  (26, .iaload, 27, []),
  (27, .iload_n 3, 28, []),
  (28, .invokevirtual 122, 31, []),
  (31, .iadd, 32, []),
  (32, .goto 5, 35, [(0, 37)]),
  (35, .ldc 125, 37, []),
  (37, .ireturn, 38, [])]
set_option maxRecDepth 100000 in
theorem moM_goingOn : MO mM_goingOn 5 false (some .int) pM_goingOn := ⟨rM_goingOn, rfl, rfl, by decide, rfl, (fun h => by cases h), (by decide +kernel)⟩
theorem aM_goingOn {d : Nat} {Φ : Option Vl → Ly → Mm → Prop} (sp : List Nat) (n : Nat) {pc : Nat} {L : Lc} {st : List Vl} {S : Ly} {M : Mm} (h : MOk M → wp d 0 0 0 0 mM_goingOn 5 false true (some .int) Φ pM_goingOn sp n pc L st S M) : AJ d 0 0 mM_goingOn Φ 0 0 pc L st S M := aj_wp moM_goingOn sp n h
theorem eM_goingOn {d : Nat} {Φ : Option Vl → Ly → Mm → Prop} (sp : List Nat) (n : Nat) {as : List Vl} (hn : as.length ≤ 4) {S : Ly} {M : Mm} (h : MOk M → wp d 0 0 0 0 mM_goingOn 5 false true (some .int) Φ pM_goingOn sp n 0 (as.map some) [] S M) : Ret d 0 0 mM_goingOn as S M Φ := ret_wp moM_goingOn (by rw [mtb0_len]; decide) (fun r h => by cases (show some rM_goingOn = some r from h); rfl) sp n hn h
def pM_isOf : List En := [(0, .aload_n 0, 1, []),
  (1, .getfield 31, 4, []),
  (4, .iload_n 1, 5, []),
  (5, .iaload, 6, []),
  (6, .iload_n 2, 7, []),
  (7, .ishr, 8, []),
  (8, .iconst 1, 9, []),
  (9, .iand, 10, []),
  (10, .iconst 1, 11, []),
  (11, .if_icmp .ne 7, 14, [(0, 18)]),
  (14, .iconst 1, 15, []),
  (15, .goto 4, 18, [(0, 19)]),
  (18, .iconst 0, 19, []),
  (19, .ireturn, 20, [])]
set_option maxRecDepth 100000 in
theorem moM_isOf : MO mM_isOf 5 false (some .boolean) pM_isOf := ⟨rM_isOf, rfl, rfl, by decide, rfl, (fun h => by cases h), (by decide +kernel)⟩
theorem aM_isOf {d : Nat} {Φ : Option Vl → Ly → Mm → Prop} (sp : List Nat) (n : Nat) {pc : Nat} {L : Lc} {st : List Vl} {S : Ly} {M : Mm} (h : MOk M → wp d 0 0 0 0 mM_isOf 5 false true (some .boolean) Φ pM_isOf sp n pc L st S M) : AJ d 0 0 mM_isOf Φ 0 0 pc L st S M := aj_wp moM_isOf sp n h
theorem eM_isOf {d : Nat} {Φ : Option Vl → Ly → Mm → Prop} (sp : List Nat) (n : Nat) {as : List Vl} (hn : as.length ≤ 3) {S : Ly} {M : Mm} (h : MOk M → wp d 0 0 0 0 mM_isOf 5 false true (some .boolean) Φ pM_isOf sp n 0 (as.map some) [] S M) : Ret d 0 0 mM_isOf as S M Φ := ret_wp moM_isOf (by rw [mtb0_len]; decide) (fun r h => by cases (show some rM_isOf = some r from h); rfl) sp n hn h
def pM_stepAt : List En := [(0, .aload_n 0, 1, []),
  (1, .aload_n 0, 2, []),
  (2, .getfield 134, 5, []),
  (5, .aload_n 0, 6, []),
  (6, .getfield 28, 9, []),
  (9, .iload_n 1, 10, []),
  (10, .iaload, 11, []),
  (11, .iload_n 2, 12, []),
  (12, .aload_n 0, 13, []),
  (13, .getfield 28, 16, []),
  (16, .iload_n 1, 17, []),
  (17, .iconst 1, 18, []),
  (18, .iadd, 19, []),
  (19, .iaload, 20, []),
  (20, .iload_n 3, 21, []),
  (21, .invokevirtual 130, 24, []),
  (24, .ireturn, 25, [])]
set_option maxRecDepth 100000 in
theorem moM_stepAt : MO mM_stepAt 5 false (some .int) pM_stepAt := ⟨rM_stepAt, rfl, rfl, by decide, rfl, (fun h => by cases h), (by decide +kernel)⟩
theorem aM_stepAt {d : Nat} {Φ : Option Vl → Ly → Mm → Prop} (sp : List Nat) (n : Nat) {pc : Nat} {L : Lc} {st : List Vl} {S : Ly} {M : Mm} (h : MOk M → wp d 0 0 0 0 mM_stepAt 5 false true (some .int) Φ pM_stepAt sp n pc L st S M) : AJ d 0 0 mM_stepAt Φ 0 0 pc L st S M := aj_wp moM_stepAt sp n h
theorem eM_stepAt {d : Nat} {Φ : Option Vl → Ly → Mm → Prop} (sp : List Nat) (n : Nat) {as : List Vl} (hn : as.length ≤ 4) {S : Ly} {M : Mm} (h : MOk M → wp d 0 0 0 0 mM_stepAt 5 false true (some .int) Φ pM_stepAt sp n 0 (as.map some) [] S M) : Ret d 0 0 mM_stepAt as S M Φ := ret_wp moM_stepAt (by rw [mtb0_len]; decide) (fun r h => by cases (show some rM_stepAt = some r from h); rfl) sp n hn h
def pM_after : List En := [(0, .aload_n 0, 1, []),
  (1, .getfield 150, 4, []),
  (4, .ifCond .le 20, 7, [(0, 24)]),
  (7, .iload_n 1, 8, []),
  (8, .aload_n 0, 9, []),
  (9, .getfield 141, 12, []),
  (12, .if_icmp .ne 12, 15, [(0, 24)]),
  (15, .aload_n 0, 16, []),
  (16, .getfield 46, 19, []),
  (19, .iload_n 2, 20, []),
  (20, .iaload, 21, []),
  (21, .goto 14, 24, [(0, 35)]),
  (24, .aload_n 0, 25, []),
  (25, .getfield 40, 28, []),
  (28, .bipush 6, 30, []),
  (30, .iload_n 1, 31, []),
  (31, .imul, 32, []),
  (32, .iload_n 2, 33, []),
  (33, .iadd, 34, []),
  (34, .iaload, 35, []),
  (35, .ireturn, 36, [])]
set_option maxRecDepth 100000 in
theorem moM_after : MO mM_after 5 false (some .int) pM_after := ⟨rM_after, rfl, rfl, by decide, rfl, (fun h => by cases h), (by decide +kernel)⟩
theorem aM_after {d : Nat} {Φ : Option Vl → Ly → Mm → Prop} (sp : List Nat) (n : Nat) {pc : Nat} {L : Lc} {st : List Vl} {S : Ly} {M : Mm} (h : MOk M → wp d 0 0 0 0 mM_after 5 false true (some .int) Φ pM_after sp n pc L st S M) : AJ d 0 0 mM_after Φ 0 0 pc L st S M := aj_wp moM_after sp n h
theorem eM_after {d : Nat} {Φ : Option Vl → Ly → Mm → Prop} (sp : List Nat) (n : Nat) {as : List Vl} (hn : as.length ≤ 3) {S : Ly} {M : Mm} (h : MOk M → wp d 0 0 0 0 mM_after 5 false true (some .int) Φ pM_after sp n 0 (as.map some) [] S M) : Ret d 0 0 mM_after as S M Φ := ret_wp moM_after (by rw [mtb0_len]; decide) (fun r h => by cases (show some rM_after = some r from h); rfl) sp n hn h
def pM_findWith : List En := [(0, .iconst 1, 1, []),
  (1, .istore_n 2, 2, []),
  (2, .iload_n 2, 3, []),
  (3, .iconst 5, 4, []),
  (4, .if_icmp .gt 39, 7, [(0, 43)]),
  (7, .aload_n 0, 8, []),
  (8, .aload_n 0, 9, []),
  (9, .getfield 144, 12, []),
  (12, .iconst 1, 13, []),
  (13, .isub, 14, []),
  (14, .iload_n 2, 15, []),
  (15, .iload_n 1, 16, []),
  (16, .invokevirtual 153, 19, []),
  (19, .istore_n 3, 20, []),
  (20, .aload_n 0, 21, []),
  (21, .getfield 40, 24, []),
  (24, .bipush 6, 26, []),
  (26, .aload_n 0, 27, []),
  (27, .getfield 144, 30, []),
  (30, .iconst 1, 31, []),
  (31, .isub, 32, []),
  (32, .imul, 33, []),
  (33, .iload_n 2, 34, []),
  (34, .iadd, 35, []),
  (35, .iload_n 3, 36, []),
  (36, .iastore, 37, []),
  (37, .iinc 2 1, 40, []),
  (40, .goto (-38), 43, [(0, 2)]),
  (43, .aload_n 0, 44, []),
  (44, .getfield 144, 47, []),
  (47, .iconst 2, 48, []),
  (48, .isub, 49, []),
  (49, .istore_n 2, 50, []),
  (50, .iload_n 2, 51, []),
  (51, .aload_n 0, 52, []),
  (52, .getfield 141, 55, []),
  (55, .aload_n 0, 56, []),
  (56, .getfield 150, 59, []),
  (59, .iadd, 60, []),
  (60, .iconst 1, 61, []),
  (61, .isub, 62, []),
  (62, .if_icmp .lt 14, 65, [(0, 76)]),
  (65, .aload_n 0, 66, []),
  (66, .iload_n 2, 67, []),
  (67, .invokevirtual 182, 70, []),
  (70, .iinc 2 (-1), 73, []),
  (73, .goto (-23), 76, [(0, 50)]),
  (76, .aload_n 0, 77, []),
  (77, .getfield 150, 80, []),
  (80, .iconst 1, 81, []),
  (81, .isub, 82, []),
  (82, .istore_n 2, 83, []),
  (83, .iload_n 2, 84, []),
  (84, .ifCond .lt 14, 87, [(0, 98)]),
  (87, .aload_n 0, 88, []),
  (88, .iload_n 2, 89, []),
  (89, .invokevirtual 186, 92, []),
  (92, .iinc 2 (-1), 95, []),
  (95, .goto (-12), 98, [(0, 83)]),
  (98, .aload_n 0, 99, []),
  (99, .getfield 43, 102, []),
  (102, .iload_n 1, 103, []),
  (103, .iaload, 104, []),
  (104, .aload_n 0, 105, []),
  (105, .aload_n 0, 106, []),
  (106, .getfield 28, 109, []),
  (109, .aload_n 0, 110, []),
  (110, .getfield 144, 113, []),
  (113, .iaload, 114, []),
  (114, .iload_n 1, 115, []),
  (115, .invokevirtual 122, 118, []),
  (118, .iadd, 119, []),
  (119, .istore_n 2, 120, []),
  (120, .aload_n 0, 121, []),
  (121, .getfield 46, 124, []),
  (124, .iload_n 1, 125, []),
  (125, .aload_n 0, 126, []),
  (126, .iconst 0, 127, []),
  (127, .iload_n 1, 128, []),
  (128, .invokevirtual 176, 131, []),
  (131, .ifCond .eq 13, 134, [(0, 144)]),
  (134, .iload_n 2, 135, []),
  (135, .ldc 125, 137, []),
  (137, .if_icmp .ge 7, 140, [(0, 144)]),
  (140, .iload_n 2, 141, []),
  (141, .goto 5, 144, [(0, 146)]),
  (144, .ldc 125, 146, []),
  (146, .iastore, 147, []),
  (147, .return_, 148, [])]
set_option maxRecDepth 100000 in
theorem moM_findWith : MO mM_findWith 5 false none pM_findWith := ⟨rM_findWith, rfl, rfl, by decide, rfl, (fun h => by cases h), (by decide +kernel)⟩
theorem aM_findWith {d : Nat} {Φ : Option Vl → Ly → Mm → Prop} (sp : List Nat) (n : Nat) {pc : Nat} {L : Lc} {st : List Vl} {S : Ly} {M : Mm} (h : MOk M → wp d 0 0 0 0 mM_findWith 5 false true none Φ pM_findWith sp n pc L st S M) : AJ d 0 0 mM_findWith Φ 0 0 pc L st S M := aj_wp moM_findWith sp n h
theorem eM_findWith {d : Nat} {Φ : Option Vl → Ly → Mm → Prop} (sp : List Nat) (n : Nat) {as : List Vl} (hn : as.length ≤ 4) {S : Ly} {M : Mm} (h : MOk M → wp d 0 0 0 0 mM_findWith 5 false true none Φ pM_findWith sp n 0 (as.map some) [] S M) : Ret d 0 0 mM_findWith as S M Φ := ret_wp moM_findWith (by rw [mtb0_len]; decide) (fun r h => by cases (show some rM_findWith = some r from h); rfl) sp n hn h
def pM_findJoint : List En := [(0, .iconst 1, 1, []),
  (1, .istore_n 2, 2, []),
  (2, .iload_n 2, 3, []),
  (3, .iconst 5, 4, []),
  (4, .if_icmp .gt 154, 7, [(0, 158)]),
  (7, .iload_n 1, 8, []),
  (8, .aload_n 0, 9, []),
  (9, .getfield 150, 12, []),
  (12, .iconst 1, 13, []),
  (13, .isub, 14, []),
  (14, .if_icmp .ne 7, 17, [(0, 21)]),
  (17, .iconst 1, 18, []),
  (18, .goto 4, 21, [(0, 22)]),
  (21, .iconst 0, 22, []),
  (22, .istore_n 3, 23, []),
  (23, .iload_n 3, 24, []),
  (24, .ifCond .eq 39, 27, [(0, 63)]),
  (27, .aload_n 0, 28, []),
  (28, .getfield 40, 31, []),
  (31, .bipush 6, 33, []),
  (33, .aload_n 0, 34, []),
  (34, .getfield 141, 37, []),
  (37, .iload_n 1, 38, []),
  (38, .iadd, 39, []),
  (39, .imul, 40, []),
  (40, .iload_n 2, 41, []),
  (41, .iadd, 42, []),
  (42, .iaload, 43, []),
  (43, .aload_n 0, 44, []),
  (44, .getfield 40, 47, []),
  (47, .bipush 6, 49, []),
  (49, .aload_n 0, 50, []),
  (50, .getfield 144, 53, []),
  (53, .iload_n 1, 54, []),
  (54, .iadd, 55, []),
  (55, .imul, 56, []),
  (56, .iload_n 2, 57, []),
  (57, .iadd, 58, []),
  (58, .iaload, 59, []),
  (59, .iadd, 60, []),
  (60, .goto 5, 63, [(0, 65)]),
  (63, .ldc 125, 65, []),
  (65, .istore 4, 67, []),
  (67, .iconst 1, 68, []),
  (68, .istore 5, 70, []),
  (70, .iload 5, 72, []),
  (72, .iconst 5, 73, []),
  (73, .if_icmp .gt 54, 76, [(0, 127)]),
  (76, .iload_n 3, 77, []),
  (77, .ifCond .ne 50, 80, [(0, 127)]),
  (80, .aload_n 0, 81, []),
  (81, .iload_n 1, 82, []),
  (82, .iload_n 2, 83, []),
  (83, .iload 5, 85, []),
  (85, .invokevirtual 179, 88, []),
  (88, .aload_n 0, 89, []),
  (89, .getfield 43, 92, []),
  (92, .bipush 6, 94, []),
  (94, .iload_n 1, 95, []),
  (95, .iconst 1, 96, []),
  (96, .iadd, 97, []),
  (97, .imul, 98, []),
  (98, .iload 5, 100, []),
  (100, .iadd, 101, []),
  (101, .iaload, 102, []),
  (102, .iadd, 103, []),
  (103, .istore 6, 105, []),
  (105, .iload 6, 107, []),
  (107, .iload 4, 109, []),
  (109, .if_icmp .ge 8, 112, [(0, 117)]),
  (112, .iload 6, 114, []),
  (114, .goto 5, 117, [(0, 119)]),
  (117, .iload 4, 119, []),
  (119, .istore 4, 121, []),
  (121, .iinc 5 1, 124, []),
  (124, .goto (-54), 127, [(0, 70)]),
  (127, .aload_n 0, 128, []),
  (128, .getfield 43, 131, []),
  (131, .bipush 6, 133, []),
  (133, .iload_n 1, 134, []),
  (134, .imul, 135, []),
  (135, .iload_n 2, 136, []),
  (136, .iadd, 137, []),
  (137, .iload 4, 139, []),
  (139, .ldc 125, 141, []),
  (141, .if_icmp .ge 8, 144, [(0, 149)]),
  (144, .iload 4, 146, []),
  (146, .goto 5, 149, [(0, 151)]),
  (149, .ldc 125, 151, []),
  (151, .iastore, 152, []),
  (152, .iinc 2 1, 155, []),
  (155, .goto (-153), 158, [(0, 2)]),
  (158, .return_, 159, [])]
set_option maxRecDepth 100000 in
theorem moM_findJoint : MO mM_findJoint 5 false none pM_findJoint := ⟨rM_findJoint, rfl, rfl, by decide, rfl, (fun h => by cases h), (by decide +kernel)⟩
theorem aM_findJoint {d : Nat} {Φ : Option Vl → Ly → Mm → Prop} (sp : List Nat) (n : Nat) {pc : Nat} {L : Lc} {st : List Vl} {S : Ly} {M : Mm} (h : MOk M → wp d 0 0 0 0 mM_findJoint 5 false true none Φ pM_findJoint sp n pc L st S M) : AJ d 0 0 mM_findJoint Φ 0 0 pc L st S M := aj_wp moM_findJoint sp n h
theorem eM_findJoint {d : Nat} {Φ : Option Vl → Ly → Mm → Prop} (sp : List Nat) (n : Nat) {as : List Vl} (hn : as.length ≤ 7) {S : Ly} {M : Mm} (h : MOk M → wp d 0 0 0 0 mM_findJoint 5 false true none Φ pM_findJoint sp n 0 (as.map some) [] S M) : Ret d 0 0 mM_findJoint as S M Φ := ret_wp moM_findJoint (by rw [mtb0_len]; decide) (fun r h => by cases (show some rM_findJoint = some r from h); rfl) sp n hn h
def pM_jointStep : List En := [(0, .aload_n 0, 1, []),
  (1, .iload_n 1, 2, []),
  (2, .iconst 1, 3, []),
  (3, .iadd, 4, []),
  (4, .iload_n 3, 5, []),
  (5, .invokevirtual 176, 8, []),
  (8, .ifCond .ne 6, 11, [(0, 14)]),
  (11, .ldc 125, 13, []),
  (13, .ireturn, 14, []),
  (14, .aload_n 0, 15, []),
  (15, .aload_n 0, 16, []),
  (16, .getfield 141, 19, []),
  (19, .iload_n 1, 20, []),
  (20, .iadd, 21, []),
  (21, .iload_n 2, 22, []),
  (22, .iload_n 3, 23, []),
  (23, .invokevirtual 170, 26, []),
  (26, .aload_n 0, 27, []),
  (27, .aload_n 0, 28, []),
  (28, .getfield 144, 31, []),
  (31, .iload_n 1, 32, []),
  (32, .iadd, 33, []),
  (33, .iload_n 2, 34, []),
  (34, .iload_n 3, 35, []),
  (35, .invokevirtual 170, 38, []),
  (38, .iadd, 39, []),
  (39, .ireturn, 40, [])]
set_option maxRecDepth 100000 in
theorem moM_jointStep : MO mM_jointStep 5 false (some .int) pM_jointStep := ⟨rM_jointStep, rfl, rfl, by decide, rfl, (fun h => by cases h), (by decide +kernel)⟩
theorem aM_jointStep {d : Nat} {Φ : Option Vl → Ly → Mm → Prop} (sp : List Nat) (n : Nat) {pc : Nat} {L : Lc} {st : List Vl} {S : Ly} {M : Mm} (h : MOk M → wp d 0 0 0 0 mM_jointStep 5 false true (some .int) Φ pM_jointStep sp n pc L st S M) : AJ d 0 0 mM_jointStep Φ 0 0 pc L st S M := aj_wp moM_jointStep sp n h
theorem eM_jointStep {d : Nat} {Φ : Option Vl → Ly → Mm → Prop} (sp : List Nat) (n : Nat) {as : List Vl} (hn : as.length ≤ 4) {S : Ly} {M : Mm} (h : MOk M → wp d 0 0 0 0 mM_jointStep 5 false true (some .int) Φ pM_jointStep sp n 0 (as.map some) [] S M) : Ret d 0 0 mM_jointStep as S M Φ := ret_wp moM_jointStep (by rw [mtb0_len]; decide) (fun r h => by cases (show some rM_jointStep = some r from h); rfl) sp n hn h
def pM_isOfBoth : List En := [(0, .aload_n 0, 1, []),
  (1, .aload_n 0, 2, []),
  (2, .getfield 141, 5, []),
  (5, .iload_n 1, 6, []),
  (6, .iadd, 7, []),
  (7, .iload_n 2, 8, []),
  (8, .invokevirtual 156, 11, []),
  (11, .ifCond .eq 21, 14, [(0, 32)]),
  (14, .aload_n 0, 15, []),
  (15, .aload_n 0, 16, []),
  (16, .getfield 144, 19, []),
  (19, .iload_n 1, 20, []),
  (20, .iadd, 21, []),
  (21, .iload_n 2, 22, []),
  (22, .invokevirtual 156, 25, []),
  (25, .ifCond .eq 7, 28, [(0, 32)]),
  (28, .iconst 1, 29, []),
  (29, .goto 4, 32, [(0, 33)]),
  (32, .iconst 0, 33, []),
  (33, .ireturn, 34, [])]
set_option maxRecDepth 100000 in
theorem moM_isOfBoth : MO mM_isOfBoth 5 false (some .boolean) pM_isOfBoth := ⟨rM_isOfBoth, rfl, rfl, by decide, rfl, (fun h => by cases h), (by decide +kernel)⟩
theorem aM_isOfBoth {d : Nat} {Φ : Option Vl → Ly → Mm → Prop} (sp : List Nat) (n : Nat) {pc : Nat} {L : Lc} {st : List Vl} {S : Ly} {M : Mm} (h : MOk M → wp d 0 0 0 0 mM_isOfBoth 5 false true (some .boolean) Φ pM_isOfBoth sp n pc L st S M) : AJ d 0 0 mM_isOfBoth Φ 0 0 pc L st S M := aj_wp moM_isOfBoth sp n h
theorem eM_isOfBoth {d : Nat} {Φ : Option Vl → Ly → Mm → Prop} (sp : List Nat) (n : Nat) {as : List Vl} (hn : as.length ≤ 3) {S : Ly} {M : Mm} (h : MOk M → wp d 0 0 0 0 mM_isOfBoth 5 false true (some .boolean) Φ pM_isOfBoth sp n 0 (as.map some) [] S M) : Ret d 0 0 mM_isOfBoth as S M Φ := ret_wp moM_isOfBoth (by rw [mtb0_len]; decide) (fun r h => by cases (show some rM_isOfBoth = some r from h); rfl) sp n hn h
def pM_leastStart : List En := [(0, .ldc 125, 2, []),
  (2, .istore_n 1, 3, []),
  (3, .iconst 1, 4, []),
  (4, .istore_n 2, 5, []),
  (5, .iload_n 2, 6, []),
  (6, .iconst 5, 7, []),
  (7, .if_icmp .gt 28, 10, [(0, 35)]),
  (10, .aload_n 0, 11, []),
  (11, .iload_n 2, 12, []),
  (12, .invokevirtual 207, 15, []),
  (15, .iload_n 1, 16, []),
  (16, .if_icmp .ge 11, 19, [(0, 27)]),
  (19, .aload_n 0, 20, []),
  (20, .iload_n 2, 21, []),
  (21, .invokevirtual 207, 24, []),
  (24, .goto 4, 27, [(0, 28)]),
  (27, .iload_n 1, 28, []),
  (28, .istore_n 1, 29, []),
  (29, .iinc 2 1, 32, []),
  (32, .goto (-27), 35, [(0, 5)]),
  (35, .iload_n 1, 36, []),
  (36, .ireturn, 37, [])]
set_option maxRecDepth 100000 in
theorem moM_leastStart : MO mM_leastStart 5 false (some .int) pM_leastStart := ⟨rM_leastStart, rfl, rfl, by decide, rfl, (fun h => by cases h), (by decide +kernel)⟩
theorem aM_leastStart {d : Nat} {Φ : Option Vl → Ly → Mm → Prop} (sp : List Nat) (n : Nat) {pc : Nat} {L : Lc} {st : List Vl} {S : Ly} {M : Mm} (h : MOk M → wp d 0 0 0 0 mM_leastStart 5 false true (some .int) Φ pM_leastStart sp n pc L st S M) : AJ d 0 0 mM_leastStart Φ 0 0 pc L st S M := aj_wp moM_leastStart sp n h
theorem eM_leastStart {d : Nat} {Φ : Option Vl → Ly → Mm → Prop} (sp : List Nat) (n : Nat) {as : List Vl} (hn : as.length ≤ 3) {S : Ly} {M : Mm} (h : MOk M → wp d 0 0 0 0 mM_leastStart 5 false true (some .int) Φ pM_leastStart sp n 0 (as.map some) [] S M) : Ret d 0 0 mM_leastStart as S M Φ := ret_wp moM_leastStart (by rw [mtb0_len]; decide) (fun r h => by cases (show some rM_leastStart = some r from h); rfl) sp n hn h
def pM_startCost : List En := [(0, .aload_n 0, 1, []),
  (1, .iconst 0, 2, []),
  (2, .iload_n 1, 3, []),
  (3, .invokevirtual 156, 6, []),
  (6, .ifCond .eq 24, 9, [(0, 30)]),
  (9, .aload_n 0, 10, []),
  (10, .aload_n 0, 11, []),
  (11, .getfield 28, 14, []),
  (14, .iconst 0, 15, []),
  (15, .iaload, 16, []),
  (16, .iload_n 1, 17, []),
  (17, .invokevirtual 122, 20, []),
  (20, .aload_n 0, 21, []),
  (21, .iconst 0, 22, []),
  (22, .iload_n 1, 23, []),
  (23, .invokevirtual 173, 26, []),
  (26, .iadd, 27, []),
  (27, .goto 5, 30, [(0, 32)]),
  (30, .ldc 125, 32, []),
  (32, .ireturn, 33, [])]
set_option maxRecDepth 100000 in
theorem moM_startCost : MO mM_startCost 5 false (some .int) pM_startCost := ⟨rM_startCost, rfl, rfl, by decide, rfl, (fun h => by cases h), (by decide +kernel)⟩
theorem aM_startCost {d : Nat} {Φ : Option Vl → Ly → Mm → Prop} (sp : List Nat) (n : Nat) {pc : Nat} {L : Lc} {st : List Vl} {S : Ly} {M : Mm} (h : MOk M → wp d 0 0 0 0 mM_startCost 5 false true (some .int) Φ pM_startCost sp n pc L st S M) : AJ d 0 0 mM_startCost Φ 0 0 pc L st S M := aj_wp moM_startCost sp n h
theorem eM_startCost {d : Nat} {Φ : Option Vl → Ly → Mm → Prop} (sp : List Nat) (n : Nat) {as : List Vl} (hn : as.length ≤ 2) {S : Ly} {M : Mm} (h : MOk M → wp d 0 0 0 0 mM_startCost 5 false true (some .int) Φ pM_startCost sp n 0 (as.map some) [] S M) : Ret d 0 0 mM_startCost as S M Φ := ret_wp moM_startCost (by rw [mtb0_len]; decide) (fun r h => by cases (show some rM_startCost = some r from h); rfl) sp n hn h
def pM_findFingers : List En := [(0, .iconst 1, 1, []),
  (1, .istore_n 2, 2, []),
  (2, .aload_n 0, 3, []),
  (3, .iload_n 2, 4, []),
  (4, .invokevirtual 207, 7, []),
  (7, .aload_n 0, 8, []),
  (8, .invokevirtual 195, 11, []),
  (11, .if_icmp .eq 9, 14, [(0, 20)]),
  (14, .iinc 2 1, 17, []),
  (17, .goto (-15), 20, [(0, 2)]),
  (20, .iconst 0, 21, []),
  (21, .istore_n 3, 22, []),
  (22, .aload_n 0, 23, []),
  (23, .getfield 52, 26, []),
  (26, .iload_n 1, 27, []),
  (27, .iload_n 2, 28, []),
  (28, .iastore, 29, []),
  (29, .aload_n 0, 30, []),
  (30, .getfield 150, 33, []),
  (33, .ifCond .le 10, 36, [(0, 43)]),
  (36, .aload_n 0, 37, []),
  (37, .getfield 141, 40, []),
  (40, .goto 9, 43, [(0, 49)]),
  (43, .aload_n 0, 44, []),
  (44, .getfield 138, 47, []),
  (47, .iconst 1, 48, []),
  (48, .isub, 49, []),
  (49, .istore 4, 51, []),
  (51, .iload_n 3, 52, []),
  (52, .iload 4, 54, []),
  (54, .if_icmp .ge 32, 57, [(0, 86)]),
  (57, .aload_n 0, 58, []),
  (58, .getfield 52, 61, []),
  (61, .iload_n 1, 62, []),
  (62, .iload_n 3, 63, []),
  (63, .iadd, 64, []),
  (64, .iconst 1, 65, []),
  (65, .iadd, 66, []),
  (66, .aload_n 0, 67, []),
  (67, .iload_n 3, 68, []),
  (68, .aload_n 0, 69, []),
  (69, .getfield 52, 72, []),
  (72, .iload_n 1, 73, []),
  (73, .iload_n 3, 74, []),
  (74, .iadd, 75, []),
  (75, .iaload, 76, []),
  (76, .invokevirtual 210, 79, []),
  (79, .iastore, 80, []),
  (80, .iinc 3 1, 83, []),
  (83, .goto (-32), 86, [(0, 51)]),
  (86, .aload_n 0, 87, []),
  (87, .getfield 150, 90, []),
  (90, .ifCond .le 8, 93, [(0, 98)]),
  (93, .aload_n 0, 94, []),
  (94, .iload_n 1, 95, []),
  (95, .invokevirtual 213, 98, []),
  (98, .return_, 99, [])]
set_option maxRecDepth 100000 in
theorem moM_findFingers : MO mM_findFingers 5 false none pM_findFingers := ⟨rM_findFingers, rfl, rfl, by decide, rfl, (fun h => by cases h), (by decide +kernel)⟩
theorem aM_findFingers {d : Nat} {Φ : Option Vl → Ly → Mm → Prop} (sp : List Nat) (n : Nat) {pc : Nat} {L : Lc} {st : List Vl} {S : Ly} {M : Mm} (h : MOk M → wp d 0 0 0 0 mM_findFingers 5 false true none Φ pM_findFingers sp n pc L st S M) : AJ d 0 0 mM_findFingers Φ 0 0 pc L st S M := aj_wp moM_findFingers sp n h
theorem eM_findFingers {d : Nat} {Φ : Option Vl → Ly → Mm → Prop} (sp : List Nat) (n : Nat) {as : List Vl} (hn : as.length ≤ 5) {S : Ly} {M : Mm} (h : MOk M → wp d 0 0 0 0 mM_findFingers 5 false true none Φ pM_findFingers sp n 0 (as.map some) [] S M) : Ret d 0 0 mM_findFingers as S M Φ := ret_wp moM_findFingers (by rw [mtb0_len]; decide) (fun r h => by cases (show some rM_findFingers = some r from h); rfl) sp n hn h
def pM_fingerBehind : List En := [(0, .iconst 1, 1, []),
  (1, .istore_n 3, 2, []),
  (2, .aload_n 0, 3, []),
  (3, .iload_n 1, 4, []),
  (4, .iload_n 2, 5, []),
  (5, .iload_n 3, 6, []),
  (6, .invokevirtual 170, 9, []),
  (9, .aload_n 0, 10, []),
  (10, .iload_n 1, 11, []),
  (11, .iconst 1, 12, []),
  (12, .iadd, 13, []),
  (13, .iload_n 3, 14, []),
  (14, .invokevirtual 173, 17, []),
  (17, .iadd, 18, []),
  (18, .aload_n 0, 19, []),
  (19, .iload_n 1, 20, []),
  (20, .iload_n 2, 21, []),
  (21, .invokevirtual 173, 24, []),
  (24, .if_icmp .eq 9, 27, [(0, 33)]),
  (27, .iinc 3 1, 30, []),
  (30, .goto (-28), 33, [(0, 2)]),
  (33, .iload_n 3, 34, []),
  (34, .ireturn, 35, [])]
set_option maxRecDepth 100000 in
theorem moM_fingerBehind : MO mM_fingerBehind 5 false (some .int) pM_fingerBehind := ⟨rM_fingerBehind, rfl, rfl, by decide, rfl, (fun h => by cases h), (by decide +kernel)⟩
theorem aM_fingerBehind {d : Nat} {Φ : Option Vl → Ly → Mm → Prop} (sp : List Nat) (n : Nat) {pc : Nat} {L : Lc} {st : List Vl} {S : Ly} {M : Mm} (h : MOk M → wp d 0 0 0 0 mM_fingerBehind 5 false true (some .int) Φ pM_fingerBehind sp n pc L st S M) : AJ d 0 0 mM_fingerBehind Φ 0 0 pc L st S M := aj_wp moM_fingerBehind sp n h
theorem eM_fingerBehind {d : Nat} {Φ : Option Vl → Ly → Mm → Prop} (sp : List Nat) (n : Nat) {as : List Vl} (hn : as.length ≤ 4) {S : Ly} {M : Mm} (h : MOk M → wp d 0 0 0 0 mM_fingerBehind 5 false true (some .int) Φ pM_fingerBehind sp n 0 (as.map some) [] S M) : Ret d 0 0 mM_fingerBehind as S M Φ := ret_wp moM_fingerBehind (by rw [mtb0_len]; decide) (fun r h => by cases (show some rM_fingerBehind = some r from h); rfl) sp n hn h
def pM_findTied : List En := [(0, .aload_n 0, 1, []),
  (1, .getfield 52, 4, []),
  (4, .iload_n 1, 5, []),
  (5, .aload_n 0, 6, []),
  (6, .getfield 141, 9, []),
  (9, .iadd, 10, []),
  (10, .iaload, 11, []),
  (11, .istore_n 2, 12, []),
  (12, .aload_n 0, 13, []),
  (13, .iload_n 2, 14, []),
  (14, .invokevirtual 189, 17, []),
  (17, .iconst 0, 18, []),
  (18, .istore_n 3, 19, []),
  (19, .iload_n 3, 20, []),
  (20, .aload_n 0, 21, []),
  (21, .getfield 150, 24, []),
  (24, .iconst 1, 25, []),
  (25, .isub, 26, []),
  (26, .if_icmp .ge 42, 29, [(0, 68)]),
  (29, .aload_n 0, 30, []),
  (30, .getfield 52, 33, []),
  (33, .iload_n 1, 34, []),
  (34, .aload_n 0, 35, []),
  (35, .getfield 141, 38, []),
  (38, .iadd, 39, []),
  (39, .iload_n 3, 40, []),
  (40, .iadd, 41, []),
  (41, .iconst 1, 42, []),
  (42, .iadd, 43, []),
  (43, .aload_n 0, 44, []),
  (44, .iload_n 3, 45, []),
  (45, .aload_n 0, 46, []),
  (46, .getfield 52, 49, []),
  (49, .iload_n 1, 50, []),
  (50, .aload_n 0, 51, []),
  (51, .getfield 141, 54, []),
  (54, .iadd, 55, []),
  (55, .iload_n 3, 56, []),
  (56, .iadd, 57, []),
  (57, .iaload, 58, []),
  (58, .invokevirtual 216, 61, []),
  (61, .iastore, 62, []),
  (62, .iinc 3 1, 65, []),
  (65, .goto (-46), 68, [(0, 19)]),
  (68, .aload_n 0, 69, []),
  (69, .getfield 141, 72, []),
  (72, .aload_n 0, 73, []),
  (73, .getfield 150, 76, []),
  (76, .iadd, 77, []),
  (77, .iconst 1, 78, []),
  (78, .isub, 79, []),
  (79, .istore_n 3, 80, []),
  (80, .iload_n 3, 81, []),
  (81, .aload_n 0, 82, []),
  (82, .getfield 144, 85, []),
  (85, .iconst 1, 86, []),
  (86, .isub, 87, []),
  (87, .if_icmp .ge 81, 90, [(0, 168)]),
  (90, .iconst 1, 91, []),
  (91, .istore 4, 93, []),
  (93, .aload_n 0, 94, []),
  (94, .iload_n 3, 95, []),
  (95, .aload_n 0, 96, []),
  (96, .getfield 52, 99, []),
  (99, .iload_n 1, 100, []),
  (100, .iload_n 3, 101, []),
  (101, .iadd, 102, []),
  (102, .iaload, 103, []),
  (103, .iload 4, 105, []),
  (105, .invokevirtual 170, 108, []),
  (108, .aload_n 0, 109, []),
  (109, .getfield 40, 112, []),
  (112, .bipush 6, 114, []),
  (114, .iload_n 3, 115, []),
  (115, .iconst 1, 116, []),
  (116, .iadd, 117, []),
  (117, .imul, 118, []),
  (118, .iload 4, 120, []),
  (120, .iadd, 121, []),
  (121, .iaload, 122, []),
  (122, .iadd, 123, []),
  (123, .aload_n 0, 124, []),
  (124, .getfield 40, 127, []),
  (127, .bipush 6, 129, []),
  (129, .iload_n 3, 130, []),
  (130, .imul, 131, []),
  (131, .aload_n 0, 132, []),
  (132, .getfield 52, 135, []),
  (135, .iload_n 1, 136, []),
  (136, .iload_n 3, 137, []),
  (137, .iadd, 138, []),
  (138, .iaload, 139, []),
  (139, .iadd, 140, []),
  (140, .iaload, 141, []),
  (141, .if_icmp .eq 9, 144, [(0, 150)]),
  (144, .iinc 4 1, 147, []),
  (147, .goto (-54), 150, [(0, 93)]),
  (150, .aload_n 0, 151, []),
  (151, .getfield 52, 154, []),
  (154, .iload_n 1, 155, []),
  (155, .iload_n 3, 156, []),
  (156, .iadd, 157, []),
  (157, .iconst 1, 158, []),
  (158, .iadd, 159, []),
  (159, .iload 4, 161, []),
  (161, .iastore, 162, []),
  (162, .iinc 3 1, 165, []),
  (165, .goto (-85), 168, [(0, 80)]),
  (168, .iconst 0, 169, []),
  (169, .istore_n 3, 170, []),
  (170, .iload_n 3, 171, []),
  (171, .aload_n 0, 172, []),
  (172, .getfield 150, 175, []),
  (175, .if_icmp .ge 35, 178, [(0, 210)]),
  (178, .aload_n 0, 179, []),
  (179, .getfield 52, 182, []),
  (182, .iload_n 1, 183, []),
  (183, .aload_n 0, 184, []),
  (184, .getfield 144, 187, []),
  (187, .iadd, 188, []),
  (188, .iload_n 3, 189, []),
  (189, .iadd, 190, []),
  (190, .aload_n 0, 191, []),
  (191, .getfield 52, 194, []),
  (194, .iload_n 1, 195, []),
  (195, .aload_n 0, 196, []),
  (196, .getfield 141, 199, []),
  (199, .iadd, 200, []),
  (200, .iload_n 3, 201, []),
  (201, .iadd, 202, []),
  (202, .iaload, 203, []),
  (203, .iastore, 204, []),
  (204, .iinc 3 1, 207, []),
  (207, .goto (-37), 210, [(0, 170)]),
  (210, .aload_n 0, 211, []),
  (211, .getfield 144, 214, []),
  (214, .aload_n 0, 215, []),
  (215, .getfield 150, 218, []),
  (218, .iadd, 219, []),
  (219, .iconst 1, 220, []),
  (220, .isub, 221, []),
  (221, .istore_n 3, 222, []),
  (222, .iload_n 3, 223, []),
  (223, .aload_n 0, 224, []),
  (224, .getfield 138, 227, []),
  (227, .iconst 1, 228, []),
  (228, .isub, 229, []),
  (229, .if_icmp .ge 32, 232, [(0, 261)]),
  (232, .aload_n 0, 233, []),
  (233, .getfield 52, 236, []),
  (236, .iload_n 1, 237, []),
  (237, .iload_n 3, 238, []),
  (238, .iadd, 239, []),
  (239, .iconst 1, 240, []),
  (240, .iadd, 241, []),
  (241, .aload_n 0, 242, []),
  (242, .iload_n 3, 243, []),
  (243, .aload_n 0, 244, []),
  (244, .getfield 52, 247, []),
  (247, .iload_n 1, 248, []),
  (248, .iload_n 3, 249, []),
  (249, .iadd, 250, []),
  (250, .iaload, 251, []),
  (251, .invokevirtual 210, 254, []),
  (254, .iastore, 255, []),
  (255, .iinc 3 1, 258, []),
  (258, .goto (-36), 261, [(0, 222)]),
  (261, .return_, 262, [])]
set_option maxRecDepth 100000 in
theorem ckM_findTied_0 : ((pM_findTied.drop 0).take 50).all (okE rM_findTied.2.1 rM_findTied.2.2.1) = true := by decide +kernel
set_option maxRecDepth 100000 in
theorem ckM_findTied_1 : ((pM_findTied.drop 50).take 50).all (okE rM_findTied.2.1 rM_findTied.2.2.1) = true := by decide +kernel
set_option maxRecDepth 100000 in
theorem ckM_findTied_2 : ((pM_findTied.drop 100).take 50).all (okE rM_findTied.2.1 rM_findTied.2.2.1) = true := by decide +kernel
set_option maxRecDepth 100000 in
theorem ckM_findTied_3 : ((pM_findTied.drop 150).take 50).all (okE rM_findTied.2.1 rM_findTied.2.2.1) = true := by decide +kernel
theorem ckzM_findTied : (pM_findTied.drop 200).all (okE rM_findTied.2.1 rM_findTied.2.2.1) = true := by decide +kernel
set_option maxRecDepth 100000 in
theorem moM_findTied : MO mM_findTied 5 false none pM_findTied := ⟨rM_findTied, rfl, rfl, by decide, rfl, (fun h => by cases h), (all_cut 0 50 ckM_findTied_0 (all_cut 50 50 ckM_findTied_1 (all_cut 100 50 ckM_findTied_2 (all_cut 150 50 ckM_findTied_3 ckzM_findTied))))⟩
theorem aM_findTied {d : Nat} {Φ : Option Vl → Ly → Mm → Prop} (sp : List Nat) (n : Nat) {pc : Nat} {L : Lc} {st : List Vl} {S : Ly} {M : Mm} (h : MOk M → wp d 0 0 0 0 mM_findTied 5 false true none Φ pM_findTied sp n pc L st S M) : AJ d 0 0 mM_findTied Φ 0 0 pc L st S M := aj_wp moM_findTied sp n h
theorem eM_findTied {d : Nat} {Φ : Option Vl → Ly → Mm → Prop} (sp : List Nat) (n : Nat) {as : List Vl} (hn : as.length ≤ 5) {S : Ly} {M : Mm} (h : MOk M → wp d 0 0 0 0 mM_findTied 5 false true none Φ pM_findTied sp n 0 (as.map some) [] S M) : Ret d 0 0 mM_findTied as S M Φ := ret_wp moM_findTied (by rw [mtb0_len]; decide) (fun r h => by cases (show some rM_findTied = some r from h); rfl) sp n hn h
def pM_jointBehind : List En := [(0, .iconst 1, 1, []),
  (1, .istore_n 3, 2, []),
  (2, .aload_n 0, 3, []),
  (3, .iload_n 1, 4, []),
  (4, .iload_n 2, 5, []),
  (5, .iload_n 3, 6, []),
  (6, .invokevirtual 179, 9, []),
  (9, .aload_n 0, 10, []),
  (10, .getfield 43, 13, []),
  (13, .bipush 6, 15, []),
  (15, .iload_n 1, 16, []),
  (16, .iconst 1, 17, []),
  (17, .iadd, 18, []),
  (18, .imul, 19, []),
  (19, .iload_n 3, 20, []),
  (20, .iadd, 21, []),
  (21, .iaload, 22, []),
  (22, .iadd, 23, []),
  (23, .aload_n 0, 24, []),
  (24, .getfield 43, 27, []),
  (27, .bipush 6, 29, []),
  (29, .iload_n 1, 30, []),
  (30, .imul, 31, []),
  (31, .iload_n 2, 32, []),
  (32, .iadd, 33, []),
  (33, .iaload, 34, []),
  (34, .if_icmp .eq 9, 37, [(0, 43)]),
  (37, .iinc 3 1, 40, []),
  (40, .goto (-38), 43, [(0, 2)]),
  (43, .iload_n 3, 44, []),
  (44, .ireturn, 45, [])]
set_option maxRecDepth 100000 in
theorem moM_jointBehind : MO mM_jointBehind 5 false (some .int) pM_jointBehind := ⟨rM_jointBehind, rfl, rfl, by decide, rfl, (fun h => by cases h), (by decide +kernel)⟩
theorem aM_jointBehind {d : Nat} {Φ : Option Vl → Ly → Mm → Prop} (sp : List Nat) (n : Nat) {pc : Nat} {L : Lc} {st : List Vl} {S : Ly} {M : Mm} (h : MOk M → wp d 0 0 0 0 mM_jointBehind 5 false true (some .int) Φ pM_jointBehind sp n pc L st S M) : AJ d 0 0 mM_jointBehind Φ 0 0 pc L st S M := aj_wp moM_jointBehind sp n h
theorem eM_jointBehind {d : Nat} {Φ : Option Vl → Ly → Mm → Prop} (sp : List Nat) (n : Nat) {as : List Vl} (hn : as.length ≤ 4) {S : Ly} {M : Mm} (h : MOk M → wp d 0 0 0 0 mM_jointBehind 5 false true (some .int) Φ pM_jointBehind sp n 0 (as.map some) [] S M) : Ret d 0 0 mM_jointBehind as S M Φ := ret_wp moM_jointBehind (by rw [mtb0_len]; decide) (fun r h => by cases (show some rM_jointBehind = some r from h); rfl) sp n hn h
def pM_finger : List En := [(0, .iload_n 1, 1, []),
  (1, .invokestatic 87, 4, []),
  (4, .ifCond .eq 12, 7, [(0, 16)]),
  (7, .aload_n 0, 8, []),
  (8, .iload_n 1, 9, []),
  (9, .iload_n 2, 10, []),
  (10, .invokevirtual 111, 13, []),
  (13, .ifCond .ne 5, 16, [(0, 18)]),
  (16, .iconst (-1), 17, []),
  (17, .ireturn, 18, []),
  (18, .aload_n 0, 19, []),
  (19, .iload_n 1, 20, []),
  (20, .invokevirtual 225, 23, []),
  (23, .aload_n 0, 24, []),
  (24, .getfield 49, 27, []),
  (27, .iload_n 1, 28, []),
  (28, .iaload, 29, []),
  (29, .bipush (-9), 31, []),
  (31, .if_icmp .ne 8, 34, [(0, 39)]),
  (34, .bipush (-9), 36, []),
  (36, .goto 14, 39, [(0, 50)]),
  (39, .aload_n 0, 40, []),
  (40, .getfield 52, 43, []),
  (43, .bipush 30, 45, []),
  (45, .iload_n 1, 46, []),
  (46, .imul, 47, []),
  (47, .iload_n 2, 48, []),
  (48, .iadd, 49, []),
  (49, .iaload, 50, []),
  (50, .ireturn, 51, [])]
set_option maxRecDepth 100000 in
theorem moM_finger : MO mM_finger 5 false (some .int) pM_finger := ⟨rM_finger, rfl, rfl, by decide, rfl, (fun h => by cases h), (by decide +kernel)⟩
theorem aM_finger {d : Nat} {Φ : Option Vl → Ly → Mm → Prop} (sp : List Nat) (n : Nat) {pc : Nat} {L : Lc} {st : List Vl} {S : Ly} {M : Mm} (h : MOk M → wp d 0 0 0 0 mM_finger 5 false true (some .int) Φ pM_finger sp n pc L st S M) : AJ d 0 0 mM_finger Φ 0 0 pc L st S M := aj_wp moM_finger sp n h
theorem eM_finger {d : Nat} {Φ : Option Vl → Ly → Mm → Prop} (sp : List Nat) (n : Nat) {as : List Vl} (hn : as.length ≤ 3) {S : Ly} {M : Mm} (h : MOk M → wp d 0 0 0 0 mM_finger 5 false true (some .int) Φ pM_finger sp n 0 (as.map some) [] S M) : Ret d 0 0 mM_finger as S M Φ := ret_wp moM_finger (by rw [mtb0_len]; decide) (fun r h => by cases (show some rM_finger = some r from h); rfl) sp n hn h
def pM_would : List En := [(0, .iload_n 1, 1, []),
  (1, .invokestatic 87, 4, []),
  (4, .ifCond .eq 19, 7, [(0, 23)]),
  (7, .aload_n 0, 8, []),
  (8, .iload_n 1, 9, []),
  (9, .iload_n 2, 10, []),
  (10, .invokevirtual 111, 13, []),
  (13, .ifCond .eq 10, 16, [(0, 23)]),
  (16, .iload_n 3, 17, []),
  (17, .invokestatic 104, 20, []),
  (20, .ifCond .ne 5, 23, [(0, 25)]),
  (23, .iconst (-1), 24, []),
  (24, .ireturn, 25, []),
  (25, .aload_n 0, 26, []),
  (26, .iload_n 1, 27, []),
  (27, .invokevirtual 198, 30, []),
  (30, .aload_n 0, 31, []),
  (31, .iload_n 1, 32, []),
  (32, .invokevirtual 201, 35, []),
  (35, .aload_n 0, 36, []),
  (36, .getfield 31, 39, []),
  (39, .iload_n 2, 40, []),
  (40, .iconst 1, 41, []),
  (41, .iload_n 3, 42, []),
  (42, .ishl, 43, []),
  (43, .iastore, 44, []),
  (44, .aload_n 0, 45, []),
  (45, .invokevirtual 204, 48, []),
  (48, .ireturn, 49, [])]
set_option maxRecDepth 100000 in
theorem moM_would : MO mM_would 5 false (some .int) pM_would := ⟨rM_would, rfl, rfl, by decide, rfl, (fun h => by cases h), (by decide +kernel)⟩
theorem aM_would {d : Nat} {Φ : Option Vl → Ly → Mm → Prop} (sp : List Nat) (n : Nat) {pc : Nat} {L : Lc} {st : List Vl} {S : Ly} {M : Mm} (h : MOk M → wp d 0 0 0 0 mM_would 5 false true (some .int) Φ pM_would sp n pc L st S M) : AJ d 0 0 mM_would Φ 0 0 pc L st S M := aj_wp moM_would sp n h
theorem eM_would {d : Nat} {Φ : Option Vl → Ly → Mm → Prop} (sp : List Nat) (n : Nat) {as : List Vl} (hn : as.length ≤ 4) {S : Ly} {M : Mm} (h : MOk M → wp d 0 0 0 0 mM_would 5 false true (some .int) Φ pM_would sp n 0 (as.map some) [] S M) : Ret d 0 0 mM_would as S M Φ := ret_wp moM_would (by rw [mtb0_len]; decide) (fun r h => by cases (show some rM_would = some r from h); rfl) sp n hn h
def pM_tie : List En := [(0, .iload_n 1, 1, []),
  (1, .invokestatic 87, 4, []),
  (4, .ifCond .ne 5, 7, [(0, 9)]),
  (7, .iconst (-1), 8, []),
  (8, .ireturn, 9, []),
  (9, .iload_n 2, 10, []),
  (10, .iconst 0, 11, []),
  (11, .bipush 28, 13, []),
  (13, .invokestatic 76, 16, []),
  (16, .ifCond .eq 32, 19, [(0, 48)]),
  (19, .iload_n 3, 20, []),
  (20, .iconst 1, 21, []),
  (21, .bipush 29, 23, []),
  (23, .invokestatic 76, 26, []),
  (26, .ifCond .eq 22, 29, [(0, 48)]),
  (29, .iload 4, 31, []),
  (31, .iconst 1, 32, []),
  (32, .bipush 15, 34, []),
  (34, .invokestatic 76, 37, []),
  (37, .ifCond .eq 11, 40, [(0, 48)]),
  (40, .iload_n 2, 41, []),
  (41, .iload 4, 43, []),
  (43, .iadd, 44, []),
  (44, .iload_n 3, 45, []),
  (45, .if_icmp .le 6, 48, [(0, 51)]),
  (48, .bipush (-2), 50, []),
  (50, .ireturn, 51, []),
  (51, .aload_n 0, 52, []),
  (52, .iload_n 1, 53, []),
  (53, .iload_n 2, 54, []),
  (54, .iload_n 3, 55, []),
  (55, .iload 4, 57, []),
  (57, .invokevirtual 228, 60, []),
  (60, .ireturn, 61, [])]
set_option maxRecDepth 100000 in
theorem moM_tie : MO mM_tie 5 false (some .int) pM_tie := ⟨rM_tie, rfl, rfl, by decide, rfl, (fun h => by cases h), (by decide +kernel)⟩
theorem aM_tie {d : Nat} {Φ : Option Vl → Ly → Mm → Prop} (sp : List Nat) (n : Nat) {pc : Nat} {L : Lc} {st : List Vl} {S : Ly} {M : Mm} (h : MOk M → wp d 0 0 0 0 mM_tie 5 false true (some .int) Φ pM_tie sp n pc L st S M) : AJ d 0 0 mM_tie Φ 0 0 pc L st S M := aj_wp moM_tie sp n h
theorem eM_tie {d : Nat} {Φ : Option Vl → Ly → Mm → Prop} (sp : List Nat) (n : Nat) {as : List Vl} (hn : as.length ≤ 5) {S : Ly} {M : Mm} (h : MOk M → wp d 0 0 0 0 mM_tie 5 false true (some .int) Φ pM_tie sp n 0 (as.map some) [] S M) : Ret d 0 0 mM_tie as S M Φ := ret_wp moM_tie (by rw [mtb0_len]; decide) (fun r h => by cases (show some rM_tie = some r from h); rfl) sp n hn h
def pM_ties : List En := [(0, .aload_n 0, 1, []),
  (1, .getfield 55, 4, []),
  (4, .iload_n 1, 5, []),
  (5, .iload_n 2, 6, []),
  (6, .iastore, 7, []),
  (7, .aload_n 0, 8, []),
  (8, .getfield 58, 11, []),
  (11, .iload_n 1, 12, []),
  (12, .iload_n 3, 13, []),
  (13, .iastore, 14, []),
  (14, .aload_n 0, 15, []),
  (15, .getfield 61, 18, []),
  (18, .iload_n 1, 19, []),
  (19, .iload 4, 21, []),
  (21, .iastore, 22, []),
  (22, .aload_n 0, 23, []),
  (23, .invokevirtual 101, 26, []),
  (26, .aload_n 0, 27, []),
  (27, .iload_n 1, 28, []),
  (28, .invokevirtual 147, 31, []),
  (31, .ifCond .eq 7, 34, [(0, 38)]),
  (34, .iconst 1, 35, []),
  (35, .goto 4, 38, [(0, 39)]),
  (38, .iconst 0, 39, []),
  (39, .ireturn, 40, [])]
set_option maxRecDepth 100000 in
theorem moM_ties : MO mM_ties 5 false (some .int) pM_ties := ⟨rM_ties, rfl, rfl, by decide, rfl, (fun h => by cases h), (by decide +kernel)⟩
theorem aM_ties {d : Nat} {Φ : Option Vl → Ly → Mm → Prop} (sp : List Nat) (n : Nat) {pc : Nat} {L : Lc} {st : List Vl} {S : Ly} {M : Mm} (h : MOk M → wp d 0 0 0 0 mM_ties 5 false true (some .int) Φ pM_ties sp n pc L st S M) : AJ d 0 0 mM_ties Φ 0 0 pc L st S M := aj_wp moM_ties sp n h
theorem eM_ties {d : Nat} {Φ : Option Vl → Ly → Mm → Prop} (sp : List Nat) (n : Nat) {as : List Vl} (hn : as.length ≤ 5) {S : Ly} {M : Mm} (h : MOk M → wp d 0 0 0 0 mM_ties 5 false true (some .int) Φ pM_ties sp n 0 (as.map some) [] S M) : Ret d 0 0 mM_ties as S M Φ := ret_wp moM_ties (by rw [mtb0_len]; decide) (fun r h => by cases (show some rM_ties = some r from h); rfl) sp n hn h
def pM_untie : List En := [(0, .iload_n 1, 1, []),
  (1, .invokestatic 87, 4, []),
  (4, .ifCond .ne 5, 7, [(0, 9)]),
  (7, .iconst (-1), 8, []),
  (8, .ireturn, 9, []),
  (9, .aload_n 0, 10, []),
  (10, .getfield 55, 13, []),
  (13, .iload_n 1, 14, []),
  (14, .iaload, 15, []),
  (15, .bipush (-9), 17, []),
  (17, .if_icmp .ne 7, 20, [(0, 24)]),
  (20, .iconst 0, 21, []),
  (21, .goto 4, 24, [(0, 25)]),
  (24, .iconst 1, 25, []),
  (25, .istore_n 2, 26, []),
  (26, .aload_n 0, 27, []),
  (27, .getfield 55, 30, []),
  (30, .iload_n 1, 31, []),
  (31, .bipush (-9), 33, []),
  (33, .iastore, 34, []),
  (34, .aload_n 0, 35, []),
  (35, .invokevirtual 101, 38, []),
  (38, .iload_n 2, 39, []),
  (39, .ireturn, 40, [])]
set_option maxRecDepth 100000 in
theorem moM_untie : MO mM_untie 5 false (some .int) pM_untie := ⟨rM_untie, rfl, rfl, by decide, rfl, (fun h => by cases h), (by decide +kernel)⟩
theorem aM_untie {d : Nat} {Φ : Option Vl → Ly → Mm → Prop} (sp : List Nat) (n : Nat) {pc : Nat} {L : Lc} {st : List Vl} {S : Ly} {M : Mm} (h : MOk M → wp d 0 0 0 0 mM_untie 5 false true (some .int) Φ pM_untie sp n pc L st S M) : AJ d 0 0 mM_untie Φ 0 0 pc L st S M := aj_wp moM_untie sp n h
theorem eM_untie {d : Nat} {Φ : Option Vl → Ly → Mm → Prop} (sp : List Nat) (n : Nat) {as : List Vl} (hn : as.length ≤ 3) {S : Ly} {M : Mm} (h : MOk M → wp d 0 0 0 0 mM_untie 5 false true (some .int) Φ pM_untie sp n 0 (as.map some) [] S M) : Ret d 0 0 mM_untie as S M Φ := ret_wp moM_untie (by rw [mtb0_len]; decide) (fun r h => by cases (show some rM_untie = some r from h); rfl) sp n hn h
def pM_tied : List En := [(0, .iload_n 1, 1, []),
  (1, .invokestatic 87, 4, []),
  (4, .ifCond .ne 5, 7, [(0, 9)]),
  (7, .iconst (-1), 8, []),
  (8, .ireturn, 9, []),
  (9, .aload_n 0, 10, []),
  (10, .iload_n 1, 11, []),
  (11, .invokevirtual 219, 14, []),
  (14, .istore_n 2, 15, []),
  (15, .aload_n 0, 16, []),
  (16, .iconst 0, 17, []),
  (17, .putfield 150, 20, []),
  (20, .aload_n 0, 21, []),
  (21, .invokevirtual 204, 24, []),
  (24, .istore_n 3, 25, []),
  (25, .iload_n 2, 26, []),
  (26, .bipush (-9), 28, []),
  (28, .if_icmp .eq 9, 31, [(0, 37)]),
  (31, .iload_n 3, 32, []),
  (32, .bipush (-9), 34, []),
  (34, .if_icmp .ne 8, 37, [(0, 42)]),
  (37, .bipush (-9), 39, []),
  (39, .goto 6, 42, [(0, 45)]),
  (42, .iload_n 2, 43, []),
  (43, .iload_n 3, 44, []),
  (44, .isub, 45, []),
  (45, .ireturn, 46, [])]
set_option maxRecDepth 100000 in
theorem moM_tied : MO mM_tied 5 false (some .int) pM_tied := ⟨rM_tied, rfl, rfl, by decide, rfl, (fun h => by cases h), (by decide +kernel)⟩
theorem aM_tied {d : Nat} {Φ : Option Vl → Ly → Mm → Prop} (sp : List Nat) (n : Nat) {pc : Nat} {L : Lc} {st : List Vl} {S : Ly} {M : Mm} (h : MOk M → wp d 0 0 0 0 mM_tied 5 false true (some .int) Φ pM_tied sp n pc L st S M) : AJ d 0 0 mM_tied Φ 0 0 pc L st S M := aj_wp moM_tied sp n h
theorem eM_tied {d : Nat} {Φ : Option Vl → Ly → Mm → Prop} (sp : List Nat) (n : Nat) {as : List Vl} (hn : as.length ≤ 4) {S : Ly} {M : Mm} (h : MOk M → wp d 0 0 0 0 mM_tied 5 false true (some .int) Φ pM_tied sp n 0 (as.map some) [] S M) : Ret d 0 0 mM_tied as S M Φ := ret_wp moM_tied (by rw [mtb0_len]; decide) (fun r h => by cases (show some rM_tied = some r from h); rfl) sp n hn h
def pM_stuck : List En := [(0, .iload_n 1, 1, []),
  (1, .invokestatic 87, 4, []),
  (4, .ifCond .ne 5, 7, [(0, 9)]),
  (7, .iconst (-1), 8, []),
  (8, .ireturn, 9, []),
  (9, .aload_n 0, 10, []),
  (10, .iload_n 1, 11, []),
  (11, .invokevirtual 219, 14, []),
  (14, .bipush (-9), 16, []),
  (16, .if_icmp .eq 6, 19, [(0, 22)]),
  (19, .bipush (-9), 21, []),
  (21, .ireturn, 22, []),
  (22, .iconst 0, 23, []),
  (23, .istore_n 2, 24, []),
  (24, .iload_n 2, 25, []),
  (25, .aload_n 0, 26, []),
  (26, .getfield 138, 29, []),
  (29, .if_icmp .ge 21, 32, [(0, 50)]),
  (32, .aload_n 0, 33, []),
  (33, .iload_n 2, 34, []),
  (34, .invokevirtual 232, 37, []),
  (37, .ldc 125, 39, []),
  (39, .if_icmp .lt 5, 42, [(0, 44)]),
  (42, .iload_n 2, 43, []),
  (43, .ireturn, 44, []),
  (44, .iinc 2 1, 47, []),
  (47, .goto (-23), 50, [(0, 24)]),
  (50, .bipush 99, 52, []),
  (52, .ireturn, 53, [])]
set_option maxRecDepth 100000 in
theorem moM_stuck : MO mM_stuck 5 false (some .int) pM_stuck := ⟨rM_stuck, rfl, rfl, by decide, rfl, (fun h => by cases h), (by decide +kernel)⟩
theorem aM_stuck {d : Nat} {Φ : Option Vl → Ly → Mm → Prop} (sp : List Nat) (n : Nat) {pc : Nat} {L : Lc} {st : List Vl} {S : Ly} {M : Mm} (h : MOk M → wp d 0 0 0 0 mM_stuck 5 false true (some .int) Φ pM_stuck sp n pc L st S M) : AJ d 0 0 mM_stuck Φ 0 0 pc L st S M := aj_wp moM_stuck sp n h
theorem eM_stuck {d : Nat} {Φ : Option Vl → Ly → Mm → Prop} (sp : List Nat) (n : Nat) {as : List Vl} (hn : as.length ≤ 3) {S : Ly} {M : Mm} (h : MOk M → wp d 0 0 0 0 mM_stuck 5 false true (some .int) Φ pM_stuck sp n 0 (as.map some) [] S M) : Ret d 0 0 mM_stuck as S M Φ := ret_wp moM_stuck (by rw [mtb0_len]; decide) (fun r h => by cases (show some rM_stuck = some r from h); rfl) sp n hn h
def pM_plainTo : List En := [(0, .aload_n 0, 1, []),
  (1, .invokevirtual 159, 4, []),
  (4, .iconst 0, 5, []),
  (5, .istore_n 2, 6, []),
  (6, .iload_n 2, 7, []),
  (7, .iload_n 1, 8, []),
  (8, .if_icmp .ge 15, 11, [(0, 23)]),
  (11, .aload_n 0, 12, []),
  (12, .iload_n 2, 13, []),
  (13, .iconst 1, 14, []),
  (14, .invokevirtual 162, 17, []),
  (17, .iinc 2 1, 20, []),
  (20, .goto (-14), 23, [(0, 6)]),
  (23, .aload_n 0, 24, []),
  (24, .invokevirtual 166, 27, []),
  (27, .ireturn, 28, [])]
set_option maxRecDepth 100000 in
theorem moM_plainTo : MO mM_plainTo 5 false (some .int) pM_plainTo := ⟨rM_plainTo, rfl, rfl, by decide, rfl, (fun h => by cases h), (by decide +kernel)⟩
theorem aM_plainTo {d : Nat} {Φ : Option Vl → Ly → Mm → Prop} (sp : List Nat) (n : Nat) {pc : Nat} {L : Lc} {st : List Vl} {S : Ly} {M : Mm} (h : MOk M → wp d 0 0 0 0 mM_plainTo 5 false true (some .int) Φ pM_plainTo sp n pc L st S M) : AJ d 0 0 mM_plainTo Φ 0 0 pc L st S M := aj_wp moM_plainTo sp n h
theorem eM_plainTo {d : Nat} {Φ : Option Vl → Ly → Mm → Prop} (sp : List Nat) (n : Nat) {as : List Vl} (hn : as.length ≤ 3) {S : Ly} {M : Mm} (h : MOk M → wp d 0 0 0 0 mM_plainTo 5 false true (some .int) Φ pM_plainTo sp n 0 (as.map some) [] S M) : Ret d 0 0 mM_plainTo as S M Φ := ret_wp moM_plainTo (by rw [mtb0_len]; decide) (fun r h => by cases (show some rM_plainTo = some r from h); rfl) sp n hn h
def pM_begin : List En := [(0, .iconst 1, 1, []),
  (1, .istore_n 1, 2, []),
  (2, .iload_n 1, 3, []),
  (3, .iconst 5, 4, []),
  (4, .if_icmp .gt 40, 7, [(0, 44)]),
  (7, .aload_n 0, 8, []),
  (8, .getfield 34, 11, []),
  (11, .iload_n 1, 12, []),
  (12, .aload_n 0, 13, []),
  (13, .iconst 0, 14, []),
  (14, .iload_n 1, 15, []),
  (15, .invokevirtual 156, 18, []),
  (18, .ifCond .eq 17, 21, [(0, 35)]),
  (21, .aload_n 0, 22, []),
  (22, .aload_n 0, 23, []),
  (23, .getfield 28, 26, []),
  (26, .iconst 0, 27, []),
  (27, .iaload, 28, []),
  (28, .iload_n 1, 29, []),
  (29, .invokevirtual 122, 32, []),
  (32, .goto 5, 35, [(0, 37)]),
  (35, .ldc 125, 37, []),
  (37, .iastore, 38, []),
  (38, .iinc 1 1, 41, []),
  (41, .goto (-39), 44, [(0, 2)]),
  (44, .return_, 45, [])]
set_option maxRecDepth 100000 in
theorem moM_begin : MO mM_begin 5 false none pM_begin := ⟨rM_begin, rfl, rfl, by decide, rfl, (fun h => by cases h), (by decide +kernel)⟩
theorem aM_begin {d : Nat} {Φ : Option Vl → Ly → Mm → Prop} (sp : List Nat) (n : Nat) {pc : Nat} {L : Lc} {st : List Vl} {S : Ly} {M : Mm} (h : MOk M → wp d 0 0 0 0 mM_begin 5 false true none Φ pM_begin sp n pc L st S M) : AJ d 0 0 mM_begin Φ 0 0 pc L st S M := aj_wp moM_begin sp n h
theorem eM_begin {d : Nat} {Φ : Option Vl → Ly → Mm → Prop} (sp : List Nat) (n : Nat) {as : List Vl} (hn : as.length ≤ 2) {S : Ly} {M : Mm} (h : MOk M → wp d 0 0 0 0 mM_begin 5 false true none Φ pM_begin sp n 0 (as.map some) [] S M) : Ret d 0 0 mM_begin as S M Φ := ret_wp moM_begin (by rw [mtb0_len]; decide) (fun r h => by cases (show some rM_begin = some r from h); rfl) sp n hn h
def pM_goesOn : List En := [(0, .iconst 1, 1, []),
  (1, .istore_n 3, 2, []),
  (2, .iload_n 3, 3, []),
  (3, .iconst 5, 4, []),
  (4, .if_icmp .gt 108, 7, [(0, 112)]),
  (7, .ldc 125, 9, []),
  (9, .istore 4, 11, []),
  (11, .iconst 1, 12, []),
  (12, .istore 5, 14, []),
  (14, .iload 5, 16, []),
  (16, .iconst 5, 17, []),
  (17, .if_icmp .gt 43, 20, [(0, 60)]),
  (20, .aload_n 0, 21, []),
  (21, .getfield 34, 24, []),
  (24, .iload 5, 26, []),
  (26, .iaload, 27, []),
  (27, .aload_n 0, 28, []),
  (28, .iload_n 1, 29, []),
  (29, .iload 5, 31, []),
  (31, .iload_n 3, 32, []),
  (32, .invokevirtual 153, 35, []),
  (35, .iadd, 36, []),
  (36, .istore 6, 38, []),
  (38, .iload 6, 40, []),
  (40, .iload 4, 42, []),
  (42, .if_icmp .ge 8, 45, [(0, 50)]),
  (45, .iload 6, 47, []),
  (47, .goto 5, 50, [(0, 52)]),
  (50, .iload 4, 52, []),
  (52, .istore 4, 54, []),
  (54, .iinc 5 1, 57, []),
  (57, .goto (-43), 60, [(0, 14)]),
  (60, .aload_n 0, 61, []),
  (61, .getfield 37, 64, []),
  (64, .iload_n 3, 65, []),
  (65, .aload_n 0, 66, []),
  (66, .iload_n 1, 67, []),
  (67, .iconst 1, 68, []),
  (68, .iadd, 69, []),
  (69, .iload_n 3, 70, []),
  (70, .invokevirtual 156, 73, []),
  (73, .ifCond .eq 30, 76, [(0, 103)]),
  (76, .iload 4, 78, []),
  (78, .iload_n 2, 79, []),
  (79, .ifCond .eq 19, 82, [(0, 98)]),
  (82, .aload_n 0, 83, []),
  (83, .aload_n 0, 84, []),
  (84, .getfield 28, 87, []),
  (87, .iload_n 1, 88, []),
  (88, .iconst 1, 89, []),
  (89, .iadd, 90, []),
  (90, .iaload, 91, []),
  (91, .iload_n 3, 92, []),
  (92, .invokevirtual 122, 95, []),
  (95, .goto 4, 98, [(0, 99)]),
  (98, .iconst 0, 99, []),
  (99, .iadd, 100, []),
  (100, .goto 5, 103, [(0, 105)]),
  (103, .ldc 125, 105, []),
  (105, .iastore, 106, []),
  (106, .iinc 3 1, 109, []),
  (109, .goto (-107), 112, [(0, 2)]),
  (112, .iconst 1, 113, []),
  (113, .istore_n 3, 114, []),
  (114, .iload_n 3, 115, []),
  (115, .iconst 5, 116, []),
  (116, .if_icmp .gt 37, 119, [(0, 153)]),
  (119, .aload_n 0, 120, []),
  (120, .getfield 34, 123, []),
  (123, .iload_n 3, 124, []),
  (124, .aload_n 0, 125, []),
  (125, .getfield 37, 128, []),
  (128, .iload_n 3, 129, []),
  (129, .iaload, 130, []),
  (130, .ldc 125, 132, []),
  (132, .if_icmp .le 8, 135, [(0, 140)]),
  (135, .ldc 125, 137, []),
  (137, .goto 9, 140, [(0, 146)]),
  (140, .aload_n 0, 141, []),
  (141, .getfield 37, 144, []),
  (144, .iload_n 3, 145, []),
  (145, .iaload, 146, []),
  (146, .iastore, 147, []),
  (147, .iinc 3 1, 150, []),
  (150, .goto (-36), 153, [(0, 114)]),
  (153, .return_, 154, [])]
set_option maxRecDepth 100000 in
theorem moM_goesOn : MO mM_goesOn 5 false none pM_goesOn := ⟨rM_goesOn, rfl, rfl, by decide, rfl, (fun h => by cases h), (by decide +kernel)⟩
theorem aM_goesOn {d : Nat} {Φ : Option Vl → Ly → Mm → Prop} (sp : List Nat) (n : Nat) {pc : Nat} {L : Lc} {st : List Vl} {S : Ly} {M : Mm} (h : MOk M → wp d 0 0 0 0 mM_goesOn 5 false true none Φ pM_goesOn sp n pc L st S M) : AJ d 0 0 mM_goesOn Φ 0 0 pc L st S M := aj_wp moM_goesOn sp n h
theorem eM_goesOn {d : Nat} {Φ : Option Vl → Ly → Mm → Prop} (sp : List Nat) (n : Nat) {as : List Vl} (hn : as.length ≤ 7) {S : Ly} {M : Mm} (h : MOk M → wp d 0 0 0 0 mM_goesOn 5 false true none Φ pM_goesOn sp n 0 (as.map some) [] S M) : Ret d 0 0 mM_goesOn as S M Φ := ret_wp moM_goesOn (by rw [mtb0_len]; decide) (fun r h => by cases (show some rM_goesOn = some r from h); rfl) sp n hn h
def pM_leastUp : List En := [(0, .ldc 125, 2, []),
  (2, .istore_n 1, 3, []),
  (3, .iconst 1, 4, []),
  (4, .istore_n 2, 5, []),
  (5, .iload_n 2, 6, []),
  (6, .iconst 5, 7, []),
  (7, .if_icmp .gt 30, 10, [(0, 37)]),
  (10, .aload_n 0, 11, []),
  (11, .getfield 34, 14, []),
  (14, .iload_n 2, 15, []),
  (15, .iaload, 16, []),
  (16, .iload_n 1, 17, []),
  (17, .if_icmp .ge 12, 20, [(0, 29)]),
  (20, .aload_n 0, 21, []),
  (21, .getfield 34, 24, []),
  (24, .iload_n 2, 25, []),
  (25, .iaload, 26, []),
  (26, .goto 4, 29, [(0, 30)]),
  (29, .iload_n 1, 30, []),
  (30, .istore_n 1, 31, []),
  (31, .iinc 2 1, 34, []),
  (34, .goto (-29), 37, [(0, 5)]),
  (37, .iload_n 1, 38, []),
  (38, .ireturn, 39, [])]
set_option maxRecDepth 100000 in
theorem moM_leastUp : MO mM_leastUp 5 false (some .int) pM_leastUp := ⟨rM_leastUp, rfl, rfl, by decide, rfl, (fun h => by cases h), (by decide +kernel)⟩
theorem aM_leastUp {d : Nat} {Φ : Option Vl → Ly → Mm → Prop} (sp : List Nat) (n : Nat) {pc : Nat} {L : Lc} {st : List Vl} {S : Ly} {M : Mm} (h : MOk M → wp d 0 0 0 0 mM_leastUp 5 false true (some .int) Φ pM_leastUp sp n pc L st S M) : AJ d 0 0 mM_leastUp Φ 0 0 pc L st S M := aj_wp moM_leastUp sp n h
theorem eM_leastUp {d : Nat} {Φ : Option Vl → Ly → Mm → Prop} (sp : List Nat) (n : Nat) {as : List Vl} (hn : as.length ≤ 3) {S : Ly} {M : Mm} (h : MOk M → wp d 0 0 0 0 mM_leastUp 5 false true (some .int) Φ pM_leastUp sp n 0 (as.map some) [] S M) : Ret d 0 0 mM_leastUp as S M Φ := ret_wp moM_leastUp (by rw [mtb0_len]; decide) (fun r h => by cases (show some rM_leastUp = some r from h); rfl) sp n hn h
def pM_phrase : List En := [(0, .iload_n 2, 1, []),
  (1, .invokestatic 87, 4, []),
  (4, .ifCond .ne 5, 7, [(0, 9)]),
  (7, .iconst (-1), 8, []),
  (8, .ireturn, 9, []),
  (9, .iload_n 1, 10, []),
  (10, .iconst 0, 11, []),
  (11, .bipush 25, 13, []),
  (13, .invokestatic 76, 16, []),
  (16, .ifCond .eq 24, 19, [(0, 40)]),
  (19, .iload_n 3, 20, []),
  (20, .iconst 0, 21, []),
  (21, .bipush 28, 23, []),
  (23, .invokestatic 76, 26, []),
  (26, .ifCond .eq 14, 29, [(0, 40)]),
  (29, .iload 4, 31, []),
  (31, .iconst 2, 32, []),
  (32, .bipush 12, 34, []),
  (34, .invokestatic 76, 37, []),
  (37, .ifCond .ne 6, 40, [(0, 43)]),
  (40, .bipush (-2), 42, []),
  (42, .ireturn, 43, []),
  (43, .aload_n 0, 44, []),
  (44, .iload_n 1, 45, []),
  (45, .invokevirtual 238, 48, []),
  (48, .bipush (-9), 50, []),
  (50, .if_icmp .eq 12, 53, [(0, 62)]),
  (53, .aload_n 0, 54, []),
  (54, .aload_n 0, 55, []),
  (55, .iload_n 1, 56, []),
  (56, .invokevirtual 238, 59, []),
  (59, .invokevirtual 241, 62, []),
  (62, .aload_n 0, 63, []),
  (63, .getfield 235, 66, []),
  (66, .bipush 6, 68, []),
  (68, .if_icmp .ne 8, 71, [(0, 76)]),
  (71, .aload_n 0, 72, []),
  (72, .iconst 0, 73, []),
  (73, .invokevirtual 241, 76, []),
  (76, .aload_n 0, 77, []),
  (77, .getfield 64, 80, []),
  (80, .aload_n 0, 81, []),
  (81, .getfield 235, 84, []),
  (84, .iload_n 1, 85, []),
  (85, .iastore, 86, []),
  (86, .aload_n 0, 87, []),
  (87, .getfield 67, 90, []),
  (90, .aload_n 0, 91, []),
  (91, .getfield 235, 94, []),
  (94, .iload_n 2, 95, []),
  (95, .iastore, 96, []),
  (96, .aload_n 0, 97, []),
  (97, .getfield 70, 100, []),
  (100, .aload_n 0, 101, []),
  (101, .getfield 235, 104, []),
  (104, .iload_n 3, 105, []),
  (105, .iastore, 106, []),
  (106, .aload_n 0, 107, []),
  (107, .getfield 73, 110, []),
  (110, .aload_n 0, 111, []),
  (111, .getfield 235, 114, []),
  (114, .iload 4, 116, []),
  (116, .iastore, 117, []),
  (117, .aload_n 0, 118, []),
  (118, .dup, 119, []),
  (119, .getfield 235, 122, []),
  (122, .iconst 1, 123, []),
  (123, .iadd, 124, []),
  (124, .putfield 235, 127, []),
  (127, .aload_n 0, 128, []),
  (128, .getfield 235, 131, []),
  (131, .ireturn, 132, [])]
set_option maxRecDepth 100000 in
theorem moM_phrase : MO mM_phrase 5 false (some .int) pM_phrase := ⟨rM_phrase, rfl, rfl, by decide, rfl, (fun h => by cases h), (by decide +kernel)⟩
theorem aM_phrase {d : Nat} {Φ : Option Vl → Ly → Mm → Prop} (sp : List Nat) (n : Nat) {pc : Nat} {L : Lc} {st : List Vl} {S : Ly} {M : Mm} (h : MOk M → wp d 0 0 0 0 mM_phrase 5 false true (some .int) Φ pM_phrase sp n pc L st S M) : AJ d 0 0 mM_phrase Φ 0 0 pc L st S M := aj_wp moM_phrase sp n h
theorem eM_phrase {d : Nat} {Φ : Option Vl → Ly → Mm → Prop} (sp : List Nat) (n : Nat) {as : List Vl} (hn : as.length ≤ 5) {S : Ly} {M : Mm} (h : MOk M → wp d 0 0 0 0 mM_phrase 5 false true (some .int) Φ pM_phrase sp n 0 (as.map some) [] S M) : Ret d 0 0 mM_phrase as S M Φ := ret_wp moM_phrase (by rw [mtb0_len]; decide) (fun r h => by cases (show some rM_phrase = some r from h); rfl) sp n hn h
def pM_phraseOf : List En := [(0, .iconst 0, 1, []),
  (1, .istore_n 2, 2, []),
  (2, .iload_n 2, 3, []),
  (3, .aload_n 0, 4, []),
  (4, .getfield 235, 7, []),
  (7, .if_icmp .ge 21, 10, [(0, 28)]),
  (10, .aload_n 0, 11, []),
  (11, .getfield 64, 14, []),
  (14, .iload_n 2, 15, []),
  (15, .iaload, 16, []),
  (16, .iload_n 1, 17, []),
  (17, .if_icmp .ne 5, 20, [(0, 22)]),
  (20, .iload_n 2, 21, []),
  (21, .ireturn, 22, []),
  (22, .iinc 2 1, 25, []),
  (25, .goto (-23), 28, [(0, 2)]),
  (28, .bipush (-9), 30, []),
  (30, .ireturn, 31, [])]
set_option maxRecDepth 100000 in
theorem moM_phraseOf : MO mM_phraseOf 5 false (some .int) pM_phraseOf := ⟨rM_phraseOf, rfl, rfl, by decide, rfl, (fun h => by cases h), (by decide +kernel)⟩
theorem aM_phraseOf {d : Nat} {Φ : Option Vl → Ly → Mm → Prop} (sp : List Nat) (n : Nat) {pc : Nat} {L : Lc} {st : List Vl} {S : Ly} {M : Mm} (h : MOk M → wp d 0 0 0 0 mM_phraseOf 5 false true (some .int) Φ pM_phraseOf sp n pc L st S M) : AJ d 0 0 mM_phraseOf Φ 0 0 pc L st S M := aj_wp moM_phraseOf sp n h
theorem eM_phraseOf {d : Nat} {Φ : Option Vl → Ly → Mm → Prop} (sp : List Nat) (n : Nat) {as : List Vl} (hn : as.length ≤ 3) {S : Ly} {M : Mm} (h : MOk M → wp d 0 0 0 0 mM_phraseOf 5 false true (some .int) Φ pM_phraseOf sp n 0 (as.map some) [] S M) : Ret d 0 0 mM_phraseOf as S M Φ := ret_wp moM_phraseOf (by rw [mtb0_len]; decide) (fun r h => by cases (show some rM_phraseOf = some r from h); rfl) sp n hn h
def pM_goes : List En := [(0, .iload_n 1, 1, []),
  (1, .istore_n 2, 2, []),
  (2, .iload_n 2, 3, []),
  (3, .aload_n 0, 4, []),
  (4, .getfield 235, 7, []),
  (7, .iconst 1, 8, []),
  (8, .isub, 9, []),
  (9, .if_icmp .ge 65, 12, [(0, 74)]),
  (12, .aload_n 0, 13, []),
  (13, .getfield 64, 16, []),
  (16, .iload_n 2, 17, []),
  (17, .aload_n 0, 18, []),
  (18, .getfield 64, 21, []),
  (21, .iload_n 2, 22, []),
  (22, .iconst 1, 23, []),
  (23, .iadd, 24, []),
  (24, .iaload, 25, []),
  (25, .iastore, 26, []),
  (26, .aload_n 0, 27, []),
  (27, .getfield 67, 30, []),
  (30, .iload_n 2, 31, []),
  (31, .aload_n 0, 32, []),
  (32, .getfield 67, 35, []),
  (35, .iload_n 2, 36, []),
  (36, .iconst 1, 37, []),
  (37, .iadd, 38, []),
  (38, .iaload, 39, []),
  (39, .iastore, 40, []),
  (40, .aload_n 0, 41, []),
  (41, .getfield 70, 44, []),
  (44, .iload_n 2, 45, []),
  (45, .aload_n 0, 46, []),
  (46, .getfield 70, 49, []),
  (49, .iload_n 2, 50, []),
  (50, .iconst 1, 51, []),
  (51, .iadd, 52, []),
  (52, .iaload, 53, []),
  (53, .iastore, 54, []),
  (54, .aload_n 0, 55, []),
  (55, .getfield 73, 58, []),
  (58, .iload_n 2, 59, []),
  (59, .aload_n 0, 60, []),
  (60, .getfield 73, 63, []),
  (63, .iload_n 2, 64, []),
  (64, .iconst 1, 65, []),
  (65, .iadd, 66, []),
  (66, .iaload, 67, []),
  (67, .iastore, 68, []),
  (68, .iinc 2 1, 71, []),
  (71, .goto (-69), 74, [(0, 2)]),
  (74, .aload_n 0, 75, []),
  (75, .dup, 76, []),
  (76, .getfield 235, 79, []),
  (79, .iconst 1, 80, []),
  (80, .isub, 81, []),
  (81, .putfield 235, 84, []),
  (84, .return_, 85, [])]
set_option maxRecDepth 100000 in
theorem moM_goes : MO mM_goes 5 false none pM_goes := ⟨rM_goes, rfl, rfl, by decide, rfl, (fun h => by cases h), (by decide +kernel)⟩
theorem aM_goes {d : Nat} {Φ : Option Vl → Ly → Mm → Prop} (sp : List Nat) (n : Nat) {pc : Nat} {L : Lc} {st : List Vl} {S : Ly} {M : Mm} (h : MOk M → wp d 0 0 0 0 mM_goes 5 false true none Φ pM_goes sp n pc L st S M) : AJ d 0 0 mM_goes Φ 0 0 pc L st S M := aj_wp moM_goes sp n h
theorem eM_goes {d : Nat} {Φ : Option Vl → Ly → Mm → Prop} (sp : List Nat) (n : Nat) {as : List Vl} (hn : as.length ≤ 3) {S : Ly} {M : Mm} (h : MOk M → wp d 0 0 0 0 mM_goes 5 false true none Φ pM_goes sp n 0 (as.map some) [] S M) : Ret d 0 0 mM_goes as S M Φ := ret_wp moM_goes (by rw [mtb0_len]; decide) (fun r h => by cases (show some rM_goes = some r from h); rfl) sp n hn h
def pM_forget : List En := [(0, .aload_n 0, 1, []),
  (1, .iload_n 1, 2, []),
  (2, .invokevirtual 238, 5, []),
  (5, .istore_n 2, 6, []),
  (6, .iload_n 2, 7, []),
  (7, .bipush (-9), 9, []),
  (9, .if_icmp .ne 5, 12, [(0, 14)]),
  (12, .iconst (-1), 13, []),
  (13, .ireturn, 14, []),
  (14, .aload_n 0, 15, []),
  (15, .iload_n 2, 16, []),
  (16, .invokevirtual 241, 19, []),
  (19, .aload_n 0, 20, []),
  (20, .getfield 235, 23, []),
  (23, .ireturn, 24, [])]
set_option maxRecDepth 100000 in
theorem moM_forget : MO mM_forget 5 false (some .int) pM_forget := ⟨rM_forget, rfl, rfl, by decide, rfl, (fun h => by cases h), (by decide +kernel)⟩
theorem aM_forget {d : Nat} {Φ : Option Vl → Ly → Mm → Prop} (sp : List Nat) (n : Nat) {pc : Nat} {L : Lc} {st : List Vl} {S : Ly} {M : Mm} (h : MOk M → wp d 0 0 0 0 mM_forget 5 false true (some .int) Φ pM_forget sp n pc L st S M) : AJ d 0 0 mM_forget Φ 0 0 pc L st S M := aj_wp moM_forget sp n h
theorem eM_forget {d : Nat} {Φ : Option Vl → Ly → Mm → Prop} (sp : List Nat) (n : Nat) {as : List Vl} (hn : as.length ≤ 3) {S : Ly} {M : Mm} (h : MOk M → wp d 0 0 0 0 mM_forget 5 false true (some .int) Φ pM_forget sp n 0 (as.map some) [] S M) : Ret d 0 0 mM_forget as S M Φ := ret_wp moM_forget (by rw [mtb0_len]; decide) (fun r h => by cases (show some rM_forget = some r from h); rfl) sp n hn h
def pM_prune : List En := [(0, .iload_n 1, 1, []),
  (1, .invokestatic 87, 4, []),
  (4, .ifCond .ne 5, 7, [(0, 9)]),
  (7, .iconst (-1), 8, []),
  (8, .ireturn, 9, []),
  (9, .aload_n 0, 10, []),
  (10, .getfield 235, 13, []),
  (13, .istore_n 2, 14, []),
  (14, .aload_n 0, 15, []),
  (15, .iload_n 1, 16, []),
  (16, .invokevirtual 107, 19, []),
  (19, .istore_n 3, 20, []),
  (20, .iload_n 2, 21, []),
  (21, .iconst 1, 22, []),
  (22, .isub, 23, []),
  (23, .istore 4, 25, []),
  (25, .iload 4, 27, []),
  (27, .ifCond .lt 45, 30, [(0, 72)]),
  (30, .aload_n 0, 31, []),
  (31, .getfield 67, 34, []),
  (34, .iload 4, 36, []),
  (36, .iaload, 37, []),
  (37, .iload_n 1, 38, []),
  (38, .if_icmp .ne 28, 41, [(0, 66)]),
  (41, .aload_n 0, 42, []),
  (42, .getfield 70, 45, []),
  (45, .iload 4, 47, []),
  (47, .iaload, 48, []),
  (48, .aload_n 0, 49, []),
  (49, .getfield 73, 52, []),
  (52, .iload 4, 54, []),
  (54, .iaload, 55, []),
  (55, .iadd, 56, []),
  (56, .iload_n 3, 57, []),
  (57, .if_icmp .le 9, 60, [(0, 66)]),
  (60, .aload_n 0, 61, []),
  (61, .iload 4, 63, []),
  (63, .invokevirtual 241, 66, []),
  (66, .iinc 4 (-1), 69, []),
  (69, .goto (-44), 72, [(0, 25)]),
  (72, .iload_n 2, 73, []),
  (73, .aload_n 0, 74, []),
  (74, .getfield 235, 77, []),
  (77, .isub, 78, []),
  (78, .ireturn, 79, [])]
set_option maxRecDepth 100000 in
theorem moM_prune : MO mM_prune 5 false (some .int) pM_prune := ⟨rM_prune, rfl, rfl, by decide, rfl, (fun h => by cases h), (by decide +kernel)⟩
theorem aM_prune {d : Nat} {Φ : Option Vl → Ly → Mm → Prop} (sp : List Nat) (n : Nat) {pc : Nat} {L : Lc} {st : List Vl} {S : Ly} {M : Mm} (h : MOk M → wp d 0 0 0 0 mM_prune 5 false true (some .int) Φ pM_prune sp n pc L st S M) : AJ d 0 0 mM_prune Φ 0 0 pc L st S M := aj_wp moM_prune sp n h
theorem eM_prune {d : Nat} {Φ : Option Vl → Ly → Mm → Prop} (sp : List Nat) (n : Nat) {as : List Vl} (hn : as.length ≤ 5) {S : Ly} {M : Mm} (h : MOk M → wp d 0 0 0 0 mM_prune 5 false true (some .int) Φ pM_prune sp n 0 (as.map some) [] S M) : Ret d 0 0 mM_prune as S M Φ := ret_wp moM_prune (by rw [mtb0_len]; decide) (fun r h => by cases (show some rM_prune = some r from h); rfl) sp n hn h
def pM_name : List En := [(0, .iload_n 1, 1, []),
  (1, .iconst 0, 2, []),
  (2, .iconst 5, 3, []),
  (3, .invokestatic 76, 6, []),
  (6, .ifCond .ne 6, 9, [(0, 12)]),
  (9, .bipush (-2), 11, []),
  (11, .ireturn, 12, []),
  (12, .iload_n 1, 13, []),
  (13, .aload_n 0, 14, []),
  (14, .getfield 235, 17, []),
  (17, .if_icmp .ge 12, 20, [(0, 29)]),
  (20, .aload_n 0, 21, []),
  (21, .getfield 64, 24, []),
  (24, .iload_n 1, 25, []),
  (25, .iaload, 26, []),
  (26, .goto 5, 29, [(0, 31)]),
  (29, .bipush (-9), 31, []),
  (31, .ireturn, 32, [])]
set_option maxRecDepth 100000 in
theorem moM_name : MO mM_name 5 false (some .int) pM_name := ⟨rM_name, rfl, rfl, by decide, rfl, (fun h => by cases h), (by decide +kernel)⟩
theorem aM_name {d : Nat} {Φ : Option Vl → Ly → Mm → Prop} (sp : List Nat) (n : Nat) {pc : Nat} {L : Lc} {st : List Vl} {S : Ly} {M : Mm} (h : MOk M → wp d 0 0 0 0 mM_name 5 false true (some .int) Φ pM_name sp n pc L st S M) : AJ d 0 0 mM_name Φ 0 0 pc L st S M := aj_wp moM_name sp n h
theorem eM_name {d : Nat} {Φ : Option Vl → Ly → Mm → Prop} (sp : List Nat) (n : Nat) {as : List Vl} (hn : as.length ≤ 2) {S : Ly} {M : Mm} (h : MOk M → wp d 0 0 0 0 mM_name 5 false true (some .int) Φ pM_name sp n 0 (as.map some) [] S M) : Ret d 0 0 mM_name as S M Φ := ret_wp moM_name (by rw [mtb0_len]; decide) (fun r h => by cases (show some rM_name = some r from h); rfl) sp n hn h
def pM_echo : List En := [(0, .aload_n 0, 1, []),
  (1, .iload_n 1, 2, []),
  (2, .invokevirtual 238, 5, []),
  (5, .istore 4, 7, []),
  (7, .iload 4, 9, []),
  (9, .bipush (-9), 11, []),
  (11, .if_icmp .ne 5, 14, [(0, 16)]),
  (14, .iconst (-1), 15, []),
  (15, .ireturn, 16, []),
  (16, .iload_n 2, 17, []),
  (17, .iconst 0, 18, []),
  (18, .bipush 29, 20, []),
  (20, .invokestatic 76, 23, []),
  (23, .ifCond .eq 12, 26, [(0, 35)]),
  (26, .iload_n 3, 27, []),
  (27, .iconst 0, 28, []),
  (28, .iconst 1, 29, []),
  (29, .invokestatic 76, 32, []),
  (32, .ifCond .ne 6, 35, [(0, 38)]),
  (35, .bipush (-2), 37, []),
  (37, .ireturn, 38, []),
  (38, .aload_n 0, 39, []),
  (39, .iload 4, 41, []),
  (41, .iload_n 2, 42, []),
  (42, .invokevirtual 247, 45, []),
  (45, .istore 5, 47, []),
  (47, .iload 5, 49, []),
  (49, .bipush (-9), 51, []),
  (51, .if_icmp .eq 7, 54, [(0, 58)]),
  (54, .iload_n 3, 55, []),
  (55, .ifCond .ne 8, 58, [(0, 63)]),
  (58, .iload 5, 60, []),
  (60, .goto 11, 63, [(0, 71)]),
  (63, .aload_n 0, 64, []),
  (64, .iload 4, 66, []),
  (66, .iload 5, 68, []),
  (68, .invokevirtual 250, 71, []),
  (71, .ireturn, 72, [])]
set_option maxRecDepth 100000 in
theorem moM_echo : MO mM_echo 5 false (some .int) pM_echo := ⟨rM_echo, rfl, rfl, by decide, rfl, (fun h => by cases h), (by decide +kernel)⟩
theorem aM_echo {d : Nat} {Φ : Option Vl → Ly → Mm → Prop} (sp : List Nat) (n : Nat) {pc : Nat} {L : Lc} {st : List Vl} {S : Ly} {M : Mm} (h : MOk M → wp d 0 0 0 0 mM_echo 5 false true (some .int) Φ pM_echo sp n pc L st S M) : AJ d 0 0 mM_echo Φ 0 0 pc L st S M := aj_wp moM_echo sp n h
theorem eM_echo {d : Nat} {Φ : Option Vl → Ly → Mm → Prop} (sp : List Nat) (n : Nat) {as : List Vl} (hn : as.length ≤ 6) {S : Ly} {M : Mm} (h : MOk M → wp d 0 0 0 0 mM_echo 5 false true (some .int) Φ pM_echo sp n 0 (as.map some) [] S M) : Ret d 0 0 mM_echo as S M Φ := ret_wp moM_echo (by rw [mtb0_len]; decide) (fun r h => by cases (show some rM_echo = some r from h); rfl) sp n hn h
def pM_echoAt : List En := [(0, .aload_n 0, 1, []),
  (1, .aload_n 0, 2, []),
  (2, .getfield 67, 5, []),
  (5, .iload_n 1, 6, []),
  (6, .iaload, 7, []),
  (7, .invokevirtual 198, 10, []),
  (10, .iload_n 2, 11, []),
  (11, .istore_n 3, 12, []),
  (12, .aload_n 0, 13, []),
  (13, .getfield 70, 16, []),
  (16, .iload_n 1, 17, []),
  (17, .iaload, 18, []),
  (18, .aload_n 0, 19, []),
  (19, .getfield 73, 22, []),
  (22, .iload_n 1, 23, []),
  (23, .iaload, 24, []),
  (24, .iadd, 25, []),
  (25, .istore 4, 27, []),
  (27, .iload 4, 29, []),
  (29, .aload_n 0, 30, []),
  (30, .getfield 138, 33, []),
  (33, .if_icmp .ge 29, 36, [(0, 62)]),
  (36, .aload_n 0, 37, []),
  (37, .iload_n 1, 38, []),
  (38, .iload 4, 40, []),
  (40, .invokevirtual 244, 43, []),
  (43, .ifCond .eq 13, 46, [(0, 56)]),
  (46, .iload_n 3, 47, []),
  (47, .ifCond .ne 6, 50, [(0, 53)]),
  (50, .iload 4, 52, []),
  (52, .ireturn, 53, []),
  (53, .iinc 3 (-1), 56, []),
  (56, .iinc 4 1, 59, []),
  (59, .goto (-32), 62, [(0, 27)]),
  (62, .bipush (-9), 64, []),
  (64, .ireturn, 65, [])]
set_option maxRecDepth 100000 in
theorem moM_echoAt : MO mM_echoAt 5 false (some .int) pM_echoAt := ⟨rM_echoAt, rfl, rfl, by decide, rfl, (fun h => by cases h), (by decide +kernel)⟩
theorem aM_echoAt {d : Nat} {Φ : Option Vl → Ly → Mm → Prop} (sp : List Nat) (n : Nat) {pc : Nat} {L : Lc} {st : List Vl} {S : Ly} {M : Mm} (h : MOk M → wp d 0 0 0 0 mM_echoAt 5 false true (some .int) Φ pM_echoAt sp n pc L st S M) : AJ d 0 0 mM_echoAt Φ 0 0 pc L st S M := aj_wp moM_echoAt sp n h
theorem eM_echoAt {d : Nat} {Φ : Option Vl → Ly → Mm → Prop} (sp : List Nat) (n : Nat) {as : List Vl} (hn : as.length ≤ 5) {S : Ly} {M : Mm} (h : MOk M → wp d 0 0 0 0 mM_echoAt 5 false true (some .int) Φ pM_echoAt sp n 0 (as.map some) [] S M) : Ret d 0 0 mM_echoAt as S M Φ := ret_wp moM_echoAt (by rw [mtb0_len]; decide) (fun r h => by cases (show some rM_echoAt = some r from h); rfl) sp n hn h
def pM_isEcho : List En := [(0, .aload_n 0, 1, []),
  (1, .getfield 70, 4, []),
  (4, .iload_n 1, 5, []),
  (5, .iaload, 6, []),
  (6, .aload_n 0, 7, []),
  (7, .getfield 73, 10, []),
  (10, .iload_n 1, 11, []),
  (11, .iaload, 12, []),
  (12, .iadd, 13, []),
  (13, .aload_n 0, 14, []),
  (14, .getfield 138, 17, []),
  (17, .if_icmp .gt 18, 20, [(0, 35)]),
  (20, .iload_n 2, 21, []),
  (21, .aload_n 0, 22, []),
  (22, .getfield 73, 25, []),
  (25, .iload_n 1, 26, []),
  (26, .iaload, 27, []),
  (27, .iadd, 28, []),
  (28, .aload_n 0, 29, []),
  (29, .getfield 138, 32, []),
  (32, .if_icmp .le 5, 35, [(0, 37)]),
  (35, .iconst 0, 36, []),
  (36, .ireturn, 37, []),
  (37, .aload_n 0, 38, []),
  (38, .getfield 28, 41, []),
  (41, .iload_n 2, 42, []),
  (42, .iaload, 43, []),
  (43, .aload_n 0, 44, []),
  (44, .getfield 28, 47, []),
  (47, .aload_n 0, 48, []),
  (48, .getfield 70, 51, []),
  (51, .iload_n 1, 52, []),
  (52, .iaload, 53, []),
  (53, .iaload, 54, []),
  (54, .isub, 55, []),
  (55, .istore_n 3, 56, []),
  (56, .iconst 1, 57, []),
  (57, .istore 4, 59, []),
  (59, .iload 4, 61, []),
  (61, .aload_n 0, 62, []),
  (62, .getfield 73, 65, []),
  (65, .iload_n 1, 66, []),
  (66, .iaload, 67, []),
  (67, .if_icmp .ge 39, 70, [(0, 106)]),
  (70, .aload_n 0, 71, []),
  (71, .getfield 28, 74, []),
  (74, .iload_n 2, 75, []),
  (75, .iload 4, 77, []),
  (77, .iadd, 78, []),
  (78, .iaload, 79, []),
  (79, .aload_n 0, 80, []),
  (80, .getfield 28, 83, []),
  (83, .aload_n 0, 84, []),
  (84, .getfield 70, 87, []),
  (87, .iload_n 1, 88, []),
  (88, .iaload, 89, []),
  (89, .iload 4, 91, []),
  (91, .iadd, 92, []),
  (92, .iaload, 93, []),
  (93, .isub, 94, []),
  (94, .iload_n 3, 95, []),
  (95, .if_icmp .eq 5, 98, [(0, 100)]),
  (98, .iconst 0, 99, []),
  (99, .ireturn, 100, []),
  (100, .iinc 4 1, 103, []),
  (103, .goto (-44), 106, [(0, 59)]),
  (106, .iconst 1, 107, []),
  (107, .ireturn, 108, [])]
set_option maxRecDepth 100000 in
theorem moM_isEcho : MO mM_isEcho 5 false (some .boolean) pM_isEcho := ⟨rM_isEcho, rfl, rfl, by decide, rfl, (fun h => by cases h), (by decide +kernel)⟩
theorem aM_isEcho {d : Nat} {Φ : Option Vl → Ly → Mm → Prop} (sp : List Nat) (n : Nat) {pc : Nat} {L : Lc} {st : List Vl} {S : Ly} {M : Mm} (h : MOk M → wp d 0 0 0 0 mM_isEcho 5 false true (some .boolean) Φ pM_isEcho sp n pc L st S M) : AJ d 0 0 mM_isEcho Φ 0 0 pc L st S M := aj_wp moM_isEcho sp n h
theorem eM_isEcho {d : Nat} {Φ : Option Vl → Ly → Mm → Prop} (sp : List Nat) (n : Nat) {as : List Vl} (hn : as.length ≤ 5) {S : Ly} {M : Mm} (h : MOk M → wp d 0 0 0 0 mM_isEcho 5 false true (some .boolean) Φ pM_isEcho sp n 0 (as.map some) [] S M) : Ret d 0 0 mM_isEcho as S M Φ := ret_wp moM_isEcho (by rw [mtb0_len]; decide) (fun r h => by cases (show some rM_isEcho = some r from h); rfl) sp n hn h
end
section
def pM_likeness : List En := [(0, .iconst 0, 1, []),
  (1, .istore_n 3, 2, []),
  (2, .iconst 0, 3, []),
  (3, .istore 4, 5, []),
  (5, .iload 4, 7, []),
  (7, .aload_n 0, 8, []),
  (8, .getfield 73, 11, []),
  (11, .iload_n 1, 12, []),
  (12, .iaload, 13, []),
  (13, .if_icmp .ge 49, 16, [(0, 62)]),
  (16, .iload_n 3, 17, []),
  (17, .aload_n 0, 18, []),
  (18, .getfield 28, 21, []),
  (21, .iload_n 2, 22, []),
  (22, .iload 4, 24, []),
  (24, .iadd, 25, []),
  (25, .iaload, 26, []),
  (26, .invokestatic 119, 29, []),
  (29, .aload_n 0, 30, []),
  (30, .getfield 28, 33, []),
  (33, .aload_n 0, 34, []),
  (34, .getfield 70, 37, []),
  (37, .iload_n 1, 38, []),
  (38, .iaload, 39, []),
  (39, .iload 4, 41, []),
  (41, .iadd, 42, []),
  (42, .iaload, 43, []),
  (43, .invokestatic 119, 46, []),
  (46, .if_icmp .ne 7, 49, [(0, 53)]),
  (49, .iconst 1, 50, []),
  (50, .goto 4, 53, [(0, 54)]),
  (53, .iconst 0, 54, []),
  (54, .iadd, 55, []),
  (55, .istore_n 3, 56, []),
  (56, .iinc 4 1, 59, []),
  (59, .goto (-54), 62, [(0, 5)]),
  (62, .iload_n 3, 63, []),
  (63, .ireturn, 64, [])]
set_option maxRecDepth 100000 in
theorem moM_likeness : MO mM_likeness 5 false (some .int) pM_likeness := ⟨rM_likeness, rfl, rfl, by decide, rfl, (fun h => by cases h), (by decide +kernel)⟩
theorem aM_likeness {d : Nat} {Φ : Option Vl → Ly → Mm → Prop} (sp : List Nat) (n : Nat) {pc : Nat} {L : Lc} {st : List Vl} {S : Ly} {M : Mm} (h : MOk M → wp d 0 0 0 0 mM_likeness 5 false true (some .int) Φ pM_likeness sp n pc L st S M) : AJ d 0 0 mM_likeness Φ 0 0 pc L st S M := aj_wp moM_likeness sp n h
theorem eM_likeness {d : Nat} {Φ : Option Vl → Ly → Mm → Prop} (sp : List Nat) (n : Nat) {as : List Vl} (hn : as.length ≤ 5) {S : Ly} {M : Mm} (h : MOk M → wp d 0 0 0 0 mM_likeness 5 false true (some .int) Φ pM_likeness sp n 0 (as.map some) [] S M) : Ret d 0 0 mM_likeness as S M Φ := ret_wp moM_likeness (by rw [mtb0_len]; decide) (fun r h => by cases (show some rM_likeness = some r from h); rfl) sp n hn h
def pM_tieEcho : List En := [(0, .aload_n 0, 1, []),
  (1, .iload_n 1, 2, []),
  (2, .invokevirtual 238, 5, []),
  (5, .istore_n 3, 6, []),
  (6, .iload_n 3, 7, []),
  (7, .bipush (-9), 9, []),
  (9, .if_icmp .ne 5, 12, [(0, 14)]),
  (12, .iconst (-1), 13, []),
  (13, .ireturn, 14, []),
  (14, .iload_n 2, 15, []),
  (15, .iconst 0, 16, []),
  (16, .bipush 29, 18, []),
  (18, .invokestatic 76, 21, []),
  (21, .ifCond .ne 6, 24, [(0, 27)]),
  (24, .bipush (-2), 26, []),
  (26, .ireturn, 27, []),
  (27, .aload_n 0, 28, []),
  (28, .iload_n 3, 29, []),
  (29, .iload_n 2, 30, []),
  (30, .invokevirtual 247, 33, []),
  (33, .istore 4, 35, []),
  (35, .iload 4, 37, []),
  (37, .bipush (-9), 39, []),
  (39, .if_icmp .ne 6, 42, [(0, 45)]),
  (42, .bipush (-3), 44, []),
  (44, .ireturn, 45, []),
  (45, .aload_n 0, 46, []),
  (46, .aload_n 0, 47, []),
  (47, .getfield 67, 50, []),
  (50, .iload_n 3, 51, []),
  (51, .iaload, 52, []),
  (52, .aload_n 0, 53, []),
  (53, .getfield 70, 56, []),
  (56, .iload_n 3, 57, []),
  (57, .iaload, 58, []),
  (58, .iload 4, 60, []),
  (60, .aload_n 0, 61, []),
  (61, .getfield 73, 64, []),
  (64, .iload_n 3, 65, []),
  (65, .iaload, 66, []),
  (66, .invokevirtual 228, 69, []),
  (69, .ireturn, 70, [])]
set_option maxRecDepth 100000 in
theorem moM_tieEcho : MO mM_tieEcho 5 false (some .int) pM_tieEcho := ⟨rM_tieEcho, rfl, rfl, by decide, rfl, (fun h => by cases h), (by decide +kernel)⟩
theorem aM_tieEcho {d : Nat} {Φ : Option Vl → Ly → Mm → Prop} (sp : List Nat) (n : Nat) {pc : Nat} {L : Lc} {st : List Vl} {S : Ly} {M : Mm} (h : MOk M → wp d 0 0 0 0 mM_tieEcho 5 false true (some .int) Φ pM_tieEcho sp n pc L st S M) : AJ d 0 0 mM_tieEcho Φ 0 0 pc L st S M := aj_wp moM_tieEcho sp n h
theorem eM_tieEcho {d : Nat} {Φ : Option Vl → Ly → Mm → Prop} (sp : List Nat) (n : Nat) {as : List Vl} (hn : as.length ≤ 5) {S : Ly} {M : Mm} (h : MOk M → wp d 0 0 0 0 mM_tieEcho 5 false true (some .int) Φ pM_tieEcho sp n 0 (as.map some) [] S M) : Ret d 0 0 mM_tieEcho as S M Φ := ret_wp moM_tieEcho (by rw [mtb0_len]; decide) (fun r h => by cases (show some rM_tieEcho = some r from h); rfl) sp n hn h
def pM_moment : List En := [(0, .iload_n 1, 1, []),
  (1, .iconst 0, 2, []),
  (2, .bipush 29, 4, []),
  (4, .invokestatic 76, 7, []),
  (7, .ifCond .eq 12, 10, [(0, 19)]),
  (10, .iload_n 2, 11, []),
  (11, .iconst 0, 12, []),
  (12, .iconst 3, 13, []),
  (13, .invokestatic 76, 16, []),
  (16, .ifCond .ne 6, 19, [(0, 22)]),
  (19, .bipush (-2), 21, []),
  (21, .ireturn, 22, []),
  (22, .iload_n 1, 23, []),
  (23, .istore_n 3, 24, []),
  (24, .iconst 0, 25, []),
  (25, .istore 4, 27, []),
  (27, .iload 4, 29, []),
  (29, .bipush 30, 31, []),
  (31, .if_icmp .ge 29, 34, [(0, 60)]),
  (34, .aload_n 0, 35, []),
  (35, .iload 4, 37, []),
  (37, .iload_n 2, 38, []),
  (38, .invokevirtual 253, 41, []),
  (41, .ifCond .eq 13, 44, [(0, 54)]),
  (44, .iload_n 3, 45, []),
  (45, .ifCond .ne 6, 48, [(0, 51)]),
  (48, .iload 4, 50, []),
  (50, .ireturn, 51, []),
  (51, .iinc 3 (-1), 54, []),
  (54, .iinc 4 1, 57, []),
  (57, .goto (-30), 60, [(0, 27)]),
  (60, .bipush (-9), 62, []),
  (62, .ireturn, 63, [])]
set_option maxRecDepth 100000 in
theorem moM_moment : MO mM_moment 5 false (some .int) pM_moment := ⟨rM_moment, rfl, rfl, by decide, rfl, (fun h => by cases h), (by decide +kernel)⟩
theorem aM_moment {d : Nat} {Φ : Option Vl → Ly → Mm → Prop} (sp : List Nat) (n : Nat) {pc : Nat} {L : Lc} {st : List Vl} {S : Ly} {M : Mm} (h : MOk M → wp d 0 0 0 0 mM_moment 5 false true (some .int) Φ pM_moment sp n pc L st S M) : AJ d 0 0 mM_moment Φ 0 0 pc L st S M := aj_wp moM_moment sp n h
theorem eM_moment {d : Nat} {Φ : Option Vl → Ly → Mm → Prop} (sp : List Nat) (n : Nat) {as : List Vl} (hn : as.length ≤ 5) {S : Ly} {M : Mm} (h : MOk M → wp d 0 0 0 0 mM_moment 5 false true (some .int) Φ pM_moment sp n 0 (as.map some) [] S M) : Ret d 0 0 mM_moment as S M Φ := ret_wp moM_moment (by rw [mtb0_len]; decide) (fun r h => by cases (show some rM_moment = some r from h); rfl) sp n hn h
def pM_isSo : List En := [(0, .aload_n 0, 1, []),
  (1, .getfield 7, 4, []),
  (4, .iload_n 1, 5, []),
  (5, .iaload, 6, []),
  (6, .istore_n 3, 7, []),
  (7, .aload_n 0, 8, []),
  (8, .getfield 7, 11, []),
  (11, .bipush 30, 13, []),
  (13, .iload_n 1, 14, []),
  (14, .iadd, 15, []),
  (15, .iaload, 16, []),
  (16, .istore 4, 18, []),
  (18, .iload_n 3, 19, []),
  (19, .bipush (-9), 21, []),
  (21, .if_icmp .eq 7, 24, [(0, 28)]),
  (24, .iconst 1, 25, []),
  (25, .goto 4, 28, [(0, 29)]),
  (28, .iconst 0, 29, []),
  (29, .iload 4, 31, []),
  (31, .bipush (-9), 33, []),
  (33, .if_icmp .eq 7, 36, [(0, 40)]),
  (36, .iconst 1, 37, []),
  (37, .goto 4, 40, [(0, 41)]),
  (40, .iconst 0, 41, []),
  (41, .iadd, 42, []),
  (42, .istore 5, 44, []),
  (44, .iload_n 2, 45, []),
  (45, .tableswitch 75 0 2 #[27, 45, 63], 72, [(0, 120), (0, 72), (1, 90), (2, 108)]),
  (72, .iload 5, 74, []),
  (74, .iconst 2, 75, []),
  (75, .if_icmp .ne 13, 78, [(0, 88)]),
  (78, .iload_n 3, 79, []),
  (79, .iload 4, 81, []),
  (81, .if_icmp .ge 7, 84, [(0, 88)]),
  (84, .iconst 1, 85, []),
  (85, .goto 4, 88, [(0, 89)]),
  (88, .iconst 0, 89, []),
  (89, .ireturn, 90, []),
  (90, .iload 5, 92, []),
  (92, .iconst 2, 93, []),
  (93, .if_icmp .ne 13, 96, [(0, 106)]),
  (96, .iload_n 3, 97, []),
  (97, .iload 4, 99, []),
  (99, .if_icmp .ne 7, 102, [(0, 106)]),
  (102, .iconst 1, 103, []),
  (103, .goto 4, 106, [(0, 107)]),
  (106, .iconst 0, 107, []),
  (107, .ireturn, 108, []),
  (108, .iload 5, 110, []),
  (110, .iconst 1, 111, []),
  (111, .if_icmp .ne 7, 114, [(0, 118)]),
  (114, .iconst 1, 115, []),
  (115, .goto 4, 118, [(0, 119)]),
  (118, .iconst 0, 119, []),
  (119, .ireturn, 120, []),
  (120, .iload 5, 122, []),
  (122, .ifCond .ne 7, 125, [(0, 129)]),
  (125, .iconst 1, 126, []),
  (126, .goto 4, 129, [(0, 130)]),
  (129, .iconst 0, 130, []),
  (130, .ireturn, 131, [])]
set_option maxRecDepth 100000 in
theorem moM_isSo : MO mM_isSo 5 false (some .boolean) pM_isSo := ⟨rM_isSo, rfl, rfl, by decide, rfl, (fun h => by cases h), (by decide +kernel)⟩
theorem aM_isSo {d : Nat} {Φ : Option Vl → Ly → Mm → Prop} (sp : List Nat) (n : Nat) {pc : Nat} {L : Lc} {st : List Vl} {S : Ly} {M : Mm} (h : MOk M → wp d 0 0 0 0 mM_isSo 5 false true (some .boolean) Φ pM_isSo sp n pc L st S M) : AJ d 0 0 mM_isSo Φ 0 0 pc L st S M := aj_wp moM_isSo sp n h
theorem eM_isSo {d : Nat} {Φ : Option Vl → Ly → Mm → Prop} (sp : List Nat) (n : Nat) {as : List Vl} (hn : as.length ≤ 6) {S : Ly} {M : Mm} (h : MOk M → wp d 0 0 0 0 mM_isSo 5 false true (some .boolean) Φ pM_isSo sp n 0 (as.map some) [] S M) : Ret d 0 0 mM_isSo as S M Φ := ret_wp moM_isSo (by rw [mtb0_len]; decide) (fun r h => by cases (show some rM_isSo = some r from h); rfl) sp n hn h
def pM_sum : List En := [(0, .aload_n 0, 1, []),
  (1, .iconst 0, 2, []),
  (2, .invokevirtual 225, 5, []),
  (5, .aload_n 0, 6, []),
  (6, .iconst 1, 7, []),
  (7, .invokevirtual 225, 10, []),
  (10, .aload_n 0, 11, []),
  (11, .aload_n 0, 12, []),
  (12, .getfield 49, 15, []),
  (15, .iconst 0, 16, []),
  (16, .iaload, 17, []),
  (17, .aload_n 0, 18, []),
  (18, .getfield 49, 21, []),
  (21, .iconst 1, 22, []),
  (22, .iaload, 23, []),
  (23, .invokevirtual 256, 26, []),
  (26, .ireturn, 27, [])]
set_option maxRecDepth 100000 in
theorem moM_sum : MO mM_sum 5 false (some .int) pM_sum := ⟨rM_sum, rfl, rfl, by decide, rfl, (fun h => by cases h), (by decide +kernel)⟩
theorem aM_sum {d : Nat} {Φ : Option Vl → Ly → Mm → Prop} (sp : List Nat) (n : Nat) {pc : Nat} {L : Lc} {st : List Vl} {S : Ly} {M : Mm} (h : MOk M → wp d 0 0 0 0 mM_sum 5 false true (some .int) Φ pM_sum sp n pc L st S M) : AJ d 0 0 mM_sum Φ 0 0 pc L st S M := aj_wp moM_sum sp n h
theorem eM_sum {d : Nat} {Φ : Option Vl → Ly → Mm → Prop} (sp : List Nat) (n : Nat) {as : List Vl} (hn : as.length ≤ 1) {S : Ly} {M : Mm} (h : MOk M → wp d 0 0 0 0 mM_sum 5 false true (some .int) Φ pM_sum sp n 0 (as.map some) [] S M) : Ret d 0 0 mM_sum as S M Φ := ret_wp moM_sum (by rw [mtb0_len]; decide) (fun r h => by cases (show some rM_sum = some r from h); rfl) sp n hn h
def pM_together : List En := [(0, .iload_n 1, 1, []),
  (1, .bipush (-9), 3, []),
  (3, .if_icmp .eq 9, 6, [(0, 12)]),
  (6, .iload_n 2, 7, []),
  (7, .bipush (-9), 9, []),
  (9, .if_icmp .ne 8, 12, [(0, 17)]),
  (12, .bipush (-9), 14, []),
  (14, .goto 6, 17, [(0, 20)]),
  (17, .iload_n 1, 18, []),
  (18, .iload_n 2, 19, []),
  (19, .iadd, 20, []),
  (20, .ireturn, 21, [])]
set_option maxRecDepth 100000 in
theorem moM_together : MO mM_together 5 false (some .int) pM_together := ⟨rM_together, rfl, rfl, by decide, rfl, (fun h => by cases h), (by decide +kernel)⟩
theorem aM_together {d : Nat} {Φ : Option Vl → Ly → Mm → Prop} (sp : List Nat) (n : Nat) {pc : Nat} {L : Lc} {st : List Vl} {S : Ly} {M : Mm} (h : MOk M → wp d 0 0 0 0 mM_together 5 false true (some .int) Φ pM_together sp n pc L st S M) : AJ d 0 0 mM_together Φ 0 0 pc L st S M := aj_wp moM_together sp n h
theorem eM_together {d : Nat} {Φ : Option Vl → Ly → Mm → Prop} (sp : List Nat) (n : Nat) {as : List Vl} (hn : as.length ≤ 3) {S : Ly} {M : Mm} (h : MOk M → wp d 0 0 0 0 mM_together 5 false true (some .int) Φ pM_together sp n 0 (as.map some) [] S M) : Ret d 0 0 mM_together as S M Φ := ret_wp moM_together (by rw [mtb0_len]; decide) (fun r h => by cases (show some rM_together = some r from h); rfl) sp n hn h
def pM_swap : List En := [(0, .iload_n 1, 1, []),
  (1, .invokestatic 91, 4, []),
  (4, .ifCond .ne 5, 7, [(0, 9)]),
  (7, .iconst (-1), 8, []),
  (8, .ireturn, 9, []),
  (9, .aload_n 0, 10, []),
  (10, .iload_n 1, 11, []),
  (11, .invokevirtual 259, 14, []),
  (14, .aload_n 0, 15, []),
  (15, .invokevirtual 101, 18, []),
  (18, .aload_n 0, 19, []),
  (19, .invokevirtual 262, 22, []),
  (22, .ireturn, 23, [])]
set_option maxRecDepth 100000 in
theorem moM_swap : MO mM_swap 5 false (some .int) pM_swap := ⟨rM_swap, rfl, rfl, by decide, rfl, (fun h => by cases h), (by decide +kernel)⟩
theorem aM_swap {d : Nat} {Φ : Option Vl → Ly → Mm → Prop} (sp : List Nat) (n : Nat) {pc : Nat} {L : Lc} {st : List Vl} {S : Ly} {M : Mm} (h : MOk M → wp d 0 0 0 0 mM_swap 5 false true (some .int) Φ pM_swap sp n pc L st S M) : AJ d 0 0 mM_swap Φ 0 0 pc L st S M := aj_wp moM_swap sp n h
theorem eM_swap {d : Nat} {Φ : Option Vl → Ly → Mm → Prop} (sp : List Nat) (n : Nat) {as : List Vl} (hn : as.length ≤ 2) {S : Ly} {M : Mm} (h : MOk M → wp d 0 0 0 0 mM_swap 5 false true (some .int) Φ pM_swap sp n 0 (as.map some) [] S M) : Ret d 0 0 mM_swap as S M Φ := ret_wp moM_swap (by rw [mtb0_len]; decide) (fun r h => by cases (show some rM_swap = some r from h); rfl) sp n hn h
def pM_swaps : List En := [(0, .aload_n 0, 1, []),
  (1, .getfield 7, 4, []),
  (4, .iload_n 1, 5, []),
  (5, .iaload, 6, []),
  (6, .istore_n 2, 7, []),
  (7, .aload_n 0, 8, []),
  (8, .getfield 7, 11, []),
  (11, .bipush 30, 13, []),
  (13, .iload_n 1, 14, []),
  (14, .iadd, 15, []),
  (15, .iaload, 16, []),
  (16, .istore_n 3, 17, []),
  (17, .aload_n 0, 18, []),
  (18, .iconst 0, 19, []),
  (19, .iload_n 1, 20, []),
  (20, .iload_n 3, 21, []),
  (21, .invokevirtual 97, 24, []),
  (24, .aload_n 0, 25, []),
  (25, .iconst 1, 26, []),
  (26, .iload_n 1, 27, []),
  (27, .iload_n 2, 28, []),
  (28, .invokevirtual 97, 31, []),
  (31, .return_, 32, [])]
set_option maxRecDepth 100000 in
theorem moM_swaps : MO mM_swaps 5 false none pM_swaps := ⟨rM_swaps, rfl, rfl, by decide, rfl, (fun h => by cases h), (by decide +kernel)⟩
theorem aM_swaps {d : Nat} {Φ : Option Vl → Ly → Mm → Prop} (sp : List Nat) (n : Nat) {pc : Nat} {L : Lc} {st : List Vl} {S : Ly} {M : Mm} (h : MOk M → wp d 0 0 0 0 mM_swaps 5 false true none Φ pM_swaps sp n pc L st S M) : AJ d 0 0 mM_swaps Φ 0 0 pc L st S M := aj_wp moM_swaps sp n h
theorem eM_swaps {d : Nat} {Φ : Option Vl → Ly → Mm → Prop} (sp : List Nat) (n : Nat) {as : List Vl} (hn : as.length ≤ 4) {S : Ly} {M : Mm} (h : MOk M → wp d 0 0 0 0 mM_swaps 5 false true none Φ pM_swaps sp n 0 (as.map some) [] S M) : Ret d 0 0 mM_swaps as S M Φ := ret_wp moM_swaps (by rw [mtb0_len]; decide) (fun r h => by cases (show some rM_swaps = some r from h); rfl) sp n hn h
def pM_help : List En := [(0, .iload_n 1, 1, []),
  (1, .iconst 0, 2, []),
  (2, .iconst 1, 3, []),
  (3, .invokestatic 76, 6, []),
  (6, .ifCond .ne 6, 9, [(0, 12)]),
  (9, .bipush (-2), 11, []),
  (11, .ireturn, 12, []),
  (12, .aload_n 0, 13, []),
  (13, .aload_n 0, 14, []),
  (14, .iconst 0, 15, []),
  (15, .invokevirtual 219, 18, []),
  (18, .aload_n 0, 19, []),
  (19, .iconst 1, 20, []),
  (20, .invokevirtual 219, 23, []),
  (23, .invokevirtual 256, 26, []),
  (26, .istore_n 2, 27, []),
  (27, .bipush (-9), 29, []),
  (29, .istore_n 3, 30, []),
  (30, .iload_n 2, 31, []),
  (31, .istore 4, 33, []),
  (33, .iconst 0, 34, []),
  (34, .istore 5, 36, []),
  (36, .iload 5, 38, []),
  (38, .bipush 30, 40, []),
  (40, .if_icmp .ge 45, 43, [(0, 85)]),
  (43, .aload_n 0, 44, []),
  (44, .iload 5, 46, []),
  (46, .invokevirtual 265, 49, []),
  (49, .istore 6, 51, []),
  (51, .iload 6, 53, []),
  (53, .bipush (-9), 55, []),
  (55, .if_icmp .eq 24, 58, [(0, 79)]),
  (58, .iload 4, 60, []),
  (60, .bipush (-9), 62, []),
  (62, .if_icmp .eq 10, 65, [(0, 72)]),
  (65, .iload 6, 67, []),
  (67, .iload 4, 69, []),
  (69, .if_icmp .ge 10, 72, [(0, 79)]),
  (72, .iload 5, 74, []),
  (74, .istore_n 3, 75, []),
  (75, .iload 6, 77, []),
  (77, .istore 4, 79, []),
  (79, .iinc 5 1, 82, []),
  (82, .goto (-46), 85, [(0, 36)]),
  (85, .iload_n 1, 86, []),
  (86, .ifCond .eq 9, 89, [(0, 95)]),
  (89, .iload_n 3, 90, []),
  (90, .bipush (-9), 92, []),
  (92, .if_icmp .ne 7, 95, [(0, 99)]),
  (95, .iload_n 3, 96, []),
  (96, .goto 5, 99, [(0, 101)]),
  (99, .iload 4, 101, []),
  (101, .ireturn, 102, [])]
set_option maxRecDepth 100000 in
theorem moM_help : MO mM_help 5 false (some .int) pM_help := ⟨rM_help, rfl, rfl, by decide, rfl, (fun h => by cases h), (by decide +kernel)⟩
theorem aM_help {d : Nat} {Φ : Option Vl → Ly → Mm → Prop} (sp : List Nat) (n : Nat) {pc : Nat} {L : Lc} {st : List Vl} {S : Ly} {M : Mm} (h : MOk M → wp d 0 0 0 0 mM_help 5 false true (some .int) Φ pM_help sp n pc L st S M) : AJ d 0 0 mM_help Φ 0 0 pc L st S M := aj_wp moM_help sp n h
theorem eM_help {d : Nat} {Φ : Option Vl → Ly → Mm → Prop} (sp : List Nat) (n : Nat) {as : List Vl} (hn : as.length ≤ 7) {S : Ly} {M : Mm} (h : MOk M → wp d 0 0 0 0 mM_help 5 false true (some .int) Φ pM_help sp n 0 (as.map some) [] S M) : Ret d 0 0 mM_help as S M Φ := ret_wp moM_help (by rw [mtb0_len]; decide) (fun r h => by cases (show some rM_help = some r from h); rfl) sp n hn h
def pM_sumBehind : List En := [(0, .aload_n 0, 1, []),
  (1, .getfield 13, 4, []),
  (4, .iload_n 1, 5, []),
  (5, .iaload, 6, []),
  (6, .istore_n 2, 7, []),
  (7, .aload_n 0, 8, []),
  (8, .getfield 13, 11, []),
  (11, .bipush 30, 13, []),
  (13, .iload_n 1, 14, []),
  (14, .iadd, 15, []),
  (15, .iaload, 16, []),
  (16, .istore_n 3, 17, []),
  (17, .aload_n 0, 18, []),
  (18, .iload_n 1, 19, []),
  (19, .invokevirtual 259, 22, []),
  (22, .aload_n 0, 23, []),
  (23, .aload_n 0, 24, []),
  (24, .iconst 0, 25, []),
  (25, .invokevirtual 219, 28, []),
  (28, .aload_n 0, 29, []),
  (29, .iconst 1, 30, []),
  (30, .invokevirtual 219, 33, []),
  (33, .invokevirtual 256, 36, []),
  (36, .istore 4, 38, []),
  (38, .aload_n 0, 39, []),
  (39, .iload_n 1, 40, []),
  (40, .invokevirtual 259, 43, []),
  (43, .aload_n 0, 44, []),
  (44, .getfield 13, 47, []),
  (47, .iload_n 1, 48, []),
  (48, .iload_n 2, 49, []),
  (49, .iastore, 50, []),
  (50, .aload_n 0, 51, []),
  (51, .getfield 13, 54, []),
  (54, .bipush 30, 56, []),
  (56, .iload_n 1, 57, []),
  (57, .iadd, 58, []),
  (58, .iload_n 3, 59, []),
  (59, .iastore, 60, []),
  (60, .iload 4, 62, []),
  (62, .ireturn, 63, [])]
set_option maxRecDepth 100000 in
theorem moM_sumBehind : MO mM_sumBehind 5 false (some .int) pM_sumBehind := ⟨rM_sumBehind, rfl, rfl, by decide, rfl, (fun h => by cases h), (by decide +kernel)⟩
theorem aM_sumBehind {d : Nat} {Φ : Option Vl → Ly → Mm → Prop} (sp : List Nat) (n : Nat) {pc : Nat} {L : Lc} {st : List Vl} {S : Ly} {M : Mm} (h : MOk M → wp d 0 0 0 0 mM_sumBehind 5 false true (some .int) Φ pM_sumBehind sp n pc L st S M) : AJ d 0 0 mM_sumBehind Φ 0 0 pc L st S M := aj_wp moM_sumBehind sp n h
theorem eM_sumBehind {d : Nat} {Φ : Option Vl → Ly → Mm → Prop} (sp : List Nat) (n : Nat) {as : List Vl} (hn : as.length ≤ 5) {S : Ly} {M : Mm} (h : MOk M → wp d 0 0 0 0 mM_sumBehind 5 false true (some .int) Φ pM_sumBehind sp n 0 (as.map some) [] S M) : Ret d 0 0 mM_sumBehind as S M Φ := ret_wp moM_sumBehind (by rw [mtb0_len]; decide) (fun r h => by cases (show some rM_sumBehind = some r from h); rfl) sp n hn h
def pM_many : List En := [(0, .iload_n 1, 1, []),
  (1, .tableswitch 95 0 6 #[43, 43, 49, 54, 59, 87, 87], 44, [(0, 96), (0, 44), (1, 44), (2, 50), (3, 55), (4, 60), (5, 88), (6, 88)]),
  (44, .aload_n 0, 45, []),
  (45, .iload_n 1, 46, []),
  (46, .invokevirtual 107, 49, []),
  (49, .ireturn, 50, []),
  (50, .aload_n 0, 51, []),
  (51, .invokevirtual 268, 54, []),
  (54, .ireturn, 55, []),
  (55, .aload_n 0, 56, []),
  (56, .getfield 235, 59, []),
  (59, .ireturn, 60, []),
  (60, .aload_n 0, 61, []),
  (61, .iconst 0, 62, []),
  (62, .invokevirtual 147, 65, []),
  (65, .ifCond .eq 7, 68, [(0, 72)]),
  (68, .iconst 1, 69, []),
  (69, .goto 4, 72, [(0, 73)]),
  (72, .iconst 0, 73, []),
  (73, .aload_n 0, 74, []),
  (74, .iconst 1, 75, []),
  (75, .invokevirtual 147, 78, []),
  (78, .ifCond .eq 7, 81, [(0, 85)]),
  (81, .iconst 1, 82, []),
  (82, .goto 4, 85, [(0, 86)]),
  (85, .iconst 0, 86, []),
  (86, .iadd, 87, []),
  (87, .ireturn, 88, []),
  (88, .aload_n 0, 89, []),
  (89, .iload_n 1, 90, []),
  (90, .iconst 5, 91, []),
  (91, .isub, 92, []),
  (92, .invokevirtual 271, 95, []),
  (95, .ireturn, 96, []),
  (96, .bipush (-2), 98, []),
  (98, .ireturn, 99, [])]
set_option maxRecDepth 100000 in
theorem moM_many : MO mM_many 5 false (some .int) pM_many := ⟨rM_many, rfl, rfl, by decide, rfl, (fun h => by cases h), (by decide +kernel)⟩
theorem aM_many {d : Nat} {Φ : Option Vl → Ly → Mm → Prop} (sp : List Nat) (n : Nat) {pc : Nat} {L : Lc} {st : List Vl} {S : Ly} {M : Mm} (h : MOk M → wp d 0 0 0 0 mM_many 5 false true (some .int) Φ pM_many sp n pc L st S M) : AJ d 0 0 mM_many Φ 0 0 pc L st S M := aj_wp moM_many sp n h
theorem eM_many {d : Nat} {Φ : Option Vl → Ly → Mm → Prop} (sp : List Nat) (n : Nat) {as : List Vl} (hn : as.length ≤ 2) {S : Ly} {M : Mm} (h : MOk M → wp d 0 0 0 0 mM_many 5 false true (some .int) Φ pM_many sp n 0 (as.map some) [] S M) : Ret d 0 0 mM_many as S M Φ := ret_wp moM_many (by rw [mtb0_len]; decide) (fun r h => by cases (show some rM_many = some r from h); rfl) sp n hn h
def pM_manyMarks : List En := [(0, .iconst 0, 1, []),
  (1, .istore_n 1, 2, []),
  (2, .iconst 0, 3, []),
  (3, .istore_n 2, 4, []),
  (4, .iload_n 2, 5, []),
  (5, .bipush 60, 7, []),
  (7, .if_icmp .ge 28, 10, [(0, 35)]),
  (10, .iload_n 1, 11, []),
  (11, .aload_n 0, 12, []),
  (12, .getfield 13, 15, []),
  (15, .iload_n 2, 16, []),
  (16, .iaload, 17, []),
  (17, .bipush (-9), 19, []),
  (19, .if_icmp .eq 7, 22, [(0, 26)]),
  (22, .iconst 1, 23, []),
  (23, .goto 4, 26, [(0, 27)]),
  (26, .iconst 0, 27, []),
  (27, .iadd, 28, []),
  (28, .istore_n 1, 29, []),
  (29, .iinc 2 1, 32, []),
  (32, .goto (-28), 35, [(0, 4)]),
  (35, .iload_n 1, 36, []),
  (36, .ireturn, 37, [])]
set_option maxRecDepth 100000 in
theorem moM_manyMarks : MO mM_manyMarks 5 false (some .int) pM_manyMarks := ⟨rM_manyMarks, rfl, rfl, by decide, rfl, (fun h => by cases h), (by decide +kernel)⟩
theorem aM_manyMarks {d : Nat} {Φ : Option Vl → Ly → Mm → Prop} (sp : List Nat) (n : Nat) {pc : Nat} {L : Lc} {st : List Vl} {S : Ly} {M : Mm} (h : MOk M → wp d 0 0 0 0 mM_manyMarks 5 false true (some .int) Φ pM_manyMarks sp n pc L st S M) : AJ d 0 0 mM_manyMarks Φ 0 0 pc L st S M := aj_wp moM_manyMarks sp n h
theorem eM_manyMarks {d : Nat} {Φ : Option Vl → Ly → Mm → Prop} (sp : List Nat) (n : Nat) {as : List Vl} (hn : as.length ≤ 3) {S : Ly} {M : Mm} (h : MOk M → wp d 0 0 0 0 mM_manyMarks 5 false true (some .int) Φ pM_manyMarks sp n 0 (as.map some) [] S M) : Ret d 0 0 mM_manyMarks as S M Φ := ret_wp moM_manyMarks (by rw [mtb0_len]; decide) (fun r h => by cases (show some rM_manyMarks = some r from h); rfl) sp n hn h
def pM_manyMoments : List En := [(0, .iconst 0, 1, []),
  (1, .istore_n 2, 2, []),
  (2, .iconst 0, 3, []),
  (3, .istore_n 3, 4, []),
  (4, .iload_n 3, 5, []),
  (5, .bipush 30, 7, []),
  (7, .if_icmp .ge 26, 10, [(0, 33)]),
  (10, .iload_n 2, 11, []),
  (11, .aload_n 0, 12, []),
  (12, .iload_n 3, 13, []),
  (13, .iload_n 1, 14, []),
  (14, .invokevirtual 253, 17, []),
  (17, .ifCond .eq 7, 20, [(0, 24)]),
  (20, .iconst 1, 21, []),
  (21, .goto 4, 24, [(0, 25)]),
  (24, .iconst 0, 25, []),
  (25, .iadd, 26, []),
  (26, .istore_n 2, 27, []),
  (27, .iinc 3 1, 30, []),
  (30, .goto (-26), 33, [(0, 4)]),
  (33, .iload_n 2, 34, []),
  (34, .ireturn, 35, [])]
set_option maxRecDepth 100000 in
theorem moM_manyMoments : MO mM_manyMoments 5 false (some .int) pM_manyMoments := ⟨rM_manyMoments, rfl, rfl, by decide, rfl, (fun h => by cases h), (by decide +kernel)⟩
theorem aM_manyMoments {d : Nat} {Φ : Option Vl → Ly → Mm → Prop} (sp : List Nat) (n : Nat) {pc : Nat} {L : Lc} {st : List Vl} {S : Ly} {M : Mm} (h : MOk M → wp d 0 0 0 0 mM_manyMoments 5 false true (some .int) Φ pM_manyMoments sp n pc L st S M) : AJ d 0 0 mM_manyMoments Φ 0 0 pc L st S M := aj_wp moM_manyMoments sp n h
theorem eM_manyMoments {d : Nat} {Φ : Option Vl → Ly → Mm → Prop} (sp : List Nat) (n : Nat) {as : List Vl} (hn : as.length ≤ 4) {S : Ly} {M : Mm} (h : MOk M → wp d 0 0 0 0 mM_manyMoments 5 false true (some .int) Φ pM_manyMoments sp n 0 (as.map some) [] S M) : Ret d 0 0 mM_manyMoments as S M Φ := ret_wp moM_manyMoments (by rw [mtb0_len]; decide) (fun r h => by cases (show some rM_manyMoments = some r from h); rfl) sp n hn h
def pK_init : List En := [(0, .aload_n 0, 1, []),
  (1, .invokespecial 1, 4, []),
  (4, .aload_n 0, 5, []),
  (5, .new 7, 8, []),
  (8, .dup, 9, []),
  (9, .invokespecial 9, 12, []),
  (12, .putfield 10, 15, []),
  (15, .aload_n 0, 16, []),
  (16, .new 16, 19, []),
  (19, .dup, 20, []),
  (20, .iconst 1, 21, []),
  (21, .invokespecial 18, 24, []),
  (24, .putfield 21, 27, []),
  (27, .aload_n 0, 28, []),
  (28, .new 16, 31, []),
  (31, .dup, 32, []),
  (32, .iconst (-1), 33, []),
  (33, .invokespecial 18, 36, []),
  (36, .putfield 25, 39, []),
  (39, .aload_n 0, 40, []),
  (40, .new 28, 43, []),
  (43, .dup, 44, []),
  (44, .aload_n 0, 45, []),
  (45, .getfield 10, 48, []),
  (48, .invokespecial 30, 51, []),
  (51, .putfield 33, 54, []),
  (54, .aload_n 0, 55, []),
  (55, .new 37, 58, []),
  (58, .dup, 59, []),
  (59, .invokespecial 39, 62, []),
  (62, .putfield 40, 65, []),
  (65, .return_, 66, [])]
set_option maxRecDepth 100000 in
theorem moK_init : MO mK_init 4 true none pK_init := ⟨rK_init, rfl, rfl, by decide, rfl, (fun _ => rfl), (by decide +kernel)⟩
theorem aK_init {d : Nat} {Φ : Option Vl → Ly → Mm → Prop} (sp : List Nat) (n : Nat) {pc : Nat} {L : Lc} {st : List Vl} {S : Ly} {M : Mm} (h : MOk M → wp d 0 0 0 0 mK_init 4 true true none Φ pK_init sp n pc L st S M) : AJ d 0 0 mK_init Φ 0 0 pc L st S M := aj_wp moK_init sp n h
theorem eK_init {d : Nat} {Φ : Option Vl → Ly → Mm → Prop} (sp : List Nat) (n : Nat) {as : List Vl} (hn : as.length ≤ 1) {S : Ly} {M : Mm} (h : MOk M → wp d 0 0 0 0 mK_init 4 true true none Φ pK_init sp n 0 (as.map some) [] S M) : Ret d 0 0 mK_init as S M Φ := ret_wp moK_init (by rw [mtb0_len]; decide) (fun r h => by cases (show some rK_init = some r from h); rfl) sp n hn h
def pU_init : List En := [(0, .aload_n 0, 1, []),
  (1, .invokespecial 3, 4, []),
  (4, .aload_n 0, 5, []),
  (8, .invokevirtual 13, 11, []),
  (14, .putfield 18, 17, []),
  (17, .aload_n 0, 18, []),
  (21, .invokevirtual 13, 24, []),
  (27, .putfield 26, 30, []),
  (30, .return_, 31, [])]
set_option maxRecDepth 100000 in
theorem moU_init : MO mU_init 3 true none pU_init := ⟨rU_init, rfl, rfl, by decide, rfl, (fun _ => rfl), (by decide +kernel)⟩
theorem aU_init {d : Nat} {Φ : Option Vl → Ly → Mm → Prop} (sp : List Nat) (n : Nat) {pc : Nat} {L : Lc} {st : List Vl} {S : Ly} {M : Mm} (h : MOk M → wp d 0 0 0 0 mU_init 3 true true none Φ pU_init sp n pc L st S M) : AJ d 0 0 mU_init Φ 0 0 pc L st S M := aj_wp moU_init sp n h
theorem eU_init {d : Nat} {Φ : Option Vl → Ly → Mm → Prop} (sp : List Nat) (n : Nat) {as : List Vl} (hn : as.length ≤ 1) {S : Ly} {M : Mm} (h : MOk M → wp d 0 0 0 0 mU_init 3 true true none Φ pU_init sp n 0 (as.map some) [] S M) : Ret d 0 0 mU_init as S M Φ := ret_wp moU_init (by rw [mtb0_len]; decide) (fun r h => by cases (show some rU_init = some r from h); rfl) sp n hn h
def pH_init : List En := [(0, .aload_n 0, 1, []),
  (1, .invokespecial 3, 4, []),
  (4, .aload_n 0, 5, []),
  (5, .bipush 30, 7, []),
  (7, .newarray .int, 9, []),
  (9, .putfield 9, 12, []),
  (12, .aload_n 0, 13, []),
  (13, .bipush 30, 15, []),
  (15, .newarray .int, 17, []),
  (17, .putfield 15, 20, []),
  (20, .aload_n 0, 21, []),
  (21, .bipush 30, 23, []),
  (23, .newarray .int, 25, []),
  (25, .putfield 18, 28, []),
  (28, .aload_n 0, 29, []),
  (29, .iload_n 1, 30, []),
  (30, .putfield 21, 33, []),
  (33, .aload_n 0, 34, []),
  (34, .getfield 9, 37, []),
  (37, .bipush (-9), 39, []),
  (39, .invokestatic 25, 42, []),
  (42, .aload_n 0, 43, []),
  (43, .getfield 15, 46, []),
  (46, .bipush (-9), 48, []),
  (48, .invokestatic 25, 51, []),
  (51, .return_, 52, [])]
set_option maxRecDepth 100000 in
theorem moH_init : MO mH_init 0 true none pH_init := ⟨rH_init, rfl, rfl, by decide, rfl, (fun _ => rfl), (by decide +kernel)⟩
theorem aH_init {d : Nat} {Φ : Option Vl → Ly → Mm → Prop} (sp : List Nat) (n : Nat) {pc : Nat} {L : Lc} {st : List Vl} {S : Ly} {M : Mm} (h : MOk M → wp d 0 0 0 0 mH_init 0 true true none Φ pH_init sp n pc L st S M) : AJ d 0 0 mH_init Φ 0 0 pc L st S M := aj_wp moH_init sp n h
theorem eH_init {d : Nat} {Φ : Option Vl → Ly → Mm → Prop} (sp : List Nat) (n : Nat) {as : List Vl} (hn : as.length ≤ 2) {S : Ly} {M : Mm} (h : MOk M → wp d 0 0 0 0 mH_init 0 true true none Φ pH_init sp n 0 (as.map some) [] S M) : Ret d 0 0 mH_init as S M Φ := ret_wp moH_init (by rw [mtb0_len]; decide) (fun r h => by cases (show some rH_init = some r from h); rfl) sp n hn h
def pR_init : List En := [(0, .aload_n 0, 1, []),
  (1, .invokespecial 3, 4, []),
  (4, .aload_n 0, 5, []),
  (5, .sipush 150, 8, []),
  (8, .newarray .int, 10, []),
  (10, .putfield 9, 13, []),
  (13, .aload_n 0, 14, []),
  (14, .sipush 750, 17, []),
  (17, .newarray .int, 19, []),
  (19, .putfield 15, 22, []),
  (22, .aload_n 0, 23, []),
  (23, .sipush 150, 26, []),
  (26, .newarray .int, 28, []),
  (28, .putfield 18, 31, []),
  (31, .aload_n 0, 32, []),
  (32, .iconst 5, 33, []),
  (33, .newarray .int, 35, []),
  (35, .putfield 21, 38, []),
  (38, .aload_n 0, 39, []),
  (39, .bipush 30, 41, []),
  (41, .newarray .int, 43, []),
  (43, .putfield 24, 46, []),
  (46, .aload_n 0, 47, []),
  (47, .aload_n 1, 48, []),
  (48, .putfield 27, 51, []),
  (51, .return_, 52, [])]
set_option maxRecDepth 100000 in
theorem moR_init : MO mR_init 2 true none pR_init := ⟨rR_init, rfl, rfl, by decide, rfl, (fun _ => rfl), (by decide +kernel)⟩
theorem aR_init {d : Nat} {Φ : Option Vl → Ly → Mm → Prop} (sp : List Nat) (n : Nat) {pc : Nat} {L : Lc} {st : List Vl} {S : Ly} {M : Mm} (h : MOk M → wp d 0 0 0 0 mR_init 2 true true none Φ pR_init sp n pc L st S M) : AJ d 0 0 mR_init Φ 0 0 pc L st S M := aj_wp moR_init sp n h
theorem eR_init {d : Nat} {Φ : Option Vl → Ly → Mm → Prop} (sp : List Nat) (n : Nat) {as : List Vl} (hn : as.length ≤ 2) {S : Ly} {M : Mm} (h : MOk M → wp d 0 0 0 0 mR_init 2 true true none Φ pR_init sp n 0 (as.map some) [] S M) : Ret d 0 0 mR_init as S M Φ := ret_wp moR_init (by rw [mtb0_len]; decide) (fun r h => by cases (show some rR_init = some r from h); rfl) sp n hn h
def pP_init : List En := [(0, .aload_n 0, 1, []),
  (1, .invokespecial 3, 4, []),
  (4, .aload_n 0, 5, []),
  (5, .bipush 6, 7, []),
  (7, .newarray .int, 9, []),
  (9, .putfield 9, 12, []),
  (12, .aload_n 0, 13, []),
  (13, .bipush 6, 15, []),
  (15, .newarray .int, 17, []),
  (17, .putfield 15, 20, []),
  (20, .aload_n 0, 21, []),
  (21, .bipush 6, 23, []),
  (23, .newarray .int, 25, []),
  (25, .putfield 18, 28, []),
  (28, .aload_n 0, 29, []),
  (29, .bipush 6, 31, []),
  (31, .newarray .int, 33, []),
  (33, .putfield 21, 36, []),
  (36, .return_, 37, [])]
set_option maxRecDepth 100000 in
theorem moP_init : MO mP_init 1 true none pP_init := ⟨rP_init, rfl, rfl, by decide, rfl, (fun _ => rfl), (by decide +kernel)⟩
theorem aP_init {d : Nat} {Φ : Option Vl → Ly → Mm → Prop} (sp : List Nat) (n : Nat) {pc : Nat} {L : Lc} {st : List Vl} {S : Ly} {M : Mm} (h : MOk M → wp d 0 0 0 0 mP_init 1 true true none Φ pP_init sp n pc L st S M) : AJ d 0 0 mP_init Φ 0 0 pc L st S M := aj_wp moP_init sp n h
theorem eP_init {d : Nat} {Φ : Option Vl → Ly → Mm → Prop} (sp : List Nat) (n : Nat) {as : List Vl} (hn : as.length ≤ 1) {S : Ly} {M : Mm} (h : MOk M → wp d 0 0 0 0 mP_init 1 true true none Φ pP_init sp n 0 (as.map some) [] S M) : Ret d 0 0 mP_init as S M Φ := ret_wp moP_init (by rw [mtb0_len]; decide) (fun r h => by cases (show some rP_init = some r from h); rfl) sp n hn h
def pK_put : List En := [(0, .iload_n 1, 1, []),
  (1, .invokestatic 44, 4, []),
  (4, .ifCond .eq 10, 7, [(0, 14)]),
  (7, .iload_n 2, 8, []),
  (8, .invokestatic 48, 11, []),
  (11, .ifCond .ne 5, 14, [(0, 16)]),
  (14, .iconst (-1), 15, []),
  (15, .ireturn, 16, []),
  (16, .iload_n 3, 17, []),
  (17, .bipush (-9), 19, []),
  (19, .if_icmp .eq 13, 22, [(0, 32)]),
  (22, .iload_n 3, 23, []),
  (23, .invokestatic 51, 26, []),
  (26, .ifCond .ne 6, 29, [(0, 32)]),
  (29, .bipush (-2), 31, []),
  (31, .ireturn, 32, []),
  (32, .aload_n 0, 33, []),
  (33, .iload_n 1, 34, []),
  (34, .invokevirtual 54, 37, []),
  (37, .astore 4, 39, []),
  (39, .aload 4, 41, []),
  (41, .iload_n 2, 42, []),
  (42, .invokevirtual 58, 45, []),
  (45, .istore 5, 47, []),
  (47, .aload 4, 49, []),
  (49, .iload_n 2, 50, []),
  (50, .iload_n 3, 51, []),
  (51, .invokevirtual 62, 54, []),
  (54, .iload 5, 56, []),
  (56, .ireturn, 57, [])]
set_option maxRecDepth 100000 in
theorem moK_put : MO mK_put 4 false (some .int) pK_put := ⟨rK_put, rfl, rfl, by decide, rfl, (fun h => by cases h), (by decide +kernel)⟩
theorem aK_put {d : Nat} {Φ : Option Vl → Ly → Mm → Prop} (sp : List Nat) (n : Nat) {pc : Nat} {L : Lc} {st : List Vl} {S : Ly} {M : Mm} (h : MOk M → wp d 0 0 0 0 mK_put 4 false true (some .int) Φ pK_put sp n pc L st S M) : AJ d 0 0 mK_put Φ 0 0 pc L st S M := aj_wp moK_put sp n h
theorem eK_put {d : Nat} {Φ : Option Vl → Ly → Mm → Prop} (sp : List Nat) (n : Nat) {as : List Vl} (hn : as.length ≤ 6) {S : Ly} {M : Mm} (h : MOk M → wp d 0 0 0 0 mK_put 4 false true (some .int) Φ pK_put sp n 0 (as.map some) [] S M) : Ret d 0 0 mK_put as S M Φ := ret_wp moK_put (by rw [mtb0_len]; decide) (fun r h => by cases (show some rK_put = some r from h); rfl) sp n hn h
def pK_isHand : List En := [(0, .iload_n 0, 1, []),
  (1, .ifCond .eq 8, 4, [(0, 9)]),
  (4, .iload_n 0, 5, []),
  (5, .iconst 1, 6, []),
  (6, .if_icmp .ne 7, 9, [(0, 13)]),
  (9, .iconst 1, 10, []),
  (10, .goto 4, 13, [(0, 14)]),
  (13, .iconst 0, 14, []),
  (14, .ireturn, 15, [])]
set_option maxRecDepth 100000 in
theorem moK_isHand : MO mK_isHand 4 false (some .boolean) pK_isHand := ⟨rK_isHand, rfl, rfl, by decide, rfl, (fun h => by cases h), (by decide +kernel)⟩
theorem aK_isHand {d : Nat} {Φ : Option Vl → Ly → Mm → Prop} (sp : List Nat) (n : Nat) {pc : Nat} {L : Lc} {st : List Vl} {S : Ly} {M : Mm} (h : MOk M → wp d 0 0 0 0 mK_isHand 4 false true (some .boolean) Φ pK_isHand sp n pc L st S M) : AJ d 0 0 mK_isHand Φ 0 0 pc L st S M := aj_wp moK_isHand sp n h
theorem eK_isHand {d : Nat} {Φ : Option Vl → Ly → Mm → Prop} (sp : List Nat) (n : Nat) {as : List Vl} (hn : as.length ≤ 1) {S : Ly} {M : Mm} (h : MOk M → wp d 0 0 0 0 mK_isHand 4 false true (some .boolean) Φ pK_isHand sp n 0 (as.map some) [] S M) : Ret d 0 0 mK_isHand as S M Φ := ret_wp moK_isHand (by rw [mtb0_len]; decide) (fun r h => by cases (show some rK_isHand = some r from h); rfl) sp n hn h
def pK_isMoment : List En := [(0, .iload_n 0, 1, []),
  (1, .ifCond .lt 13, 4, [(0, 14)]),
  (4, .iload_n 0, 5, []),
  (5, .bipush 30, 7, []),
  (7, .if_icmp .ge 7, 10, [(0, 14)]),
  (10, .iconst 1, 11, []),
  (11, .goto 4, 14, [(0, 15)]),
  (14, .iconst 0, 15, []),
  (15, .ireturn, 16, [])]
set_option maxRecDepth 100000 in
theorem moK_isMoment : MO mK_isMoment 4 false (some .boolean) pK_isMoment := ⟨rK_isMoment, rfl, rfl, by decide, rfl, (fun h => by cases h), (by decide +kernel)⟩
theorem aK_isMoment {d : Nat} {Φ : Option Vl → Ly → Mm → Prop} (sp : List Nat) (n : Nat) {pc : Nat} {L : Lc} {st : List Vl} {S : Ly} {M : Mm} (h : MOk M → wp d 0 0 0 0 mK_isMoment 4 false true (some .boolean) Φ pK_isMoment sp n pc L st S M) : AJ d 0 0 mK_isMoment Φ 0 0 pc L st S M := aj_wp moK_isMoment sp n h
theorem eK_isMoment {d : Nat} {Φ : Option Vl → Ly → Mm → Prop} (sp : List Nat) (n : Nat) {as : List Vl} (hn : as.length ≤ 1) {S : Ly} {M : Mm} (h : MOk M → wp d 0 0 0 0 mK_isMoment 4 false true (some .boolean) Φ pK_isMoment sp n 0 (as.map some) [] S M) : Ret d 0 0 mK_isMoment as S M Φ := ret_wp moK_isMoment (by rw [mtb0_len]; decide) (fun r h => by cases (show some rK_isMoment = some r from h); rfl) sp n hn h
def pK_isKey : List En := [(0, .iload_n 0, 1, []),
  (1, .ifCond .lt 13, 4, [(0, 14)]),
  (4, .iload_n 0, 5, []),
  (5, .bipush 60, 7, []),
  (7, .if_icmp .ge 7, 10, [(0, 14)]),
  (10, .iconst 1, 11, []),
  (11, .goto 4, 14, [(0, 15)]),
  (14, .iconst 0, 15, []),
  (15, .ireturn, 16, [])]
set_option maxRecDepth 100000 in
theorem moK_isKey : MO mK_isKey 4 false (some .boolean) pK_isKey := ⟨rK_isKey, rfl, rfl, by decide, rfl, (fun h => by cases h), (by decide +kernel)⟩
theorem aK_isKey {d : Nat} {Φ : Option Vl → Ly → Mm → Prop} (sp : List Nat) (n : Nat) {pc : Nat} {L : Lc} {st : List Vl} {S : Ly} {M : Mm} (h : MOk M → wp d 0 0 0 0 mK_isKey 4 false true (some .boolean) Φ pK_isKey sp n pc L st S M) : AJ d 0 0 mK_isKey Φ 0 0 pc L st S M := aj_wp moK_isKey sp n h
theorem eK_isKey {d : Nat} {Φ : Option Vl → Ly → Mm → Prop} (sp : List Nat) (n : Nat) {as : List Vl} (hn : as.length ≤ 1) {S : Ly} {M : Mm} (h : MOk M → wp d 0 0 0 0 mK_isKey 4 false true (some .boolean) Φ pK_isKey sp n 0 (as.map some) [] S M) : Ret d 0 0 mK_isKey as S M Φ := ret_wp moK_isKey (by rw [mtb0_len]; decide) (fun r h => by cases (show some rK_isKey = some r from h); rfl) sp n hn h
def pK_playerOf : List En := [(0, .iload_n 1, 1, []),
  (1, .ifCond .ne 10, 4, [(0, 11)]),
  (4, .aload_n 0, 5, []),
  (5, .getfield 21, 8, []),
  (8, .goto 7, 11, [(0, 15)]),
  (11, .aload_n 0, 12, []),
  (12, .getfield 25, 15, []),
  (15, .areturn, 16, [])]
set_option maxRecDepth 100000 in
theorem moK_playerOf : MO mK_playerOf 4 false (some (.object "KeyFingers$Hand")) pK_playerOf := ⟨rK_playerOf, rfl, rfl, by decide, rfl, (fun h => by cases h), (by decide +kernel)⟩
theorem aK_playerOf {d : Nat} {Φ : Option Vl → Ly → Mm → Prop} (sp : List Nat) (n : Nat) {pc : Nat} {L : Lc} {st : List Vl} {S : Ly} {M : Mm} (h : MOk M → wp d 0 0 0 0 mK_playerOf 4 false true (some (.object "KeyFingers$Hand")) Φ pK_playerOf sp n pc L st S M) : AJ d 0 0 mK_playerOf Φ 0 0 pc L st S M := aj_wp moK_playerOf sp n h
theorem eK_playerOf {d : Nat} {Φ : Option Vl → Ly → Mm → Prop} (sp : List Nat) (n : Nat) {as : List Vl} (hn : as.length ≤ 2) {S : Ly} {M : Mm} (h : MOk M → wp d 0 0 0 0 mK_playerOf 4 false true (some (.object "KeyFingers$Hand")) Φ pK_playerOf sp n 0 (as.map some) [] S M) : Ret d 0 0 mK_playerOf as S M Φ := ret_wp moK_playerOf (by rw [mtb0_len]; decide) (fun r h => by cases (show some rK_playerOf = some r from h); rfl) sp n hn h
def pH_keyAt : List En := [(0, .aload_n 0, 1, []),
  (1, .getfield 9, 4, []),
  (4, .iload_n 1, 5, []),
  (5, .invokestatic 31, 8, []),
  (8, .ireturn, 9, [])]
set_option maxRecDepth 100000 in
theorem moH_keyAt : MO mH_keyAt 0 false (some .int) pH_keyAt := ⟨rH_keyAt, rfl, rfl, by decide, rfl, (fun h => by cases h), (by decide +kernel)⟩
theorem aH_keyAt {d : Nat} {Φ : Option Vl → Ly → Mm → Prop} (sp : List Nat) (n : Nat) {pc : Nat} {L : Lc} {st : List Vl} {S : Ly} {M : Mm} (h : MOk M → wp d 0 0 0 0 mH_keyAt 0 false true (some .int) Φ pH_keyAt sp n pc L st S M) : AJ d 0 0 mH_keyAt Φ 0 0 pc L st S M := aj_wp moH_keyAt sp n h
theorem eH_keyAt {d : Nat} {Φ : Option Vl → Ly → Mm → Prop} (sp : List Nat) (n : Nat) {as : List Vl} (hn : as.length ≤ 2) {S : Ly} {M : Mm} (h : MOk M → wp d 0 0 0 0 mH_keyAt 0 false true (some .int) Φ pH_keyAt sp n 0 (as.map some) [] S M) : Ret d 0 0 mH_keyAt as S M Φ := ret_wp moH_keyAt (by rw [mtb0_len]; decide) (fun r h => by cases (show some rH_keyAt = some r from h); rfl) sp n hn h
def pK_at : List En := [(0, .iload_n 1, 1, []),
  (1, .ifCond .lt 15, 4, [(0, 16)]),
  (4, .iload_n 1, 5, []),
  (5, .aload_n 0, 6, []),
  (6, .arraylength, 7, []),
  (7, .if_icmp .ge 9, 10, [(0, 16)]),
  (10, .aload_n 0, 11, []),
  (11, .iload_n 1, 12, []),
  (12, .iaload, 13, []),
  (13, .goto 5, 16, [(0, 18)]),
  (16, .bipush (-9), 18, []),
  (18, .ireturn, 19, [])]
set_option maxRecDepth 100000 in
theorem moK_at : MO mK_at 4 false (some .int) pK_at := ⟨rK_at, rfl, rfl, by decide, rfl, (fun h => by cases h), (by decide +kernel)⟩
theorem aK_at {d : Nat} {Φ : Option Vl → Ly → Mm → Prop} (sp : List Nat) (n : Nat) {pc : Nat} {L : Lc} {st : List Vl} {S : Ly} {M : Mm} (h : MOk M → wp d 0 0 0 0 mK_at 4 false true (some .int) Φ pK_at sp n pc L st S M) : AJ d 0 0 mK_at Φ 0 0 pc L st S M := aj_wp moK_at sp n h
theorem eK_at {d : Nat} {Φ : Option Vl → Ly → Mm → Prop} (sp : List Nat) (n : Nat) {as : List Vl} (hn : as.length ≤ 2) {S : Ly} {M : Mm} (h : MOk M → wp d 0 0 0 0 mK_at 4 false true (some .int) Φ pK_at sp n 0 (as.map some) [] S M) : Ret d 0 0 mK_at as S M Φ := ret_wp moK_at (by rw [mtb0_len]; decide) (fun r h => by cases (show some rK_at = some r from h); rfl) sp n hn h
def pH_give : List En := [(0, .aload_n 0, 1, []),
  (1, .iload_n 1, 2, []),
  (2, .invokevirtual 39, 5, []),
  (5, .iload_n 2, 6, []),
  (6, .if_icmp .eq 26, 9, [(0, 32)]),
  (9, .aload_n 0, 10, []),
  (10, .getfield 9, 13, []),
  (13, .iload_n 1, 14, []),
  (14, .iload_n 2, 15, []),
  (15, .invokestatic 35, 18, []),
  (18, .aload_n 0, 19, []),
  (19, .getfield 15, 22, []),
  (22, .iload_n 1, 23, []),
  (23, .bipush (-9), 25, []),
  (25, .invokestatic 35, 28, []),
  (28, .aload_n 0, 29, []),
  (29, .invokevirtual 43, 32, []),
  (32, .return_, 33, [])]
set_option maxRecDepth 100000 in
theorem moH_give : MO mH_give 0 false none pH_give := ⟨rH_give, rfl, rfl, by decide, rfl, (fun h => by cases h), (by decide +kernel)⟩
theorem aH_give {d : Nat} {Φ : Option Vl → Ly → Mm → Prop} (sp : List Nat) (n : Nat) {pc : Nat} {L : Lc} {st : List Vl} {S : Ly} {M : Mm} (h : MOk M → wp d 0 0 0 0 mH_give 0 false true none Φ pH_give sp n pc L st S M) : AJ d 0 0 mH_give Φ 0 0 pc L st S M := aj_wp moH_give sp n h
theorem eH_give {d : Nat} {Φ : Option Vl → Ly → Mm → Prop} (sp : List Nat) (n : Nat) {as : List Vl} (hn : as.length ≤ 3) {S : Ly} {M : Mm} (h : MOk M → wp d 0 0 0 0 mH_give 0 false true none Φ pH_give sp n 0 (as.map some) [] S M) : Ret d 0 0 mH_give as S M Φ := ret_wp moH_give (by rw [mtb0_len]; decide) (fun r h => by cases (show some rH_give = some r from h); rfl) sp n hn h
def pK_store : List En := [(0, .iload_n 1, 1, []),
  (1, .ifCond .lt 13, 4, [(0, 14)]),
  (4, .iload_n 1, 5, []),
  (5, .aload_n 0, 6, []),
  (6, .arraylength, 7, []),
  (7, .if_icmp .ge 7, 10, [(0, 14)]),
  (10, .aload_n 0, 11, []),
  (11, .iload_n 1, 12, []),
  (12, .iload_n 2, 13, []),
  (13, .iastore, 14, []),
  (14, .return_, 15, [])]
set_option maxRecDepth 100000 in
theorem moK_store : MO mK_store 4 false none pK_store := ⟨rK_store, rfl, rfl, by decide, rfl, (fun h => by cases h), (by decide +kernel)⟩
theorem aK_store {d : Nat} {Φ : Option Vl → Ly → Mm → Prop} (sp : List Nat) (n : Nat) {pc : Nat} {L : Lc} {st : List Vl} {S : Ly} {M : Mm} (h : MOk M → wp d 0 0 0 0 mK_store 4 false true none Φ pK_store sp n pc L st S M) : AJ d 0 0 mK_store Φ 0 0 pc L st S M := aj_wp moK_store sp n h
theorem eK_store {d : Nat} {Φ : Option Vl → Ly → Mm → Prop} (sp : List Nat) (n : Nat) {as : List Vl} (hn : as.length ≤ 3) {S : Ly} {M : Mm} (h : MOk M → wp d 0 0 0 0 mK_store 4 false true none Φ pK_store sp n 0 (as.map some) [] S M) : Ret d 0 0 mK_store as S M Φ := ret_wp moK_store (by rw [mtb0_len]; decide) (fun r h => by cases (show some rK_store = some r from h); rfl) sp n hn h
def pH_renumber : List En := [(0, .aload_n 0, 1, []),
  (1, .iconst 0, 2, []),
  (2, .putfield 46, 5, []),
  (5, .iconst 0, 6, []),
  (6, .istore_n 1, 7, []),
  (7, .iload_n 1, 8, []),
  (8, .bipush 30, 10, []),
  (10, .if_icmp .ge 44, 13, [(0, 54)]),
  (13, .aload_n 0, 14, []),
  (14, .getfield 9, 17, []),
  (17, .iload_n 1, 18, []),
  (18, .invokestatic 31, 21, []),
  (21, .bipush (-9), 23, []),
  (23, .if_icmp .eq 25, 26, [(0, 48)]),
  (26, .aload_n 0, 27, []),
  (27, .getfield 18, 30, []),
  (30, .aload_n 0, 31, []),
  (31, .getfield 46, 34, []),
  (34, .iload_n 1, 35, []),
  (35, .invokestatic 35, 38, []),
  (38, .aload_n 0, 39, []),
  (39, .dup, 40, []),
  (40, .getfield 46, 43, []),
  (43, .iconst 1, 44, []),
  (44, .iadd, 45, []),
  (45, .putfield 46, 48, []),
  (48, .iinc 1 1, 51, []),
  (51, .goto (-44), 54, [(0, 7)]),
  (54, .return_, 55, [])]
set_option maxRecDepth 100000 in
theorem moH_renumber : MO mH_renumber 0 false none pH_renumber := ⟨rH_renumber, rfl, rfl, by decide, rfl, (fun h => by cases h), (by decide +kernel)⟩
theorem aH_renumber {d : Nat} {Φ : Option Vl → Ly → Mm → Prop} (sp : List Nat) (n : Nat) {pc : Nat} {L : Lc} {st : List Vl} {S : Ly} {M : Mm} (h : MOk M → wp d 0 0 0 0 mH_renumber 0 false true none Φ pH_renumber sp n pc L st S M) : AJ d 0 0 mH_renumber Φ 0 0 pc L st S M := aj_wp moH_renumber sp n h
theorem eH_renumber {d : Nat} {Φ : Option Vl → Ly → Mm → Prop} (sp : List Nat) (n : Nat) {as : List Vl} (hn : as.length ≤ 2) {S : Ly} {M : Mm} (h : MOk M → wp d 0 0 0 0 mH_renumber 0 false true none Φ pH_renumber sp n 0 (as.map some) [] S M) : Ret d 0 0 mH_renumber as S M Φ := ret_wp moH_renumber (by rw [mtb0_len]; decide) (fun r h => by cases (show some rH_renumber = some r from h); rfl) sp n hn h
def pK_mark : List En := [(0, .iload_n 1, 1, []),
  (1, .invokestatic 44, 4, []),
  (4, .ifCond .eq 10, 7, [(0, 14)]),
  (7, .iload_n 2, 8, []),
  (8, .invokestatic 48, 11, []),
  (11, .ifCond .ne 5, 14, [(0, 16)]),
  (14, .iconst (-1), 15, []),
  (15, .ireturn, 16, []),
  (16, .iload_n 3, 17, []),
  (17, .bipush (-9), 19, []),
  (19, .if_icmp .eq 13, 22, [(0, 32)]),
  (22, .iload_n 3, 23, []),
  (23, .invokestatic 66, 26, []),
  (26, .ifCond .ne 6, 29, [(0, 32)]),
  (29, .bipush (-2), 31, []),
  (31, .ireturn, 32, []),
  (32, .aload_n 0, 33, []),
  (33, .iload_n 1, 34, []),
  (34, .invokevirtual 54, 37, []),
  (37, .astore 4, 39, []),
  (39, .aload 4, 41, []),
  (41, .iload_n 2, 42, []),
  (42, .invokevirtual 58, 45, []),
  (45, .bipush (-9), 47, []),
  (47, .if_icmp .ne 6, 50, [(0, 53)]),
  (50, .bipush (-3), 52, []),
  (52, .ireturn, 53, []),
  (53, .aload 4, 55, []),
  (55, .iload_n 2, 56, []),
  (56, .invokevirtual 69, 59, []),
  (59, .istore 5, 61, []),
  (61, .aload 4, 63, []),
  (63, .iload_n 2, 64, []),
  (64, .iload_n 3, 65, []),
  (65, .invokevirtual 72, 68, []),
  (68, .iload 5, 70, []),
  (70, .ireturn, 71, [])]
set_option maxRecDepth 100000 in
theorem moK_mark : MO mK_mark 4 false (some .int) pK_mark := ⟨rK_mark, rfl, rfl, by decide, rfl, (fun h => by cases h), (by decide +kernel)⟩
theorem aK_mark {d : Nat} {Φ : Option Vl → Ly → Mm → Prop} (sp : List Nat) (n : Nat) {pc : Nat} {L : Lc} {st : List Vl} {S : Ly} {M : Mm} (h : MOk M → wp d 0 0 0 0 mK_mark 4 false true (some .int) Φ pK_mark sp n pc L st S M) : AJ d 0 0 mK_mark Φ 0 0 pc L st S M := aj_wp moK_mark sp n h
theorem eK_mark {d : Nat} {Φ : Option Vl → Ly → Mm → Prop} (sp : List Nat) (n : Nat) {as : List Vl} (hn : as.length ≤ 6) {S : Ly} {M : Mm} (h : MOk M → wp d 0 0 0 0 mK_mark 4 false true (some .int) Φ pK_mark sp n 0 (as.map some) [] S M) : Ret d 0 0 mK_mark as S M Φ := ret_wp moK_mark (by rw [mtb0_len]; decide) (fun r h => by cases (show some rK_mark = some r from h); rfl) sp n hn h
def pK_isFinger : List En := [(0, .iload_n 0, 1, []),
  (1, .iconst 1, 2, []),
  (2, .if_icmp .lt 12, 5, [(0, 14)]),
  (5, .iload_n 0, 6, []),
  (6, .iconst 5, 7, []),
  (7, .if_icmp .gt 7, 10, [(0, 14)]),
  (10, .iconst 1, 11, []),
  (11, .goto 4, 14, [(0, 15)]),
  (14, .iconst 0, 15, []),
  (15, .ireturn, 16, [])]
set_option maxRecDepth 100000 in
theorem moK_isFinger : MO mK_isFinger 4 false (some .boolean) pK_isFinger := ⟨rK_isFinger, rfl, rfl, by decide, rfl, (fun h => by cases h), (by decide +kernel)⟩
theorem aK_isFinger {d : Nat} {Φ : Option Vl → Ly → Mm → Prop} (sp : List Nat) (n : Nat) {pc : Nat} {L : Lc} {st : List Vl} {S : Ly} {M : Mm} (h : MOk M → wp d 0 0 0 0 mK_isFinger 4 false true (some .boolean) Φ pK_isFinger sp n pc L st S M) : AJ d 0 0 mK_isFinger Φ 0 0 pc L st S M := aj_wp moK_isFinger sp n h
theorem eK_isFinger {d : Nat} {Φ : Option Vl → Ly → Mm → Prop} (sp : List Nat) (n : Nat) {as : List Vl} (hn : as.length ≤ 1) {S : Ly} {M : Mm} (h : MOk M → wp d 0 0 0 0 mK_isFinger 4 false true (some .boolean) Φ pK_isFinger sp n 0 (as.map some) [] S M) : Ret d 0 0 mK_isFinger as S M Φ := ret_wp moK_isFinger (by rw [mtb0_len]; decide) (fun r h => by cases (show some rK_isFinger = some r from h); rfl) sp n hn h
def pH_markAt : List En := [(0, .aload_n 0, 1, []),
  (1, .getfield 15, 4, []),
  (4, .iload_n 1, 5, []),
  (5, .invokestatic 31, 8, []),
  (8, .ireturn, 9, [])]
set_option maxRecDepth 100000 in
theorem moH_markAt : MO mH_markAt 0 false (some .int) pH_markAt := ⟨rH_markAt, rfl, rfl, by decide, rfl, (fun h => by cases h), (by decide +kernel)⟩
theorem aH_markAt {d : Nat} {Φ : Option Vl → Ly → Mm → Prop} (sp : List Nat) (n : Nat) {pc : Nat} {L : Lc} {st : List Vl} {S : Ly} {M : Mm} (h : MOk M → wp d 0 0 0 0 mH_markAt 0 false true (some .int) Φ pH_markAt sp n pc L st S M) : AJ d 0 0 mH_markAt Φ 0 0 pc L st S M := aj_wp moH_markAt sp n h
theorem eH_markAt {d : Nat} {Φ : Option Vl → Ly → Mm → Prop} (sp : List Nat) (n : Nat) {as : List Vl} (hn : as.length ≤ 2) {S : Ly} {M : Mm} (h : MOk M → wp d 0 0 0 0 mH_markAt 0 false true (some .int) Φ pH_markAt sp n 0 (as.map some) [] S M) : Ret d 0 0 mH_markAt as S M Φ := ret_wp moH_markAt (by rw [mtb0_len]; decide) (fun r h => by cases (show some rH_markAt = some r from h); rfl) sp n hn h
def pH_setMark : List En := [(0, .aload_n 0, 1, []),
  (1, .getfield 15, 4, []),
  (4, .iload_n 1, 5, []),
  (5, .iload_n 2, 6, []),
  (6, .invokestatic 35, 9, []),
  (9, .return_, 10, [])]
set_option maxRecDepth 100000 in
theorem moH_setMark : MO mH_setMark 0 false none pH_setMark := ⟨rH_setMark, rfl, rfl, by decide, rfl, (fun h => by cases h), (by decide +kernel)⟩
theorem aH_setMark {d : Nat} {Φ : Option Vl → Ly → Mm → Prop} (sp : List Nat) (n : Nat) {pc : Nat} {L : Lc} {st : List Vl} {S : Ly} {M : Mm} (h : MOk M → wp d 0 0 0 0 mH_setMark 0 false true none Φ pH_setMark sp n pc L st S M) : AJ d 0 0 mH_setMark Φ 0 0 pc L st S M := aj_wp moH_setMark sp n h
theorem eH_setMark {d : Nat} {Φ : Option Vl → Ly → Mm → Prop} (sp : List Nat) (n : Nat) {as : List Vl} (hn : as.length ≤ 3) {S : Ly} {M : Mm} (h : MOk M → wp d 0 0 0 0 mH_setMark 0 false true none Φ pH_setMark sp n 0 (as.map some) [] S M) : Ret d 0 0 mH_setMark as S M Φ := ret_wp moH_setMark (by rw [mtb0_len]; decide) (fun r h => by cases (show some rH_setMark = some r from h); rfl) sp n hn h
def pK_reach : List En := [(0, .iload_n 1, 1, []),
  (1, .invokestatic 66, 4, []),
  (4, .ifCond .eq 10, 7, [(0, 14)]),
  (7, .iload_n 2, 8, []),
  (8, .invokestatic 66, 11, []),
  (11, .ifCond .ne 5, 14, [(0, 16)]),
  (14, .iconst (-1), 15, []),
  (15, .ireturn, 16, []),
  (16, .iload_n 3, 17, []),
  (17, .ifCond .lt 23, 20, [(0, 40)]),
  (20, .iload 4, 22, []),
  (22, .iload_n 3, 23, []),
  (23, .if_icmp .lt 17, 26, [(0, 40)]),
  (26, .iload 5, 28, []),
  (28, .iload 4, 30, []),
  (30, .if_icmp .lt 10, 33, [(0, 40)]),
  (33, .iload 5, 35, []),
  (35, .bipush 24, 37, []),
  (37, .if_icmp .le 6, 40, [(0, 43)]),
  (40, .bipush (-2), 42, []),
  (42, .ireturn, 43, []),
  (43, .iload_n 1, 44, []),
  (44, .iload_n 2, 45, []),
  (45, .if_icmp .lt 6, 48, [(0, 51)]),
  (48, .bipush (-3), 50, []),
  (50, .ireturn, 51, []),
  (51, .aload_n 0, 52, []),
  (52, .getfield 10, 55, []),
  (55, .iload_n 1, 56, []),
  (56, .iload_n 2, 57, []),
  (57, .iload_n 3, 58, []),
  (58, .iload 4, 60, []),
  (60, .iload 5, 62, []),
  (62, .invokevirtual 75, 65, []),
  (65, .iconst 1, 66, []),
  (66, .ireturn, 67, [])]
set_option maxRecDepth 100000 in
theorem moK_reach : MO mK_reach 4 false (some .int) pK_reach := ⟨rK_reach, rfl, rfl, by decide, rfl, (fun h => by cases h), (by decide +kernel)⟩
theorem aK_reach {d : Nat} {Φ : Option Vl → Ly → Mm → Prop} (sp : List Nat) (n : Nat) {pc : Nat} {L : Lc} {st : List Vl} {S : Ly} {M : Mm} (h : MOk M → wp d 0 0 0 0 mK_reach 4 false true (some .int) Φ pK_reach sp n pc L st S M) : AJ d 0 0 mK_reach Φ 0 0 pc L st S M := aj_wp moK_reach sp n h
theorem eK_reach {d : Nat} {Φ : Option Vl → Ly → Mm → Prop} (sp : List Nat) (n : Nat) {as : List Vl} (hn : as.length ≤ 6) {S : Ly} {M : Mm} (h : MOk M → wp d 0 0 0 0 mK_reach 4 false true (some .int) Φ pK_reach sp n 0 (as.map some) [] S M) : Ret d 0 0 mK_reach as S M Φ := ret_wp moK_reach (by rw [mtb0_len]; decide) (fun r h => by cases (show some rK_reach = some r from h); rfl) sp n hn h
def pU_setReach : List En := [(0, .iload_n 1, 1, []),
  (1, .iload_n 2, 2, []),
  (2, .invokestatic 37, 5, []),
  (5, .istore 6, 7, []),
  (7, .aload_n 0, 8, []),
  (8, .getfield 26, 11, []),
  (11, .iload 6, 13, []),
  (13, .iload_n 3, 14, []),
  (14, .invokestatic 33, 17, []),
  (17, .aload_n 0, 18, []),
  (18, .getfield 26, 21, []),
  (21, .iload 6, 23, []),
  (23, .iconst 1, 24, []),
  (24, .iadd, 25, []),
  (25, .iload 4, 27, []),
  (27, .invokestatic 33, 30, []),
  (30, .aload_n 0, 31, []),
  (31, .getfield 26, 34, []),
  (34, .iload 6, 36, []),
  (36, .iconst 2, 37, []),
  (37, .iadd, 38, []),
  (38, .iload 5, 40, []),
  (40, .invokestatic 33, 43, []),
  (43, .return_, 44, [])]
set_option maxRecDepth 100000 in
theorem moU_setReach : MO mU_setReach 3 false none pU_setReach := ⟨rU_setReach, rfl, rfl, by decide, rfl, (fun h => by cases h), (by decide +kernel)⟩
theorem aU_setReach {d : Nat} {Φ : Option Vl → Ly → Mm → Prop} (sp : List Nat) (n : Nat) {pc : Nat} {L : Lc} {st : List Vl} {S : Ly} {M : Mm} (h : MOk M → wp d 0 0 0 0 mU_setReach 3 false true none Φ pU_setReach sp n pc L st S M) : AJ d 0 0 mU_setReach Φ 0 0 pc L st S M := aj_wp moU_setReach sp n h
theorem eU_setReach {d : Nat} {Φ : Option Vl → Ly → Mm → Prop} (sp : List Nat) (n : Nat) {as : List Vl} (hn : as.length ≤ 7) {S : Ly} {M : Mm} (h : MOk M → wp d 0 0 0 0 mU_setReach 3 false true none Φ pU_setReach sp n 0 (as.map some) [] S M) : Ret d 0 0 mU_setReach as S M Φ := ret_wp moU_setReach (by rw [mtb0_len]; decide) (fun r h => by cases (show some rU_setReach = some r from h); rfl) sp n hn h
def pU_reachPlace : List En := [(0, .iload_n 0, 1, []),
  (1, .iconst 1, 2, []),
  (2, .isub, 3, []),
  (3, .bipush 10, 5, []),
  (5, .iload_n 0, 6, []),
  (6, .isub, 7, []),
  (7, .imul, 8, []),
  (8, .iconst 2, 9, []),
  (9, .idiv, 10, []),
  (10, .istore_n 2, 11, []),
  (11, .iconst 3, 12, []),
  (12, .iload_n 2, 13, []),
  (13, .iload_n 1, 14, []),
  (14, .iadd, 15, []),
  (15, .iload_n 0, 16, []),
  (16, .isub, 17, []),
  (17, .iconst 1, 18, []),
  (18, .isub, 19, []),
  (19, .imul, 20, []),
  (20, .ireturn, 21, [])]
set_option maxRecDepth 100000 in
theorem moU_reachPlace : MO mU_reachPlace 3 false (some .int) pU_reachPlace := ⟨rU_reachPlace, rfl, rfl, by decide, rfl, (fun h => by cases h), (by decide +kernel)⟩
theorem aU_reachPlace {d : Nat} {Φ : Option Vl → Ly → Mm → Prop} (sp : List Nat) (n : Nat) {pc : Nat} {L : Lc} {st : List Vl} {S : Ly} {M : Mm} (h : MOk M → wp d 0 0 0 0 mU_reachPlace 3 false true (some .int) Φ pU_reachPlace sp n pc L st S M) : AJ d 0 0 mU_reachPlace Φ 0 0 pc L st S M := aj_wp moU_reachPlace sp n h
theorem eU_reachPlace {d : Nat} {Φ : Option Vl → Ly → Mm → Prop} (sp : List Nat) (n : Nat) {as : List Vl} (hn : as.length ≤ 3) {S : Ly} {M : Mm} (h : MOk M → wp d 0 0 0 0 mU_reachPlace 3 false true (some .int) Φ pU_reachPlace sp n 0 (as.map some) [] S M) : Ret d 0 0 mU_reachPlace as S M Φ := ret_wp moU_reachPlace (by rw [mtb0_len]; decide) (fun r h => by cases (show some rU_reachPlace = some r from h); rfl) sp n hn h
def pK_reachOf : List En := [(0, .iload_n 1, 1, []),
  (1, .invokestatic 66, 4, []),
  (4, .ifCond .eq 10, 7, [(0, 14)]),
  (7, .iload_n 2, 8, []),
  (8, .invokestatic 66, 11, []),
  (11, .ifCond .ne 5, 14, [(0, 16)]),
  (14, .iconst (-1), 15, []),
  (15, .ireturn, 16, []),
  (16, .iload_n 3, 17, []),
  (17, .iconst 3, 18, []),
  (18, .invokestatic 79, 21, []),
  (21, .ifCond .ne 6, 24, [(0, 27)]),
  (24, .bipush (-2), 26, []),
  (26, .ireturn, 27, []),
  (27, .iload_n 1, 28, []),
  (28, .iload_n 2, 29, []),
  (29, .if_icmp .ge 16, 32, [(0, 45)]),
  (32, .aload_n 0, 33, []),
  (33, .getfield 10, 36, []),
  (36, .iload_n 1, 37, []),
  (37, .iload_n 2, 38, []),
  (38, .iload_n 3, 39, []),
  (39, .invokevirtual 83, 42, []),
  (42, .goto 5, 45, [(0, 47)]),
  (45, .bipush (-3), 47, []),
  (47, .ireturn, 48, [])]
set_option maxRecDepth 100000 in
theorem moK_reachOf : MO mK_reachOf 4 false (some .int) pK_reachOf := ⟨rK_reachOf, rfl, rfl, by decide, rfl, (fun h => by cases h), (by decide +kernel)⟩
theorem aK_reachOf {d : Nat} {Φ : Option Vl → Ly → Mm → Prop} (sp : List Nat) (n : Nat) {pc : Nat} {L : Lc} {st : List Vl} {S : Ly} {M : Mm} (h : MOk M → wp d 0 0 0 0 mK_reachOf 4 false true (some .int) Φ pK_reachOf sp n pc L st S M) : AJ d 0 0 mK_reachOf Φ 0 0 pc L st S M := aj_wp moK_reachOf sp n h
theorem eK_reachOf {d : Nat} {Φ : Option Vl → Ly → Mm → Prop} (sp : List Nat) (n : Nat) {as : List Vl} (hn : as.length ≤ 4) {S : Ly} {M : Mm} (h : MOk M → wp d 0 0 0 0 mK_reachOf 4 false true (some .int) Φ pK_reachOf sp n 0 (as.map some) [] S M) : Ret d 0 0 mK_reachOf as S M Φ := ret_wp moK_reachOf (by rw [mtb0_len]; decide) (fun r h => by cases (show some rK_reachOf = some r from h); rfl) sp n hn h
def pK_isBelow : List En := [(0, .iload_n 0, 1, []),
  (1, .ifCond .lt 12, 4, [(0, 13)]),
  (4, .iload_n 0, 5, []),
  (5, .iload_n 1, 6, []),
  (6, .if_icmp .ge 7, 9, [(0, 13)]),
  (9, .iconst 1, 10, []),
  (10, .goto 4, 13, [(0, 14)]),
  (13, .iconst 0, 14, []),
  (14, .ireturn, 15, [])]
set_option maxRecDepth 100000 in
theorem moK_isBelow : MO mK_isBelow 4 false (some .boolean) pK_isBelow := ⟨rK_isBelow, rfl, rfl, by decide, rfl, (fun h => by cases h), (by decide +kernel)⟩
theorem aK_isBelow {d : Nat} {Φ : Option Vl → Ly → Mm → Prop} (sp : List Nat) (n : Nat) {pc : Nat} {L : Lc} {st : List Vl} {S : Ly} {M : Mm} (h : MOk M → wp d 0 0 0 0 mK_isBelow 4 false true (some .boolean) Φ pK_isBelow sp n pc L st S M) : AJ d 0 0 mK_isBelow Φ 0 0 pc L st S M := aj_wp moK_isBelow sp n h
theorem eK_isBelow {d : Nat} {Φ : Option Vl → Ly → Mm → Prop} (sp : List Nat) (n : Nat) {as : List Vl} (hn : as.length ≤ 2) {S : Ly} {M : Mm} (h : MOk M → wp d 0 0 0 0 mK_isBelow 4 false true (some .boolean) Φ pK_isBelow sp n 0 (as.map some) [] S M) : Ret d 0 0 mK_isBelow as S M Φ := ret_wp moK_isBelow (by rw [mtb0_len]; decide) (fun r h => by cases (show some rK_isBelow = some r from h); rfl) sp n hn h
def pU_reachPart : List En := [(0, .aload_n 0, 1, []),
  (1, .getfield 26, 4, []),
  (4, .iload_n 1, 5, []),
  (5, .iload_n 2, 6, []),
  (6, .invokestatic 37, 9, []),
  (9, .iload_n 3, 10, []),
  (10, .iadd, 11, []),
  (11, .invokestatic 29, 14, []),
  (14, .ireturn, 15, [])]
set_option maxRecDepth 100000 in
theorem moU_reachPart : MO mU_reachPart 3 false (some .int) pU_reachPart := ⟨rU_reachPart, rfl, rfl, by decide, rfl, (fun h => by cases h), (by decide +kernel)⟩
theorem aU_reachPart {d : Nat} {Φ : Option Vl → Ly → Mm → Prop} (sp : List Nat) (n : Nat) {pc : Nat} {L : Lc} {st : List Vl} {S : Ly} {M : Mm} (h : MOk M → wp d 0 0 0 0 mU_reachPart 3 false true (some .int) Φ pU_reachPart sp n pc L st S M) : AJ d 0 0 mU_reachPart Φ 0 0 pc L st S M := aj_wp moU_reachPart sp n h
theorem eU_reachPart {d : Nat} {Φ : Option Vl → Ly → Mm → Prop} (sp : List Nat) (n : Nat) {as : List Vl} (hn : as.length ≤ 4) {S : Ly} {M : Mm} (h : MOk M → wp d 0 0 0 0 mU_reachPart 3 false true (some .int) Φ pU_reachPart sp n 0 (as.map some) [] S M) : Ret d 0 0 mU_reachPart as S M Φ := ret_wp moU_reachPart (by rw [mtb0_len]; decide) (fun r h => by cases (show some rU_reachPart = some r from h); rfl) sp n hn h
def pK_price : List En := [(0, .iload_n 1, 1, []),
  (1, .bipush 7, 3, []),
  (3, .invokestatic 79, 6, []),
  (6, .ifCond .eq 13, 9, [(0, 19)]),
  (9, .iload_n 2, 10, []),
  (10, .ifCond .lt 9, 13, [(0, 19)]),
  (13, .iload_n 2, 14, []),
  (14, .bipush 20, 16, []),
  (16, .if_icmp .le 6, 19, [(0, 22)]),
  (19, .bipush (-2), 21, []),
  (21, .ireturn, 22, []),
  (22, .aload_n 0, 23, []),
  (23, .getfield 10, 26, []),
  (26, .iload_n 1, 27, []),
  (27, .invokevirtual 87, 30, []),
  (30, .istore_n 3, 31, []),
  (31, .aload_n 0, 32, []),
  (32, .getfield 10, 35, []),
  (35, .iload_n 1, 36, []),
  (36, .iload_n 2, 37, []),
  (37, .invokevirtual 90, 40, []),
  (40, .iload_n 3, 41, []),
  (41, .ireturn, 42, [])]
set_option maxRecDepth 100000 in
theorem moK_price : MO mK_price 4 false (some .int) pK_price := ⟨rK_price, rfl, rfl, by decide, rfl, (fun h => by cases h), (by decide +kernel)⟩
theorem aK_price {d : Nat} {Φ : Option Vl → Ly → Mm → Prop} (sp : List Nat) (n : Nat) {pc : Nat} {L : Lc} {st : List Vl} {S : Ly} {M : Mm} (h : MOk M → wp d 0 0 0 0 mK_price 4 false true (some .int) Φ pK_price sp n pc L st S M) : AJ d 0 0 mK_price Φ 0 0 pc L st S M := aj_wp moK_price sp n h
theorem eK_price {d : Nat} {Φ : Option Vl → Ly → Mm → Prop} (sp : List Nat) (n : Nat) {as : List Vl} (hn : as.length ≤ 4) {S : Ly} {M : Mm} (h : MOk M → wp d 0 0 0 0 mK_price 4 false true (some .int) Φ pK_price sp n 0 (as.map some) [] S M) : Ret d 0 0 mK_price as S M Φ := ret_wp moK_price (by rw [mtb0_len]; decide) (fun r h => by cases (show some rK_price = some r from h); rfl) sp n hn h
def pU_priceOf : List En := [(0, .aload_n 0, 1, []),
  (1, .getfield 18, 4, []),
  (4, .iload_n 1, 5, []),
  (5, .invokestatic 29, 8, []),
  (8, .ireturn, 9, [])]
set_option maxRecDepth 100000 in
theorem moU_priceOf : MO mU_priceOf 3 false (some .int) pU_priceOf := ⟨rU_priceOf, rfl, rfl, by decide, rfl, (fun h => by cases h), (by decide +kernel)⟩
theorem aU_priceOf {d : Nat} {Φ : Option Vl → Ly → Mm → Prop} (sp : List Nat) (n : Nat) {pc : Nat} {L : Lc} {st : List Vl} {S : Ly} {M : Mm} (h : MOk M → wp d 0 0 0 0 mU_priceOf 3 false true (some .int) Φ pU_priceOf sp n pc L st S M) : AJ d 0 0 mU_priceOf Φ 0 0 pc L st S M := aj_wp moU_priceOf sp n h
theorem eU_priceOf {d : Nat} {Φ : Option Vl → Ly → Mm → Prop} (sp : List Nat) (n : Nat) {as : List Vl} (hn : as.length ≤ 2) {S : Ly} {M : Mm} (h : MOk M → wp d 0 0 0 0 mU_priceOf 3 false true (some .int) Φ pU_priceOf sp n 0 (as.map some) [] S M) : Ret d 0 0 mU_priceOf as S M Φ := ret_wp moU_priceOf (by rw [mtb0_len]; decide) (fun r h => by cases (show some rU_priceOf = some r from h); rfl) sp n hn h
def pU_setPrice : List En := [(0, .aload_n 0, 1, []),
  (1, .getfield 18, 4, []),
  (4, .iload_n 1, 5, []),
  (5, .iload_n 2, 6, []),
  (6, .invokestatic 33, 9, []),
  (9, .return_, 10, [])]
set_option maxRecDepth 100000 in
theorem moU_setPrice : MO mU_setPrice 3 false none pU_setPrice := ⟨rU_setPrice, rfl, rfl, by decide, rfl, (fun h => by cases h), (by decide +kernel)⟩
theorem aU_setPrice {d : Nat} {Φ : Option Vl → Ly → Mm → Prop} (sp : List Nat) (n : Nat) {pc : Nat} {L : Lc} {st : List Vl} {S : Ly} {M : Mm} (h : MOk M → wp d 0 0 0 0 mU_setPrice 3 false true none Φ pU_setPrice sp n pc L st S M) : AJ d 0 0 mU_setPrice Φ 0 0 pc L st S M := aj_wp moU_setPrice sp n h
theorem eU_setPrice {d : Nat} {Φ : Option Vl → Ly → Mm → Prop} (sp : List Nat) (n : Nat) {as : List Vl} (hn : as.length ≤ 3) {S : Ly} {M : Mm} (h : MOk M → wp d 0 0 0 0 mU_setPrice 3 false true none Φ pU_setPrice sp n 0 (as.map some) [] S M) : Ret d 0 0 mU_setPrice as S M Φ := ret_wp moU_setPrice (by rw [mtb0_len]; decide) (fun r h => by cases (show some rU_setPrice = some r from h); rfl) sp n hn h
def pK_clear : List En := [(0, .iload_n 1, 1, []),
  (1, .invokestatic 44, 4, []),
  (4, .ifCond .ne 5, 7, [(0, 9)]),
  (7, .iconst (-1), 8, []),
  (8, .ireturn, 9, []),
  (9, .aload_n 0, 10, []),
  (10, .iload_n 1, 11, []),
  (11, .invokevirtual 54, 14, []),
  (14, .astore_n 2, 15, []),
  (15, .aload_n 2, 16, []),
  (16, .invokevirtual 93, 19, []),
  (19, .istore_n 3, 20, []),
  (20, .aload_n 2, 21, []),
  (21, .invokevirtual 97, 24, []),
  (24, .iload_n 3, 25, []),
  (25, .ireturn, 26, [])]
set_option maxRecDepth 100000 in
theorem moK_clear : MO mK_clear 4 false (some .int) pK_clear := ⟨rK_clear, rfl, rfl, by decide, rfl, (fun h => by cases h), (by decide +kernel)⟩
theorem aK_clear {d : Nat} {Φ : Option Vl → Ly → Mm → Prop} (sp : List Nat) (n : Nat) {pc : Nat} {L : Lc} {st : List Vl} {S : Ly} {M : Mm} (h : MOk M → wp d 0 0 0 0 mK_clear 4 false true (some .int) Φ pK_clear sp n pc L st S M) : AJ d 0 0 mK_clear Φ 0 0 pc L st S M := aj_wp moK_clear sp n h
theorem eK_clear {d : Nat} {Φ : Option Vl → Ly → Mm → Prop} (sp : List Nat) (n : Nat) {as : List Vl} (hn : as.length ≤ 4) {S : Ly} {M : Mm} (h : MOk M → wp d 0 0 0 0 mK_clear 4 false true (some .int) Φ pK_clear sp n 0 (as.map some) [] S M) : Ret d 0 0 mK_clear as S M Φ := ret_wp moK_clear (by rw [mtb0_len]; decide) (fun r h => by cases (show some rK_clear = some r from h); rfl) sp n hn h
def pH_noteCount : List En := [(0, .aload_n 0, 1, []),
  (1, .getfield 46, 4, []),
  (4, .ireturn, 5, [])]
set_option maxRecDepth 100000 in
theorem moH_noteCount : MO mH_noteCount 0 false (some .int) pH_noteCount := ⟨rH_noteCount, rfl, rfl, by decide, rfl, (fun h => by cases h), (by decide +kernel)⟩
theorem aH_noteCount {d : Nat} {Φ : Option Vl → Ly → Mm → Prop} (sp : List Nat) (n : Nat) {pc : Nat} {L : Lc} {st : List Vl} {S : Ly} {M : Mm} (h : MOk M → wp d 0 0 0 0 mH_noteCount 0 false true (some .int) Φ pH_noteCount sp n pc L st S M) : AJ d 0 0 mH_noteCount Φ 0 0 pc L st S M := aj_wp moH_noteCount sp n h
theorem eH_noteCount {d : Nat} {Φ : Option Vl → Ly → Mm → Prop} (sp : List Nat) (n : Nat) {as : List Vl} (hn : as.length ≤ 1) {S : Ly} {M : Mm} (h : MOk M → wp d 0 0 0 0 mH_noteCount 0 false true (some .int) Φ pH_noteCount sp n 0 (as.map some) [] S M) : Ret d 0 0 mH_noteCount as S M Φ := ret_wp moH_noteCount (by rw [mtb0_len]; decide) (fun r h => by cases (show some rH_noteCount = some r from h); rfl) sp n hn h
def pH_restAlways : List En := [(0, .aload_n 0, 1, []),
  (1, .getfield 9, 4, []),
  (4, .bipush (-9), 6, []),
  (6, .invokestatic 25, 9, []),
  (9, .aload_n 0, 10, []),
  (10, .getfield 15, 13, []),
  (13, .bipush (-9), 15, []),
  (15, .invokestatic 25, 18, []),
  (18, .aload_n 0, 19, []),
  (19, .iconst 0, 20, []),
  (20, .putfield 46, 23, []),
  (23, .aload_n 0, 24, []),
  (24, .invokevirtual 49, 27, []),
  (27, .return_, 28, [])]
set_option maxRecDepth 100000 in
theorem moH_restAlways : MO mH_restAlways 0 false none pH_restAlways := ⟨rH_restAlways, rfl, rfl, by decide, rfl, (fun h => by cases h), (by decide +kernel)⟩
theorem aH_restAlways {d : Nat} {Φ : Option Vl → Ly → Mm → Prop} (sp : List Nat) (n : Nat) {pc : Nat} {L : Lc} {st : List Vl} {S : Ly} {M : Mm} (h : MOk M → wp d 0 0 0 0 mH_restAlways 0 false true none Φ pH_restAlways sp n pc L st S M) : AJ d 0 0 mH_restAlways Φ 0 0 pc L st S M := aj_wp moH_restAlways sp n h
theorem eH_restAlways {d : Nat} {Φ : Option Vl → Ly → Mm → Prop} (sp : List Nat) (n : Nat) {as : List Vl} (hn : as.length ≤ 1) {S : Ly} {M : Mm} (h : MOk M → wp d 0 0 0 0 mH_restAlways 0 false true none Φ pH_restAlways sp n 0 (as.map some) [] S M) : Ret d 0 0 mH_restAlways as S M Φ := ret_wp moH_restAlways (by rw [mtb0_len]; decide) (fun r h => by cases (show some rH_restAlways = some r from h); rfl) sp n hn h
def pH_dropTie : List En := [(0, .aload_n 0, 1, []),
  (1, .iconst 0, 2, []),
  (2, .putfield 58, 5, []),
  (5, .return_, 6, [])]
set_option maxRecDepth 100000 in
theorem moH_dropTie : MO mH_dropTie 0 false none pH_dropTie := ⟨rH_dropTie, rfl, rfl, by decide, rfl, (fun h => by cases h), (by decide +kernel)⟩
theorem aH_dropTie {d : Nat} {Φ : Option Vl → Ly → Mm → Prop} (sp : List Nat) (n : Nat) {pc : Nat} {L : Lc} {st : List Vl} {S : Ly} {M : Mm} (h : MOk M → wp d 0 0 0 0 mH_dropTie 0 false true none Φ pH_dropTie sp n pc L st S M) : AJ d 0 0 mH_dropTie Φ 0 0 pc L st S M := aj_wp moH_dropTie sp n h
theorem eH_dropTie {d : Nat} {Φ : Option Vl → Ly → Mm → Prop} (sp : List Nat) (n : Nat) {as : List Vl} (hn : as.length ≤ 1) {S : Ly} {M : Mm} (h : MOk M → wp d 0 0 0 0 mH_dropTie 0 false true none Φ pH_dropTie sp n 0 (as.map some) [] S M) : Ret d 0 0 mH_dropTie as S M Φ := ret_wp moH_dropTie (by rw [mtb0_len]; decide) (fun r h => by cases (show some rH_dropTie = some r from h); rfl) sp n hn h
def pK_note : List En := [(0, .aload_n 0, 1, []),
  (1, .iload_n 1, 2, []),
  (2, .iload_n 2, 3, []),
  (3, .invokevirtual 100, 6, []),
  (6, .ifCond .ne 5, 9, [(0, 11)]),
  (9, .iconst (-1), 10, []),
  (10, .ireturn, 11, []),
  (11, .aload_n 0, 12, []),
  (12, .iload_n 1, 13, []),
  (13, .invokevirtual 54, 16, []),
  (16, .astore 4, 18, []),
  (18, .iload_n 3, 19, []),
  (19, .tableswitch 68 0 3 #[29, 36, 43, 50], 48, [(0, 87), (0, 48), (1, 55), (2, 62), (3, 69)]),
  (48, .aload 4, 50, []),
  (50, .iload_n 2, 51, []),
  (51, .invokevirtual 103, 54, []),
  (54, .ireturn, 55, []),
  (55, .aload 4, 57, []),
  (57, .iload_n 2, 58, []),
  (58, .invokevirtual 106, 61, []),
  (61, .ireturn, 62, []),
  (62, .aload 4, 64, []),
  (64, .iload_n 2, 65, []),
  (65, .invokevirtual 109, 68, []),
  (68, .ireturn, 69, []),
  (69, .aload 4, 71, []),
  (71, .iload_n 2, 72, []),
  (72, .invokevirtual 106, 75, []),
  (75, .invokestatic 112, 78, []),
  (78, .ifCond .eq 7, 81, [(0, 85)]),
  (81, .iconst 1, 82, []),
  (82, .goto 4, 85, [(0, 86)]),
  (85, .iconst 0, 86, []),
  (86, .ireturn, 87, []),
  (87, .bipush (-2), 89, []),
  (89, .ireturn, 90, [])]
set_option maxRecDepth 100000 in
theorem moK_note : MO mK_note 4 false (some .int) pK_note := ⟨rK_note, rfl, rfl, by decide, rfl, (fun h => by cases h), (by decide +kernel)⟩
theorem aK_note {d : Nat} {Φ : Option Vl → Ly → Mm → Prop} (sp : List Nat) (n : Nat) {pc : Nat} {L : Lc} {st : List Vl} {S : Ly} {M : Mm} (h : MOk M → wp d 0 0 0 0 mK_note 4 false true (some .int) Φ pK_note sp n pc L st S M) : AJ d 0 0 mK_note Φ 0 0 pc L st S M := aj_wp moK_note sp n h
theorem eK_note {d : Nat} {Φ : Option Vl → Ly → Mm → Prop} (sp : List Nat) (n : Nat) {as : List Vl} (hn : as.length ≤ 5) {S : Ly} {M : Mm} (h : MOk M → wp d 0 0 0 0 mK_note 4 false true (some .int) Φ pK_note sp n 0 (as.map some) [] S M) : Ret d 0 0 mK_note as S M Φ := ret_wp moK_note (by rw [mtb0_len]; decide) (fun r h => by cases (show some rK_note = some r from h); rfl) sp n hn h
def pK_isNote : List En := [(0, .iload_n 1, 1, []),
  (1, .invokestatic 44, 4, []),
  (4, .ifCond .eq 23, 7, [(0, 27)]),
  (7, .iload_n 2, 8, []),
  (8, .ifCond .lt 19, 11, [(0, 27)]),
  (11, .iload_n 2, 12, []),
  (12, .aload_n 0, 13, []),
  (13, .iload_n 1, 14, []),
  (14, .invokevirtual 54, 17, []),
  (17, .invokevirtual 93, 20, []),
  (20, .if_icmp .ge 7, 23, [(0, 27)]),
  (23, .iconst 1, 24, []),
  (24, .goto 4, 27, [(0, 28)]),
  (27, .iconst 0, 28, []),
  (28, .ireturn, 29, [])]
set_option maxRecDepth 100000 in
theorem moK_isNote : MO mK_isNote 4 false (some .boolean) pK_isNote := ⟨rK_isNote, rfl, rfl, by decide, rfl, (fun h => by cases h), (by decide +kernel)⟩
theorem aK_isNote {d : Nat} {Φ : Option Vl → Ly → Mm → Prop} (sp : List Nat) (n : Nat) {pc : Nat} {L : Lc} {st : List Vl} {S : Ly} {M : Mm} (h : MOk M → wp d 0 0 0 0 mK_isNote 4 false true (some .boolean) Φ pK_isNote sp n pc L st S M) : AJ d 0 0 mK_isNote Φ 0 0 pc L st S M := aj_wp moK_isNote sp n h
theorem eK_isNote {d : Nat} {Φ : Option Vl → Ly → Mm → Prop} (sp : List Nat) (n : Nat) {as : List Vl} (hn : as.length ≤ 3) {S : Ly} {M : Mm} (h : MOk M → wp d 0 0 0 0 mK_isNote 4 false true (some .boolean) Φ pK_isNote sp n 0 (as.map some) [] S M) : Ret d 0 0 mK_isNote as S M Φ := ret_wp moK_isNote (by rw [mtb0_len]; decide) (fun r h => by cases (show some rK_isNote = some r from h); rfl) sp n hn h
def pH_momentOf : List En := [(0, .aload_n 0, 1, []),
  (1, .getfield 18, 4, []),
  (4, .iload_n 1, 5, []),
  (5, .invokestatic 31, 8, []),
  (8, .ireturn, 9, [])]
set_option maxRecDepth 100000 in
theorem moH_momentOf : MO mH_momentOf 0 false (some .int) pH_momentOf := ⟨rH_momentOf, rfl, rfl, by decide, rfl, (fun h => by cases h), (by decide +kernel)⟩
theorem aH_momentOf {d : Nat} {Φ : Option Vl → Ly → Mm → Prop} (sp : List Nat) (n : Nat) {pc : Nat} {L : Lc} {st : List Vl} {S : Ly} {M : Mm} (h : MOk M → wp d 0 0 0 0 mH_momentOf 0 false true (some .int) Φ pH_momentOf sp n pc L st S M) : AJ d 0 0 mH_momentOf Φ 0 0 pc L st S M := aj_wp moH_momentOf sp n h
theorem eH_momentOf {d : Nat} {Φ : Option Vl → Ly → Mm → Prop} (sp : List Nat) (n : Nat) {as : List Vl} (hn : as.length ≤ 2) {S : Ly} {M : Mm} (h : MOk M → wp d 0 0 0 0 mH_momentOf 0 false true (some .int) Φ pH_momentOf sp n 0 (as.map some) [] S M) : Ret d 0 0 mH_momentOf as S M Φ := ret_wp moH_momentOf (by rw [mtb0_len]; decide) (fun r h => by cases (show some rH_momentOf = some r from h); rfl) sp n hn h
def pH_keyOf : List En := [(0, .aload_n 0, 1, []),
  (1, .getfield 9, 4, []),
  (4, .aload_n 0, 5, []),
  (5, .getfield 18, 8, []),
  (8, .iload_n 1, 9, []),
  (9, .invokestatic 31, 12, []),
  (12, .invokestatic 31, 15, []),
  (15, .ireturn, 16, [])]
set_option maxRecDepth 100000 in
theorem moH_keyOf : MO mH_keyOf 0 false (some .int) pH_keyOf := ⟨rH_keyOf, rfl, rfl, by decide, rfl, (fun h => by cases h), (by decide +kernel)⟩
theorem aH_keyOf {d : Nat} {Φ : Option Vl → Ly → Mm → Prop} (sp : List Nat) (n : Nat) {pc : Nat} {L : Lc} {st : List Vl} {S : Ly} {M : Mm} (h : MOk M → wp d 0 0 0 0 mH_keyOf 0 false true (some .int) Φ pH_keyOf sp n pc L st S M) : AJ d 0 0 mH_keyOf Φ 0 0 pc L st S M := aj_wp moH_keyOf sp n h
theorem eH_keyOf {d : Nat} {Φ : Option Vl → Ly → Mm → Prop} (sp : List Nat) (n : Nat) {as : List Vl} (hn : as.length ≤ 2) {S : Ly} {M : Mm} (h : MOk M → wp d 0 0 0 0 mH_keyOf 0 false true (some .int) Φ pH_keyOf sp n 0 (as.map some) [] S M) : Ret d 0 0 mH_keyOf as S M Φ := ret_wp moH_keyOf (by rw [mtb0_len]; decide) (fun r h => by cases (show some rH_keyOf = some r from h); rfl) sp n hn h
def pH_markOf : List En := [(0, .aload_n 0, 1, []),
  (1, .getfield 15, 4, []),
  (4, .aload_n 0, 5, []),
  (5, .getfield 18, 8, []),
  (8, .iload_n 1, 9, []),
  (9, .invokestatic 31, 12, []),
  (12, .invokestatic 31, 15, []),
  (15, .ireturn, 16, [])]
set_option maxRecDepth 100000 in
theorem moH_markOf : MO mH_markOf 0 false (some .int) pH_markOf := ⟨rH_markOf, rfl, rfl, by decide, rfl, (fun h => by cases h), (by decide +kernel)⟩
theorem aH_markOf {d : Nat} {Φ : Option Vl → Ly → Mm → Prop} (sp : List Nat) (n : Nat) {pc : Nat} {L : Lc} {st : List Vl} {S : Ly} {M : Mm} (h : MOk M → wp d 0 0 0 0 mH_markOf 0 false true (some .int) Φ pH_markOf sp n pc L st S M) : AJ d 0 0 mH_markOf Φ 0 0 pc L st S M := aj_wp moH_markOf sp n h
theorem eH_markOf {d : Nat} {Φ : Option Vl → Ly → Mm → Prop} (sp : List Nat) (n : Nat) {as : List Vl} (hn : as.length ≤ 2) {S : Ly} {M : Mm} (h : MOk M → wp d 0 0 0 0 mH_markOf 0 false true (some .int) Φ pH_markOf sp n 0 (as.map some) [] S M) : Ret d 0 0 mH_markOf as S M Φ := ret_wp moH_markOf (by rw [mtb0_len]; decide) (fun r h => by cases (show some rH_markOf = some r from h); rfl) sp n hn h
def pK_isBlack : List En := [(0, .iload_n 0, 1, []),
  (1, .bipush 12, 3, []),
  (3, .irem, 4, []),
  (4, .tableswitch 58 1 10 #[56, 58, 56, 58, 58, 56, 58, 56, 58, 56], 60, [(0, 62), (1, 60), (2, 62), (3, 60), (4, 62), (5, 62), (6, 60), (7, 62), (8, 60), (9, 62), (10, 60)]),
  (60, .iconst 1, 61, []),
  (61, .ireturn, 62, []),
  (62, .iconst 0, 63, []),
  (63, .ireturn, 64, [])]
set_option maxRecDepth 100000 in
theorem moK_isBlack : MO mK_isBlack 4 false (some .boolean) pK_isBlack := ⟨rK_isBlack, rfl, rfl, by decide, rfl, (fun h => by cases h), (by decide +kernel)⟩
theorem aK_isBlack {d : Nat} {Φ : Option Vl → Ly → Mm → Prop} (sp : List Nat) (n : Nat) {pc : Nat} {L : Lc} {st : List Vl} {S : Ly} {M : Mm} (h : MOk M → wp d 0 0 0 0 mK_isBlack 4 false true (some .boolean) Φ pK_isBlack sp n pc L st S M) : AJ d 0 0 mK_isBlack Φ 0 0 pc L st S M := aj_wp moK_isBlack sp n h
theorem eK_isBlack {d : Nat} {Φ : Option Vl → Ly → Mm → Prop} (sp : List Nat) (n : Nat) {as : List Vl} (hn : as.length ≤ 1) {S : Ly} {M : Mm} (h : MOk M → wp d 0 0 0 0 mK_isBlack 4 false true (some .boolean) Φ pK_isBlack sp n 0 (as.map some) [] S M) : Ret d 0 0 mK_isBlack as S M Φ := ret_wp moK_isBlack (by rw [mtb0_len]; decide) (fun r h => by cases (show some rK_isBlack = some r from h); rfl) sp n hn h
def pK_costs : List En := [(0, .iload_n 2, 1, []),
  (1, .invokestatic 66, 4, []),
  (4, .ifCond .ne 5, 7, [(0, 9)]),
  (7, .iconst (-1), 8, []),
  (8, .ireturn, 9, []),
  (9, .iload_n 1, 10, []),
  (10, .invokestatic 51, 13, []),
  (13, .ifCond .eq 15, 16, [(0, 28)]),
  (16, .aload_n 0, 17, []),
  (17, .getfield 10, 20, []),
  (20, .iload_n 1, 21, []),
  (21, .iload_n 2, 22, []),
  (22, .invokevirtual 115, 25, []),
  (25, .goto 5, 28, [(0, 30)]),
  (28, .bipush (-2), 30, []),
  (30, .ireturn, 31, [])]
set_option maxRecDepth 100000 in
theorem moK_costs : MO mK_costs 4 false (some .int) pK_costs := ⟨rK_costs, rfl, rfl, by decide, rfl, (fun h => by cases h), (by decide +kernel)⟩
theorem aK_costs {d : Nat} {Φ : Option Vl → Ly → Mm → Prop} (sp : List Nat) (n : Nat) {pc : Nat} {L : Lc} {st : List Vl} {S : Ly} {M : Mm} (h : MOk M → wp d 0 0 0 0 mK_costs 4 false true (some .int) Φ pK_costs sp n pc L st S M) : AJ d 0 0 mK_costs Φ 0 0 pc L st S M := aj_wp moK_costs sp n h
theorem eK_costs {d : Nat} {Φ : Option Vl → Ly → Mm → Prop} (sp : List Nat) (n : Nat) {as : List Vl} (hn : as.length ≤ 3) {S : Ly} {M : Mm} (h : MOk M → wp d 0 0 0 0 mK_costs 4 false true (some .int) Φ pK_costs sp n 0 (as.map some) [] S M) : Ret d 0 0 mK_costs as S M Φ := ret_wp moK_costs (by rw [mtb0_len]; decide) (fun r h => by cases (show some rK_costs = some r from h); rfl) sp n hn h
def pU_noteCost : List En := [(0, .iload_n 2, 1, []),
  (1, .iconst 4, 2, []),
  (2, .if_icmp .ne 13, 5, [(0, 15)]),
  (5, .aload_n 0, 6, []),
  (6, .getfield 18, 9, []),
  (9, .bipush 6, 11, []),
  (11, .invokestatic 29, 14, []),
  (14, .ireturn, 15, []),
  (15, .iload_n 2, 16, []),
  (16, .iconst 1, 17, []),
  (17, .if_icmp .ne 19, 20, [(0, 36)]),
  (20, .iload_n 1, 21, []),
  (21, .invokestatic 41, 24, []),
  (24, .ifCond .eq 12, 27, [(0, 36)]),
  (27, .aload_n 0, 28, []),
  (28, .getfield 18, 31, []),
  (31, .iconst 0, 32, []),
  (32, .invokestatic 29, 35, []),
  (35, .ireturn, 36, []),
  (36, .iload_n 2, 37, []),
  (37, .iconst 5, 38, []),
  (38, .if_icmp .ne 21, 41, [(0, 59)]),
  (41, .iload_n 1, 42, []),
  (42, .invokestatic 41, 45, []),
  (45, .ifCond .eq 14, 48, [(0, 59)]),
  (48, .aload_n 0, 49, []),
  (49, .getfield 18, 52, []),
  (52, .iconst 1, 53, []),
  (53, .invokestatic 29, 56, []),
  (56, .goto 4, 59, [(0, 60)]),
  (59, .iconst 0, 60, []),
  (60, .ireturn, 61, [])]
set_option maxRecDepth 100000 in
theorem moU_noteCost : MO mU_noteCost 3 false (some .int) pU_noteCost := ⟨rU_noteCost, rfl, rfl, by decide, rfl, (fun h => by cases h), (by decide +kernel)⟩
theorem aU_noteCost {d : Nat} {Φ : Option Vl → Ly → Mm → Prop} (sp : List Nat) (n : Nat) {pc : Nat} {L : Lc} {st : List Vl} {S : Ly} {M : Mm} (h : MOk M → wp d 0 0 0 0 mU_noteCost 3 false true (some .int) Φ pU_noteCost sp n pc L st S M) : AJ d 0 0 mU_noteCost Φ 0 0 pc L st S M := aj_wp moU_noteCost sp n h
theorem eU_noteCost {d : Nat} {Φ : Option Vl → Ly → Mm → Prop} (sp : List Nat) (n : Nat) {as : List Vl} (hn : as.length ≤ 3) {S : Ly} {M : Mm} (h : MOk M → wp d 0 0 0 0 mU_noteCost 3 false true (some .int) Φ pU_noteCost sp n 0 (as.map some) [] S M) : Ret d 0 0 mU_noteCost as S M Φ := ret_wp moU_noteCost (by rw [mtb0_len]; decide) (fun r h => by cases (show some rU_noteCost = some r from h); rfl) sp n hn h
def pK_step : List En := [(0, .iload_n 1, 1, []),
  (1, .invokestatic 44, 4, []),
  (4, .ifCond .eq 18, 7, [(0, 22)]),
  (7, .iload_n 3, 8, []),
  (8, .invokestatic 66, 11, []),
  (11, .ifCond .eq 11, 14, [(0, 22)]),
  (14, .iload 5, 16, []),
  (16, .invokestatic 66, 19, []),
  (19, .ifCond .ne 5, 22, [(0, 24)]),
  (22, .iconst (-1), 23, []),
  (23, .ireturn, 24, []),
  (24, .iload_n 2, 25, []),
  (25, .invokestatic 51, 28, []),
  (28, .ifCond .eq 11, 31, [(0, 39)]),
  (31, .iload 4, 33, []),
  (33, .invokestatic 51, 36, []),
  (36, .ifCond .ne 6, 39, [(0, 42)]),
  (39, .bipush (-2), 41, []),
  (41, .ireturn, 42, []),
  (42, .aload_n 0, 43, []),
  (43, .getfield 10, 46, []),
  (46, .aload_n 0, 47, []),
  (47, .iload_n 1, 48, []),
  (48, .invokevirtual 54, 51, []),
  (51, .invokevirtual 119, 54, []),
  (54, .iload_n 2, 55, []),
  (55, .iload_n 3, 56, []),
  (56, .iload 4, 58, []),
  (58, .iload 5, 60, []),
  (60, .invokevirtual 122, 63, []),
  (63, .ireturn, 64, [])]
set_option maxRecDepth 100000 in
theorem moK_step : MO mK_step 4 false (some .int) pK_step := ⟨rK_step, rfl, rfl, by decide, rfl, (fun h => by cases h), (by decide +kernel)⟩
theorem aK_step {d : Nat} {Φ : Option Vl → Ly → Mm → Prop} (sp : List Nat) (n : Nat) {pc : Nat} {L : Lc} {st : List Vl} {S : Ly} {M : Mm} (h : MOk M → wp d 0 0 0 0 mK_step 4 false true (some .int) Φ pK_step sp n pc L st S M) : AJ d 0 0 mK_step Φ 0 0 pc L st S M := aj_wp moK_step sp n h
theorem eK_step {d : Nat} {Φ : Option Vl → Ly → Mm → Prop} (sp : List Nat) (n : Nat) {as : List Vl} (hn : as.length ≤ 6) {S : Ly} {M : Mm} (h : MOk M → wp d 0 0 0 0 mK_step 4 false true (some .int) Φ pK_step sp n 0 (as.map some) [] S M) : Ret d 0 0 mK_step as S M Φ := ret_wp moK_step (by rw [mtb0_len]; decide) (fun r h => by cases (show some rK_step = some r from h); rfl) sp n hn h
def pH_side : List En := [(0, .aload_n 0, 1, []),
  (1, .getfield 21, 4, []),
  (4, .ireturn, 5, [])]
set_option maxRecDepth 100000 in
theorem moH_side : MO mH_side 0 false (some .int) pH_side := ⟨rH_side, rfl, rfl, by decide, rfl, (fun h => by cases h), (by decide +kernel)⟩
theorem aH_side {d : Nat} {Φ : Option Vl → Ly → Mm → Prop} (sp : List Nat) (n : Nat) {pc : Nat} {L : Lc} {st : List Vl} {S : Ly} {M : Mm} (h : MOk M → wp d 0 0 0 0 mH_side 0 false true (some .int) Φ pH_side sp n pc L st S M) : AJ d 0 0 mH_side Φ 0 0 pc L st S M := aj_wp moH_side sp n h
theorem eH_side {d : Nat} {Φ : Option Vl → Ly → Mm → Prop} (sp : List Nat) (n : Nat) {as : List Vl} (hn : as.length ≤ 1) {S : Ly} {M : Mm} (h : MOk M → wp d 0 0 0 0 mH_side 0 false true (some .int) Φ pH_side sp n 0 (as.map some) [] S M) : Ret d 0 0 mH_side as S M Φ := ret_wp moH_side (by rw [mtb0_len]; decide) (fun r h => by cases (show some rH_side = some r from h); rfl) sp n hn h
def pU_stepCost : List En := [(0, .iload 4, 2, []),
  (2, .iload_n 2, 3, []),
  (3, .isub, 4, []),
  (4, .iload_n 1, 5, []),
  (5, .imul, 6, []),
  (6, .istore 6, 8, []),
  (8, .iload 6, 10, []),
  (10, .invokestatic 45, 13, []),
  (13, .istore 7, 15, []),
  (15, .iload 6, 17, []),
  (17, .ifCond .ne 22, 20, [(0, 39)]),
  (20, .iload_n 3, 21, []),
  (21, .iload 5, 23, []),
  (23, .if_icmp .ne 14, 26, [(0, 37)]),
  (26, .aload_n 0, 27, []),
  (27, .getfield 18, 30, []),
  (30, .iconst 5, 31, []),
  (31, .invokestatic 29, 34, []),
  (34, .goto 4, 37, [(0, 38)]),
  (37, .iconst 0, 38, []),
  (38, .ireturn, 39, []),
  (39, .iload_n 3, 40, []),
  (40, .iload 5, 42, []),
  (42, .if_icmp .ne 49, 45, [(0, 91)]),
  (45, .iload 7, 47, []),
  (47, .iconst 1, 48, []),
  (48, .if_icmp .ne 22, 51, [(0, 70)]),
  (51, .iload_n 2, 52, []),
  (52, .invokestatic 41, 55, []),
  (55, .ifCond .eq 15, 58, [(0, 70)]),
  (58, .iload 4, 60, []),
  (60, .invokestatic 41, 63, []),
  (63, .ifCond .ne 7, 66, [(0, 70)]),
  (66, .iconst 1, 67, []),
  (67, .goto 4, 70, [(0, 71)]),
  (70, .iconst 0, 71, []),
  (71, .istore 8, 73, []),
  (73, .aload_n 0, 74, []),
  (74, .getfield 18, 77, []),
  (77, .iload 8, 79, []),
  (79, .ifCond .eq 7, 82, [(0, 86)]),
  (82, .iconst 4, 83, []),
  (83, .goto 4, 86, [(0, 87)]),
  (86, .iconst 3, 87, []),
  (87, .invokestatic 29, 90, []),
  (90, .ireturn, 91, []),
  (91, .iload_n 3, 92, []),
  (92, .iload 5, 94, []),
  (94, .invokestatic 51, 97, []),
  (97, .istore 8, 99, []),
  (99, .iload_n 3, 100, []),
  (100, .iload 5, 102, []),
  (102, .invokestatic 54, 105, []),
  (105, .istore 9, 107, []),
  (107, .iload 6, 109, []),
  (109, .ifCond .le 7, 112, [(0, 116)]),
  (112, .iconst 1, 113, []),
  (113, .goto 4, 116, [(0, 117)]),
  (116, .iconst 0, 117, []),
  (117, .iload_n 3, 118, []),
  (118, .iload 5, 120, []),
  (120, .if_icmp .ge 7, 123, [(0, 127)]),
  (123, .iconst 1, 124, []),
  (124, .goto 4, 127, [(0, 128)]),
  (127, .iconst 0, 128, []),
  (128, .if_icmp .ne 17, 131, [(0, 145)]),
  (131, .aload_n 0, 132, []),
  (132, .iload 8, 134, []),
  (134, .iload 9, 136, []),
  (136, .invokestatic 37, 139, []),
  (139, .iload 7, 141, []),
  (141, .invokevirtual 57, 144, []),
  (144, .ireturn, 145, []),
  (145, .iload 8, 147, []),
  (147, .iconst 1, 148, []),
  (148, .if_icmp .ne 19, 151, [(0, 167)]),
  (151, .iload 9, 153, []),
  (153, .iconst 5, 154, []),
  (154, .if_icmp .eq 13, 157, [(0, 167)]),
  (157, .iload 7, 159, []),
  (159, .iconst 5, 160, []),
  (160, .if_icmp .gt 7, 163, [(0, 167)]),
  (163, .iconst 1, 164, []),
  (164, .goto 4, 167, [(0, 168)]),
  (167, .iconst 0, 168, []),
  (168, .istore 10, 170, []),
  (170, .iload 10, 172, []),
  (172, .ifCond .eq 17, 175, [(0, 189)]),
  (175, .aload_n 0, 176, []),
  (176, .getfield 18, 179, []),
  (179, .iconst 2, 180, []),
  (180, .invokestatic 29, 183, []),
  (183, .iload 7, 185, []),
  (185, .iadd, 186, []),
  (186, .goto 5, 189, [(0, 191)]),
  (189, .bipush (-9), 191, []),
  (191, .ireturn, 192, [])]
set_option maxRecDepth 100000 in
theorem moU_stepCost : MO mU_stepCost 3 false (some .int) pU_stepCost := ⟨rU_stepCost, rfl, rfl, by decide, rfl, (fun h => by cases h), (by decide +kernel)⟩
theorem aU_stepCost {d : Nat} {Φ : Option Vl → Ly → Mm → Prop} (sp : List Nat) (n : Nat) {pc : Nat} {L : Lc} {st : List Vl} {S : Ly} {M : Mm} (h : MOk M → wp d 0 0 0 0 mU_stepCost 3 false true (some .int) Φ pU_stepCost sp n pc L st S M) : AJ d 0 0 mU_stepCost Φ 0 0 pc L st S M := aj_wp moU_stepCost sp n h
theorem eU_stepCost {d : Nat} {Φ : Option Vl → Ly → Mm → Prop} (sp : List Nat) (n : Nat) {as : List Vl} (hn : as.length ≤ 11) {S : Ly} {M : Mm} (h : MOk M → wp d 0 0 0 0 mU_stepCost 3 false true (some .int) Φ pU_stepCost sp n 0 (as.map some) [] S M) : Ret d 0 0 mU_stepCost as S M Φ := ret_wp moU_stepCost (by rw [mtb0_len]; decide) (fun r h => by cases (show some rU_stepCost = some r from h); rfl) sp n hn h
def pU_reachCost : List En := [(0, .iload_n 1, 1, []),
  (1, .ifCond .lt 14, 4, [(0, 15)]),
  (4, .iload_n 1, 5, []),
  (5, .iconst 2, 6, []),
  (6, .iadd, 7, []),
  (7, .aload_n 0, 8, []),
  (8, .getfield 26, 11, []),
  (11, .arraylength, 12, []),
  (12, .if_icmp .lt 6, 15, [(0, 18)]),
  (15, .bipush (-9), 17, []),
  (17, .ireturn, 18, []),
  (18, .iload_n 2, 19, []),
  (19, .aload_n 0, 20, []),
  (20, .getfield 26, 23, []),
  (23, .iload_n 1, 24, []),
  (24, .iaload, 25, []),
  (25, .if_icmp .lt 15, 28, [(0, 40)]),
  (28, .iload_n 2, 29, []),
  (29, .aload_n 0, 30, []),
  (30, .getfield 26, 33, []),
  (33, .iload_n 1, 34, []),
  (34, .iconst 2, 35, []),
  (35, .iadd, 36, []),
  (36, .iaload, 37, []),
  (37, .if_icmp .le 6, 40, [(0, 43)]),
  (40, .bipush (-9), 42, []),
  (42, .ireturn, 43, []),
  (43, .aload_n 0, 44, []),
  (44, .getfield 26, 47, []),
  (47, .iload_n 1, 48, []),
  (48, .iconst 1, 49, []),
  (49, .iadd, 50, []),
  (50, .iaload, 51, []),
  (51, .istore_n 3, 52, []),
  (52, .iload_n 2, 53, []),
  (53, .iload_n 3, 54, []),
  (54, .if_icmp .le 9, 57, [(0, 63)]),
  (57, .iload_n 2, 58, []),
  (58, .iload_n 3, 59, []),
  (59, .isub, 60, []),
  (60, .goto 4, 63, [(0, 64)]),
  (63, .iconst 0, 64, []),
  (64, .ireturn, 65, [])]
set_option maxRecDepth 100000 in
theorem moU_reachCost : MO mU_reachCost 3 false (some .int) pU_reachCost := ⟨rU_reachCost, rfl, rfl, by decide, rfl, (fun h => by cases h), (by decide +kernel)⟩
theorem aU_reachCost {d : Nat} {Φ : Option Vl → Ly → Mm → Prop} (sp : List Nat) (n : Nat) {pc : Nat} {L : Lc} {st : List Vl} {S : Ly} {M : Mm} (h : MOk M → wp d 0 0 0 0 mU_reachCost 3 false true (some .int) Φ pU_reachCost sp n pc L st S M) : AJ d 0 0 mU_reachCost Φ 0 0 pc L st S M := aj_wp moU_reachCost sp n h
theorem eU_reachCost {d : Nat} {Φ : Option Vl → Ly → Mm → Prop} (sp : List Nat) (n : Nat) {as : List Vl} (hn : as.length ≤ 4) {S : Ly} {M : Mm} (h : MOk M → wp d 0 0 0 0 mU_reachCost 3 false true (some .int) Φ pU_reachCost sp n 0 (as.map some) [] S M) : Ret d 0 0 mU_reachCost as S M Φ := ret_wp moU_reachCost (by rw [mtb0_len]; decide) (fun r h => by cases (show some rU_reachCost = some r from h); rfl) sp n hn h
def pK_best : List En := [(0, .iload_n 1, 1, []),
  (1, .invokestatic 44, 4, []),
  (4, .ifCond .eq 22, 7, [(0, 26)]),
  (7, .aload_n 0, 8, []),
  (8, .getfield 33, 11, []),
  (11, .aload_n 0, 12, []),
  (12, .iload_n 1, 13, []),
  (13, .invokevirtual 54, 16, []),
  (16, .bipush (-9), 18, []),
  (18, .bipush (-9), 20, []),
  (20, .invokevirtual 126, 23, []),
  (23, .goto 4, 26, [(0, 27)]),
  (26, .iconst (-1), 27, []),
  (27, .ireturn, 28, [])]
set_option maxRecDepth 100000 in
theorem moK_best : MO mK_best 4 false (some .int) pK_best := ⟨rK_best, rfl, rfl, by decide, rfl, (fun h => by cases h), (by decide +kernel)⟩
theorem aK_best {d : Nat} {Φ : Option Vl → Ly → Mm → Prop} (sp : List Nat) (n : Nat) {pc : Nat} {L : Lc} {st : List Vl} {S : Ly} {M : Mm} (h : MOk M → wp d 0 0 0 0 mK_best 4 false true (some .int) Φ pK_best sp n pc L st S M) : AJ d 0 0 mK_best Φ 0 0 pc L st S M := aj_wp moK_best sp n h
theorem eK_best {d : Nat} {Φ : Option Vl → Ly → Mm → Prop} (sp : List Nat) (n : Nat) {as : List Vl} (hn : as.length ≤ 2) {S : Ly} {M : Mm} (h : MOk M → wp d 0 0 0 0 mK_best 4 false true (some .int) Φ pK_best sp n 0 (as.map some) [] S M) : Ret d 0 0 mK_best as S M Φ := ret_wp moK_best (by rw [mtb0_len]; decide) (fun r h => by cases (show some rK_best = some r from h); rfl) sp n hn h
def pR_leastCost : List En := [(0, .aload_n 0, 1, []),
  (1, .aload_n 1, 2, []),
  (2, .iload_n 2, 3, []),
  (3, .iload_n 3, 4, []),
  (4, .invokevirtual 31, 7, []),
  (7, .aload_n 1, 8, []),
  (8, .invokevirtual 35, 11, []),
  (11, .ifCond .ne 19, 14, [(0, 30)]),
  (14, .aload_n 0, 15, []),
  (15, .aload_n 0, 16, []),
  (16, .getfield 41, 19, []),
  (19, .iconst 1, 20, []),
  (20, .isub, 21, []),
  (21, .iconst 0, 22, []),
  (22, .invokevirtual 45, 25, []),
  (25, .aload_n 0, 26, []),
  (26, .invokevirtual 49, 29, []),
  (29, .ireturn, 30, []),
  (30, .aload_n 0, 31, []),
  (31, .aload_n 0, 32, []),
  (32, .getfield 41, 35, []),
  (35, .iconst 1, 36, []),
  (36, .isub, 37, []),
  (37, .aload_n 0, 38, []),
  (38, .getfield 53, 41, []),
  (41, .aload_n 0, 42, []),
  (42, .getfield 56, 45, []),
  (45, .iadd, 46, []),
  (46, .invokevirtual 45, 49, []),
  (49, .aload_n 0, 50, []),
  (50, .invokevirtual 59, 53, []),
  (53, .iconst 0, 54, []),
  (54, .istore 4, 56, []),
  (56, .iload 4, 58, []),
  (58, .iconst 5, 59, []),
  (59, .if_icmp .ge 40, 62, [(0, 99)]),
  (62, .aload_n 0, 63, []),
  (63, .iload 4, 65, []),
  (65, .invokevirtual 62, 68, []),
  (68, .aload_n 0, 69, []),
  (69, .getfield 21, 72, []),
  (72, .iload 4, 74, []),
  (74, .aload_n 0, 75, []),
  (75, .getfield 18, 78, []),
  (78, .aload_n 0, 79, []),
  (79, .getfield 66, 82, []),
  (82, .iconst 5, 83, []),
  (83, .imul, 84, []),
  (84, .iload 4, 86, []),
  (86, .iadd, 87, []),
  (87, .invokestatic 69, 90, []),
  (90, .invokestatic 73, 93, []),
  (93, .iinc 4 1, 96, []),
  (96, .goto (-40), 99, [(0, 56)]),
  (99, .iconst 0, 100, []),
  (100, .istore 4, 102, []),
  (102, .iload 4, 104, []),
  (104, .iconst 5, 105, []),
  (105, .if_icmp .ge 34, 108, [(0, 139)]),
  (108, .aload_n 0, 109, []),
  (109, .getfield 18, 112, []),
  (112, .aload_n 0, 113, []),
  (113, .getfield 66, 116, []),
  (116, .iconst 5, 117, []),
  (117, .imul, 118, []),
  (118, .iload 4, 120, []),
  (120, .iadd, 121, []),
  (121, .aload_n 0, 122, []),
  (122, .getfield 21, 125, []),
  (125, .iload 4, 127, []),
  (127, .invokestatic 69, 130, []),
  (130, .invokestatic 73, 133, []),
  (133, .iinc 4 1, 136, []),
  (136, .goto (-34), 139, [(0, 102)]),
  (139, .aload_n 0, 140, []),
  (140, .aload_n 0, 141, []),
  (141, .getfield 66, 144, []),
  (144, .iconst 1, 145, []),
  (145, .isub, 146, []),
  (146, .iconst 0, 147, []),
  (147, .invokevirtual 45, 150, []),
  (150, .aload_n 0, 151, []),
  (151, .invokevirtual 49, 154, []),
  (154, .ireturn, 155, [])]
set_option maxRecDepth 100000 in
theorem moR_leastCost : MO mR_leastCost 2 false (some .int) pR_leastCost := ⟨rR_leastCost, rfl, rfl, by decide, rfl, (fun h => by cases h), (by decide +kernel)⟩
theorem aR_leastCost {d : Nat} {Φ : Option Vl → Ly → Mm → Prop} (sp : List Nat) (n : Nat) {pc : Nat} {L : Lc} {st : List Vl} {S : Ly} {M : Mm} (h : MOk M → wp d 0 0 0 0 mR_leastCost 2 false true (some .int) Φ pR_leastCost sp n pc L st S M) : AJ d 0 0 mR_leastCost Φ 0 0 pc L st S M := aj_wp moR_leastCost sp n h
theorem eR_leastCost {d : Nat} {Φ : Option Vl → Ly → Mm → Prop} (sp : List Nat) (n : Nat) {as : List Vl} (hn : as.length ≤ 5) {S : Ly} {M : Mm} (h : MOk M → wp d 0 0 0 0 mR_leastCost 2 false true (some .int) Φ pR_leastCost sp n 0 (as.map some) [] S M) : Ret d 0 0 mR_leastCost as S M Φ := ret_wp moR_leastCost (by rw [mtb0_len]; decide) (fun r h => by cases (show some rR_leastCost = some r from h); rfl) sp n hn h
def pR_load : List En := [(0, .aload_n 0, 1, []),
  (1, .aload_n 1, 2, []),
  (2, .invokevirtual 84, 5, []),
  (5, .putfield 41, 8, []),
  (8, .aload_n 0, 9, []),
  (9, .aload_n 1, 10, []),
  (10, .invokevirtual 87, 13, []),
  (13, .putfield 66, 16, []),
  (16, .aload_n 0, 17, []),
  (17, .aload_n 1, 18, []),
  (18, .invokevirtual 90, 21, []),
  (21, .putfield 53, 24, []),
  (24, .aload_n 0, 25, []),
  (25, .aload_n 1, 26, []),
  (26, .invokevirtual 93, 29, []),
  (29, .putfield 56, 32, []),
  (32, .iconst 0, 33, []),
  (33, .istore 4, 35, []),
  (35, .iload 4, 37, []),
  (37, .aload_n 0, 38, []),
  (38, .getfield 41, 41, []),
  (41, .if_icmp .ge 72, 44, [(0, 113)]),
  (44, .aload_n 0, 45, []),
  (45, .iload 4, 47, []),
  (47, .aload_n 1, 48, []),
  (48, .iload 4, 50, []),
  (50, .invokevirtual 96, 53, []),
  (53, .iload 4, 55, []),
  (55, .iload_n 2, 56, []),
  (56, .if_icmp .ne 7, 59, [(0, 63)]),
  (59, .iload_n 3, 60, []),
  (60, .goto 9, 63, [(0, 69)]),
  (63, .aload_n 1, 64, []),
  (64, .iload 4, 66, []),
  (66, .invokevirtual 100, 69, []),
  (69, .invokevirtual 103, 72, []),
  (72, .iload 4, 74, []),
  (74, .iconst 1, 75, []),
  (75, .iadd, 76, []),
  (76, .aload_n 0, 77, []),
  (77, .getfield 41, 80, []),
  (80, .if_icmp .ge 27, 83, [(0, 107)]),
  (83, .aload_n 0, 84, []),
  (84, .iload 4, 86, []),
  (86, .aload_n 1, 87, []),
  (87, .invokevirtual 107, 90, []),
  (90, .aload_n 1, 91, []),
  (91, .iload 4, 93, []),
  (93, .invokevirtual 96, 96, []),
  (96, .aload_n 1, 97, []),
  (97, .iload 4, 99, []),
  (99, .iconst 1, 100, []),
  (100, .iadd, 101, []),
  (101, .invokevirtual 96, 104, []),
  (104, .invokevirtual 110, 107, []),
  (107, .iinc 4 1, 110, []),
  (110, .goto (-75), 113, [(0, 35)]),
  (113, .return_, 114, [])]
set_option maxRecDepth 100000 in
theorem moR_load : MO mR_load 2 false none pR_load := ⟨rR_load, rfl, rfl, by decide, rfl, (fun h => by cases h), (by decide +kernel)⟩
theorem aR_load {d : Nat} {Φ : Option Vl → Ly → Mm → Prop} (sp : List Nat) (n : Nat) {pc : Nat} {L : Lc} {st : List Vl} {S : Ly} {M : Mm} (h : MOk M → wp d 0 0 0 0 mR_load 2 false true none Φ pR_load sp n pc L st S M) : AJ d 0 0 mR_load Φ 0 0 pc L st S M := aj_wp moR_load sp n h
theorem eR_load {d : Nat} {Φ : Option Vl → Ly → Mm → Prop} (sp : List Nat) (n : Nat) {as : List Vl} (hn : as.length ≤ 5) {S : Ly} {M : Mm} (h : MOk M → wp d 0 0 0 0 mR_load 2 false true none Φ pR_load sp n 0 (as.map some) [] S M) : Ret d 0 0 mR_load as S M Φ := ret_wp moR_load (by rw [mtb0_len]; decide) (fun r h => by cases (show some rR_load = some r from h); rfl) sp n hn h
def pH_firstTied : List En := [(0, .aload_n 0, 1, []),
  (1, .getfield 52, 4, []),
  (4, .ireturn, 5, [])]
set_option maxRecDepth 100000 in
theorem moH_firstTied : MO mH_firstTied 0 false (some .int) pH_firstTied := ⟨rH_firstTied, rfl, rfl, by decide, rfl, (fun h => by cases h), (by decide +kernel)⟩
theorem aH_firstTied {d : Nat} {Φ : Option Vl → Ly → Mm → Prop} (sp : List Nat) (n : Nat) {pc : Nat} {L : Lc} {st : List Vl} {S : Ly} {M : Mm} (h : MOk M → wp d 0 0 0 0 mH_firstTied 0 false true (some .int) Φ pH_firstTied sp n pc L st S M) : AJ d 0 0 mH_firstTied Φ 0 0 pc L st S M := aj_wp moH_firstTied sp n h
theorem eH_firstTied {d : Nat} {Φ : Option Vl → Ly → Mm → Prop} (sp : List Nat) (n : Nat) {as : List Vl} (hn : as.length ≤ 1) {S : Ly} {M : Mm} (h : MOk M → wp d 0 0 0 0 mH_firstTied 0 false true (some .int) Φ pH_firstTied sp n 0 (as.map some) [] S M) : Ret d 0 0 mH_firstTied as S M Φ := ret_wp moH_firstTied (by rw [mtb0_len]; decide) (fun r h => by cases (show some rH_firstTied = some r from h); rfl) sp n hn h
def pH_secondTied : List En := [(0, .aload_n 0, 1, []),
  (1, .getfield 55, 4, []),
  (4, .ireturn, 5, [])]
set_option maxRecDepth 100000 in
theorem moH_secondTied : MO mH_secondTied 0 false (some .int) pH_secondTied := ⟨rH_secondTied, rfl, rfl, by decide, rfl, (fun h => by cases h), (by decide +kernel)⟩
theorem aH_secondTied {d : Nat} {Φ : Option Vl → Ly → Mm → Prop} (sp : List Nat) (n : Nat) {pc : Nat} {L : Lc} {st : List Vl} {S : Ly} {M : Mm} (h : MOk M → wp d 0 0 0 0 mH_secondTied 0 false true (some .int) Φ pH_secondTied sp n pc L st S M) : AJ d 0 0 mH_secondTied Φ 0 0 pc L st S M := aj_wp moH_secondTied sp n h
theorem eH_secondTied {d : Nat} {Φ : Option Vl → Ly → Mm → Prop} (sp : List Nat) (n : Nat) {as : List Vl} (hn : as.length ≤ 1) {S : Ly} {M : Mm} (h : MOk M → wp d 0 0 0 0 mH_secondTied 0 false true (some .int) Φ pH_secondTied sp n 0 (as.map some) [] S M) : Ret d 0 0 mH_secondTied as S M Φ := ret_wp moH_secondTied (by rw [mtb0_len]; decide) (fun r h => by cases (show some rH_secondTied = some r from h); rfl) sp n hn h
def pH_tiedLength : List En := [(0, .aload_n 0, 1, []),
  (1, .getfield 58, 4, []),
  (4, .ireturn, 5, [])]
set_option maxRecDepth 100000 in
theorem moH_tiedLength : MO mH_tiedLength 0 false (some .int) pH_tiedLength := ⟨rH_tiedLength, rfl, rfl, by decide, rfl, (fun h => by cases h), (by decide +kernel)⟩
theorem aH_tiedLength {d : Nat} {Φ : Option Vl → Ly → Mm → Prop} (sp : List Nat) (n : Nat) {pc : Nat} {L : Lc} {st : List Vl} {S : Ly} {M : Mm} (h : MOk M → wp d 0 0 0 0 mH_tiedLength 0 false true (some .int) Φ pH_tiedLength sp n pc L st S M) : AJ d 0 0 mH_tiedLength Φ 0 0 pc L st S M := aj_wp moH_tiedLength sp n h
theorem eH_tiedLength {d : Nat} {Φ : Option Vl → Ly → Mm → Prop} (sp : List Nat) (n : Nat) {as : List Vl} (hn : as.length ≤ 1) {S : Ly} {M : Mm} (h : MOk M → wp d 0 0 0 0 mH_tiedLength 0 false true (some .int) Φ pH_tiedLength sp n 0 (as.map some) [] S M) : Ret d 0 0 mH_tiedLength as S M Φ := ret_wp moH_tiedLength (by rw [mtb0_len]; decide) (fun r h => by cases (show some rH_tiedLength = some r from h); rfl) sp n hn h
def pR_loadNote : List En := [(0, .iconst 0, 1, []),
  (1, .istore 4, 3, []),
  (3, .iload 4, 5, []),
  (5, .iconst 5, 6, []),
  (6, .if_icmp .ge 65, 9, [(0, 71)]),
  (9, .iload_n 3, 10, []),
  (10, .bipush (-9), 12, []),
  (12, .if_icmp .eq 11, 15, [(0, 23)]),
  (15, .iload_n 3, 16, []),
  (16, .iload 4, 18, []),
  (18, .iconst 1, 19, []),
  (19, .iadd, 20, []),
  (20, .if_icmp .ne 7, 23, [(0, 27)]),
  (23, .iconst 1, 24, []),
  (24, .goto 4, 27, [(0, 28)]),
  (27, .iconst 0, 28, []),
  (28, .istore 5, 30, []),
  (30, .aload_n 0, 31, []),
  (31, .getfield 9, 34, []),
  (34, .iload_n 1, 35, []),
  (35, .iconst 5, 36, []),
  (36, .imul, 37, []),
  (37, .iload 4, 39, []),
  (39, .iadd, 40, []),
  (40, .iload 5, 42, []),
  (42, .ifCond .eq 18, 45, [(0, 60)]),
  (45, .aload_n 0, 46, []),
  (46, .getfield 27, 49, []),
  (49, .iload_n 2, 50, []),
  (50, .iload 4, 52, []),
  (52, .iconst 1, 53, []),
  (53, .iadd, 54, []),
  (54, .invokevirtual 114, 57, []),
  (57, .goto 5, 60, [(0, 62)]),
  (60, .ldc 120, 62, []),
  (62, .invokestatic 73, 65, []),
  (65, .iinc 4 1, 68, []),
  (68, .goto (-65), 71, [(0, 3)]),
  (71, .return_, 72, [])]
set_option maxRecDepth 100000 in
theorem moR_loadNote : MO mR_loadNote 2 false none pR_loadNote := ⟨rR_loadNote, rfl, rfl, by decide, rfl, (fun h => by cases h), (by decide +kernel)⟩
theorem aR_loadNote {d : Nat} {Φ : Option Vl → Ly → Mm → Prop} (sp : List Nat) (n : Nat) {pc : Nat} {L : Lc} {st : List Vl} {S : Ly} {M : Mm} (h : MOk M → wp d 0 0 0 0 mR_loadNote 2 false true none Φ pR_loadNote sp n pc L st S M) : AJ d 0 0 mR_loadNote Φ 0 0 pc L st S M := aj_wp moR_loadNote sp n h
theorem eR_loadNote {d : Nat} {Φ : Option Vl → Ly → Mm → Prop} (sp : List Nat) (n : Nat) {as : List Vl} (hn : as.length ≤ 6) {S : Ly} {M : Mm} (h : MOk M → wp d 0 0 0 0 mR_loadNote 2 false true none Φ pR_loadNote sp n 0 (as.map some) [] S M) : Ret d 0 0 mR_loadNote as S M Φ := ret_wp moR_loadNote (by rw [mtb0_len]; decide) (fun r h => by cases (show some rR_loadNote = some r from h); rfl) sp n hn h
def pR_loadSteps : List En := [(0, .iconst 0, 1, []),
  (1, .istore 5, 3, []),
  (3, .iload 5, 5, []),
  (5, .iconst 5, 6, []),
  (6, .if_icmp .ge 77, 9, [(0, 83)]),
  (9, .iconst 0, 10, []),
  (10, .istore 6, 12, []),
  (12, .iload 6, 14, []),
  (14, .iconst 5, 15, []),
  (15, .if_icmp .ge 62, 18, [(0, 77)]),
  (18, .aload_n 0, 19, []),
  (19, .getfield 27, 22, []),
  (22, .iload_n 2, 23, []),
  (23, .iload_n 3, 24, []),
  (24, .iload 5, 26, []),
  (26, .iconst 1, 27, []),
  (27, .iadd, 28, []),
  (28, .iload 4, 30, []),
  (30, .iload 6, 32, []),
  (32, .iconst 1, 33, []),
  (33, .iadd, 34, []),
  (34, .invokevirtual 121, 37, []),
  (37, .istore 7, 39, []),
  (39, .aload_n 0, 40, []),
  (40, .getfield 15, 43, []),
  (43, .iload_n 1, 44, []),
  (44, .iconst 5, 45, []),
  (45, .imul, 46, []),
  (46, .iload 5, 48, []),
  (48, .iadd, 49, []),
  (49, .iconst 5, 50, []),
  (50, .imul, 51, []),
  (51, .iload 6, 53, []),
  (53, .iadd, 54, []),
  (54, .iload 7, 56, []),
  (56, .bipush (-9), 58, []),
  (58, .if_icmp .ne 8, 61, [(0, 66)]),
  (61, .ldc 120, 63, []),
  (63, .goto 5, 66, [(0, 68)]),
  (66, .iload 7, 68, []),
  (68, .invokestatic 73, 71, []),
  (71, .iinc 6 1, 74, []),
  (74, .goto (-62), 77, [(0, 12)]),
  (77, .iinc 5 1, 80, []),
  (80, .goto (-77), 83, [(0, 3)]),
  (83, .return_, 84, [])]
set_option maxRecDepth 100000 in
theorem moR_loadSteps : MO mR_loadSteps 2 false none pR_loadSteps := ⟨rR_loadSteps, rfl, rfl, by decide, rfl, (fun h => by cases h), (by decide +kernel)⟩
theorem aR_loadSteps {d : Nat} {Φ : Option Vl → Ly → Mm → Prop} (sp : List Nat) (n : Nat) {pc : Nat} {L : Lc} {st : List Vl} {S : Ly} {M : Mm} (h : MOk M → wp d 0 0 0 0 mR_loadSteps 2 false true none Φ pR_loadSteps sp n pc L st S M) : AJ d 0 0 mR_loadSteps Φ 0 0 pc L st S M := aj_wp moR_loadSteps sp n h
theorem eR_loadSteps {d : Nat} {Φ : Option Vl → Ly → Mm → Prop} (sp : List Nat) (n : Nat) {as : List Vl} (hn : as.length ≤ 8) {S : Ly} {M : Mm} (h : MOk M → wp d 0 0 0 0 mR_loadSteps 2 false true none Φ pR_loadSteps sp n 0 (as.map some) [] S M) : Ret d 0 0 mR_loadSteps as S M Φ := ret_wp moR_loadSteps (by rw [mtb0_len]; decide) (fun r h => by cases (show some rR_loadSteps = some r from h); rfl) sp n hn h
def pH_tieHolds : List En := [(0, .aload_n 0, 1, []),
  (1, .getfield 58, 4, []),
  (4, .ifCond .le 23, 7, [(0, 27)]),
  (7, .aload_n 0, 8, []),
  (8, .getfield 55, 11, []),
  (11, .aload_n 0, 12, []),
  (12, .getfield 58, 15, []),
  (15, .iadd, 16, []),
  (16, .aload_n 0, 17, []),
  (17, .getfield 46, 20, []),
  (20, .if_icmp .gt 7, 23, [(0, 27)]),
  (23, .iconst 1, 24, []),
  (24, .goto 4, 27, [(0, 28)]),
  (27, .iconst 0, 28, []),
  (28, .ireturn, 29, [])]
set_option maxRecDepth 100000 in
theorem moH_tieHolds : MO mH_tieHolds 0 false (some .boolean) pH_tieHolds := ⟨rH_tieHolds, rfl, rfl, by decide, rfl, (fun h => by cases h), (by decide +kernel)⟩
theorem aH_tieHolds {d : Nat} {Φ : Option Vl → Ly → Mm → Prop} (sp : List Nat) (n : Nat) {pc : Nat} {L : Lc} {st : List Vl} {S : Ly} {M : Mm} (h : MOk M → wp d 0 0 0 0 mH_tieHolds 0 false true (some .boolean) Φ pH_tieHolds sp n pc L st S M) : AJ d 0 0 mH_tieHolds Φ 0 0 pc L st S M := aj_wp moH_tieHolds sp n h
theorem eH_tieHolds {d : Nat} {Φ : Option Vl → Ly → Mm → Prop} (sp : List Nat) (n : Nat) {as : List Vl} (hn : as.length ≤ 1) {S : Ly} {M : Mm} (h : MOk M → wp d 0 0 0 0 mH_tieHolds 0 false true (some .boolean) Φ pH_tieHolds sp n 0 (as.map some) [] S M) : Ret d 0 0 mH_tieHolds as S M Φ := ret_wp moH_tieHolds (by rw [mtb0_len]; decide) (fun r h => by cases (show some rH_tieHolds = some r from h); rfl) sp n hn h
def pR_sweep : List En := [(0, .iload_n 1, 1, []),
  (1, .istore_n 3, 2, []),
  (2, .iload_n 3, 3, []),
  (3, .iload_n 2, 4, []),
  (4, .if_icmp .lt 58, 7, [(0, 62)]),
  (7, .iconst 0, 8, []),
  (8, .istore 4, 10, []),
  (10, .iload 4, 12, []),
  (12, .iconst 5, 13, []),
  (13, .if_icmp .ge 43, 16, [(0, 56)]),
  (16, .iload_n 3, 17, []),
  (17, .iconst 5, 18, []),
  (18, .imul, 19, []),
  (19, .iload 4, 21, []),
  (21, .iadd, 22, []),
  (22, .istore 5, 24, []),
  (24, .aload_n 0, 25, []),
  (25, .getfield 18, 28, []),
  (28, .iload 5, 30, []),
  (30, .aload_n 0, 31, []),
  (31, .getfield 9, 34, []),
  (34, .iload 5, 36, []),
  (36, .invokestatic 69, 39, []),
  (39, .aload_n 0, 40, []),
  (40, .iload_n 3, 41, []),
  (41, .iload 4, 43, []),
  (43, .invokevirtual 125, 46, []),
  (46, .iadd, 47, []),
  (47, .invokestatic 73, 50, []),
  (50, .iinc 4 1, 53, []),
  (53, .goto (-43), 56, [(0, 10)]),
  (56, .iinc 3 (-1), 59, []),
  (59, .goto (-57), 62, [(0, 2)]),
  (62, .return_, 63, [])]
set_option maxRecDepth 100000 in
theorem moR_sweep : MO mR_sweep 2 false none pR_sweep := ⟨rR_sweep, rfl, rfl, by decide, rfl, (fun h => by cases h), (by decide +kernel)⟩
theorem aR_sweep {d : Nat} {Φ : Option Vl → Ly → Mm → Prop} (sp : List Nat) (n : Nat) {pc : Nat} {L : Lc} {st : List Vl} {S : Ly} {M : Mm} (h : MOk M → wp d 0 0 0 0 mR_sweep 2 false true none Φ pR_sweep sp n pc L st S M) : AJ d 0 0 mR_sweep Φ 0 0 pc L st S M := aj_wp moR_sweep sp n h
theorem eR_sweep {d : Nat} {Φ : Option Vl → Ly → Mm → Prop} (sp : List Nat) (n : Nat) {as : List Vl} (hn : as.length ≤ 6) {S : Ly} {M : Mm} (h : MOk M → wp d 0 0 0 0 mR_sweep 2 false true none Φ pR_sweep sp n 0 (as.map some) [] S M) : Ret d 0 0 mR_sweep as S M Φ := ret_wp moR_sweep (by rw [mtb0_len]; decide) (fun r h => by cases (show some rR_sweep = some r from h); rfl) sp n hn h
end
section
def pR_costBehind : List En := [(0, .iload_n 1, 1, []),
  (1, .iconst 1, 2, []),
  (2, .iadd, 3, []),
  (3, .aload_n 0, 4, []),
  (4, .getfield 41, 7, []),
  (7, .if_icmp .lt 5, 10, [(0, 12)]),
  (10, .iconst 0, 11, []),
  (11, .ireturn, 12, []),
  (12, .iload_n 1, 13, []),
  (13, .iconst 5, 14, []),
  (14, .imul, 15, []),
  (15, .iload_n 2, 16, []),
  (16, .iadd, 17, []),
  (17, .iconst 5, 18, []),
  (18, .imul, 19, []),
  (19, .istore_n 3, 20, []),
  (20, .iload_n 1, 21, []),
  (21, .iconst 1, 22, []),
  (22, .iadd, 23, []),
  (23, .iconst 5, 24, []),
  (24, .imul, 25, []),
  (25, .istore 4, 27, []),
  (27, .iload_n 3, 28, []),
  (28, .ifCond .lt 31, 31, [(0, 59)]),
  (31, .iload_n 3, 32, []),
  (32, .iconst 5, 33, []),
  (33, .iadd, 34, []),
  (34, .aload_n 0, 35, []),
  (35, .getfield 15, 38, []),
  (38, .arraylength, 39, []),
  (39, .if_icmp .gt 20, 42, [(0, 59)]),
  (42, .iload 4, 44, []),
  (44, .ifCond .lt 15, 47, [(0, 59)]),
  (47, .iload 4, 49, []),
  (49, .iconst 5, 50, []),
  (50, .iadd, 51, []),
  (51, .aload_n 0, 52, []),
  (52, .getfield 18, 55, []),
  (55, .arraylength, 56, []),
  (56, .if_icmp .le 6, 59, [(0, 62)]),
  (59, .ldc 120, 61, []),
  (61, .ireturn, 62, []),
  (62, .ldc 120, 64, []),
  (64, .istore 5, 66, []),
  (66, .iconst 0, 67, []),
  (67, .istore 6, 69, []),
  (69, .iload 6, 71, []),
  (71, .iconst 5, 72, []),
  (72, .if_icmp .ge 36, 75, [(0, 108)]),
  (75, .iload 5, 77, []),
  (77, .aload_n 0, 78, []),
  (78, .getfield 15, 81, []),
  (81, .iload_n 3, 82, []),
  (82, .iload 6, 84, []),
  (84, .iadd, 85, []),
  (85, .iaload, 86, []),
  (86, .aload_n 0, 87, []),
  (87, .getfield 18, 90, []),
  (90, .iload 4, 92, []),
  (92, .iload 6, 94, []),
  (94, .iadd, 95, []),
  (95, .iaload, 96, []),
  (96, .iadd, 97, []),
  (97, .invokestatic 128, 100, []),
  (100, .istore 5, 102, []),
  (102, .iinc 6 1, 105, []),
  (105, .goto (-36), 108, [(0, 69)]),
  (108, .iload 5, 110, []),
  (110, .ireturn, 111, [])]
set_option maxRecDepth 100000 in
theorem moR_costBehind : MO mR_costBehind 2 false (some .int) pR_costBehind := ⟨rR_costBehind, rfl, rfl, by decide, rfl, (fun h => by cases h), (by decide +kernel)⟩
theorem aR_costBehind {d : Nat} {Φ : Option Vl → Ly → Mm → Prop} (sp : List Nat) (n : Nat) {pc : Nat} {L : Lc} {st : List Vl} {S : Ly} {M : Mm} (h : MOk M → wp d 0 0 0 0 mR_costBehind 2 false true (some .int) Φ pR_costBehind sp n pc L st S M) : AJ d 0 0 mR_costBehind Φ 0 0 pc L st S M := aj_wp moR_costBehind sp n h
theorem eR_costBehind {d : Nat} {Φ : Option Vl → Ly → Mm → Prop} (sp : List Nat) (n : Nat) {as : List Vl} (hn : as.length ≤ 7) {S : Ly} {M : Mm} (h : MOk M → wp d 0 0 0 0 mR_costBehind 2 false true (some .int) Φ pR_costBehind sp n 0 (as.map some) [] S M) : Ret d 0 0 mR_costBehind as S M Φ := ret_wp moR_costBehind (by rw [mtb0_len]; decide) (fun r h => by cases (show some rR_costBehind = some r from h); rfl) sp n hn h
def pR_answerOfTable : List En := [(0, .aload_n 0, 1, []),
  (1, .getfield 41, 4, []),
  (4, .ifCond .ne 5, 7, [(0, 9)]),
  (7, .iconst 0, 8, []),
  (8, .ireturn, 9, []),
  (9, .ldc 120, 11, []),
  (11, .istore_n 1, 12, []),
  (12, .iconst 0, 13, []),
  (13, .istore_n 2, 14, []),
  (14, .iload_n 2, 15, []),
  (15, .iconst 5, 16, []),
  (16, .if_icmp .ge 22, 19, [(0, 38)]),
  (19, .iload_n 1, 20, []),
  (20, .aload_n 0, 21, []),
  (21, .getfield 18, 24, []),
  (24, .iload_n 2, 25, []),
  (25, .invokestatic 69, 28, []),
  (28, .invokestatic 128, 31, []),
  (31, .istore_n 1, 32, []),
  (32, .iinc 2 1, 35, []),
  (35, .goto (-21), 38, [(0, 14)]),
  (38, .iload_n 1, 39, []),
  (39, .ldc 120, 41, []),
  (41, .if_icmp .ge 7, 44, [(0, 48)]),
  (44, .iload_n 1, 45, []),
  (45, .goto 5, 48, [(0, 50)]),
  (48, .bipush (-9), 50, []),
  (50, .ireturn, 51, [])]
set_option maxRecDepth 100000 in
theorem moR_answerOfTable : MO mR_answerOfTable 2 false (some .int) pR_answerOfTable := ⟨rR_answerOfTable, rfl, rfl, by decide, rfl, (fun h => by cases h), (by decide +kernel)⟩
theorem aR_answerOfTable {d : Nat} {Φ : Option Vl → Ly → Mm → Prop} (sp : List Nat) (n : Nat) {pc : Nat} {L : Lc} {st : List Vl} {S : Ly} {M : Mm} (h : MOk M → wp d 0 0 0 0 mR_answerOfTable 2 false true (some .int) Φ pR_answerOfTable sp n pc L st S M) : AJ d 0 0 mR_answerOfTable Φ 0 0 pc L st S M := aj_wp moR_answerOfTable sp n h
theorem eR_answerOfTable {d : Nat} {Φ : Option Vl → Ly → Mm → Prop} (sp : List Nat) (n : Nat) {as : List Vl} (hn : as.length ≤ 3) {S : Ly} {M : Mm} (h : MOk M → wp d 0 0 0 0 mR_answerOfTable 2 false true (some .int) Φ pR_answerOfTable sp n 0 (as.map some) [] S M) : Ret d 0 0 mR_answerOfTable as S M Φ := ret_wp moR_answerOfTable (by rw [mtb0_len]; decide) (fun r h => by cases (show some rR_answerOfTable = some r from h); rfl) sp n hn h
def pR_fold : List En := [(0, .iconst 0, 1, []),
  (1, .istore_n 1, 2, []),
  (2, .iload_n 1, 3, []),
  (3, .aload_n 0, 4, []),
  (4, .getfield 56, 7, []),
  (7, .if_icmp .ge 60, 10, [(0, 67)]),
  (10, .aload_n 0, 11, []),
  (11, .getfield 9, 14, []),
  (14, .aload_n 0, 15, []),
  (15, .getfield 66, 18, []),
  (18, .iload_n 1, 19, []),
  (19, .iadd, 20, []),
  (20, .aload_n 0, 21, []),
  (21, .getfield 53, 24, []),
  (24, .iload_n 1, 25, []),
  (25, .iadd, 26, []),
  (26, .iconst 5, 27, []),
  (27, .invokestatic 133, 30, []),
  (30, .iload_n 1, 31, []),
  (31, .iconst 1, 32, []),
  (32, .iadd, 33, []),
  (33, .aload_n 0, 34, []),
  (34, .getfield 56, 37, []),
  (37, .if_icmp .ge 24, 40, [(0, 61)]),
  (40, .aload_n 0, 41, []),
  (41, .getfield 15, 44, []),
  (44, .aload_n 0, 45, []),
  (45, .getfield 66, 48, []),
  (48, .iload_n 1, 49, []),
  (49, .iadd, 50, []),
  (50, .aload_n 0, 51, []),
  (51, .getfield 53, 54, []),
  (54, .iload_n 1, 55, []),
  (55, .iadd, 56, []),
  (56, .bipush 25, 58, []),
  (58, .invokestatic 133, 61, []),
  (61, .iinc 1 1, 64, []),
  (64, .goto (-62), 67, [(0, 2)]),
  (67, .iconst 0, 68, []),
  (68, .istore_n 1, 69, []),
  (69, .iload_n 1, 70, []),
  (70, .iconst 5, 71, []),
  (71, .if_icmp .ge 58, 74, [(0, 129)]),
  (74, .aload_n 0, 75, []),
  (75, .getfield 66, 78, []),
  (78, .aload_n 0, 79, []),
  (79, .getfield 56, 82, []),
  (82, .iadd, 83, []),
  (83, .iconst 1, 84, []),
  (84, .isub, 85, []),
  (85, .iconst 5, 86, []),
  (86, .imul, 87, []),
  (87, .iload_n 1, 88, []),
  (88, .iadd, 89, []),
  (89, .istore_n 2, 90, []),
  (90, .aload_n 0, 91, []),
  (91, .getfield 9, 94, []),
  (94, .iload_n 2, 95, []),
  (95, .aload_n 0, 96, []),
  (96, .getfield 9, 99, []),
  (99, .iload_n 2, 100, []),
  (100, .invokestatic 69, 103, []),
  (103, .aload_n 0, 104, []),
  (104, .aload_n 0, 105, []),
  (105, .getfield 53, 108, []),
  (108, .aload_n 0, 109, []),
  (109, .getfield 56, 112, []),
  (112, .iadd, 113, []),
  (113, .iconst 1, 114, []),
  (114, .isub, 115, []),
  (115, .iload_n 1, 116, []),
  (116, .invokevirtual 125, 119, []),
  (119, .iadd, 120, []),
  (120, .invokestatic 73, 123, []),
  (123, .iinc 1 1, 126, []),
  (126, .goto (-57), 129, [(0, 69)]),
  (129, .return_, 130, [])]
set_option maxRecDepth 100000 in
theorem moR_fold : MO mR_fold 2 false none pR_fold := ⟨rR_fold, rfl, rfl, by decide, rfl, (fun h => by cases h), (by decide +kernel)⟩
theorem aR_fold {d : Nat} {Φ : Option Vl → Ly → Mm → Prop} (sp : List Nat) (n : Nat) {pc : Nat} {L : Lc} {st : List Vl} {S : Ly} {M : Mm} (h : MOk M → wp d 0 0 0 0 mR_fold 2 false true none Φ pR_fold sp n pc L st S M) : AJ d 0 0 mR_fold Φ 0 0 pc L st S M := aj_wp moR_fold sp n h
theorem eR_fold {d : Nat} {Φ : Option Vl → Ly → Mm → Prop} (sp : List Nat) (n : Nat) {as : List Vl} (hn : as.length ≤ 3) {S : Ly} {M : Mm} (h : MOk M → wp d 0 0 0 0 mR_fold 2 false true none Φ pR_fold sp n 0 (as.map some) [] S M) : Ret d 0 0 mR_fold as S M Φ := ret_wp moR_fold (by rw [mtb0_len]; decide) (fun r h => by cases (show some rR_fold = some r from h); rfl) sp n hn h
def pR_addFrom : List En := [(0, .iconst 0, 1, []),
  (1, .istore 4, 3, []),
  (3, .iload 4, 5, []),
  (5, .iload_n 3, 6, []),
  (6, .if_icmp .ge 40, 9, [(0, 46)]),
  (9, .aload_n 0, 10, []),
  (10, .iload_n 1, 11, []),
  (11, .iload_n 3, 12, []),
  (12, .imul, 13, []),
  (13, .iload 4, 15, []),
  (15, .iadd, 16, []),
  (16, .aload_n 0, 17, []),
  (17, .iload_n 1, 18, []),
  (18, .iload_n 3, 19, []),
  (19, .imul, 20, []),
  (20, .iload 4, 22, []),
  (22, .iadd, 23, []),
  (23, .invokestatic 69, 26, []),
  (26, .aload_n 0, 27, []),
  (27, .iload_n 2, 28, []),
  (28, .iload_n 3, 29, []),
  (29, .imul, 30, []),
  (30, .iload 4, 32, []),
  (32, .iadd, 33, []),
  (33, .invokestatic 69, 36, []),
  (36, .iadd, 37, []),
  (37, .invokestatic 73, 40, []),
  (40, .iinc 4 1, 43, []),
  (43, .goto (-40), 46, [(0, 3)]),
  (46, .return_, 47, [])]
set_option maxRecDepth 100000 in
theorem moR_addFrom : MO mR_addFrom 2 false none pR_addFrom := ⟨rR_addFrom, rfl, rfl, by decide, rfl, (fun h => by cases h), (by decide +kernel)⟩
theorem aR_addFrom {d : Nat} {Φ : Option Vl → Ly → Mm → Prop} (sp : List Nat) (n : Nat) {pc : Nat} {L : Lc} {st : List Vl} {S : Ly} {M : Mm} (h : MOk M → wp d 0 0 0 0 mR_addFrom 2 false true none Φ pR_addFrom sp n pc L st S M) : AJ d 0 0 mR_addFrom Φ 0 0 pc L st S M := aj_wp moR_addFrom sp n h
theorem eR_addFrom {d : Nat} {Φ : Option Vl → Ly → Mm → Prop} (sp : List Nat) (n : Nat) {as : List Vl} (hn : as.length ≤ 5) {S : Ly} {M : Mm} (h : MOk M → wp d 0 0 0 0 mR_addFrom 2 false true none Φ pR_addFrom sp n 0 (as.map some) [] S M) : Ret d 0 0 mR_addFrom as S M Φ := ret_wp moR_addFrom (by rw [mtb0_len]; decide) (fun r h => by cases (show some rR_addFrom = some r from h); rfl) sp n hn h
def pR_leadTo : List En := [(0, .iconst 0, 1, []),
  (1, .istore_n 2, 2, []),
  (2, .iload_n 2, 3, []),
  (3, .iconst 5, 4, []),
  (4, .if_icmp .ge 35, 7, [(0, 39)]),
  (7, .aload_n 0, 8, []),
  (8, .getfield 18, 11, []),
  (11, .aload_n 0, 12, []),
  (12, .getfield 53, 15, []),
  (15, .iconst 5, 16, []),
  (16, .imul, 17, []),
  (17, .iload_n 2, 18, []),
  (18, .iadd, 19, []),
  (19, .iload_n 2, 20, []),
  (20, .iload_n 1, 21, []),
  (21, .if_icmp .ne 7, 24, [(0, 28)]),
  (24, .iconst 0, 25, []),
  (25, .goto 5, 28, [(0, 30)]),
  (28, .ldc 120, 30, []),
  (30, .invokestatic 73, 33, []),
  (33, .iinc 2 1, 36, []),
  (36, .goto (-34), 39, [(0, 2)]),
  (39, .aload_n 0, 40, []),
  (40, .aload_n 0, 41, []),
  (41, .getfield 53, 44, []),
  (44, .iconst 1, 45, []),
  (45, .isub, 46, []),
  (46, .aload_n 0, 47, []),
  (47, .getfield 66, 50, []),
  (50, .invokevirtual 45, 53, []),
  (53, .return_, 54, [])]
set_option maxRecDepth 100000 in
theorem moR_leadTo : MO mR_leadTo 2 false none pR_leadTo := ⟨rR_leadTo, rfl, rfl, by decide, rfl, (fun h => by cases h), (by decide +kernel)⟩
theorem aR_leadTo {d : Nat} {Φ : Option Vl → Ly → Mm → Prop} (sp : List Nat) (n : Nat) {pc : Nat} {L : Lc} {st : List Vl} {S : Ly} {M : Mm} (h : MOk M → wp d 0 0 0 0 mR_leadTo 2 false true none Φ pR_leadTo sp n pc L st S M) : AJ d 0 0 mR_leadTo Φ 0 0 pc L st S M := aj_wp moR_leadTo sp n h
theorem eR_leadTo {d : Nat} {Φ : Option Vl → Ly → Mm → Prop} (sp : List Nat) (n : Nat) {as : List Vl} (hn : as.length ≤ 3) {S : Ly} {M : Mm} (h : MOk M → wp d 0 0 0 0 mR_leadTo 2 false true none Φ pR_leadTo sp n 0 (as.map some) [] S M) : Ret d 0 0 mR_leadTo as S M Φ := ret_wp moR_leadTo (by rw [mtb0_len]; decide) (fun r h => by cases (show some rR_leadTo = some r from h); rfl) sp n hn h
def pK_finger : List En := [(0, .aload_n 0, 1, []),
  (1, .iload_n 1, 2, []),
  (2, .iload_n 2, 3, []),
  (3, .invokevirtual 100, 6, []),
  (6, .ifCond .eq 19, 9, [(0, 25)]),
  (9, .aload_n 0, 10, []),
  (10, .getfield 33, 13, []),
  (13, .aload_n 0, 14, []),
  (14, .iload_n 1, 15, []),
  (15, .invokevirtual 54, 18, []),
  (18, .iload_n 2, 19, []),
  (19, .invokevirtual 130, 22, []),
  (22, .goto 4, 25, [(0, 26)]),
  (25, .iconst (-1), 26, []),
  (26, .ireturn, 27, [])]
set_option maxRecDepth 100000 in
theorem moK_finger : MO mK_finger 4 false (some .int) pK_finger := ⟨rK_finger, rfl, rfl, by decide, rfl, (fun h => by cases h), (by decide +kernel)⟩
theorem aK_finger {d : Nat} {Φ : Option Vl → Ly → Mm → Prop} (sp : List Nat) (n : Nat) {pc : Nat} {L : Lc} {st : List Vl} {S : Ly} {M : Mm} (h : MOk M → wp d 0 0 0 0 mK_finger 4 false true (some .int) Φ pK_finger sp n pc L st S M) : AJ d 0 0 mK_finger Φ 0 0 pc L st S M := aj_wp moK_finger sp n h
theorem eK_finger {d : Nat} {Φ : Option Vl → Ly → Mm → Prop} (sp : List Nat) (n : Nat) {as : List Vl} (hn : as.length ≤ 3) {S : Ly} {M : Mm} (h : MOk M → wp d 0 0 0 0 mK_finger 4 false true (some .int) Φ pK_finger sp n 0 (as.map some) [] S M) : Ret d 0 0 mK_finger as S M Φ := ret_wp moK_finger (by rw [mtb0_len]; decide) (fun r h => by cases (show some rK_finger = some r from h); rfl) sp n hn h
def pR_bestFinger : List En := [(0, .aload_n 0, 1, []),
  (1, .aload_n 1, 2, []),
  (2, .bipush (-9), 4, []),
  (4, .bipush (-9), 6, []),
  (6, .invokevirtual 77, 9, []),
  (9, .bipush (-9), 11, []),
  (11, .if_icmp .ne 6, 14, [(0, 17)]),
  (14, .bipush (-9), 16, []),
  (16, .ireturn, 17, []),
  (17, .aload_n 1, 18, []),
  (18, .invokevirtual 35, 21, []),
  (21, .ifCond .ne 25, 24, [(0, 46)]),
  (24, .aload_n 0, 25, []),
  (25, .iconst 0, 26, []),
  (26, .aload_n 0, 27, []),
  (27, .getfield 41, 30, []),
  (30, .iconst 1, 31, []),
  (31, .isub, 32, []),
  (32, .invokevirtual 81, 35, []),
  (35, .aload_n 0, 36, []),
  (36, .getfield 24, 39, []),
  (39, .iload_n 2, 40, []),
  (40, .invokestatic 69, 43, []),
  (43, .iconst 1, 44, []),
  (44, .iadd, 45, []),
  (45, .ireturn, 46, []),
  (46, .aload_n 0, 47, []),
  (47, .iconst 0, 48, []),
  (48, .aload_n 0, 49, []),
  (49, .getfield 66, 52, []),
  (52, .invokevirtual 81, 55, []),
  (55, .aload_n 0, 56, []),
  (56, .aload_n 0, 57, []),
  (57, .getfield 24, 60, []),
  (60, .aload_n 0, 61, []),
  (61, .getfield 66, 64, []),
  (64, .invokestatic 69, 67, []),
  (67, .invokevirtual 62, 70, []),
  (70, .aload_n 0, 71, []),
  (71, .aload_n 0, 72, []),
  (72, .getfield 66, 75, []),
  (75, .iconst 1, 76, []),
  (76, .iadd, 77, []),
  (77, .aload_n 0, 78, []),
  (78, .getfield 53, 81, []),
  (81, .iconst 1, 82, []),
  (82, .isub, 83, []),
  (83, .invokevirtual 81, 86, []),
  (86, .iconst 0, 87, []),
  (87, .istore_n 3, 88, []),
  (88, .iload_n 3, 89, []),
  (89, .aload_n 0, 90, []),
  (90, .getfield 56, 93, []),
  (93, .if_icmp .ge 35, 96, [(0, 128)]),
  (96, .aload_n 0, 97, []),
  (97, .getfield 24, 100, []),
  (100, .aload_n 0, 101, []),
  (101, .getfield 53, 104, []),
  (104, .iload_n 3, 105, []),
  (105, .iadd, 106, []),
  (106, .aload_n 0, 107, []),
  (107, .getfield 24, 110, []),
  (110, .aload_n 0, 111, []),
  (111, .getfield 66, 114, []),
  (114, .iload_n 3, 115, []),
  (115, .iadd, 116, []),
  (116, .invokestatic 69, 119, []),
  (119, .invokestatic 73, 122, []),
  (122, .iinc 3 1, 125, []),
  (125, .goto (-37), 128, [(0, 88)]),
  (128, .aload_n 0, 129, []),
  (129, .aload_n 0, 130, []),
  (130, .getfield 53, 133, []),
  (133, .aload_n 0, 134, []),
  (134, .getfield 56, 137, []),
  (137, .iadd, 138, []),
  (138, .aload_n 0, 139, []),
  (139, .getfield 41, 142, []),
  (142, .iconst 1, 143, []),
  (143, .isub, 144, []),
  (144, .invokevirtual 81, 147, []),
  (147, .aload_n 0, 148, []),
  (148, .getfield 24, 151, []),
  (151, .iload_n 2, 152, []),
  (152, .invokestatic 69, 155, []),
  (155, .iconst 1, 156, []),
  (156, .iadd, 157, []),
  (157, .ireturn, 158, [])]
set_option maxRecDepth 100000 in
theorem moR_bestFinger : MO mR_bestFinger 2 false (some .int) pR_bestFinger := ⟨rR_bestFinger, rfl, rfl, by decide, rfl, (fun h => by cases h), (by decide +kernel)⟩
theorem aR_bestFinger {d : Nat} {Φ : Option Vl → Ly → Mm → Prop} (sp : List Nat) (n : Nat) {pc : Nat} {L : Lc} {st : List Vl} {S : Ly} {M : Mm} (h : MOk M → wp d 0 0 0 0 mR_bestFinger 2 false true (some .int) Φ pR_bestFinger sp n pc L st S M) : AJ d 0 0 mR_bestFinger Φ 0 0 pc L st S M := aj_wp moR_bestFinger sp n h
theorem eR_bestFinger {d : Nat} {Φ : Option Vl → Ly → Mm → Prop} (sp : List Nat) (n : Nat) {as : List Vl} (hn : as.length ≤ 4) {S : Ly} {M : Mm} (h : MOk M → wp d 0 0 0 0 mR_bestFinger 2 false true (some .int) Φ pR_bestFinger sp n 0 (as.map some) [] S M) : Ret d 0 0 mR_bestFinger as S M Φ := ret_wp moR_bestFinger (by rw [mtb0_len]; decide) (fun r h => by cases (show some rR_bestFinger = some r from h); rfl) sp n hn h
def pR_follow : List En := [(0, .iload_n 1, 1, []),
  (1, .istore_n 3, 2, []),
  (2, .iload_n 3, 3, []),
  (3, .iload_n 2, 4, []),
  (4, .if_icmp .gt 112, 7, [(0, 116)]),
  (7, .ldc 120, 9, []),
  (9, .istore 4, 11, []),
  (11, .iconst 0, 12, []),
  (12, .istore 5, 14, []),
  (14, .iconst 0, 15, []),
  (15, .istore 6, 17, []),
  (17, .iload 6, 19, []),
  (19, .iconst 5, 20, []),
  (20, .if_icmp .ge 80, 23, [(0, 100)]),
  (23, .iload_n 3, 24, []),
  (24, .ifCond .ne 7, 27, [(0, 31)]),
  (27, .iconst 0, 28, []),
  (28, .goto 31, 31, [(0, 59)]),
  (31, .aload_n 0, 32, []),
  (32, .getfield 15, 35, []),
  (35, .iload_n 3, 36, []),
  (36, .iconst 1, 37, []),
  (37, .isub, 38, []),
  (38, .iconst 5, 39, []),
  (39, .imul, 40, []),
  (40, .aload_n 0, 41, []),
  (41, .getfield 24, 44, []),
  (44, .iload_n 3, 45, []),
  (45, .iconst 1, 46, []),
  (46, .isub, 47, []),
  (47, .invokestatic 69, 50, []),
  (50, .iadd, 51, []),
  (51, .iconst 5, 52, []),
  (52, .imul, 53, []),
  (53, .iload 6, 55, []),
  (55, .iadd, 56, []),
  (56, .invokestatic 69, 59, []),
  (59, .istore 7, 61, []),
  (61, .iload 7, 63, []),
  (63, .aload_n 0, 64, []),
  (64, .getfield 18, 67, []),
  (67, .iload_n 3, 68, []),
  (68, .iconst 5, 69, []),
  (69, .imul, 70, []),
  (70, .iload 6, 72, []),
  (72, .iadd, 73, []),
  (73, .invokestatic 69, 76, []),
  (76, .iadd, 77, []),
  (77, .istore 8, 79, []),
  (79, .iload 8, 81, []),
  (81, .iload 4, 83, []),
  (83, .if_icmp .ge 11, 86, [(0, 94)]),
  (86, .iload 8, 88, []),
  (88, .istore 4, 90, []),
  (90, .iload 6, 92, []),
  (92, .istore 5, 94, []),
  (94, .iinc 6 1, 97, []),
  (97, .goto (-80), 100, [(0, 17)]),
  (100, .aload_n 0, 101, []),
  (101, .getfield 24, 104, []),
  (104, .iload_n 3, 105, []),
  (105, .iload 5, 107, []),
  (107, .invokestatic 73, 110, []),
  (110, .iinc 3 1, 113, []),
  (113, .goto (-111), 116, [(0, 2)]),
  (116, .return_, 117, [])]
set_option maxRecDepth 100000 in
theorem moR_follow : MO mR_follow 2 false none pR_follow := ⟨rR_follow, rfl, rfl, by decide, rfl, (fun h => by cases h), (by decide +kernel)⟩
theorem aR_follow {d : Nat} {Φ : Option Vl → Ly → Mm → Prop} (sp : List Nat) (n : Nat) {pc : Nat} {L : Lc} {st : List Vl} {S : Ly} {M : Mm} (h : MOk M → wp d 0 0 0 0 mR_follow 2 false true none Φ pR_follow sp n pc L st S M) : AJ d 0 0 mR_follow Φ 0 0 pc L st S M := aj_wp moR_follow sp n h
theorem eR_follow {d : Nat} {Φ : Option Vl → Ly → Mm → Prop} (sp : List Nat) (n : Nat) {as : List Vl} (hn : as.length ≤ 9) {S : Ly} {M : Mm} (h : MOk M → wp d 0 0 0 0 mR_follow 2 false true none Φ pR_follow sp n 0 (as.map some) [] S M) : Ret d 0 0 mR_follow as S M Φ := ret_wp moR_follow (by rw [mtb0_len]; decide) (fun r h => by cases (show some rR_follow = some r from h); rfl) sp n hn h
def pK_would : List En := [(0, .aload_n 0, 1, []),
  (1, .iload_n 1, 2, []),
  (2, .iload_n 2, 3, []),
  (3, .invokevirtual 100, 6, []),
  (6, .ifCond .eq 10, 9, [(0, 16)]),
  (9, .iload_n 3, 10, []),
  (10, .invokestatic 66, 13, []),
  (13, .ifCond .ne 5, 16, [(0, 18)]),
  (16, .iconst (-1), 17, []),
  (17, .ireturn, 18, []),
  (18, .aload_n 0, 19, []),
  (19, .getfield 33, 22, []),
  (22, .aload_n 0, 23, []),
  (23, .iload_n 1, 24, []),
  (24, .invokevirtual 54, 27, []),
  (27, .iload_n 2, 28, []),
  (28, .iload_n 3, 29, []),
  (29, .invokevirtual 126, 32, []),
  (32, .ireturn, 33, [])]
set_option maxRecDepth 100000 in
theorem moK_would : MO mK_would 4 false (some .int) pK_would := ⟨rK_would, rfl, rfl, by decide, rfl, (fun h => by cases h), (by decide +kernel)⟩
theorem aK_would {d : Nat} {Φ : Option Vl → Ly → Mm → Prop} (sp : List Nat) (n : Nat) {pc : Nat} {L : Lc} {st : List Vl} {S : Ly} {M : Mm} (h : MOk M → wp d 0 0 0 0 mK_would 4 false true (some .int) Φ pK_would sp n pc L st S M) : AJ d 0 0 mK_would Φ 0 0 pc L st S M := aj_wp moK_would sp n h
theorem eK_would {d : Nat} {Φ : Option Vl → Ly → Mm → Prop} (sp : List Nat) (n : Nat) {as : List Vl} (hn : as.length ≤ 4) {S : Ly} {M : Mm} (h : MOk M → wp d 0 0 0 0 mK_would 4 false true (some .int) Φ pK_would sp n 0 (as.map some) [] S M) : Ret d 0 0 mK_would as S M Φ := ret_wp moK_would (by rw [mtb0_len]; decide) (fun r h => by cases (show some rK_would = some r from h); rfl) sp n hn h
def pK_tie : List En := [(0, .iload_n 1, 1, []),
  (1, .invokestatic 44, 4, []),
  (4, .ifCond .ne 5, 7, [(0, 9)]),
  (7, .iconst (-1), 8, []),
  (8, .ireturn, 9, []),
  (9, .iload_n 2, 10, []),
  (10, .ifCond .lt 41, 13, [(0, 51)]),
  (13, .iload_n 2, 14, []),
  (14, .bipush 28, 16, []),
  (16, .if_icmp .gt 35, 19, [(0, 51)]),
  (19, .iload_n 3, 20, []),
  (20, .iconst 1, 21, []),
  (21, .if_icmp .lt 30, 24, [(0, 51)]),
  (24, .iload_n 3, 25, []),
  (25, .bipush 30, 27, []),
  (27, .if_icmp .ge 24, 30, [(0, 51)]),
  (30, .iload 4, 32, []),
  (32, .iconst 1, 33, []),
  (33, .if_icmp .lt 18, 36, [(0, 51)]),
  (36, .iload 4, 38, []),
  (38, .bipush 15, 40, []),
  (40, .if_icmp .gt 11, 43, [(0, 51)]),
  (43, .iload_n 2, 44, []),
  (44, .iload 4, 46, []),
  (46, .iadd, 47, []),
  (47, .iload_n 3, 48, []),
  (48, .if_icmp .le 6, 51, [(0, 54)]),
  (51, .bipush (-2), 53, []),
  (53, .ireturn, 54, []),
  (54, .aload_n 0, 55, []),
  (55, .iload_n 1, 56, []),
  (56, .invokevirtual 54, 59, []),
  (59, .astore 5, 61, []),
  (61, .aload 5, 63, []),
  (63, .iload_n 2, 64, []),
  (64, .iload_n 3, 65, []),
  (65, .iload 4, 67, []),
  (67, .invokevirtual 134, 70, []),
  (70, .aload 5, 72, []),
  (72, .invokevirtual 138, 75, []),
  (75, .ifCond .eq 7, 78, [(0, 82)]),
  (78, .iconst 1, 79, []),
  (79, .goto 4, 82, [(0, 83)]),
  (82, .iconst 0, 83, []),
  (83, .ireturn, 84, [])]
set_option maxRecDepth 100000 in
theorem moK_tie : MO mK_tie 4 false (some .int) pK_tie := ⟨rK_tie, rfl, rfl, by decide, rfl, (fun h => by cases h), (by decide +kernel)⟩
theorem aK_tie {d : Nat} {Φ : Option Vl → Ly → Mm → Prop} (sp : List Nat) (n : Nat) {pc : Nat} {L : Lc} {st : List Vl} {S : Ly} {M : Mm} (h : MOk M → wp d 0 0 0 0 mK_tie 4 false true (some .int) Φ pK_tie sp n pc L st S M) : AJ d 0 0 mK_tie Φ 0 0 pc L st S M := aj_wp moK_tie sp n h
theorem eK_tie {d : Nat} {Φ : Option Vl → Ly → Mm → Prop} (sp : List Nat) (n : Nat) {as : List Vl} (hn : as.length ≤ 6) {S : Ly} {M : Mm} (h : MOk M → wp d 0 0 0 0 mK_tie 4 false true (some .int) Φ pK_tie sp n 0 (as.map some) [] S M) : Ret d 0 0 mK_tie as S M Φ := ret_wp moK_tie (by rw [mtb0_len]; decide) (fun r h => by cases (show some rK_tie = some r from h); rfl) sp n hn h
def pH_setTie : List En := [(0, .aload_n 0, 1, []),
  (1, .iload_n 1, 2, []),
  (2, .putfield 52, 5, []),
  (5, .aload_n 0, 6, []),
  (6, .iload_n 2, 7, []),
  (7, .putfield 55, 10, []),
  (10, .aload_n 0, 11, []),
  (11, .iload_n 3, 12, []),
  (12, .putfield 58, 15, []),
  (15, .return_, 16, [])]
set_option maxRecDepth 100000 in
theorem moH_setTie : MO mH_setTie 0 false none pH_setTie := ⟨rH_setTie, rfl, rfl, by decide, rfl, (fun h => by cases h), (by decide +kernel)⟩
theorem aH_setTie {d : Nat} {Φ : Option Vl → Ly → Mm → Prop} (sp : List Nat) (n : Nat) {pc : Nat} {L : Lc} {st : List Vl} {S : Ly} {M : Mm} (h : MOk M → wp d 0 0 0 0 mH_setTie 0 false true none Φ pH_setTie sp n pc L st S M) : AJ d 0 0 mH_setTie Φ 0 0 pc L st S M := aj_wp moH_setTie sp n h
theorem eH_setTie {d : Nat} {Φ : Option Vl → Ly → Mm → Prop} (sp : List Nat) (n : Nat) {as : List Vl} (hn : as.length ≤ 4) {S : Ly} {M : Mm} (h : MOk M → wp d 0 0 0 0 mH_setTie 0 false true none Φ pH_setTie sp n 0 (as.map some) [] S M) : Ret d 0 0 mH_setTie as S M Φ := ret_wp moH_setTie (by rw [mtb0_len]; decide) (fun r h => by cases (show some rH_setTie = some r from h); rfl) sp n hn h
def pK_untie : List En := [(0, .iload_n 1, 1, []),
  (1, .invokestatic 44, 4, []),
  (4, .ifCond .ne 5, 7, [(0, 9)]),
  (7, .iconst (-1), 8, []),
  (8, .ireturn, 9, []),
  (9, .aload_n 0, 10, []),
  (10, .iload_n 1, 11, []),
  (11, .invokevirtual 54, 14, []),
  (14, .astore_n 2, 15, []),
  (15, .aload_n 2, 16, []),
  (16, .invokevirtual 142, 19, []),
  (19, .ifCond .eq 7, 22, [(0, 26)]),
  (22, .iconst 1, 23, []),
  (23, .goto 4, 26, [(0, 27)]),
  (26, .iconst 0, 27, []),
  (27, .istore_n 3, 28, []),
  (28, .aload_n 2, 29, []),
  (29, .invokevirtual 145, 32, []),
  (32, .iload_n 3, 33, []),
  (33, .ireturn, 34, [])]
set_option maxRecDepth 100000 in
theorem moK_untie : MO mK_untie 4 false (some .int) pK_untie := ⟨rK_untie, rfl, rfl, by decide, rfl, (fun h => by cases h), (by decide +kernel)⟩
theorem aK_untie {d : Nat} {Φ : Option Vl → Ly → Mm → Prop} (sp : List Nat) (n : Nat) {pc : Nat} {L : Lc} {st : List Vl} {S : Ly} {M : Mm} (h : MOk M → wp d 0 0 0 0 mK_untie 4 false true (some .int) Φ pK_untie sp n pc L st S M) : AJ d 0 0 mK_untie Φ 0 0 pc L st S M := aj_wp moK_untie sp n h
theorem eK_untie {d : Nat} {Φ : Option Vl → Ly → Mm → Prop} (sp : List Nat) (n : Nat) {as : List Vl} (hn : as.length ≤ 4) {S : Ly} {M : Mm} (h : MOk M → wp d 0 0 0 0 mK_untie 4 false true (some .int) Φ pK_untie sp n 0 (as.map some) [] S M) : Ret d 0 0 mK_untie as S M Φ := ret_wp moK_untie (by rw [mtb0_len]; decide) (fun r h => by cases (show some rK_untie = some r from h); rfl) sp n hn h
def pH_hasTie : List En := [(0, .aload_n 0, 1, []),
  (1, .getfield 58, 4, []),
  (4, .ifCond .le 7, 7, [(0, 11)]),
  (7, .iconst 1, 8, []),
  (8, .goto 4, 11, [(0, 12)]),
  (11, .iconst 0, 12, []),
  (12, .ireturn, 13, [])]
set_option maxRecDepth 100000 in
theorem moH_hasTie : MO mH_hasTie 0 false (some .boolean) pH_hasTie := ⟨rH_hasTie, rfl, rfl, by decide, rfl, (fun h => by cases h), (by decide +kernel)⟩
theorem aH_hasTie {d : Nat} {Φ : Option Vl → Ly → Mm → Prop} (sp : List Nat) (n : Nat) {pc : Nat} {L : Lc} {st : List Vl} {S : Ly} {M : Mm} (h : MOk M → wp d 0 0 0 0 mH_hasTie 0 false true (some .boolean) Φ pH_hasTie sp n pc L st S M) : AJ d 0 0 mH_hasTie Φ 0 0 pc L st S M := aj_wp moH_hasTie sp n h
theorem eH_hasTie {d : Nat} {Φ : Option Vl → Ly → Mm → Prop} (sp : List Nat) (n : Nat) {as : List Vl} (hn : as.length ≤ 1) {S : Ly} {M : Mm} (h : MOk M → wp d 0 0 0 0 mH_hasTie 0 false true (some .boolean) Φ pH_hasTie sp n 0 (as.map some) [] S M) : Ret d 0 0 mH_hasTie as S M Φ := ret_wp moH_hasTie (by rw [mtb0_len]; decide) (fun r h => by cases (show some rH_hasTie = some r from h); rfl) sp n hn h
def pK_tied : List En := [(0, .iload_n 1, 1, []),
  (1, .invokestatic 44, 4, []),
  (4, .ifCond .ne 5, 7, [(0, 9)]),
  (7, .iconst (-1), 8, []),
  (8, .ireturn, 9, []),
  (9, .aload_n 0, 10, []),
  (10, .getfield 33, 13, []),
  (13, .aload_n 0, 14, []),
  (14, .iload_n 1, 15, []),
  (15, .invokevirtual 54, 18, []),
  (18, .bipush (-9), 20, []),
  (20, .bipush (-9), 22, []),
  (22, .invokevirtual 126, 25, []),
  (25, .istore_n 2, 26, []),
  (26, .aload_n 0, 27, []),
  (27, .getfield 33, 30, []),
  (30, .aload_n 0, 31, []),
  (31, .iload_n 1, 32, []),
  (32, .invokevirtual 54, 35, []),
  (35, .invokevirtual 148, 38, []),
  (38, .istore_n 3, 39, []),
  (39, .iload_n 2, 40, []),
  (40, .bipush (-9), 42, []),
  (42, .if_icmp .eq 9, 45, [(0, 51)]),
  (45, .iload_n 3, 46, []),
  (46, .bipush (-9), 48, []),
  (48, .if_icmp .ne 8, 51, [(0, 56)]),
  (51, .bipush (-9), 53, []),
  (53, .goto 6, 56, [(0, 59)]),
  (56, .iload_n 2, 57, []),
  (57, .iload_n 3, 58, []),
  (58, .isub, 59, []),
  (59, .ireturn, 60, [])]
set_option maxRecDepth 100000 in
theorem moK_tied : MO mK_tied 4 false (some .int) pK_tied := ⟨rK_tied, rfl, rfl, by decide, rfl, (fun h => by cases h), (by decide +kernel)⟩
theorem aK_tied {d : Nat} {Φ : Option Vl → Ly → Mm → Prop} (sp : List Nat) (n : Nat) {pc : Nat} {L : Lc} {st : List Vl} {S : Ly} {M : Mm} (h : MOk M → wp d 0 0 0 0 mK_tied 4 false true (some .int) Φ pK_tied sp n pc L st S M) : AJ d 0 0 mK_tied Φ 0 0 pc L st S M := aj_wp moK_tied sp n h
theorem eK_tied {d : Nat} {Φ : Option Vl → Ly → Mm → Prop} (sp : List Nat) (n : Nat) {as : List Vl} (hn : as.length ≤ 4) {S : Ly} {M : Mm} (h : MOk M → wp d 0 0 0 0 mK_tied 4 false true (some .int) Φ pK_tied sp n 0 (as.map some) [] S M) : Ret d 0 0 mK_tied as S M Φ := ret_wp moK_tied (by rw [mtb0_len]; decide) (fun r h => by cases (show some rK_tied = some r from h); rfl) sp n hn h
def pR_untiedCost : List En := [(0, .aload_n 0, 1, []),
  (1, .aload_n 1, 2, []),
  (2, .bipush (-9), 4, []),
  (4, .bipush (-9), 6, []),
  (6, .invokevirtual 31, 9, []),
  (9, .aload_n 0, 10, []),
  (10, .aload_n 0, 11, []),
  (11, .getfield 41, 14, []),
  (14, .iconst 1, 15, []),
  (15, .isub, 16, []),
  (16, .iconst 0, 17, []),
  (17, .invokevirtual 45, 20, []),
  (20, .aload_n 0, 21, []),
  (21, .invokevirtual 49, 24, []),
  (24, .ireturn, 25, [])]
set_option maxRecDepth 100000 in
theorem moR_untiedCost : MO mR_untiedCost 2 false (some .int) pR_untiedCost := ⟨rR_untiedCost, rfl, rfl, by decide, rfl, (fun h => by cases h), (by decide +kernel)⟩
theorem aR_untiedCost {d : Nat} {Φ : Option Vl → Ly → Mm → Prop} (sp : List Nat) (n : Nat) {pc : Nat} {L : Lc} {st : List Vl} {S : Ly} {M : Mm} (h : MOk M → wp d 0 0 0 0 mR_untiedCost 2 false true (some .int) Φ pR_untiedCost sp n pc L st S M) : AJ d 0 0 mR_untiedCost Φ 0 0 pc L st S M := aj_wp moR_untiedCost sp n h
theorem eR_untiedCost {d : Nat} {Φ : Option Vl → Ly → Mm → Prop} (sp : List Nat) (n : Nat) {as : List Vl} (hn : as.length ≤ 2) {S : Ly} {M : Mm} (h : MOk M → wp d 0 0 0 0 mR_untiedCost 2 false true (some .int) Φ pR_untiedCost sp n 0 (as.map some) [] S M) : Ret d 0 0 mR_untiedCost as S M Φ := ret_wp moR_untiedCost (by rw [mtb0_len]; decide) (fun r h => by cases (show some rR_untiedCost = some r from h); rfl) sp n hn h
def pK_stuck : List En := [(0, .iload_n 1, 1, []),
  (1, .invokestatic 44, 4, []),
  (4, .ifCond .ne 5, 7, [(0, 9)]),
  (7, .iconst (-1), 8, []),
  (8, .ireturn, 9, []),
  (9, .aload_n 0, 10, []),
  (10, .iload_n 1, 11, []),
  (11, .invokevirtual 54, 14, []),
  (14, .astore_n 2, 15, []),
  (15, .aload_n 0, 16, []),
  (16, .getfield 33, 19, []),
  (19, .aload_n 2, 20, []),
  (20, .bipush (-9), 22, []),
  (22, .bipush (-9), 24, []),
  (24, .invokevirtual 126, 27, []),
  (27, .bipush (-9), 29, []),
  (29, .if_icmp .ne 14, 32, [(0, 43)]),
  (32, .aload_n 0, 33, []),
  (33, .getfield 33, 36, []),
  (36, .aload_n 2, 37, []),
  (37, .invokevirtual 152, 40, []),
  (40, .goto 5, 43, [(0, 45)]),
  (43, .bipush (-9), 45, []),
  (45, .ireturn, 46, [])]
set_option maxRecDepth 100000 in
theorem moK_stuck : MO mK_stuck 4 false (some .int) pK_stuck := ⟨rK_stuck, rfl, rfl, by decide, rfl, (fun h => by cases h), (by decide +kernel)⟩
theorem aK_stuck {d : Nat} {Φ : Option Vl → Ly → Mm → Prop} (sp : List Nat) (n : Nat) {pc : Nat} {L : Lc} {st : List Vl} {S : Ly} {M : Mm} (h : MOk M → wp d 0 0 0 0 mK_stuck 4 false true (some .int) Φ pK_stuck sp n pc L st S M) : AJ d 0 0 mK_stuck Φ 0 0 pc L st S M := aj_wp moK_stuck sp n h
theorem eK_stuck {d : Nat} {Φ : Option Vl → Ly → Mm → Prop} (sp : List Nat) (n : Nat) {as : List Vl} (hn : as.length ≤ 3) {S : Ly} {M : Mm} (h : MOk M → wp d 0 0 0 0 mK_stuck 4 false true (some .int) Φ pK_stuck sp n 0 (as.map some) [] S M) : Ret d 0 0 mK_stuck as S M Φ := ret_wp moK_stuck (by rw [mtb0_len]; decide) (fun r h => by cases (show some rK_stuck = some r from h); rfl) sp n hn h
def pR_firstBlocked : List En := [(0, .aload_n 0, 1, []),
  (1, .aload_n 1, 2, []),
  (2, .bipush (-9), 4, []),
  (4, .bipush (-9), 6, []),
  (6, .invokevirtual 31, 9, []),
  (9, .aload_n 0, 10, []),
  (10, .getfield 41, 13, []),
  (13, .istore_n 2, 14, []),
  (14, .iconst 0, 15, []),
  (15, .istore_n 3, 16, []),
  (16, .iload_n 3, 17, []),
  (17, .iload_n 2, 18, []),
  (18, .if_icmp .ge 33, 21, [(0, 51)]),
  (21, .aload_n 0, 22, []),
  (22, .iload_n 3, 23, []),
  (23, .iconst 1, 24, []),
  (24, .iadd, 25, []),
  (25, .putfield 41, 28, []),
  (28, .aload_n 0, 29, []),
  (29, .iload_n 3, 30, []),
  (30, .iconst 0, 31, []),
  (31, .invokevirtual 45, 34, []),
  (34, .aload_n 0, 35, []),
  (35, .invokevirtual 49, 38, []),
  (38, .bipush (-9), 40, []),
  (40, .if_icmp .ne 5, 43, [(0, 45)]),
  (43, .iload_n 3, 44, []),
  (44, .ireturn, 45, []),
  (45, .iinc 3 1, 48, []),
  (48, .goto (-32), 51, [(0, 16)]),
  (51, .bipush 99, 53, []),
  (53, .ireturn, 54, [])]
set_option maxRecDepth 100000 in
theorem moR_firstBlocked : MO mR_firstBlocked 2 false (some .int) pR_firstBlocked := ⟨rR_firstBlocked, rfl, rfl, by decide, rfl, (fun h => by cases h), (by decide +kernel)⟩
theorem aR_firstBlocked {d : Nat} {Φ : Option Vl → Ly → Mm → Prop} (sp : List Nat) (n : Nat) {pc : Nat} {L : Lc} {st : List Vl} {S : Ly} {M : Mm} (h : MOk M → wp d 0 0 0 0 mR_firstBlocked 2 false true (some .int) Φ pR_firstBlocked sp n pc L st S M) : AJ d 0 0 mR_firstBlocked Φ 0 0 pc L st S M := aj_wp moR_firstBlocked sp n h
theorem eR_firstBlocked {d : Nat} {Φ : Option Vl → Ly → Mm → Prop} (sp : List Nat) (n : Nat) {as : List Vl} (hn : as.length ≤ 4) {S : Ly} {M : Mm} (h : MOk M → wp d 0 0 0 0 mR_firstBlocked 2 false true (some .int) Φ pR_firstBlocked sp n 0 (as.map some) [] S M) : Ret d 0 0 mR_firstBlocked as S M Φ := ret_wp moR_firstBlocked (by rw [mtb0_len]; decide) (fun r h => by cases (show some rR_firstBlocked = some r from h); rfl) sp n hn h
def pK_phrase : List En := [(0, .iload_n 2, 1, []),
  (1, .invokestatic 44, 4, []),
  (4, .ifCond .ne 5, 7, [(0, 9)]),
  (7, .iconst (-1), 8, []),
  (8, .ireturn, 9, []),
  (9, .iload_n 1, 10, []),
  (10, .bipush 26, 12, []),
  (12, .invokestatic 79, 15, []),
  (15, .ifCond .eq 26, 18, [(0, 41)]),
  (18, .iload_n 3, 19, []),
  (19, .ifCond .lt 22, 22, [(0, 41)]),
  (22, .iload_n 3, 23, []),
  (23, .bipush 28, 25, []),
  (25, .if_icmp .gt 16, 28, [(0, 41)]),
  (28, .iload 4, 30, []),
  (30, .iconst 2, 31, []),
  (31, .if_icmp .lt 10, 34, [(0, 41)]),
  (34, .iload 4, 36, []),
  (36, .bipush 12, 38, []),
  (38, .if_icmp .le 6, 41, [(0, 44)]),
  (41, .bipush (-2), 43, []),
  (43, .ireturn, 44, []),
  (44, .aload_n 0, 45, []),
  (45, .getfield 40, 48, []),
  (48, .iload_n 1, 49, []),
  (49, .iload_n 2, 50, []),
  (50, .iload_n 3, 51, []),
  (51, .iload 4, 53, []),
  (53, .invokevirtual 155, 56, []),
  (56, .aload_n 0, 57, []),
  (57, .getfield 40, 60, []),
  (60, .invokevirtual 159, 63, []),
  (63, .ireturn, 64, [])]
set_option maxRecDepth 100000 in
theorem moK_phrase : MO mK_phrase 4 false (some .int) pK_phrase := ⟨rK_phrase, rfl, rfl, by decide, rfl, (fun h => by cases h), (by decide +kernel)⟩
theorem aK_phrase {d : Nat} {Φ : Option Vl → Ly → Mm → Prop} (sp : List Nat) (n : Nat) {pc : Nat} {L : Lc} {st : List Vl} {S : Ly} {M : Mm} (h : MOk M → wp d 0 0 0 0 mK_phrase 4 false true (some .int) Φ pK_phrase sp n pc L st S M) : AJ d 0 0 mK_phrase Φ 0 0 pc L st S M := aj_wp moK_phrase sp n h
theorem eK_phrase {d : Nat} {Φ : Option Vl → Ly → Mm → Prop} (sp : List Nat) (n : Nat) {as : List Vl} (hn : as.length ≤ 5) {S : Ly} {M : Mm} (h : MOk M → wp d 0 0 0 0 mK_phrase 4 false true (some .int) Φ pK_phrase sp n 0 (as.map some) [] S M) : Ret d 0 0 mK_phrase as S M Φ := ret_wp moK_phrase (by rw [mtb0_len]; decide) (fun r h => by cases (show some rK_phrase = some r from h); rfl) sp n hn h
def pP_come : List En := [(0, .aload_n 0, 1, []),
  (1, .iload_n 1, 2, []),
  (2, .invokevirtual 32, 5, []),
  (5, .istore 5, 7, []),
  (7, .iload 5, 9, []),
  (9, .bipush (-9), 11, []),
  (11, .if_icmp .eq 12, 14, [(0, 23)]),
  (14, .aload_n 0, 15, []),
  (15, .iload 5, 17, []),
  (17, .invokevirtual 36, 20, []),
  (20, .goto 17, 23, [(0, 37)]),
  (23, .aload_n 0, 24, []),
  (24, .getfield 24, 27, []),
  (27, .bipush 6, 29, []),
  (29, .if_icmp .ne 8, 32, [(0, 37)]),
  (32, .aload_n 0, 33, []),
  (33, .iconst 0, 34, []),
  (34, .invokevirtual 36, 37, []),
  (37, .aload_n 0, 38, []),
  (38, .getfield 9, 41, []),
  (41, .aload_n 0, 42, []),
  (42, .getfield 24, 45, []),
  (45, .iload_n 1, 46, []),
  (46, .invokestatic 40, 49, []),
  (49, .aload_n 0, 50, []),
  (50, .getfield 15, 53, []),
  (53, .aload_n 0, 54, []),
  (54, .getfield 24, 57, []),
  (57, .iload_n 2, 58, []),
  (58, .invokestatic 40, 61, []),
  (61, .aload_n 0, 62, []),
  (62, .getfield 18, 65, []),
  (65, .aload_n 0, 66, []),
  (66, .getfield 24, 69, []),
  (69, .iload_n 3, 70, []),
  (70, .invokestatic 40, 73, []),
  (73, .aload_n 0, 74, []),
  (74, .getfield 21, 77, []),
  (77, .aload_n 0, 78, []),
  (78, .getfield 24, 81, []),
  (81, .iload 4, 83, []),
  (83, .invokestatic 40, 86, []),
  (86, .aload_n 0, 87, []),
  (87, .dup, 88, []),
  (88, .getfield 24, 91, []),
  (91, .iconst 1, 92, []),
  (92, .iadd, 93, []),
  (93, .putfield 24, 96, []),
  (96, .return_, 97, [])]
set_option maxRecDepth 100000 in
theorem moP_come : MO mP_come 1 false none pP_come := ⟨rP_come, rfl, rfl, by decide, rfl, (fun h => by cases h), (by decide +kernel)⟩
theorem aP_come {d : Nat} {Φ : Option Vl → Ly → Mm → Prop} (sp : List Nat) (n : Nat) {pc : Nat} {L : Lc} {st : List Vl} {S : Ly} {M : Mm} (h : MOk M → wp d 0 0 0 0 mP_come 1 false true none Φ pP_come sp n pc L st S M) : AJ d 0 0 mP_come Φ 0 0 pc L st S M := aj_wp moP_come sp n h
theorem eP_come {d : Nat} {Φ : Option Vl → Ly → Mm → Prop} (sp : List Nat) (n : Nat) {as : List Vl} (hn : as.length ≤ 6) {S : Ly} {M : Mm} (h : MOk M → wp d 0 0 0 0 mP_come 1 false true none Φ pP_come sp n 0 (as.map some) [] S M) : Ret d 0 0 mP_come as S M Φ := ret_wp moP_come (by rw [mtb0_len]; decide) (fun r h => by cases (show some rP_come = some r from h); rfl) sp n hn h
def pP_placeOf : List En := [(0, .iconst 0, 1, []),
  (1, .istore_n 2, 2, []),
  (2, .iload_n 2, 3, []),
  (3, .aload_n 0, 4, []),
  (4, .getfield 24, 7, []),
  (7, .if_icmp .ge 23, 10, [(0, 30)]),
  (10, .aload_n 0, 11, []),
  (11, .getfield 9, 14, []),
  (14, .iload_n 2, 15, []),
  (15, .invokestatic 28, 18, []),
  (18, .iload_n 1, 19, []),
  (19, .if_icmp .ne 5, 22, [(0, 24)]),
  (22, .iload_n 2, 23, []),
  (23, .ireturn, 24, []),
  (24, .iinc 2 1, 27, []),
  (27, .goto (-25), 30, [(0, 2)]),
  (30, .bipush (-9), 32, []),
  (32, .ireturn, 33, [])]
set_option maxRecDepth 100000 in
theorem moP_placeOf : MO mP_placeOf 1 false (some .int) pP_placeOf := ⟨rP_placeOf, rfl, rfl, by decide, rfl, (fun h => by cases h), (by decide +kernel)⟩
theorem aP_placeOf {d : Nat} {Φ : Option Vl → Ly → Mm → Prop} (sp : List Nat) (n : Nat) {pc : Nat} {L : Lc} {st : List Vl} {S : Ly} {M : Mm} (h : MOk M → wp d 0 0 0 0 mP_placeOf 1 false true (some .int) Φ pP_placeOf sp n pc L st S M) : AJ d 0 0 mP_placeOf Φ 0 0 pc L st S M := aj_wp moP_placeOf sp n h
theorem eP_placeOf {d : Nat} {Φ : Option Vl → Ly → Mm → Prop} (sp : List Nat) (n : Nat) {as : List Vl} (hn : as.length ≤ 3) {S : Ly} {M : Mm} (h : MOk M → wp d 0 0 0 0 mP_placeOf 1 false true (some .int) Φ pP_placeOf sp n 0 (as.map some) [] S M) : Ret d 0 0 mP_placeOf as S M Φ := ret_wp moP_placeOf (by rw [mtb0_len]; decide) (fun r h => by cases (show some rP_placeOf = some r from h); rfl) sp n hn h
def pP_drop : List En := [(0, .iload_n 1, 1, []),
  (1, .istore_n 2, 2, []),
  (2, .iload_n 2, 3, []),
  (3, .iconst 1, 4, []),
  (4, .iadd, 5, []),
  (5, .aload_n 0, 6, []),
  (6, .getfield 24, 9, []),
  (9, .if_icmp .ge 81, 12, [(0, 90)]),
  (12, .aload_n 0, 13, []),
  (13, .getfield 9, 16, []),
  (16, .iload_n 2, 17, []),
  (17, .aload_n 0, 18, []),
  (18, .getfield 9, 21, []),
  (21, .iload_n 2, 22, []),
  (22, .iconst 1, 23, []),
  (23, .iadd, 24, []),
  (24, .invokestatic 28, 27, []),
  (27, .invokestatic 40, 30, []),
  (30, .aload_n 0, 31, []),
  (31, .getfield 15, 34, []),
  (34, .iload_n 2, 35, []),
  (35, .aload_n 0, 36, []),
  (36, .getfield 15, 39, []),
  (39, .iload_n 2, 40, []),
  (40, .iconst 1, 41, []),
  (41, .iadd, 42, []),
  (42, .invokestatic 28, 45, []),
  (45, .invokestatic 40, 48, []),
  (48, .aload_n 0, 49, []),
  (49, .getfield 18, 52, []),
  (52, .iload_n 2, 53, []),
  (53, .aload_n 0, 54, []),
  (54, .getfield 18, 57, []),
  (57, .iload_n 2, 58, []),
  (58, .iconst 1, 59, []),
  (59, .iadd, 60, []),
  (60, .invokestatic 28, 63, []),
  (63, .invokestatic 40, 66, []),
  (66, .aload_n 0, 67, []),
  (67, .getfield 21, 70, []),
  (70, .iload_n 2, 71, []),
  (71, .aload_n 0, 72, []),
  (72, .getfield 21, 75, []),
  (75, .iload_n 2, 76, []),
  (76, .iconst 1, 77, []),
  (77, .iadd, 78, []),
  (78, .invokestatic 28, 81, []),
  (81, .invokestatic 40, 84, []),
  (84, .iinc 2 1, 87, []),
  (87, .goto (-85), 90, [(0, 2)]),
  (90, .aload_n 0, 91, []),
  (91, .dup, 92, []),
  (92, .getfield 24, 95, []),
  (95, .iconst 1, 96, []),
  (96, .isub, 97, []),
  (97, .putfield 24, 100, []),
  (100, .return_, 101, [])]
set_option maxRecDepth 100000 in
theorem moP_drop : MO mP_drop 1 false none pP_drop := ⟨rP_drop, rfl, rfl, by decide, rfl, (fun h => by cases h), (by decide +kernel)⟩
theorem aP_drop {d : Nat} {Φ : Option Vl → Ly → Mm → Prop} (sp : List Nat) (n : Nat) {pc : Nat} {L : Lc} {st : List Vl} {S : Ly} {M : Mm} (h : MOk M → wp d 0 0 0 0 mP_drop 1 false true none Φ pP_drop sp n pc L st S M) : AJ d 0 0 mP_drop Φ 0 0 pc L st S M := aj_wp moP_drop sp n h
theorem eP_drop {d : Nat} {Φ : Option Vl → Ly → Mm → Prop} (sp : List Nat) (n : Nat) {as : List Vl} (hn : as.length ≤ 3) {S : Ly} {M : Mm} (h : MOk M → wp d 0 0 0 0 mP_drop 1 false true none Φ pP_drop sp n 0 (as.map some) [] S M) : Ret d 0 0 mP_drop as S M Φ := ret_wp moP_drop (by rw [mtb0_len]; decide) (fun r h => by cases (show some rP_drop = some r from h); rfl) sp n hn h
def pP_size : List En := [(0, .aload_n 0, 1, []),
  (1, .getfield 24, 4, []),
  (4, .ireturn, 5, [])]
set_option maxRecDepth 100000 in
theorem moP_size : MO mP_size 1 false (some .int) pP_size := ⟨rP_size, rfl, rfl, by decide, rfl, (fun h => by cases h), (by decide +kernel)⟩
theorem aP_size {d : Nat} {Φ : Option Vl → Ly → Mm → Prop} (sp : List Nat) (n : Nat) {pc : Nat} {L : Lc} {st : List Vl} {S : Ly} {M : Mm} (h : MOk M → wp d 0 0 0 0 mP_size 1 false true (some .int) Φ pP_size sp n pc L st S M) : AJ d 0 0 mP_size Φ 0 0 pc L st S M := aj_wp moP_size sp n h
theorem eP_size {d : Nat} {Φ : Option Vl → Ly → Mm → Prop} (sp : List Nat) (n : Nat) {as : List Vl} (hn : as.length ≤ 1) {S : Ly} {M : Mm} (h : MOk M → wp d 0 0 0 0 mP_size 1 false true (some .int) Φ pP_size sp n 0 (as.map some) [] S M) : Ret d 0 0 mP_size as S M Φ := ret_wp moP_size (by rw [mtb0_len]; decide) (fun r h => by cases (show some rP_size = some r from h); rfl) sp n hn h
def pK_forget : List En := [(0, .aload_n 0, 1, []),
  (1, .getfield 40, 4, []),
  (4, .iload_n 1, 5, []),
  (5, .invokevirtual 162, 8, []),
  (8, .istore_n 2, 9, []),
  (9, .iload_n 2, 10, []),
  (10, .bipush (-9), 12, []),
  (12, .if_icmp .ne 5, 15, [(0, 17)]),
  (15, .iconst (-1), 16, []),
  (16, .ireturn, 17, []),
  (17, .aload_n 0, 18, []),
  (18, .getfield 40, 21, []),
  (21, .iload_n 2, 22, []),
  (22, .invokevirtual 165, 25, []),
  (25, .aload_n 0, 26, []),
  (26, .getfield 40, 29, []),
  (29, .invokevirtual 159, 32, []),
  (32, .ireturn, 33, [])]
set_option maxRecDepth 100000 in
theorem moK_forget : MO mK_forget 4 false (some .int) pK_forget := ⟨rK_forget, rfl, rfl, by decide, rfl, (fun h => by cases h), (by decide +kernel)⟩
theorem aK_forget {d : Nat} {Φ : Option Vl → Ly → Mm → Prop} (sp : List Nat) (n : Nat) {pc : Nat} {L : Lc} {st : List Vl} {S : Ly} {M : Mm} (h : MOk M → wp d 0 0 0 0 mK_forget 4 false true (some .int) Φ pK_forget sp n pc L st S M) : AJ d 0 0 mK_forget Φ 0 0 pc L st S M := aj_wp moK_forget sp n h
theorem eK_forget {d : Nat} {Φ : Option Vl → Ly → Mm → Prop} (sp : List Nat) (n : Nat) {as : List Vl} (hn : as.length ≤ 3) {S : Ly} {M : Mm} (h : MOk M → wp d 0 0 0 0 mK_forget 4 false true (some .int) Φ pK_forget sp n 0 (as.map some) [] S M) : Ret d 0 0 mK_forget as S M Φ := ret_wp moK_forget (by rw [mtb0_len]; decide) (fun r h => by cases (show some rK_forget = some r from h); rfl) sp n hn h
def pK_prune : List En := [(0, .iload_n 1, 1, []),
  (1, .invokestatic 44, 4, []),
  (4, .ifCond .eq 22, 7, [(0, 26)]),
  (7, .aload_n 0, 8, []),
  (8, .getfield 40, 11, []),
  (11, .iload_n 1, 12, []),
  (12, .aload_n 0, 13, []),
  (13, .iload_n 1, 14, []),
  (14, .invokevirtual 54, 17, []),
  (17, .invokevirtual 93, 20, []),
  (20, .invokevirtual 168, 23, []),
  (23, .goto 4, 26, [(0, 27)]),
  (26, .iconst (-1), 27, []),
  (27, .ireturn, 28, [])]
set_option maxRecDepth 100000 in
theorem moK_prune : MO mK_prune 4 false (some .int) pK_prune := ⟨rK_prune, rfl, rfl, by decide, rfl, (fun h => by cases h), (by decide +kernel)⟩
theorem aK_prune {d : Nat} {Φ : Option Vl → Ly → Mm → Prop} (sp : List Nat) (n : Nat) {pc : Nat} {L : Lc} {st : List Vl} {S : Ly} {M : Mm} (h : MOk M → wp d 0 0 0 0 mK_prune 4 false true (some .int) Φ pK_prune sp n pc L st S M) : AJ d 0 0 mK_prune Φ 0 0 pc L st S M := aj_wp moK_prune sp n h
theorem eK_prune {d : Nat} {Φ : Option Vl → Ly → Mm → Prop} (sp : List Nat) (n : Nat) {as : List Vl} (hn : as.length ≤ 2) {S : Ly} {M : Mm} (h : MOk M → wp d 0 0 0 0 mK_prune 4 false true (some .int) Φ pK_prune sp n 0 (as.map some) [] S M) : Ret d 0 0 mK_prune as S M Φ := ret_wp moK_prune (by rw [mtb0_len]; decide) (fun r h => by cases (show some rK_prune = some r from h); rfl) sp n hn h
def pP_dropLonger : List En := [(0, .iconst 0, 1, []),
  (1, .istore_n 3, 2, []),
  (2, .aload_n 0, 3, []),
  (3, .getfield 24, 6, []),
  (6, .iconst 1, 7, []),
  (7, .isub, 8, []),
  (8, .istore 4, 10, []),
  (10, .iload 4, 12, []),
  (12, .ifCond .lt 54, 15, [(0, 66)]),
  (15, .aload_n 0, 16, []),
  (16, .getfield 15, 19, []),
  (19, .iload 4, 21, []),
  (21, .invokestatic 28, 24, []),
  (24, .iload_n 1, 25, []),
  (25, .if_icmp .ne 35, 28, [(0, 60)]),
  (28, .aload_n 0, 29, []),
  (29, .getfield 18, 32, []),
  (32, .iload 4, 34, []),
  (34, .invokestatic 28, 37, []),
  (37, .aload_n 0, 38, []),
  (38, .getfield 21, 41, []),
  (41, .iload 4, 43, []),
  (43, .invokestatic 28, 46, []),
  (46, .iadd, 47, []),
  (47, .iload_n 2, 48, []),
  (48, .if_icmp .le 12, 51, [(0, 60)]),
  (51, .aload_n 0, 52, []),
  (52, .iload 4, 54, []),
  (54, .invokevirtual 36, 57, []),
  (57, .iinc 3 1, 60, []),
  (60, .iinc 4 (-1), 63, []),
  (63, .goto (-53), 66, [(0, 10)]),
  (66, .iload_n 3, 67, []),
  (67, .ireturn, 68, [])]
set_option maxRecDepth 100000 in
theorem moP_dropLonger : MO mP_dropLonger 1 false (some .int) pP_dropLonger := ⟨rP_dropLonger, rfl, rfl, by decide, rfl, (fun h => by cases h), (by decide +kernel)⟩
theorem aP_dropLonger {d : Nat} {Φ : Option Vl → Ly → Mm → Prop} (sp : List Nat) (n : Nat) {pc : Nat} {L : Lc} {st : List Vl} {S : Ly} {M : Mm} (h : MOk M → wp d 0 0 0 0 mP_dropLonger 1 false true (some .int) Φ pP_dropLonger sp n pc L st S M) : AJ d 0 0 mP_dropLonger Φ 0 0 pc L st S M := aj_wp moP_dropLonger sp n h
theorem eP_dropLonger {d : Nat} {Φ : Option Vl → Ly → Mm → Prop} (sp : List Nat) (n : Nat) {as : List Vl} (hn : as.length ≤ 5) {S : Ly} {M : Mm} (h : MOk M → wp d 0 0 0 0 mP_dropLonger 1 false true (some .int) Φ pP_dropLonger sp n 0 (as.map some) [] S M) : Ret d 0 0 mP_dropLonger as S M Φ := ret_wp moP_dropLonger (by rw [mtb0_len]; decide) (fun r h => by cases (show some rP_dropLonger = some r from h); rfl) sp n hn h
def pK_name : List En := [(0, .iload_n 1, 1, []),
  (1, .bipush 6, 3, []),
  (3, .invokestatic 79, 6, []),
  (6, .ifCond .eq 14, 9, [(0, 20)]),
  (9, .aload_n 0, 10, []),
  (10, .getfield 40, 13, []),
  (13, .iload_n 1, 14, []),
  (14, .invokevirtual 171, 17, []),
  (17, .goto 5, 20, [(0, 22)]),
  (20, .bipush (-2), 22, []),
  (22, .ireturn, 23, [])]
set_option maxRecDepth 100000 in
theorem moK_name : MO mK_name 4 false (some .int) pK_name := ⟨rK_name, rfl, rfl, by decide, rfl, (fun h => by cases h), (by decide +kernel)⟩
theorem aK_name {d : Nat} {Φ : Option Vl → Ly → Mm → Prop} (sp : List Nat) (n : Nat) {pc : Nat} {L : Lc} {st : List Vl} {S : Ly} {M : Mm} (h : MOk M → wp d 0 0 0 0 mK_name 4 false true (some .int) Φ pK_name sp n pc L st S M) : AJ d 0 0 mK_name Φ 0 0 pc L st S M := aj_wp moK_name sp n h
theorem eK_name {d : Nat} {Φ : Option Vl → Ly → Mm → Prop} (sp : List Nat) (n : Nat) {as : List Vl} (hn : as.length ≤ 2) {S : Ly} {M : Mm} (h : MOk M → wp d 0 0 0 0 mK_name 4 false true (some .int) Φ pK_name sp n 0 (as.map some) [] S M) : Ret d 0 0 mK_name as S M Φ := ret_wp moK_name (by rw [mtb0_len]; decide) (fun r h => by cases (show some rK_name = some r from h); rfl) sp n hn h
def pP_nameAt : List En := [(0, .iload_n 1, 1, []),
  (1, .aload_n 0, 2, []),
  (2, .getfield 24, 5, []),
  (5, .if_icmp .ge 14, 8, [(0, 19)]),
  (8, .aload_n 0, 9, []),
  (9, .getfield 9, 12, []),
  (12, .iload_n 1, 13, []),
  (13, .invokestatic 28, 16, []),
  (16, .goto 5, 19, [(0, 21)]),
  (19, .bipush (-9), 21, []),
  (21, .ireturn, 22, [])]
set_option maxRecDepth 100000 in
theorem moP_nameAt : MO mP_nameAt 1 false (some .int) pP_nameAt := ⟨rP_nameAt, rfl, rfl, by decide, rfl, (fun h => by cases h), (by decide +kernel)⟩
theorem aP_nameAt {d : Nat} {Φ : Option Vl → Ly → Mm → Prop} (sp : List Nat) (n : Nat) {pc : Nat} {L : Lc} {st : List Vl} {S : Ly} {M : Mm} (h : MOk M → wp d 0 0 0 0 mP_nameAt 1 false true (some .int) Φ pP_nameAt sp n pc L st S M) : AJ d 0 0 mP_nameAt Φ 0 0 pc L st S M := aj_wp moP_nameAt sp n h
theorem eP_nameAt {d : Nat} {Φ : Option Vl → Ly → Mm → Prop} (sp : List Nat) (n : Nat) {as : List Vl} (hn : as.length ≤ 2) {S : Ly} {M : Mm} (h : MOk M → wp d 0 0 0 0 mP_nameAt 1 false true (some .int) Φ pP_nameAt sp n 0 (as.map some) [] S M) : Ret d 0 0 mP_nameAt as S M Φ := ret_wp moP_nameAt (by rw [mtb0_len]; decide) (fun r h => by cases (show some rP_nameAt = some r from h); rfl) sp n hn h
def pK_echo : List En := [(0, .aload_n 0, 1, []),
  (1, .getfield 40, 4, []),
  (4, .iload_n 1, 5, []),
  (5, .invokevirtual 162, 8, []),
  (8, .istore 4, 10, []),
  (10, .iload 4, 12, []),
  (12, .bipush (-9), 14, []),
  (14, .if_icmp .ne 5, 17, [(0, 19)]),
  (17, .iconst (-1), 18, []),
  (18, .ireturn, 19, []),
  (19, .iload_n 2, 20, []),
  (20, .bipush 30, 22, []),
  (22, .invokestatic 79, 25, []),
  (25, .ifCond .eq 12, 28, [(0, 37)]),
  (28, .iload_n 3, 29, []),
  (29, .ifCond .lt 8, 32, [(0, 37)]),
  (32, .iload_n 3, 33, []),
  (33, .iconst 1, 34, []),
  (34, .if_icmp .le 6, 37, [(0, 40)]),
  (37, .bipush (-2), 39, []),
  (39, .ireturn, 40, []),
  (40, .aload_n 0, 41, []),
  (41, .iload 4, 43, []),
  (43, .iload_n 2, 44, []),
  (44, .invokevirtual 174, 47, []),
  (47, .istore 5, 49, []),
  (49, .iload 5, 51, []),
  (51, .bipush (-9), 53, []),
  (53, .if_icmp .eq 7, 56, [(0, 60)]),
  (56, .iload_n 3, 57, []),
  (57, .ifCond .ne 6, 60, [(0, 63)]),
  (60, .iload 5, 62, []),
  (62, .ireturn, 63, []),
  (63, .aload_n 0, 64, []),
  (64, .aload_n 0, 65, []),
  (65, .getfield 40, 68, []),
  (68, .iload 4, 70, []),
  (70, .invokevirtual 177, 73, []),
  (73, .invokevirtual 54, 76, []),
  (76, .aload_n 0, 77, []),
  (77, .getfield 40, 80, []),
  (80, .iload 4, 82, []),
  (82, .invokevirtual 180, 85, []),
  (85, .iload 5, 87, []),
  (87, .aload_n 0, 88, []),
  (88, .getfield 40, 91, []),
  (91, .iload 4, 93, []),
  (93, .invokevirtual 183, 96, []),
  (96, .invokevirtual 186, 99, []),
  (99, .ireturn, 100, [])]
set_option maxRecDepth 100000 in
theorem moK_echo : MO mK_echo 4 false (some .int) pK_echo := ⟨rK_echo, rfl, rfl, by decide, rfl, (fun h => by cases h), (by decide +kernel)⟩
theorem aK_echo {d : Nat} {Φ : Option Vl → Ly → Mm → Prop} (sp : List Nat) (n : Nat) {pc : Nat} {L : Lc} {st : List Vl} {S : Ly} {M : Mm} (h : MOk M → wp d 0 0 0 0 mK_echo 4 false true (some .int) Φ pK_echo sp n pc L st S M) : AJ d 0 0 mK_echo Φ 0 0 pc L st S M := aj_wp moK_echo sp n h
theorem eK_echo {d : Nat} {Φ : Option Vl → Ly → Mm → Prop} (sp : List Nat) (n : Nat) {as : List Vl} (hn : as.length ≤ 6) {S : Ly} {M : Mm} (h : MOk M → wp d 0 0 0 0 mK_echo 4 false true (some .int) Φ pK_echo sp n 0 (as.map some) [] S M) : Ret d 0 0 mK_echo as S M Φ := ret_wp moK_echo (by rw [mtb0_len]; decide) (fun r h => by cases (show some rK_echo = some r from h); rfl) sp n hn h
def pK_echoStart : List En := [(0, .aload_n 0, 1, []),
  (1, .aload_n 0, 2, []),
  (2, .getfield 40, 5, []),
  (5, .iload_n 1, 6, []),
  (6, .invokevirtual 177, 9, []),
  (9, .invokevirtual 54, 12, []),
  (12, .astore_n 3, 13, []),
  (13, .aload_n 0, 14, []),
  (14, .getfield 40, 17, []),
  (17, .iload_n 1, 18, []),
  (18, .invokevirtual 180, 21, []),
  (21, .istore 4, 23, []),
  (23, .aload_n 0, 24, []),
  (24, .getfield 40, 27, []),
  (27, .iload_n 1, 28, []),
  (28, .invokevirtual 183, 31, []),
  (31, .istore 5, 33, []),
  (33, .iconst 0, 34, []),
  (34, .istore 6, 36, []),
  (36, .iload 4, 38, []),
  (38, .iload 5, 40, []),
  (40, .iadd, 41, []),
  (41, .istore 7, 43, []),
  (43, .iload 7, 45, []),
  (45, .iload 5, 47, []),
  (47, .iadd, 48, []),
  (48, .aload_n 3, 49, []),
  (49, .invokevirtual 93, 52, []),
  (52, .if_icmp .gt 34, 55, [(0, 86)]),
  (55, .aload_n 3, 56, []),
  (56, .iload 4, 58, []),
  (58, .iload 7, 60, []),
  (60, .iload 5, 62, []),
  (62, .invokevirtual 205, 65, []),
  (65, .ifCond .eq 15, 68, [(0, 80)]),
  (68, .iload 6, 70, []),
  (70, .iload_n 2, 71, []),
  (71, .if_icmp .ne 6, 74, [(0, 77)]),
  (74, .iload 7, 76, []),
  (76, .ireturn, 77, []),
  (77, .iinc 6 1, 80, []),
  (80, .iinc 7 1, 83, []),
  (83, .goto (-40), 86, [(0, 43)]),
  (86, .bipush (-9), 88, []),
  (88, .ireturn, 89, [])]
set_option maxRecDepth 100000 in
theorem moK_echoStart : MO mK_echoStart 4 false (some .int) pK_echoStart := ⟨rK_echoStart, rfl, rfl, by decide, rfl, (fun h => by cases h), (by decide +kernel)⟩
theorem aK_echoStart {d : Nat} {Φ : Option Vl → Ly → Mm → Prop} (sp : List Nat) (n : Nat) {pc : Nat} {L : Lc} {st : List Vl} {S : Ly} {M : Mm} (h : MOk M → wp d 0 0 0 0 mK_echoStart 4 false true (some .int) Φ pK_echoStart sp n pc L st S M) : AJ d 0 0 mK_echoStart Φ 0 0 pc L st S M := aj_wp moK_echoStart sp n h
theorem eK_echoStart {d : Nat} {Φ : Option Vl → Ly → Mm → Prop} (sp : List Nat) (n : Nat) {as : List Vl} (hn : as.length ≤ 8) {S : Ly} {M : Mm} (h : MOk M → wp d 0 0 0 0 mK_echoStart 4 false true (some .int) Φ pK_echoStart sp n 0 (as.map some) [] S M) : Ret d 0 0 mK_echoStart as S M Φ := ret_wp moK_echoStart (by rw [mtb0_len]; decide) (fun r h => by cases (show some rK_echoStart = some r from h); rfl) sp n hn h
def pP_handAt : List En := [(0, .aload_n 0, 1, []),
  (1, .getfield 15, 4, []),
  (4, .iload_n 1, 5, []),
  (5, .invokestatic 28, 8, []),
  (8, .ireturn, 9, [])]
set_option maxRecDepth 100000 in
theorem moP_handAt : MO mP_handAt 1 false (some .int) pP_handAt := ⟨rP_handAt, rfl, rfl, by decide, rfl, (fun h => by cases h), (by decide +kernel)⟩
theorem aP_handAt {d : Nat} {Φ : Option Vl → Ly → Mm → Prop} (sp : List Nat) (n : Nat) {pc : Nat} {L : Lc} {st : List Vl} {S : Ly} {M : Mm} (h : MOk M → wp d 0 0 0 0 mP_handAt 1 false true (some .int) Φ pP_handAt sp n pc L st S M) : AJ d 0 0 mP_handAt Φ 0 0 pc L st S M := aj_wp moP_handAt sp n h
theorem eP_handAt {d : Nat} {Φ : Option Vl → Ly → Mm → Prop} (sp : List Nat) (n : Nat) {as : List Vl} (hn : as.length ≤ 2) {S : Ly} {M : Mm} (h : MOk M → wp d 0 0 0 0 mP_handAt 1 false true (some .int) Φ pP_handAt sp n 0 (as.map some) [] S M) : Ret d 0 0 mP_handAt as S M Φ := ret_wp moP_handAt (by rw [mtb0_len]; decide) (fun r h => by cases (show some rP_handAt = some r from h); rfl) sp n hn h
def pP_startAt : List En := [(0, .aload_n 0, 1, []),
  (1, .getfield 18, 4, []),
  (4, .iload_n 1, 5, []),
  (5, .invokestatic 28, 8, []),
  (8, .ireturn, 9, [])]
set_option maxRecDepth 100000 in
theorem moP_startAt : MO mP_startAt 1 false (some .int) pP_startAt := ⟨rP_startAt, rfl, rfl, by decide, rfl, (fun h => by cases h), (by decide +kernel)⟩
theorem aP_startAt {d : Nat} {Φ : Option Vl → Ly → Mm → Prop} (sp : List Nat) (n : Nat) {pc : Nat} {L : Lc} {st : List Vl} {S : Ly} {M : Mm} (h : MOk M → wp d 0 0 0 0 mP_startAt 1 false true (some .int) Φ pP_startAt sp n pc L st S M) : AJ d 0 0 mP_startAt Φ 0 0 pc L st S M := aj_wp moP_startAt sp n h
theorem eP_startAt {d : Nat} {Φ : Option Vl → Ly → Mm → Prop} (sp : List Nat) (n : Nat) {as : List Vl} (hn : as.length ≤ 2) {S : Ly} {M : Mm} (h : MOk M → wp d 0 0 0 0 mP_startAt 1 false true (some .int) Φ pP_startAt sp n 0 (as.map some) [] S M) : Ret d 0 0 mP_startAt as S M Φ := ret_wp moP_startAt (by rw [mtb0_len]; decide) (fun r h => by cases (show some rP_startAt = some r from h); rfl) sp n hn h
def pP_lengthAt : List En := [(0, .aload_n 0, 1, []),
  (1, .getfield 21, 4, []),
  (4, .iload_n 1, 5, []),
  (5, .invokestatic 28, 8, []),
  (8, .ireturn, 9, [])]
set_option maxRecDepth 100000 in
theorem moP_lengthAt : MO mP_lengthAt 1 false (some .int) pP_lengthAt := ⟨rP_lengthAt, rfl, rfl, by decide, rfl, (fun h => by cases h), (by decide +kernel)⟩
theorem aP_lengthAt {d : Nat} {Φ : Option Vl → Ly → Mm → Prop} (sp : List Nat) (n : Nat) {pc : Nat} {L : Lc} {st : List Vl} {S : Ly} {M : Mm} (h : MOk M → wp d 0 0 0 0 mP_lengthAt 1 false true (some .int) Φ pP_lengthAt sp n pc L st S M) : AJ d 0 0 mP_lengthAt Φ 0 0 pc L st S M := aj_wp moP_lengthAt sp n h
theorem eP_lengthAt {d : Nat} {Φ : Option Vl → Ly → Mm → Prop} (sp : List Nat) (n : Nat) {as : List Vl} (hn : as.length ≤ 2) {S : Ly} {M : Mm} (h : MOk M → wp d 0 0 0 0 mP_lengthAt 1 false true (some .int) Φ pP_lengthAt sp n 0 (as.map some) [] S M) : Ret d 0 0 mP_lengthAt as S M Φ := ret_wp moP_lengthAt (by rw [mtb0_len]; decide) (fun r h => by cases (show some rP_lengthAt = some r from h); rfl) sp n hn h
def pH_isEcho : List En := [(0, .aload_n 0, 1, []),
  (1, .iload_n 2, 2, []),
  (2, .invokevirtual 61, 5, []),
  (5, .aload_n 0, 6, []),
  (6, .iload_n 1, 7, []),
  (7, .invokevirtual 61, 10, []),
  (10, .isub, 11, []),
  (11, .istore 4, 13, []),
  (13, .iconst 1, 14, []),
  (14, .istore 5, 16, []),
  (16, .iload 5, 18, []),
  (18, .iload_n 3, 19, []),
  (19, .if_icmp .ge 33, 22, [(0, 52)]),
  (22, .aload_n 0, 23, []),
  (23, .iload_n 2, 24, []),
  (24, .iload 5, 26, []),
  (26, .iadd, 27, []),
  (27, .invokevirtual 61, 30, []),
  (30, .aload_n 0, 31, []),
  (31, .iload_n 1, 32, []),
  (32, .iload 5, 34, []),
  (34, .iadd, 35, []),
  (35, .invokevirtual 61, 38, []),
  (38, .isub, 39, []),
  (39, .iload 4, 41, []),
  (41, .if_icmp .eq 5, 44, [(0, 46)]),
  (44, .iconst 0, 45, []),
  (45, .ireturn, 46, []),
  (46, .iinc 5 1, 49, []),
  (49, .goto (-33), 52, [(0, 16)]),
  (52, .iconst 1, 53, []),
  (53, .ireturn, 54, [])]
set_option maxRecDepth 100000 in
theorem moH_isEcho : MO mH_isEcho 0 false (some .boolean) pH_isEcho := ⟨rH_isEcho, rfl, rfl, by decide, rfl, (fun h => by cases h), (by decide +kernel)⟩
theorem aH_isEcho {d : Nat} {Φ : Option Vl → Ly → Mm → Prop} (sp : List Nat) (n : Nat) {pc : Nat} {L : Lc} {st : List Vl} {S : Ly} {M : Mm} (h : MOk M → wp d 0 0 0 0 mH_isEcho 0 false true (some .boolean) Φ pH_isEcho sp n pc L st S M) : AJ d 0 0 mH_isEcho Φ 0 0 pc L st S M := aj_wp moH_isEcho sp n h
theorem eH_isEcho {d : Nat} {Φ : Option Vl → Ly → Mm → Prop} (sp : List Nat) (n : Nat) {as : List Vl} (hn : as.length ≤ 6) {S : Ly} {M : Mm} (h : MOk M → wp d 0 0 0 0 mH_isEcho 0 false true (some .boolean) Φ pH_isEcho sp n 0 (as.map some) [] S M) : Ret d 0 0 mH_isEcho as S M Φ := ret_wp moH_isEcho (by rw [mtb0_len]; decide) (fun r h => by cases (show some rH_isEcho = some r from h); rfl) sp n hn h
def pH_likeness : List En := [(0, .iconst 0, 1, []),
  (1, .istore 4, 3, []),
  (3, .iconst 0, 4, []),
  (4, .istore 5, 6, []),
  (6, .iload 5, 8, []),
  (8, .iload_n 3, 9, []),
  (9, .if_icmp .ge 37, 12, [(0, 46)]),
  (12, .aload_n 0, 13, []),
  (13, .iload_n 1, 14, []),
  (14, .iload 5, 16, []),
  (16, .iadd, 17, []),
  (17, .invokevirtual 61, 20, []),
  (20, .invokestatic 64, 23, []),
  (23, .aload_n 0, 24, []),
  (24, .iload_n 2, 25, []),
  (25, .iload 5, 27, []),
  (27, .iadd, 28, []),
  (28, .invokevirtual 61, 31, []),
  (31, .invokestatic 64, 34, []),
  (34, .if_icmp .ne 6, 37, [(0, 40)]),
  (37, .iinc 4 1, 40, []),
  (40, .iinc 5 1, 43, []),
  (43, .goto (-37), 46, [(0, 6)]),
  (46, .iload 4, 48, []),
  (48, .ireturn, 49, [])]
set_option maxRecDepth 100000 in
theorem moH_likeness : MO mH_likeness 0 false (some .int) pH_likeness := ⟨rH_likeness, rfl, rfl, by decide, rfl, (fun h => by cases h), (by decide +kernel)⟩
theorem aH_likeness {d : Nat} {Φ : Option Vl → Ly → Mm → Prop} (sp : List Nat) (n : Nat) {pc : Nat} {L : Lc} {st : List Vl} {S : Ly} {M : Mm} (h : MOk M → wp d 0 0 0 0 mH_likeness 0 false true (some .int) Φ pH_likeness sp n pc L st S M) : AJ d 0 0 mH_likeness Φ 0 0 pc L st S M := aj_wp moH_likeness sp n h
theorem eH_likeness {d : Nat} {Φ : Option Vl → Ly → Mm → Prop} (sp : List Nat) (n : Nat) {as : List Vl} (hn : as.length ≤ 6) {S : Ly} {M : Mm} (h : MOk M → wp d 0 0 0 0 mH_likeness 0 false true (some .int) Φ pH_likeness sp n 0 (as.map some) [] S M) : Ret d 0 0 mH_likeness as S M Φ := ret_wp moH_likeness (by rw [mtb0_len]; decide) (fun r h => by cases (show some rH_likeness = some r from h); rfl) sp n hn h
def pK_tieEcho : List En := [(0, .aload_n 0, 1, []),
  (1, .getfield 40, 4, []),
  (4, .iload_n 1, 5, []),
  (5, .invokevirtual 162, 8, []),
  (8, .istore_n 3, 9, []),
  (9, .iload_n 3, 10, []),
  (10, .bipush (-9), 12, []),
  (12, .if_icmp .ne 5, 15, [(0, 17)]),
  (15, .iconst (-1), 16, []),
  (16, .ireturn, 17, []),
  (17, .iload_n 2, 18, []),
  (18, .bipush 30, 20, []),
  (20, .invokestatic 79, 23, []),
  (23, .ifCond .ne 6, 26, [(0, 29)]),
  (26, .bipush (-2), 28, []),
  (28, .ireturn, 29, []),
  (29, .aload_n 0, 30, []),
  (30, .iload_n 3, 31, []),
  (31, .iload_n 2, 32, []),
  (32, .invokevirtual 174, 35, []),
  (35, .istore 4, 37, []),
  (37, .iload 4, 39, []),
  (39, .bipush (-9), 41, []),
  (41, .if_icmp .ne 6, 44, [(0, 47)]),
  (44, .bipush (-3), 46, []),
  (46, .ireturn, 47, []),
  (47, .aload_n 0, 48, []),
  (48, .aload_n 0, 49, []),
  (49, .getfield 40, 52, []),
  (52, .iload_n 3, 53, []),
  (53, .invokevirtual 177, 56, []),
  (56, .invokevirtual 54, 59, []),
  (59, .aload_n 0, 60, []),
  (60, .getfield 40, 63, []),
  (63, .iload_n 3, 64, []),
  (64, .invokevirtual 180, 67, []),
  (67, .iload 4, 69, []),
  (69, .aload_n 0, 70, []),
  (70, .getfield 40, 73, []),
  (73, .iload_n 3, 74, []),
  (74, .invokevirtual 183, 77, []),
  (77, .invokevirtual 134, 80, []),
  (80, .iconst 1, 81, []),
  (81, .ireturn, 82, [])]
set_option maxRecDepth 100000 in
theorem moK_tieEcho : MO mK_tieEcho 4 false (some .int) pK_tieEcho := ⟨rK_tieEcho, rfl, rfl, by decide, rfl, (fun h => by cases h), (by decide +kernel)⟩
theorem aK_tieEcho {d : Nat} {Φ : Option Vl → Ly → Mm → Prop} (sp : List Nat) (n : Nat) {pc : Nat} {L : Lc} {st : List Vl} {S : Ly} {M : Mm} (h : MOk M → wp d 0 0 0 0 mK_tieEcho 4 false true (some .int) Φ pK_tieEcho sp n pc L st S M) : AJ d 0 0 mK_tieEcho Φ 0 0 pc L st S M := aj_wp moK_tieEcho sp n h
theorem eK_tieEcho {d : Nat} {Φ : Option Vl → Ly → Mm → Prop} (sp : List Nat) (n : Nat) {as : List Vl} (hn : as.length ≤ 5) {S : Ly} {M : Mm} (h : MOk M → wp d 0 0 0 0 mK_tieEcho 4 false true (some .int) Φ pK_tieEcho sp n 0 (as.map some) [] S M) : Ret d 0 0 mK_tieEcho as S M Φ := ret_wp moK_tieEcho (by rw [mtb0_len]; decide) (fun r h => by cases (show some rK_tieEcho = some r from h); rfl) sp n hn h
def pK_moment : List En := [(0, .iload_n 1, 1, []),
  (1, .bipush 30, 3, []),
  (3, .invokestatic 79, 6, []),
  (6, .ifCond .eq 12, 9, [(0, 18)]),
  (9, .iload_n 2, 10, []),
  (10, .ifCond .lt 8, 13, [(0, 18)]),
  (13, .iload_n 2, 14, []),
  (14, .iconst 3, 15, []),
  (15, .if_icmp .le 6, 18, [(0, 21)]),
  (18, .bipush (-2), 20, []),
  (20, .ireturn, 21, []),
  (21, .iconst 0, 22, []),
  (22, .istore_n 3, 23, []),
  (23, .iconst 0, 24, []),
  (24, .istore 4, 26, []),
  (26, .iload 4, 28, []),
  (28, .bipush 30, 30, []),
  (30, .if_icmp .ge 30, 33, [(0, 60)]),
  (33, .aload_n 0, 34, []),
  (34, .iload 4, 36, []),
  (36, .invokevirtual 189, 39, []),
  (39, .iload_n 2, 40, []),
  (40, .if_icmp .ne 14, 43, [(0, 54)]),
  (43, .iload_n 3, 44, []),
  (44, .iload_n 1, 45, []),
  (45, .if_icmp .ne 6, 48, [(0, 51)]),
  (48, .iload 4, 50, []),
  (50, .ireturn, 51, []),
  (51, .iinc 3 1, 54, []),
  (54, .iinc 4 1, 57, []),
  (57, .goto (-31), 60, [(0, 26)]),
  (60, .bipush (-9), 62, []),
  (62, .ireturn, 63, [])]
set_option maxRecDepth 100000 in
theorem moK_moment : MO mK_moment 4 false (some .int) pK_moment := ⟨rK_moment, rfl, rfl, by decide, rfl, (fun h => by cases h), (by decide +kernel)⟩
theorem aK_moment {d : Nat} {Φ : Option Vl → Ly → Mm → Prop} (sp : List Nat) (n : Nat) {pc : Nat} {L : Lc} {st : List Vl} {S : Ly} {M : Mm} (h : MOk M → wp d 0 0 0 0 mK_moment 4 false true (some .int) Φ pK_moment sp n pc L st S M) : AJ d 0 0 mK_moment Φ 0 0 pc L st S M := aj_wp moK_moment sp n h
theorem eK_moment {d : Nat} {Φ : Option Vl → Ly → Mm → Prop} (sp : List Nat) (n : Nat) {as : List Vl} (hn : as.length ≤ 5) {S : Ly} {M : Mm} (h : MOk M → wp d 0 0 0 0 mK_moment 4 false true (some .int) Φ pK_moment sp n 0 (as.map some) [] S M) : Ret d 0 0 mK_moment as S M Φ := ret_wp moK_moment (by rw [mtb0_len]; decide) (fun r h => by cases (show some rK_moment = some r from h); rfl) sp n hn h
def pK_kindOf : List En := [(0, .aload_n 0, 1, []),
  (1, .getfield 21, 4, []),
  (4, .iload_n 1, 5, []),
  (5, .invokevirtual 58, 8, []),
  (8, .istore_n 2, 9, []),
  (9, .aload_n 0, 10, []),
  (10, .getfield 25, 13, []),
  (13, .iload_n 1, 14, []),
  (14, .invokevirtual 58, 17, []),
  (17, .istore_n 3, 18, []),
  (18, .iload_n 2, 19, []),
  (19, .bipush (-9), 21, []),
  (21, .if_icmp .eq 9, 24, [(0, 30)]),
  (24, .iload_n 3, 25, []),
  (25, .bipush (-9), 27, []),
  (27, .if_icmp .ne 14, 30, [(0, 41)]),
  (30, .iload_n 2, 31, []),
  (31, .iload_n 3, 32, []),
  (32, .if_icmp .ne 7, 35, [(0, 39)]),
  (35, .iconst 3, 36, []),
  (36, .goto 4, 39, [(0, 40)]),
  (39, .iconst 2, 40, []),
  (40, .ireturn, 41, []),
  (41, .iload_n 2, 42, []),
  (42, .iload_n 3, 43, []),
  (43, .if_icmp .ne 5, 46, [(0, 48)]),
  (46, .iconst 1, 47, []),
  (47, .ireturn, 48, []),
  (48, .iload_n 2, 49, []),
  (49, .iload_n 3, 50, []),
  (50, .if_icmp .ge 7, 53, [(0, 57)]),
  (53, .iconst 0, 54, []),
  (54, .goto 4, 57, [(0, 58)]),
  (57, .iconst 4, 58, []),
  (58, .ireturn, 59, [])]
set_option maxRecDepth 100000 in
theorem moK_kindOf : MO mK_kindOf 4 false (some .int) pK_kindOf := ⟨rK_kindOf, rfl, rfl, by decide, rfl, (fun h => by cases h), (by decide +kernel)⟩
theorem aK_kindOf {d : Nat} {Φ : Option Vl → Ly → Mm → Prop} (sp : List Nat) (n : Nat) {pc : Nat} {L : Lc} {st : List Vl} {S : Ly} {M : Mm} (h : MOk M → wp d 0 0 0 0 mK_kindOf 4 false true (some .int) Φ pK_kindOf sp n pc L st S M) : AJ d 0 0 mK_kindOf Φ 0 0 pc L st S M := aj_wp moK_kindOf sp n h
theorem eK_kindOf {d : Nat} {Φ : Option Vl → Ly → Mm → Prop} (sp : List Nat) (n : Nat) {as : List Vl} (hn : as.length ≤ 4) {S : Ly} {M : Mm} (h : MOk M → wp d 0 0 0 0 mK_kindOf 4 false true (some .int) Φ pK_kindOf sp n 0 (as.map some) [] S M) : Ret d 0 0 mK_kindOf as S M Φ := ret_wp moK_kindOf (by rw [mtb0_len]; decide) (fun r h => by cases (show some rK_kindOf = some r from h); rfl) sp n hn h
def pK_sum : List En := [(0, .aload_n 0, 1, []),
  (1, .getfield 33, 4, []),
  (4, .aload_n 0, 5, []),
  (5, .getfield 21, 8, []),
  (8, .bipush (-9), 10, []),
  (10, .bipush (-9), 12, []),
  (12, .invokevirtual 126, 15, []),
  (15, .istore_n 1, 16, []),
  (16, .aload_n 0, 17, []),
  (17, .getfield 33, 20, []),
  (20, .aload_n 0, 21, []),
  (21, .getfield 25, 24, []),
  (24, .bipush (-9), 26, []),
  (26, .bipush (-9), 28, []),
  (28, .invokevirtual 126, 31, []),
  (31, .istore_n 2, 32, []),
  (32, .iload_n 1, 33, []),
  (33, .bipush (-9), 35, []),
  (35, .if_icmp .eq 9, 38, [(0, 44)]),
  (38, .iload_n 2, 39, []),
  (39, .bipush (-9), 41, []),
  (41, .if_icmp .ne 8, 44, [(0, 49)]),
  (44, .bipush (-9), 46, []),
  (46, .goto 6, 49, [(0, 52)]),
  (49, .iload_n 1, 50, []),
  (50, .iload_n 2, 51, []),
  (51, .iadd, 52, []),
  (52, .ireturn, 53, [])]
set_option maxRecDepth 100000 in
theorem moK_sum : MO mK_sum 4 false (some .int) pK_sum := ⟨rK_sum, rfl, rfl, by decide, rfl, (fun h => by cases h), (by decide +kernel)⟩
theorem aK_sum {d : Nat} {Φ : Option Vl → Ly → Mm → Prop} (sp : List Nat) (n : Nat) {pc : Nat} {L : Lc} {st : List Vl} {S : Ly} {M : Mm} (h : MOk M → wp d 0 0 0 0 mK_sum 4 false true (some .int) Φ pK_sum sp n pc L st S M) : AJ d 0 0 mK_sum Φ 0 0 pc L st S M := aj_wp moK_sum sp n h
theorem eK_sum {d : Nat} {Φ : Option Vl → Ly → Mm → Prop} (sp : List Nat) (n : Nat) {as : List Vl} (hn : as.length ≤ 3) {S : Ly} {M : Mm} (h : MOk M → wp d 0 0 0 0 mK_sum 4 false true (some .int) Φ pK_sum sp n 0 (as.map some) [] S M) : Ret d 0 0 mK_sum as S M Φ := ret_wp moK_sum (by rw [mtb0_len]; decide) (fun r h => by cases (show some rK_sum = some r from h); rfl) sp n hn h
def pK_swap : List En := [(0, .iload_n 1, 1, []),
  (1, .invokestatic 48, 4, []),
  (4, .ifCond .ne 5, 7, [(0, 9)]),
  (7, .iconst (-1), 8, []),
  (8, .ireturn, 9, []),
  (9, .aload_n 0, 10, []),
  (10, .iload_n 1, 11, []),
  (11, .invokevirtual 192, 14, []),
  (14, .aload_n 0, 15, []),
  (15, .invokevirtual 195, 18, []),
  (18, .ireturn, 19, [])]
set_option maxRecDepth 100000 in
theorem moK_swap : MO mK_swap 4 false (some .int) pK_swap := ⟨rK_swap, rfl, rfl, by decide, rfl, (fun h => by cases h), (by decide +kernel)⟩
theorem aK_swap {d : Nat} {Φ : Option Vl → Ly → Mm → Prop} (sp : List Nat) (n : Nat) {pc : Nat} {L : Lc} {st : List Vl} {S : Ly} {M : Mm} (h : MOk M → wp d 0 0 0 0 mK_swap 4 false true (some .int) Φ pK_swap sp n pc L st S M) : AJ d 0 0 mK_swap Φ 0 0 pc L st S M := aj_wp moK_swap sp n h
theorem eK_swap {d : Nat} {Φ : Option Vl → Ly → Mm → Prop} (sp : List Nat) (n : Nat) {as : List Vl} (hn : as.length ≤ 2) {S : Ly} {M : Mm} (h : MOk M → wp d 0 0 0 0 mK_swap 4 false true (some .int) Φ pK_swap sp n 0 (as.map some) [] S M) : Ret d 0 0 mK_swap as S M Φ := ret_wp moK_swap (by rw [mtb0_len]; decide) (fun r h => by cases (show some rK_swap = some r from h); rfl) sp n hn h
def pK_exchange : List En := [(0, .aload_n 0, 1, []),
  (1, .getfield 21, 4, []),
  (4, .iload_n 1, 5, []),
  (5, .invokevirtual 58, 8, []),
  (8, .istore_n 2, 9, []),
  (9, .aload_n 0, 10, []),
  (10, .getfield 25, 13, []),
  (13, .iload_n 1, 14, []),
  (14, .invokevirtual 58, 17, []),
  (17, .istore_n 3, 18, []),
  (18, .aload_n 0, 19, []),
  (19, .getfield 21, 22, []),
  (22, .iload_n 1, 23, []),
  (23, .iload_n 3, 24, []),
  (24, .invokevirtual 62, 27, []),
  (27, .aload_n 0, 28, []),
  (28, .getfield 25, 31, []),
  (31, .iload_n 1, 32, []),
  (32, .iload_n 2, 33, []),
  (33, .invokevirtual 62, 36, []),
  (36, .return_, 37, [])]
set_option maxRecDepth 100000 in
theorem moK_exchange : MO mK_exchange 4 false none pK_exchange := ⟨rK_exchange, rfl, rfl, by decide, rfl, (fun h => by cases h), (by decide +kernel)⟩
theorem aK_exchange {d : Nat} {Φ : Option Vl → Ly → Mm → Prop} (sp : List Nat) (n : Nat) {pc : Nat} {L : Lc} {st : List Vl} {S : Ly} {M : Mm} (h : MOk M → wp d 0 0 0 0 mK_exchange 4 false true none Φ pK_exchange sp n pc L st S M) : AJ d 0 0 mK_exchange Φ 0 0 pc L st S M := aj_wp moK_exchange sp n h
theorem eK_exchange {d : Nat} {Φ : Option Vl → Ly → Mm → Prop} (sp : List Nat) (n : Nat) {as : List Vl} (hn : as.length ≤ 4) {S : Ly} {M : Mm} (h : MOk M → wp d 0 0 0 0 mK_exchange 4 false true none Φ pK_exchange sp n 0 (as.map some) [] S M) : Ret d 0 0 mK_exchange as S M Φ := ret_wp moK_exchange (by rw [mtb0_len]; decide) (fun r h => by cases (show some rK_exchange = some r from h); rfl) sp n hn h
def pK_help : List En := [(0, .iload_n 1, 1, []),
  (1, .ifCond .lt 8, 4, [(0, 9)]),
  (4, .iload_n 1, 5, []),
  (5, .iconst 1, 6, []),
  (6, .if_icmp .le 6, 9, [(0, 12)]),
  (9, .bipush (-2), 11, []),
  (11, .ireturn, 12, []),
  (12, .aload_n 0, 13, []),
  (13, .invokevirtual 195, 16, []),
  (16, .istore_n 2, 17, []),
  (17, .iload_n 2, 18, []),
  (18, .bipush (-9), 20, []),
  (20, .if_icmp .ne 8, 23, [(0, 28)]),
  (23, .ldc 198, 25, []),
  (25, .goto 4, 28, [(0, 29)]),
  (28, .iload_n 2, 29, []),
  (29, .istore_n 3, 30, []),
  (30, .bipush (-9), 32, []),
  (32, .istore 4, 34, []),
  (34, .iconst 0, 35, []),
  (35, .istore 5, 37, []),
  (37, .iload 5, 39, []),
  (39, .bipush 30, 41, []),
  (41, .if_icmp .ge 115, 44, [(0, 156)]),
  (44, .aload_n 0, 45, []),
  (45, .getfield 21, 48, []),
  (48, .iload 5, 50, []),
  (50, .invokevirtual 58, 53, []),
  (53, .aload_n 0, 54, []),
  (54, .getfield 25, 57, []),
  (57, .iload 5, 59, []),
  (59, .invokevirtual 58, 62, []),
  (62, .if_icmp .ne 6, 65, [(0, 68)]),
  (65, .goto 85, 68, [(0, 150)]),
  (68, .aload_n 0, 69, []),
  (69, .getfield 21, 72, []),
  (72, .iload 5, 74, []),
  (74, .invokevirtual 69, 77, []),
  (77, .istore 6, 79, []),
  (79, .aload_n 0, 80, []),
  (80, .getfield 25, 83, []),
  (83, .iload 5, 85, []),
  (85, .invokevirtual 69, 88, []),
  (88, .istore 7, 90, []),
  (90, .aload_n 0, 91, []),
  (91, .iload 5, 93, []),
  (93, .invokevirtual 192, 96, []),
  (96, .aload_n 0, 97, []),
  (97, .invokevirtual 195, 100, []),
  (100, .istore 8, 102, []),
  (102, .aload_n 0, 103, []),
  (103, .iload 5, 105, []),
  (105, .invokevirtual 192, 108, []),
  (108, .aload_n 0, 109, []),
  (109, .getfield 21, 112, []),
  (112, .iload 5, 114, []),
  (114, .iload 6, 116, []),
  (116, .invokevirtual 72, 119, []),
  (119, .aload_n 0, 120, []),
  (120, .getfield 25, 123, []),
  (123, .iload 5, 125, []),
  (125, .iload 7, 127, []),
  (127, .invokevirtual 72, 130, []),
  (130, .iload 8, 132, []),
  (132, .bipush (-9), 134, []),
  (134, .if_icmp .eq 16, 137, [(0, 150)]),
  (137, .iload 8, 139, []),
  (139, .iload_n 3, 140, []),
  (140, .if_icmp .ge 10, 143, [(0, 150)]),
  (143, .iload 8, 145, []),
  (145, .istore_n 3, 146, []),
  (146, .iload 5, 148, []),
  (148, .istore 4, 150, []),
  (150, .iinc 5 1, 153, []),
  (153, .goto (-116), 156, [(0, 37)]),
  (156, .iload 4, 158, []),
  (158, .bipush (-9), 160, []),
  (160, .if_icmp .eq 7, 163, [(0, 167)]),
  (163, .iload_n 1, 164, []),
  (164, .ifCond .ne 8, 167, [(0, 172)]),
  (167, .iload 4, 169, []),
  (169, .goto 4, 172, [(0, 173)]),
  (172, .iload_n 3, 173, []),
  (173, .ireturn, 174, [])]
set_option maxRecDepth 100000 in
theorem moK_help : MO mK_help 4 false (some .int) pK_help := ⟨rK_help, rfl, rfl, by decide, rfl, (fun h => by cases h), (by decide +kernel)⟩
theorem aK_help {d : Nat} {Φ : Option Vl → Ly → Mm → Prop} (sp : List Nat) (n : Nat) {pc : Nat} {L : Lc} {st : List Vl} {S : Ly} {M : Mm} (h : MOk M → wp d 0 0 0 0 mK_help 4 false true (some .int) Φ pK_help sp n pc L st S M) : AJ d 0 0 mK_help Φ 0 0 pc L st S M := aj_wp moK_help sp n h
theorem eK_help {d : Nat} {Φ : Option Vl → Ly → Mm → Prop} (sp : List Nat) (n : Nat) {as : List Vl} (hn : as.length ≤ 9) {S : Ly} {M : Mm} (h : MOk M → wp d 0 0 0 0 mK_help 4 false true (some .int) Φ pK_help sp n 0 (as.map some) [] S M) : Ret d 0 0 mK_help as S M Φ := ret_wp moK_help (by rw [mtb0_len]; decide) (fun r h => by cases (show some rK_help = some r from h); rfl) sp n hn h
def pK_many : List En := [(0, .iload_n 1, 1, []),
  (1, .tableswitch 127 0 6 #[43, 51, 59, 75, 83, 115, 121], 44, [(0, 128), (0, 44), (1, 52), (2, 60), (3, 76), (4, 84), (5, 116), (6, 122)]),
  (44, .aload_n 0, 45, []),
  (45, .getfield 21, 48, []),
  (48, .invokevirtual 93, 51, []),
  (51, .ireturn, 52, []),
  (52, .aload_n 0, 53, []),
  (53, .getfield 25, 56, []),
  (56, .invokevirtual 93, 59, []),
  (59, .ireturn, 60, []),
  (60, .aload_n 0, 61, []),
  (61, .getfield 21, 64, []),
  (64, .invokevirtual 199, 67, []),
  (67, .aload_n 0, 68, []),
  (68, .getfield 25, 71, []),
  (71, .invokevirtual 199, 74, []),
  (74, .iadd, 75, []),
  (75, .ireturn, 76, []),
  (76, .aload_n 0, 77, []),
  (77, .getfield 40, 80, []),
  (80, .invokevirtual 159, 83, []),
  (83, .ireturn, 84, []),
  (84, .aload_n 0, 85, []),
  (85, .getfield 21, 88, []),
  (88, .invokevirtual 138, 91, []),
  (91, .ifCond .eq 7, 94, [(0, 98)]),
  (94, .iconst 1, 95, []),
  (95, .goto 4, 98, [(0, 99)]),
  (98, .iconst 0, 99, []),
  (99, .aload_n 0, 100, []),
  (100, .getfield 25, 103, []),
  (103, .invokevirtual 138, 106, []),
  (106, .ifCond .eq 7, 109, [(0, 113)]),
  (109, .iconst 1, 110, []),
  (110, .goto 4, 113, [(0, 114)]),
  (113, .iconst 0, 114, []),
  (114, .iadd, 115, []),
  (115, .ireturn, 116, []),
  (116, .aload_n 0, 117, []),
  (117, .iconst 0, 118, []),
  (118, .invokevirtual 202, 121, []),
  (121, .ireturn, 122, []),
  (122, .aload_n 0, 123, []),
  (123, .iconst 1, 124, []),
  (124, .invokevirtual 202, 127, []),
  (127, .ireturn, 128, []),
  (128, .bipush (-2), 130, []),
  (130, .ireturn, 131, [])]
set_option maxRecDepth 100000 in
theorem moK_many : MO mK_many 4 false (some .int) pK_many := ⟨rK_many, rfl, rfl, by decide, rfl, (fun h => by cases h), (by decide +kernel)⟩
theorem aK_many {d : Nat} {Φ : Option Vl → Ly → Mm → Prop} (sp : List Nat) (n : Nat) {pc : Nat} {L : Lc} {st : List Vl} {S : Ly} {M : Mm} (h : MOk M → wp d 0 0 0 0 mK_many 4 false true (some .int) Φ pK_many sp n pc L st S M) : AJ d 0 0 mK_many Φ 0 0 pc L st S M := aj_wp moK_many sp n h
theorem eK_many {d : Nat} {Φ : Option Vl → Ly → Mm → Prop} (sp : List Nat) (n : Nat) {as : List Vl} (hn : as.length ≤ 2) {S : Ly} {M : Mm} (h : MOk M → wp d 0 0 0 0 mK_many 4 false true (some .int) Φ pK_many sp n 0 (as.map some) [] S M) : Ret d 0 0 mK_many as S M Φ := ret_wp moK_many (by rw [mtb0_len]; decide) (fun r h => by cases (show some rK_many = some r from h); rfl) sp n hn h
def pH_markCount : List En := [(0, .iconst 0, 1, []),
  (1, .istore_n 1, 2, []),
  (2, .iconst 0, 3, []),
  (3, .istore_n 2, 4, []),
  (4, .iload_n 2, 5, []),
  (5, .bipush 30, 7, []),
  (7, .if_icmp .ge 25, 10, [(0, 32)]),
  (10, .aload_n 0, 11, []),
  (11, .getfield 15, 14, []),
  (14, .iload_n 2, 15, []),
  (15, .invokestatic 31, 18, []),
  (18, .bipush (-9), 20, []),
  (20, .if_icmp .eq 6, 23, [(0, 26)]),
  (23, .iinc 1 1, 26, []),
  (26, .iinc 2 1, 29, []),
  (29, .goto (-25), 32, [(0, 4)]),
  (32, .iload_n 1, 33, []),
  (33, .ireturn, 34, [])]
set_option maxRecDepth 100000 in
theorem moH_markCount : MO mH_markCount 0 false (some .int) pH_markCount := ⟨rH_markCount, rfl, rfl, by decide, rfl, (fun h => by cases h), (by decide +kernel)⟩
theorem aH_markCount {d : Nat} {Φ : Option Vl → Ly → Mm → Prop} (sp : List Nat) (n : Nat) {pc : Nat} {L : Lc} {st : List Vl} {S : Ly} {M : Mm} (h : MOk M → wp d 0 0 0 0 mH_markCount 0 false true (some .int) Φ pH_markCount sp n pc L st S M) : AJ d 0 0 mH_markCount Φ 0 0 pc L st S M := aj_wp moH_markCount sp n h
theorem eH_markCount {d : Nat} {Φ : Option Vl → Ly → Mm → Prop} (sp : List Nat) (n : Nat) {as : List Vl} (hn : as.length ≤ 3) {S : Ly} {M : Mm} (h : MOk M → wp d 0 0 0 0 mH_markCount 0 false true (some .int) Φ pH_markCount sp n 0 (as.map some) [] S M) : Ret d 0 0 mH_markCount as S M Φ := ret_wp moH_markCount (by rw [mtb0_len]; decide) (fun r h => by cases (show some rH_markCount = some r from h); rfl) sp n hn h
def pK_countOf : List En := [(0, .iconst 0, 1, []),
  (1, .istore_n 2, 2, []),
  (2, .iconst 0, 3, []),
  (3, .istore_n 3, 4, []),
  (4, .iload_n 3, 5, []),
  (5, .bipush 30, 7, []),
  (7, .if_icmp .ge 21, 10, [(0, 28)]),
  (10, .aload_n 0, 11, []),
  (11, .iload_n 3, 12, []),
  (12, .invokevirtual 189, 15, []),
  (15, .iload_n 1, 16, []),
  (16, .if_icmp .ne 6, 19, [(0, 22)]),
  (19, .iinc 2 1, 22, []),
  (22, .iinc 3 1, 25, []),
  (25, .goto (-21), 28, [(0, 4)]),
  (28, .iload_n 2, 29, []),
  (29, .ireturn, 30, [])]
set_option maxRecDepth 100000 in
theorem moK_countOf : MO mK_countOf 4 false (some .int) pK_countOf := ⟨rK_countOf, rfl, rfl, by decide, rfl, (fun h => by cases h), (by decide +kernel)⟩
theorem aK_countOf {d : Nat} {Φ : Option Vl → Ly → Mm → Prop} (sp : List Nat) (n : Nat) {pc : Nat} {L : Lc} {st : List Vl} {S : Ly} {M : Mm} (h : MOk M → wp d 0 0 0 0 mK_countOf 4 false true (some .int) Φ pK_countOf sp n pc L st S M) : AJ d 0 0 mK_countOf Φ 0 0 pc L st S M := aj_wp moK_countOf sp n h
theorem eK_countOf {d : Nat} {Φ : Option Vl → Ly → Mm → Prop} (sp : List Nat) (n : Nat) {as : List Vl} (hn : as.length ≤ 4) {S : Ly} {M : Mm} (h : MOk M → wp d 0 0 0 0 mK_countOf 4 false true (some .int) Φ pK_countOf sp n 0 (as.map some) [] S M) : Ret d 0 0 mK_countOf as S M Φ := ret_wp moK_countOf (by rw [mtb0_len]; decide) (fun r h => by cases (show some rK_countOf = some r from h); rfl) sp n hn h
def pL_law : List En := [(0, .new 7, 3, []),
  (3, .dup, 4, []),
  (4, .invokespecial 9, 7, []),
  (7, .astore_n 1, 8, []),
  (8, .new 10, 11, []),
  (11, .dup, 12, []),
  (12, .invokespecial 12, 15, []),
  (15, .astore_n 2, 16, []),
  (16, .iconst 0, 17, []),
  (17, .istore_n 3, 18, []),
  (18, .iload_n 3, 19, []),
  (19, .aload_n 0, 20, []),
  (20, .arraylength, 21, []),
  (21, .bipush 6, 23, []),
  (23, .isub, 24, []),
  (24, .if_icmp .gt 1059, 27, [(0, 1083)]),
  (27, .aload_n 0, 28, []),
  (28, .iload_n 3, 29, []),
  (29, .iaload, 30, []),
  (30, .bipush 31, 32, []),
  (32, .iand, 33, []),
  (33, .tableswitch 1044 0 26 #[123, 166, 209, 272, 315, 348, 371, 414, 447, 510, 533, 566, 609, 662, 685, 708, 731, 784, 807, 830, 853, 896, 929, 962, 975, 998, 1021], 156, [(0, 1077), (0, 156), (1, 199), (2, 242), (3, 305), (4, 348), (5, 381), (6, 404), (7, 447), (8, 480), (9, 543), (10, 566), (11, 599), (12, 642), (13, 695), (14, 718), (15, 741), (16, 764), (17, 817), (18, 840), (19, 863), (20, 886), (21, 929), (22, 962), (23, 995), (24, 1008), (25, 1031), (26, 1054)]),
  (156, .aload_n 1, 157, []),
  (157, .aload_n 0, 158, []),
  (158, .iload_n 3, 159, []),
  (159, .iconst 1, 160, []),
  (160, .iadd, 161, []),
  (161, .iaload, 162, []),
  (162, .aload_n 0, 163, []),
  (163, .iload_n 3, 164, []),
  (164, .iconst 2, 165, []),
  (165, .iadd, 166, []),
  (166, .iaload, 167, []),
  (167, .aload_n 0, 168, []),
  (168, .iload_n 3, 169, []),
  (169, .iconst 3, 170, []),
  (170, .iadd, 171, []),
  (171, .iaload, 172, []),
  (172, .invokevirtual 13, 175, []),
  (175, .aload_n 2, 176, []),
  (176, .aload_n 0, 177, []),
  (177, .iload_n 3, 178, []),
  (178, .iconst 1, 179, []),
  (179, .iadd, 180, []),
  (180, .iaload, 181, []),
  (181, .aload_n 0, 182, []),
  (182, .iload_n 3, 183, []),
  (183, .iconst 2, 184, []),
  (184, .iadd, 185, []),
  (185, .iaload, 186, []),
  (186, .aload_n 0, 187, []),
  (187, .iload_n 3, 188, []),
  (188, .iconst 3, 189, []),
  (189, .iadd, 190, []),
  (190, .iaload, 191, []),
  (191, .invokevirtual 17, 194, []),
  (194, .if_icmp .eq 883, 197, [(0, 1077)]),
  (197, .iconst 0, 198, []),
  (198, .ireturn, 199, []),
  (199, .aload_n 1, 200, []),
  (200, .aload_n 0, 201, []),
  (201, .iload_n 3, 202, []),
  (202, .iconst 1, 203, []),
  (203, .iadd, 204, []),
  (204, .iaload, 205, []),
  (205, .aload_n 0, 206, []),
  (206, .iload_n 3, 207, []),
  (207, .iconst 2, 208, []),
  (208, .iadd, 209, []),
  (209, .iaload, 210, []),
  (210, .aload_n 0, 211, []),
  (211, .iload_n 3, 212, []),
  (212, .iconst 3, 213, []),
  (213, .iadd, 214, []),
  (214, .iaload, 215, []),
  (215, .invokevirtual 18, 218, []),
  (218, .aload_n 2, 219, []),
  (219, .aload_n 0, 220, []),
  (220, .iload_n 3, 221, []),
  (221, .iconst 1, 222, []),
  (222, .iadd, 223, []),
  (223, .iaload, 224, []),
  (224, .aload_n 0, 225, []),
  (225, .iload_n 3, 226, []),
  (226, .iconst 2, 227, []),
  (227, .iadd, 228, []),
  (228, .iaload, 229, []),
  (229, .aload_n 0, 230, []),
  (230, .iload_n 3, 231, []),
  (231, .iconst 3, 232, []),
  (232, .iadd, 233, []),
  (233, .iaload, 234, []),
  (234, .invokevirtual 21, 237, []),
  (237, .if_icmp .eq 840, 240, [(0, 1077)]),
  (240, .iconst 0, 241, []),
  (241, .ireturn, 242, []),
  (242, .aload_n 1, 243, []),
  (243, .aload_n 0, 244, []),
  (244, .iload_n 3, 245, []),
  (245, .iconst 1, 246, []),
  (246, .iadd, 247, []),
  (247, .iaload, 248, []),
  (248, .aload_n 0, 249, []),
  (249, .iload_n 3, 250, []),
  (250, .iconst 2, 251, []),
  (251, .iadd, 252, []),
  (252, .iaload, 253, []),
  (253, .aload_n 0, 254, []),
  (254, .iload_n 3, 255, []),
  (255, .iconst 3, 256, []),
  (256, .iadd, 257, []),
  (257, .iaload, 258, []),
  (258, .aload_n 0, 259, []),
  (259, .iload_n 3, 260, []),
  (260, .iconst 4, 261, []),
  (261, .iadd, 262, []),
  (262, .iaload, 263, []),
  (263, .aload_n 0, 264, []),
  (264, .iload_n 3, 265, []),
  (265, .iconst 5, 266, []),
  (266, .iadd, 267, []),
  (267, .iaload, 268, []),
  (268, .invokevirtual 22, 271, []),
  (271, .aload_n 2, 272, []),
  (272, .aload_n 0, 273, []),
  (273, .iload_n 3, 274, []),
  (274, .iconst 1, 275, []),
  (275, .iadd, 276, []),
  (276, .iaload, 277, []),
  (277, .aload_n 0, 278, []),
  (278, .iload_n 3, 279, []),
  (279, .iconst 2, 280, []),
  (280, .iadd, 281, []),
  (281, .iaload, 282, []),
  (282, .aload_n 0, 283, []),
  (283, .iload_n 3, 284, []),
  (284, .iconst 3, 285, []),
  (285, .iadd, 286, []),
  (286, .iaload, 287, []),
  (287, .aload_n 0, 288, []),
  (288, .iload_n 3, 289, []),
  (289, .iconst 4, 290, []),
  (290, .iadd, 291, []),
  (291, .iaload, 292, []),
  (292, .aload_n 0, 293, []),
  (293, .iload_n 3, 294, []),
  (294, .iconst 5, 295, []),
  (295, .iadd, 296, []),
  (296, .iaload, 297, []),
  (297, .invokevirtual 26, 300, []),
  (300, .if_icmp .eq 777, 303, [(0, 1077)]),
  (303, .iconst 0, 304, []),
  (304, .ireturn, 305, []),
  (305, .aload_n 1, 306, []),
  (306, .aload_n 0, 307, []),
  (307, .iload_n 3, 308, []),
  (308, .iconst 1, 309, []),
  (309, .iadd, 310, []),
  (310, .iaload, 311, []),
  (311, .aload_n 0, 312, []),
  (312, .iload_n 3, 313, []),
  (313, .iconst 2, 314, []),
  (314, .iadd, 315, []),
  (315, .iaload, 316, []),
  (316, .aload_n 0, 317, []),
  (317, .iload_n 3, 318, []),
  (318, .iconst 3, 319, []),
  (319, .iadd, 320, []),
  (320, .iaload, 321, []),
  (321, .invokevirtual 27, 324, []),
  (324, .aload_n 2, 325, []),
  (325, .aload_n 0, 326, []),
  (326, .iload_n 3, 327, []),
  (327, .iconst 1, 328, []),
  (328, .iadd, 329, []),
  (329, .iaload, 330, []),
  (330, .aload_n 0, 331, []),
  (331, .iload_n 3, 332, []),
  (332, .iconst 2, 333, []),
  (333, .iadd, 334, []),
  (334, .iaload, 335, []),
  (335, .aload_n 0, 336, []),
  (336, .iload_n 3, 337, []),
  (337, .iconst 3, 338, []),
  (338, .iadd, 339, []),
  (339, .iaload, 340, []),
  (340, .invokevirtual 30, 343, []),
  (343, .if_icmp .eq 734, 346, [(0, 1077)]),
  (346, .iconst 0, 347, []),
  (347, .ireturn, 348, []),
  (348, .aload_n 1, 349, []),
  (349, .aload_n 0, 350, []),
  (350, .iload_n 3, 351, []),
  (351, .iconst 1, 352, []),
  (352, .iadd, 353, []),
  (353, .iaload, 354, []),
  (354, .aload_n 0, 355, []),
  (355, .iload_n 3, 356, []),
  (356, .iconst 2, 357, []),
  (357, .iadd, 358, []),
  (358, .iaload, 359, []),
  (359, .invokevirtual 31, 362, []),
  (362, .aload_n 2, 363, []),
  (363, .aload_n 0, 364, []),
  (364, .iload_n 3, 365, []),
  (365, .iconst 1, 366, []),
  (366, .iadd, 367, []),
  (367, .iaload, 368, []),
  (368, .aload_n 0, 369, []),
  (369, .iload_n 3, 370, []),
  (370, .iconst 2, 371, []),
  (371, .iadd, 372, []),
  (372, .iaload, 373, []),
  (373, .invokevirtual 35, 376, []),
  (376, .if_icmp .eq 701, 379, [(0, 1077)]),
  (379, .iconst 0, 380, []),
  (380, .ireturn, 381, []),
  (381, .aload_n 1, 382, []),
  (382, .aload_n 0, 383, []),
  (383, .iload_n 3, 384, []),
  (384, .iconst 1, 385, []),
  (385, .iadd, 386, []),
  (386, .iaload, 387, []),
  (387, .invokevirtual 36, 390, []),
  (390, .aload_n 2, 391, []),
  (391, .aload_n 0, 392, []),
  (392, .iload_n 3, 393, []),
  (393, .iconst 1, 394, []),
  (394, .iadd, 395, []),
  (395, .iaload, 396, []),
  (396, .invokevirtual 40, 399, []),
  (399, .if_icmp .eq 678, 402, [(0, 1077)]),
  (402, .iconst 0, 403, []),
  (403, .ireturn, 404, []),
  (404, .aload_n 1, 405, []),
  (405, .aload_n 0, 406, []),
  (406, .iload_n 3, 407, []),
  (407, .iconst 1, 408, []),
  (408, .iadd, 409, []),
  (409, .iaload, 410, []),
  (410, .aload_n 0, 411, []),
  (411, .iload_n 3, 412, []),
  (412, .iconst 2, 413, []),
  (413, .iadd, 414, []),
  (414, .iaload, 415, []),
  (415, .aload_n 0, 416, []),
  (416, .iload_n 3, 417, []),
  (417, .iconst 3, 418, []),
  (418, .iadd, 419, []),
  (419, .iaload, 420, []),
  (420, .invokevirtual 41, 423, []),
  (423, .aload_n 2, 424, []),
  (424, .aload_n 0, 425, []),
  (425, .iload_n 3, 426, []),
  (426, .iconst 1, 427, []),
  (427, .iadd, 428, []),
  (428, .iaload, 429, []),
  (429, .aload_n 0, 430, []),
  (430, .iload_n 3, 431, []),
  (431, .iconst 2, 432, []),
  (432, .iadd, 433, []),
  (433, .iaload, 434, []),
  (434, .aload_n 0, 435, []),
  (435, .iload_n 3, 436, []),
  (436, .iconst 3, 437, []),
  (437, .iadd, 438, []),
  (438, .iaload, 439, []),
  (439, .invokevirtual 44, 442, []),
  (442, .if_icmp .eq 635, 445, [(0, 1077)]),
  (445, .iconst 0, 446, []),
  (446, .ireturn, 447, []),
  (447, .aload_n 1, 448, []),
  (448, .aload_n 0, 449, []),
  (449, .iload_n 3, 450, []),
  (450, .iconst 1, 451, []),
  (451, .iadd, 452, []),
  (452, .iaload, 453, []),
  (453, .aload_n 0, 454, []),
  (454, .iload_n 3, 455, []),
  (455, .iconst 2, 456, []),
  (456, .iadd, 457, []),
  (457, .iaload, 458, []),
  (458, .invokevirtual 45, 461, []),
  (461, .aload_n 2, 462, []),
  (462, .aload_n 0, 463, []),
  (463, .iload_n 3, 464, []),
  (464, .iconst 1, 465, []),
  (465, .iadd, 466, []),
  (466, .iaload, 467, []),
  (467, .aload_n 0, 468, []),
  (468, .iload_n 3, 469, []),
  (469, .iconst 2, 470, []),
  (470, .iadd, 471, []),
  (471, .iaload, 472, []),
  (472, .invokevirtual 48, 475, []),
  (475, .if_icmp .eq 602, 478, [(0, 1077)]),
  (478, .iconst 0, 479, []),
  (479, .ireturn, 480, []),
  (480, .aload_n 1, 481, []),
  (481, .aload_n 0, 482, []),
  (482, .iload_n 3, 483, []),
  (483, .iconst 1, 484, []),
  (484, .iadd, 485, []),
  (485, .iaload, 486, []),
  (486, .aload_n 0, 487, []),
  (487, .iload_n 3, 488, []),
  (488, .iconst 2, 489, []),
  (489, .iadd, 490, []),
  (490, .iaload, 491, []),
  (491, .aload_n 0, 492, []),
  (492, .iload_n 3, 493, []),
  (493, .iconst 3, 494, []),
  (494, .iadd, 495, []),
  (495, .iaload, 496, []),
  (496, .aload_n 0, 497, []),
  (497, .iload_n 3, 498, []),
  (498, .iconst 4, 499, []),
  (499, .iadd, 500, []),
  (500, .iaload, 501, []),
  (501, .aload_n 0, 502, []),
  (502, .iload_n 3, 503, []),
  (503, .iconst 5, 504, []),
  (504, .iadd, 505, []),
  (505, .iaload, 506, []),
  (506, .invokevirtual 49, 509, []),
  (509, .aload_n 2, 510, []),
  (510, .aload_n 0, 511, []),
  (511, .iload_n 3, 512, []),
  (512, .iconst 1, 513, []),
  (513, .iadd, 514, []),
  (514, .iaload, 515, []),
  (515, .aload_n 0, 516, []),
  (516, .iload_n 3, 517, []),
  (517, .iconst 2, 518, []),
  (518, .iadd, 519, []),
  (519, .iaload, 520, []),
  (520, .aload_n 0, 521, []),
  (521, .iload_n 3, 522, []),
  (522, .iconst 3, 523, []),
  (523, .iadd, 524, []),
  (524, .iaload, 525, []),
  (525, .aload_n 0, 526, []),
  (526, .iload_n 3, 527, []),
  (527, .iconst 4, 528, []),
  (528, .iadd, 529, []),
  (529, .iaload, 530, []),
  (530, .aload_n 0, 531, []),
  (531, .iload_n 3, 532, []),
  (532, .iconst 5, 533, []),
  (533, .iadd, 534, []),
  (534, .iaload, 535, []),
  (535, .invokevirtual 52, 538, []),
  (538, .if_icmp .eq 539, 541, [(0, 1077)]),
  (541, .iconst 0, 542, []),
  (542, .ireturn, 543, []),
  (543, .aload_n 1, 544, []),
  (544, .aload_n 0, 545, []),
  (545, .iload_n 3, 546, []),
  (546, .iconst 1, 547, []),
  (547, .iadd, 548, []),
  (548, .iaload, 549, []),
  (549, .invokevirtual 53, 552, []),
  (552, .aload_n 2, 553, []),
  (553, .aload_n 0, 554, []),
  (554, .iload_n 3, 555, []),
  (555, .iconst 1, 556, []),
  (556, .iadd, 557, []),
  (557, .iaload, 558, []),
  (558, .invokevirtual 56, 561, []),
  (561, .if_icmp .eq 516, 564, [(0, 1077)]),
  (564, .iconst 0, 565, []),
  (565, .ireturn, 566, []),
  (566, .aload_n 1, 567, []),
  (567, .aload_n 0, 568, []),
  (568, .iload_n 3, 569, []),
  (569, .iconst 1, 570, []),
  (570, .iadd, 571, []),
  (571, .iaload, 572, []),
  (572, .aload_n 0, 573, []),
  (573, .iload_n 3, 574, []),
  (574, .iconst 2, 575, []),
  (575, .iadd, 576, []),
  (576, .iaload, 577, []),
  (577, .invokevirtual 57, 580, []),
  (580, .aload_n 2, 581, []),
  (581, .aload_n 0, 582, []),
  (582, .iload_n 3, 583, []),
  (583, .iconst 1, 584, []),
  (584, .iadd, 585, []),
  (585, .iaload, 586, []),
  (586, .aload_n 0, 587, []),
  (587, .iload_n 3, 588, []),
  (588, .iconst 2, 589, []),
  (589, .iadd, 590, []),
  (590, .iaload, 591, []),
  (591, .invokevirtual 60, 594, []),
  (594, .if_icmp .eq 483, 597, [(0, 1077)]),
  (597, .iconst 0, 598, []),
  (598, .ireturn, 599, []),
  (599, .aload_n 1, 600, []),
  (600, .aload_n 0, 601, []),
  (601, .iload_n 3, 602, []),
  (602, .iconst 1, 603, []),
  (603, .iadd, 604, []),
  (604, .iaload, 605, []),
  (605, .aload_n 0, 606, []),
  (606, .iload_n 3, 607, []),
  (607, .iconst 2, 608, []),
  (608, .iadd, 609, []),
  (609, .iaload, 610, []),
  (610, .aload_n 0, 611, []),
  (611, .iload_n 3, 612, []),
  (612, .iconst 3, 613, []),
  (613, .iadd, 614, []),
  (614, .iaload, 615, []),
  (615, .invokevirtual 61, 618, []),
  (618, .aload_n 2, 619, []),
  (619, .aload_n 0, 620, []),
  (620, .iload_n 3, 621, []),
  (621, .iconst 1, 622, []),
  (622, .iadd, 623, []),
  (623, .iaload, 624, []),
  (624, .aload_n 0, 625, []),
  (625, .iload_n 3, 626, []),
  (626, .iconst 2, 627, []),
  (627, .iadd, 628, []),
  (628, .iaload, 629, []),
  (629, .aload_n 0, 630, []),
  (630, .iload_n 3, 631, []),
  (631, .iconst 3, 632, []),
  (632, .iadd, 633, []),
  (633, .iaload, 634, []),
  (634, .invokevirtual 64, 637, []),
  (637, .if_icmp .eq 440, 640, [(0, 1077)]),
  (640, .iconst 0, 641, []),
  (641, .ireturn, 642, []),
  (642, .aload_n 1, 643, []),
  (643, .aload_n 0, 644, []),
  (644, .iload_n 3, 645, []),
  (645, .iconst 1, 646, []),
  (646, .iadd, 647, []),
  (647, .iaload, 648, []),
  (648, .aload_n 0, 649, []),
  (649, .iload_n 3, 650, []),
  (650, .iconst 2, 651, []),
  (651, .iadd, 652, []),
  (652, .iaload, 653, []),
  (653, .aload_n 0, 654, []),
  (654, .iload_n 3, 655, []),
  (655, .iconst 3, 656, []),
  (656, .iadd, 657, []),
  (657, .iaload, 658, []),
  (658, .aload_n 0, 659, []),
  (659, .iload_n 3, 660, []),
  (660, .iconst 4, 661, []),
  (661, .iadd, 662, []),
  (662, .iaload, 663, []),
  (663, .invokevirtual 65, 666, []),
  (666, .aload_n 2, 667, []),
  (667, .aload_n 0, 668, []),
  (668, .iload_n 3, 669, []),
  (669, .iconst 1, 670, []),
  (670, .iadd, 671, []),
  (671, .iaload, 672, []),
  (672, .aload_n 0, 673, []),
  (673, .iload_n 3, 674, []),
  (674, .iconst 2, 675, []),
  (675, .iadd, 676, []),
  (676, .iaload, 677, []),
  (677, .aload_n 0, 678, []),
  (678, .iload_n 3, 679, []),
  (679, .iconst 3, 680, []),
  (680, .iadd, 681, []),
  (681, .iaload, 682, []),
  (682, .aload_n 0, 683, []),
  (683, .iload_n 3, 684, []),
  (684, .iconst 4, 685, []),
  (685, .iadd, 686, []),
  (686, .iaload, 687, []),
  (687, .invokevirtual 69, 690, []),
  (690, .if_icmp .eq 387, 693, [(0, 1077)]),
  (693, .iconst 0, 694, []),
  (694, .ireturn, 695, []),
  (695, .aload_n 1, 696, []),
  (696, .aload_n 0, 697, []),
  (697, .iload_n 3, 698, []),
  (698, .iconst 1, 699, []),
  (699, .iadd, 700, []),
  (700, .iaload, 701, []),
  (701, .invokevirtual 70, 704, []),
  (704, .aload_n 2, 705, []),
  (705, .aload_n 0, 706, []),
  (706, .iload_n 3, 707, []),
  (707, .iconst 1, 708, []),
  (708, .iadd, 709, []),
  (709, .iaload, 710, []),
  (710, .invokevirtual 73, 713, []),
  (713, .if_icmp .eq 364, 716, [(0, 1077)]),
  (716, .iconst 0, 717, []),
  (717, .ireturn, 718, []),
  (718, .aload_n 1, 719, []),
  (719, .aload_n 0, 720, []),
  (720, .iload_n 3, 721, []),
  (721, .iconst 1, 722, []),
  (722, .iadd, 723, []),
  (723, .iaload, 724, []),
  (724, .invokevirtual 74, 727, []),
  (727, .aload_n 2, 728, []),
  (728, .aload_n 0, 729, []),
  (729, .iload_n 3, 730, []),
  (730, .iconst 1, 731, []),
  (731, .iadd, 732, []),
  (732, .iaload, 733, []),
  (733, .invokevirtual 77, 736, []),
  (736, .if_icmp .eq 341, 739, [(0, 1077)]),
  (739, .iconst 0, 740, []),
  (740, .ireturn, 741, []),
  (741, .aload_n 1, 742, []),
  (742, .aload_n 0, 743, []),
  (743, .iload_n 3, 744, []),
  (744, .iconst 1, 745, []),
  (745, .iadd, 746, []),
  (746, .iaload, 747, []),
  (747, .invokevirtual 78, 750, []),
  (750, .aload_n 2, 751, []),
  (751, .aload_n 0, 752, []),
  (752, .iload_n 3, 753, []),
  (753, .iconst 1, 754, []),
  (754, .iadd, 755, []),
  (755, .iaload, 756, []),
  (756, .invokevirtual 81, 759, []),
  (759, .if_icmp .eq 318, 762, [(0, 1077)]),
  (762, .iconst 0, 763, []),
  (763, .ireturn, 764, []),
  (764, .aload_n 1, 765, []),
  (765, .aload_n 0, 766, []),
  (766, .iload_n 3, 767, []),
  (767, .iconst 1, 768, []),
  (768, .iadd, 769, []),
  (769, .iaload, 770, []),
  (770, .aload_n 0, 771, []),
  (771, .iload_n 3, 772, []),
  (772, .iconst 2, 773, []),
  (773, .iadd, 774, []),
  (774, .iaload, 775, []),
  (775, .aload_n 0, 776, []),
  (776, .iload_n 3, 777, []),
  (777, .iconst 3, 778, []),
  (778, .iadd, 779, []),
  (779, .iaload, 780, []),
  (780, .aload_n 0, 781, []),
  (781, .iload_n 3, 782, []),
  (782, .iconst 4, 783, []),
  (783, .iadd, 784, []),
  (784, .iaload, 785, []),
  (785, .invokevirtual 82, 788, []),
  (788, .aload_n 2, 789, []),
  (789, .aload_n 0, 790, []),
  (790, .iload_n 3, 791, []),
  (791, .iconst 1, 792, []),
  (792, .iadd, 793, []),
  (793, .iaload, 794, []),
  (794, .aload_n 0, 795, []),
  (795, .iload_n 3, 796, []),
  (796, .iconst 2, 797, []),
  (797, .iadd, 798, []),
  (798, .iaload, 799, []),
  (799, .aload_n 0, 800, []),
  (800, .iload_n 3, 801, []),
  (801, .iconst 3, 802, []),
  (802, .iadd, 803, []),
  (803, .iaload, 804, []),
  (804, .aload_n 0, 805, []),
  (805, .iload_n 3, 806, []),
  (806, .iconst 4, 807, []),
  (807, .iadd, 808, []),
  (808, .iaload, 809, []),
  (809, .invokevirtual 85, 812, []),
  (812, .if_icmp .eq 265, 815, [(0, 1077)]),
  (815, .iconst 0, 816, []),
  (816, .ireturn, 817, []),
  (817, .aload_n 1, 818, []),
  (818, .aload_n 0, 819, []),
  (819, .iload_n 3, 820, []),
  (820, .iconst 1, 821, []),
  (821, .iadd, 822, []),
  (822, .iaload, 823, []),
  (823, .invokevirtual 86, 826, []),
  (826, .aload_n 2, 827, []),
  (827, .aload_n 0, 828, []),
  (828, .iload_n 3, 829, []),
  (829, .iconst 1, 830, []),
  (830, .iadd, 831, []),
  (831, .iaload, 832, []),
  (832, .invokevirtual 89, 835, []),
  (835, .if_icmp .eq 242, 838, [(0, 1077)]),
  (838, .iconst 0, 839, []),
  (839, .ireturn, 840, []),
  (840, .aload_n 1, 841, []),
  (841, .aload_n 0, 842, []),
  (842, .iload_n 3, 843, []),
  (843, .iconst 1, 844, []),
  (844, .iadd, 845, []),
  (845, .iaload, 846, []),
  (846, .invokevirtual 90, 849, []),
  (849, .aload_n 2, 850, []),
  (850, .aload_n 0, 851, []),
  (851, .iload_n 3, 852, []),
  (852, .iconst 1, 853, []),
  (853, .iadd, 854, []),
  (854, .iaload, 855, []),
  (855, .invokevirtual 93, 858, []),
  (858, .if_icmp .eq 219, 861, [(0, 1077)]),
  (861, .iconst 0, 862, []),
  (862, .ireturn, 863, []),
  (863, .aload_n 1, 864, []),
  (864, .aload_n 0, 865, []),
  (865, .iload_n 3, 866, []),
  (866, .iconst 1, 867, []),
  (867, .iadd, 868, []),
  (868, .iaload, 869, []),
  (869, .invokevirtual 94, 872, []),
  (872, .aload_n 2, 873, []),
  (873, .aload_n 0, 874, []),
  (874, .iload_n 3, 875, []),
  (875, .iconst 1, 876, []),
  (876, .iadd, 877, []),
  (877, .iaload, 878, []),
  (878, .invokevirtual 97, 881, []),
  (881, .if_icmp .eq 196, 884, [(0, 1077)]),
  (884, .iconst 0, 885, []),
  (885, .ireturn, 886, []),
  (886, .aload_n 1, 887, []),
  (887, .aload_n 0, 888, []),
  (888, .iload_n 3, 889, []),
  (889, .iconst 1, 890, []),
  (890, .iadd, 891, []),
  (891, .iaload, 892, []),
  (892, .aload_n 0, 893, []),
  (893, .iload_n 3, 894, []),
  (894, .iconst 2, 895, []),
  (895, .iadd, 896, []),
  (896, .iaload, 897, []),
  (897, .aload_n 0, 898, []),
  (898, .iload_n 3, 899, []),
  (899, .iconst 3, 900, []),
  (900, .iadd, 901, []),
  (901, .iaload, 902, []),
  (902, .invokevirtual 98, 905, []),
  (905, .aload_n 2, 906, []),
  (906, .aload_n 0, 907, []),
  (907, .iload_n 3, 908, []),
  (908, .iconst 1, 909, []),
  (909, .iadd, 910, []),
  (910, .iaload, 911, []),
  (911, .aload_n 0, 912, []),
  (912, .iload_n 3, 913, []),
  (913, .iconst 2, 914, []),
  (914, .iadd, 915, []),
  (915, .iaload, 916, []),
  (916, .aload_n 0, 917, []),
  (917, .iload_n 3, 918, []),
  (918, .iconst 3, 919, []),
  (919, .iadd, 920, []),
  (920, .iaload, 921, []),
  (921, .invokevirtual 101, 924, []),
  (924, .if_icmp .eq 153, 927, [(0, 1077)]),
  (927, .iconst 0, 928, []),
  (928, .ireturn, 929, []),
  (929, .aload_n 1, 930, []),
  (930, .aload_n 0, 931, []),
  (931, .iload_n 3, 932, []),
  (932, .iconst 1, 933, []),
  (933, .iadd, 934, []),
  (934, .iaload, 935, []),
  (935, .aload_n 0, 936, []),
  (936, .iload_n 3, 937, []),
  (937, .iconst 2, 938, []),
  (938, .iadd, 939, []),
  (939, .iaload, 940, []),
  (940, .invokevirtual 102, 943, []),
  (943, .aload_n 2, 944, []),
  (944, .aload_n 0, 945, []),
  (945, .iload_n 3, 946, []),
  (946, .iconst 1, 947, []),
  (947, .iadd, 948, []),
  (948, .iaload, 949, []),
  (949, .aload_n 0, 950, []),
  (950, .iload_n 3, 951, []),
  (951, .iconst 2, 952, []),
  (952, .iadd, 953, []),
  (953, .iaload, 954, []),
  (954, .invokevirtual 105, 957, []),
  (957, .if_icmp .eq 120, 960, [(0, 1077)]),
  (960, .iconst 0, 961, []),
  (961, .ireturn, 962, []),
  (962, .aload_n 1, 963, []),
  (963, .aload_n 0, 964, []),
  (964, .iload_n 3, 965, []),
  (965, .iconst 1, 966, []),
  (966, .iadd, 967, []),
  (967, .iaload, 968, []),
  (968, .aload_n 0, 969, []),
  (969, .iload_n 3, 970, []),
  (970, .iconst 2, 971, []),
  (971, .iadd, 972, []),
  (972, .iaload, 973, []),
  (973, .invokevirtual 106, 976, []),
  (976, .aload_n 2, 977, []),
  (977, .aload_n 0, 978, []),
  (978, .iload_n 3, 979, []),
  (979, .iconst 1, 980, []),
  (980, .iadd, 981, []),
  (981, .iaload, 982, []),
  (982, .aload_n 0, 983, []),
  (983, .iload_n 3, 984, []),
  (984, .iconst 2, 985, []),
  (985, .iadd, 986, []),
  (986, .iaload, 987, []),
  (987, .invokevirtual 109, 990, []),
  (990, .if_icmp .eq 87, 993, [(0, 1077)]),
  (993, .iconst 0, 994, []),
  (994, .ireturn, 995, []),
  (995, .aload_n 1, 996, []),
  (996, .invokevirtual 110, 999, []),
  (999, .aload_n 2, 1000, []),
  (1000, .invokevirtual 114, 1003, []),
  (1003, .if_icmp .eq 74, 1006, [(0, 1077)]),
  (1006, .iconst 0, 1007, []),
  (1007, .ireturn, 1008, []),
  (1008, .aload_n 1, 1009, []),
  (1009, .aload_n 0, 1010, []),
  (1010, .iload_n 3, 1011, []),
  (1011, .iconst 1, 1012, []),
  (1012, .iadd, 1013, []),
  (1013, .iaload, 1014, []),
  (1014, .invokevirtual 115, 1017, []),
  (1017, .aload_n 2, 1018, []),
  (1018, .aload_n 0, 1019, []),
  (1019, .iload_n 3, 1020, []),
  (1020, .iconst 1, 1021, []),
  (1021, .iadd, 1022, []),
  (1022, .iaload, 1023, []),
  (1023, .invokevirtual 118, 1026, []),
  (1026, .if_icmp .eq 51, 1029, [(0, 1077)]),
  (1029, .iconst 0, 1030, []),
  (1030, .ireturn, 1031, []),
  (1031, .aload_n 1, 1032, []),
  (1032, .aload_n 0, 1033, []),
  (1033, .iload_n 3, 1034, []),
  (1034, .iconst 1, 1035, []),
  (1035, .iadd, 1036, []),
  (1036, .iaload, 1037, []),
  (1037, .invokevirtual 119, 1040, []),
  (1040, .aload_n 2, 1041, []),
  (1041, .aload_n 0, 1042, []),
  (1042, .iload_n 3, 1043, []),
  (1043, .iconst 1, 1044, []),
  (1044, .iadd, 1045, []),
  (1045, .iaload, 1046, []),
  (1046, .invokevirtual 122, 1049, []),
  (1049, .if_icmp .eq 28, 1052, [(0, 1077)]),
  (1052, .iconst 0, 1053, []),
  (1053, .ireturn, 1054, []),
  (1054, .aload_n 1, 1055, []),
  (1055, .aload_n 0, 1056, []),
  (1056, .iload_n 3, 1057, []),
  (1057, .iconst 1, 1058, []),
  (1058, .iadd, 1059, []),
  (1059, .iaload, 1060, []),
  (1060, .invokevirtual 123, 1063, []),
  (1063, .aload_n 2, 1064, []),
  (1064, .aload_n 0, 1065, []),
  (1065, .iload_n 3, 1066, []),
  (1066, .iconst 1, 1067, []),
  (1067, .iadd, 1068, []),
  (1068, .iaload, 1069, []),
  (1069, .invokevirtual 126, 1072, []),
  (1072, .if_icmp .eq 5, 1075, [(0, 1077)]),
  (1075, .iconst 0, 1076, []),
  (1076, .ireturn, 1077, []),
  (1077, .iinc 3 6, 1080, []),
  (1080, .goto (-1062), 1083, [(0, 18)]),
  (1083, .iconst 1, 1084, []),
  (1084, .ireturn, 1085, [])]
set_option maxRecDepth 100000 in
theorem ckL_law_0 : ((pL_law.drop 0).take 50).all (okE rL_law.2.1 rL_law.2.2.1) = true := by decide +kernel
set_option maxRecDepth 100000 in
theorem ckL_law_1 : ((pL_law.drop 50).take 50).all (okE rL_law.2.1 rL_law.2.2.1) = true := by decide +kernel
set_option maxRecDepth 100000 in
theorem ckL_law_2 : ((pL_law.drop 100).take 50).all (okE rL_law.2.1 rL_law.2.2.1) = true := by decide +kernel
set_option maxRecDepth 100000 in
theorem ckL_law_3 : ((pL_law.drop 150).take 50).all (okE rL_law.2.1 rL_law.2.2.1) = true := by decide +kernel
set_option maxRecDepth 100000 in
theorem ckL_law_4 : ((pL_law.drop 200).take 50).all (okE rL_law.2.1 rL_law.2.2.1) = true := by decide +kernel
set_option maxRecDepth 100000 in
theorem ckL_law_5 : ((pL_law.drop 250).take 50).all (okE rL_law.2.1 rL_law.2.2.1) = true := by decide +kernel
set_option maxRecDepth 100000 in
theorem ckL_law_6 : ((pL_law.drop 300).take 50).all (okE rL_law.2.1 rL_law.2.2.1) = true := by decide +kernel
set_option maxRecDepth 100000 in
theorem ckL_law_7 : ((pL_law.drop 350).take 50).all (okE rL_law.2.1 rL_law.2.2.1) = true := by decide +kernel
set_option maxRecDepth 100000 in
theorem ckL_law_8 : ((pL_law.drop 400).take 50).all (okE rL_law.2.1 rL_law.2.2.1) = true := by decide +kernel
set_option maxRecDepth 100000 in
theorem ckL_law_9 : ((pL_law.drop 450).take 50).all (okE rL_law.2.1 rL_law.2.2.1) = true := by decide +kernel
set_option maxRecDepth 100000 in
theorem ckL_law_10 : ((pL_law.drop 500).take 50).all (okE rL_law.2.1 rL_law.2.2.1) = true := by decide +kernel
set_option maxRecDepth 100000 in
theorem ckL_law_11 : ((pL_law.drop 550).take 50).all (okE rL_law.2.1 rL_law.2.2.1) = true := by decide +kernel
set_option maxRecDepth 100000 in
theorem ckL_law_12 : ((pL_law.drop 600).take 50).all (okE rL_law.2.1 rL_law.2.2.1) = true := by decide +kernel
set_option maxRecDepth 100000 in
theorem ckL_law_13 : ((pL_law.drop 650).take 50).all (okE rL_law.2.1 rL_law.2.2.1) = true := by decide +kernel
set_option maxRecDepth 100000 in
theorem ckL_law_14 : ((pL_law.drop 700).take 50).all (okE rL_law.2.1 rL_law.2.2.1) = true := by decide +kernel
set_option maxRecDepth 100000 in
theorem ckL_law_15 : ((pL_law.drop 750).take 50).all (okE rL_law.2.1 rL_law.2.2.1) = true := by decide +kernel
theorem ckzL_law : (pL_law.drop 800).all (okE rL_law.2.1 rL_law.2.2.1) = true := by decide +kernel
set_option maxRecDepth 100000 in
theorem moL_law : MO mL_law 8 false (some .boolean) pL_law := ⟨rL_law, rfl, rfl, by decide, rfl, (fun h => by cases h), (all_cut 0 50 ckL_law_0 (all_cut 50 50 ckL_law_1 (all_cut 100 50 ckL_law_2 (all_cut 150 50 ckL_law_3 (all_cut 200 50 ckL_law_4 (all_cut 250 50 ckL_law_5 (all_cut 300 50 ckL_law_6 (all_cut 350 50 ckL_law_7 (all_cut 400 50 ckL_law_8 (all_cut 450 50 ckL_law_9 (all_cut 500 50 ckL_law_10 (all_cut 550 50 ckL_law_11 (all_cut 600 50 ckL_law_12 (all_cut 650 50 ckL_law_13 (all_cut 700 50 ckL_law_14 (all_cut 750 50 ckL_law_15 ckzL_law))))))))))))))))⟩
theorem aL_law {d : Nat} {Φ : Option Vl → Ly → Mm → Prop} (sp : List Nat) (n : Nat) {pc : Nat} {L : Lc} {st : List Vl} {S : Ly} {M : Mm} (h : MOk M → wp d 0 0 0 0 mL_law 8 false true (some .boolean) Φ pL_law sp n pc L st S M) : AJ d 0 0 mL_law Φ 0 0 pc L st S M := aj_wp moL_law sp n h
end
section
/-! ===== the layout: the cells in the order in which they are made; 0 is the script ===== -/
def S0 (N : Nat) : Ly := [.inl N,
  .inr (4, [some (some 2), some (some 5), some (some 9), some (some 13), some (some 19)]),
  .inr (3, [some (some 3), some (some 4)]), .inl 7, .inl 30,
  .inr (0, [none, some (some 6), some (some 7), some (some 8), none, none, none, none]), .inl 30, .inl 30, .inl 30,
  .inr (0, [none, some (some 10), some (some 11), some (some 12), none, none, none, none]), .inl 30, .inl 30, .inl 30,
  .inr (2, [some (some 2), some (some 14), some (some 15), some (some 16), some (some 17), some (some 18), none, none, none, none]), .inl 150, .inl 750, .inl 150, .inl 5, .inl 30,
  .inr (1, [some (some 20), some (some 21), some (some 22), some (some 23), none]), .inl 6, .inl 6, .inl 6, .inl 6,
  .inr (5, [some (some 25), some (some 26), some (some 27), some (some 28), some (some 29), some (some 30), none, none, some (some 31), some (some 32), none, none, none, some (some 33), some (some 34), some (some 35), some (some 36), some (some 37), none, none, some (some 38), some (some 39), some (some 40), some (some 41), some (some 42), none, some (some 43), some (some 44), some (some 45), some (some 46)]),
  .inl 60, .inl 60, .inl 46, .inl 46, .inl 46, .inl 7, .inl 30, .inl 30, .inl 6, .inl 6, .inl 180, .inl 180, .inl 6, .inl 2, .inl 60, .inl 2, .inl 2, .inl 2, .inl 6, .inl 6, .inl 6, .inl 6]
/-- answers x, changes nothing -/
def Pu (S : Ly) (M : Mm) (x : Int) : Option Vl → Ly → Mm → Prop := fun r S' M' => r = some (.inl x) ∧ S' = S ∧ M' = M
/-- answers a cell -/
def Pa (S : Ly) (M : Mm) (a : Nat) : Option Vl → Ly → Mm → Prop := fun r S' M' => r = some (.inr a) ∧ S' = S ∧ M' = M
/-- answers nothing, the memory becomes M1 -/
def Vo (S : Ly) (M1 : Mm) : Option Vl → Ly → Mm → Prop := fun r S' M' => r = none ∧ S' = S ∧ M' = M1
def bi (p : Prop) [Decidable p] : Int := if p then 1 else 0
theorem bi_t {p : Prop} [Decidable p] (h : p) : bi p = 1 := if_pos h
theorem bi_f {p : Prop} [Decidable p] (h : ¬ p) : bi p = 0 := if_neg h
theorem R32_1 : R32 1 := by decide
theorem R32_0 : R32 0 := by decide
theorem CL.pu {d d' y : Nat} {as : List Vl} {S : Ly} {M : Mm} {x : Int} {K : Option Vl → Ly → Mm → Prop} (h : Ret d' 0 0 y as S M (Pu S M x)) (hd : d' + 1 ≤ d) (k : K (some (.inl x)) S M) : CL d y as S M K := ⟨d', _, hd, h, fun r S' M' q _ => by obtain ⟨rfl, rfl, rfl⟩ := q; exact k⟩
theorem CL.pa {d d' y : Nat} {as : List Vl} {S : Ly} {M : Mm} {a : Nat} {K : Option Vl → Ly → Mm → Prop} (h : Ret d' 0 0 y as S M (Pa S M a)) (hd : d' + 1 ≤ d) (k : K (some (.inr a)) S M) : CL d y as S M K := ⟨d', _, hd, h, fun r S' M' q _ => by obtain ⟨rfl, rfl, rfl⟩ := q; exact k⟩
theorem CL.vo {d d' y : Nat} {as : List Vl} {S : Ly} {M M1 : Mm} {K : Option Vl → Ly → Mm → Prop} (h : Ret d' 0 0 y as S M (Vo S M1)) (hd : d' + 1 ≤ d) (k : MOk M1 → K none S M1) : CL d y as S M K := ⟨d', _, hd, h, fun r S' M' q hM => by obtain ⟨rfl, rfl, rfl⟩ := q; exact k hM⟩
theorem CL.bl {d d' y : Nat} {as : List Vl} {S : Ly} {M : Mm} {p : Prop} [Decidable p] {K : Option Vl → Ly → Mm → Prop} (h : Ret d' 0 0 y as S M (Pu S M (bi p))) (hd : d' + 1 ≤ d) (k1 : p → K (some (.inl 1)) S M) (k2 : ¬ p → K (some (.inl 0)) S M) : CL d y as S M K := by
  refine CL.pu h hd ?_
  by_cases hp : p
  · rw [bi_t hp]; exact k1 hp
  · rw [bi_f hp]; exact k2 hp
theorem it1 {c : Prop} [Decidable c] {A B : Prop} (h : c) (a : A) : if c then A else B := by rw [if_pos h]; exact a
theorem it0 {c : Prop} [Decidable c] {A B : Prop} (h : ¬ c) (b : B) : if c then A else B := by rw [if_neg h]; exact b
theorem pu_eq {S : Ly} {M : Mm} {x y : Int} (h : x = y) : Pu S M y (some (.inl x)) S M := ⟨by rw [h], rfl, rfl⟩
theorem vo_eq {S : Ly} {M M1 : Mm} (h : M = M1) : Vo S M1 none S M := ⟨rfl, rfl, h⟩
theorem Ret.up {d mc ms y : Nat} {as : List Vl} {S : Ly} {M : Mm} {x x' : Int} (h : Ret d mc ms y as S M (Pu S M x)) (e : x = x') : Ret d mc ms y as S M (Pu S M x') := e ▸ h
theorem mset_eq (M : Mm) (a : Nat) (i x : Int) : mset M a i x a i = x := by simp [mset]
theorem mset_ne {M : Mm} {a k : Nat} {i j x : Int} (h : k ≠ a ∨ j ≠ i) : mset M a i x k j = M k j := by
  unfold mset
  rw [if_neg]
  rintro ⟨h1, h2⟩
  rcases h with h | h
  · exact h h1
  · exact h h2
/-! black keys -/
abbrev blk (k : Int) : Prop := k % 12 = 1 ∨ k % 12 = 3 ∨ k % 12 = 6 ∨ k % 12 = 8 ∨ k % 12 = 10
theorem remI_12 {x : Int} (h0 : 0 ≤ x) (h1 : x ≤ 1000) : remI x 12 = x % 12 := by
  have hx : R32 x := by constructor <;> omega
  unfold remI
  have e : Int32.ofInt x / Int32.ofInt 12 = Int32.ofInt (x / 12) := by
    rw [← Int32.toInt_inj, Int32.toInt_div_of_ne_right _ _ (by decide +kernel), i32_toInt hx, i32_toInt (by decide), i32_toInt (by constructor <;> omega)]
    exact Int.tdiv_eq_ediv_of_nonneg h0
  rw [e, ← Int32.ofInt_mul, ← Int32.ofInt_sub, i32_toInt (by constructor <;> omega)]
  omega
theorem blk_dec (k : Int) : (k % 12 = 1 ∨ k % 12 = 3 ∨ k % 12 = 6 ∨ k % 12 = 8 ∨ k % 12 = 10) = blk k := rfl
/-- fewer locals known -/
def subL : Lc → Lc → Prop
  | [], _ => True
  | none :: t, [] => subL t []
  | none :: t, _ :: u => subL t u
  | some _ :: _, [] => False
  | some v :: t, w :: u => some v = w ∧ subL t u
theorem subL_get : ∀ {L' L : Lc}, subL L' L → ∀ (i : Nat) (v : Vl), getL L' i = some v → getL L i = some v := by
  intro L'
  induction L' with
  | nil => intro L _ i v h; cases h
  | cons a t ih =>
    intro L h i v hi
    cases a with
    | none =>
      cases L with
      | nil => cases i with
        | zero => cases hi
        | succ i => exact absurd (ih (L := []) h i v hi) (by simp [getL])
      | cons b u => cases i with
        | zero => cases hi
        | succ i => exact ih (L := u) h i v hi
    | some w =>
      cases L with
      | nil => exact False.elim h
      | cons b u => cases i with
        | zero =>
          have h1 : w = v := by simpa [getL] using hi
          subst h1
          exact h.1.symm
        | succ i => exact ih (L := u) h.2 i v hi
theorem AJ.wk {d mc ms y : Nat} {Φ : Option Vl → Ly → Mm → Prop} {kc ks pc : Nat} {L L' : Lc} {st : List Vl} {S : Ly} {M : Mm} (h : AJ d mc ms y Φ kc ks pc L' st S M) (hs : subL L' L) : AJ d mc ms y Φ kc ks pc L st S M := by
  intro r hr l dC dI cA b0 b N xs p e s m args below meth c H locs ls C hW hS hz hL
  exact h r hr l dC dI cA b0 b N xs p e s m args below meth c H locs ls C hW hS hz ⟨hL.1, hL.2.1, fun i v hi => hL.2.2 i v (subL_get hs i v hi)⟩
end
section
/-! ===== KeyFingers: what numbers are; arrays ===== -/
theorem t_isBelow {N : Nat} {h b : Int} {M : Mm} (hh : R32 h) (hb : R32 b) : Ret 0 0 0 mK_isBelow [.inl h, .inl b] (S0 N) M (Pu (S0 N) M (bi (0 ≤ h ∧ h < b))) := by
  refine eK_isBelow [] 20 (Nat.le_of_ble_eq_true rfl) (fun hM => ?_)
  repeat' first
    | (exact ⟨Or.inr rfl, pu_eq (bi_t (by omega)).symm⟩)
    | (exact ⟨Or.inl rfl, pu_eq (bi_f (by omega)).symm⟩)
    | (exact hM _ _)
    | (refine ite_i (fun _ => ?_) (fun _ => ?_))
    | (exact trivial)
    | (omega)
    | (refine And.intro ?_ ?_)
theorem t_isHand {N : Nat} {h : Int} {M : Mm} (hh : R32 h) : Ret 0 0 0 mK_isHand [.inl h] (S0 N) M (Pu (S0 N) M (bi (h = 0 ∨ h = 1))) := by
  refine eK_isHand [] 20 (Nat.le_of_ble_eq_true rfl) (fun hM => ?_)
  repeat' first
    | (exact ⟨Or.inr rfl, pu_eq (bi_t (by omega)).symm⟩)
    | (exact ⟨Or.inl rfl, pu_eq (bi_f (by omega)).symm⟩)
    | (exact hM _ _)
    | (refine ite_i (fun _ => ?_) (fun _ => ?_))
    | (exact trivial)
    | (omega)
    | (refine And.intro ?_ ?_)
theorem t_isMoment {N : Nat} {h : Int} {M : Mm} (hh : R32 h) : Ret 0 0 0 mK_isMoment [.inl h] (S0 N) M (Pu (S0 N) M (bi (0 ≤ h ∧ h < 30))) := by
  refine eK_isMoment [] 20 (Nat.le_of_ble_eq_true rfl) (fun hM => ?_)
  repeat' first
    | (exact ⟨Or.inr rfl, pu_eq (bi_t (by omega)).symm⟩)
    | (exact ⟨Or.inl rfl, pu_eq (bi_f (by omega)).symm⟩)
    | (exact hM _ _)
    | (refine ite_i (fun _ => ?_) (fun _ => ?_))
    | (exact trivial)
    | (omega)
    | (refine And.intro ?_ ?_)
theorem t_isKey {N : Nat} {h : Int} {M : Mm} (hh : R32 h) : Ret 0 0 0 mK_isKey [.inl h] (S0 N) M (Pu (S0 N) M (bi (0 ≤ h ∧ h < 60))) := by
  refine eK_isKey [] 20 (Nat.le_of_ble_eq_true rfl) (fun hM => ?_)
  repeat' first
    | (exact ⟨Or.inr rfl, pu_eq (bi_t (by omega)).symm⟩)
    | (exact ⟨Or.inl rfl, pu_eq (bi_f (by omega)).symm⟩)
    | (exact hM _ _)
    | (refine ite_i (fun _ => ?_) (fun _ => ?_))
    | (exact trivial)
    | (omega)
    | (refine And.intro ?_ ?_)
theorem t_isFinger {N : Nat} {h : Int} {M : Mm} (hh : R32 h) : Ret 0 0 0 mK_isFinger [.inl h] (S0 N) M (Pu (S0 N) M (bi (1 ≤ h ∧ h ≤ 5))) := by
  refine eK_isFinger [] 20 (Nat.le_of_ble_eq_true rfl) (fun hM => ?_)
  repeat' first
    | (exact ⟨Or.inr rfl, pu_eq (bi_t (by omega)).symm⟩)
    | (exact ⟨Or.inl rfl, pu_eq (bi_f (by omega)).symm⟩)
    | (exact hM _ _)
    | (refine ite_i (fun _ => ?_) (fun _ => ?_))
    | (exact trivial)
    | (omega)
    | (refine And.intro ?_ ?_)
theorem t_isBlack {N : Nat} {k : Int} {M : Mm} (h0 : 0 ≤ k) (h1 : k ≤ 1000) : Ret 0 0 0 mK_isBlack [.inl k] (S0 N) M (Pu (S0 N) M (bi (blk k))) := by
  refine eK_isBlack [] 20 (Nat.le_of_ble_eq_true rfl) (fun hM => ?_)
  refine ⟨⟨by decide, by decide⟩, ?_⟩
  rw [remI_12 h0 h1]
  refine ⟨by omega, fun q => ?_, ?_⟩
  · exact ⟨Or.inl rfl, pu_eq (bi_f (by omega)).symm⟩
  · refine ⟨fun q => ?_, fun q => ?_, fun q => ?_, fun q => ?_, fun q => ?_, fun q => ?_, fun q => ?_, fun q => ?_, fun q => ?_, fun q => ?_, trivial⟩
    all_goals first | (exact ⟨Or.inr rfl, pu_eq (bi_t (by omega)).symm⟩) | (exact ⟨Or.inl rfl, pu_eq (bi_f (by omega)).symm⟩)
theorem t_at {N c n : Nat} {p : Int} {M : Mm} (hs : shp (S0 N) c = some (.inl n)) (h0 : 0 ≤ p) (h1 : p < n) (hn : n ≤ 1000) : Ret 0 0 0 mK_at [.inr c, .inl p] (S0 N) M (Pu (S0 N) M (M c p)) := by
  refine eK_at [] 20 (Nat.le_of_ble_eq_true rfl) (fun hM => ?_)
  refine ⟨by omega, ite_i (fun q => by omega) (fun q => ?_)⟩
  conv => whnf
  rw [hs]
  refine ⟨by omega, ite_i (fun q => ?_) (fun q => by omega)⟩
  conv => whnf
  rw [hs]
  exact ⟨by omega, pu_eq rfl⟩
theorem t_at_out {N c n : Nat} {p : Int} {M : Mm} (hs : shp (S0 N) c = some (.inl n)) (h0 : p < 0 ∨ (n : Int) ≤ p) (hp : R32 p) (hn : n ≤ 1000) : Ret 0 0 0 mK_at [.inr c, .inl p] (S0 N) M (Pu (S0 N) M (-9)) := by
  refine eK_at [] 20 (Nat.le_of_ble_eq_true rfl) (fun hM => ?_)
  refine ⟨by omega, ite_i (fun q => ?_) (fun q => ?_)⟩
  · exact pu_eq rfl
  · conv => whnf
    rw [hs]
    refine ⟨by omega, ite_i (fun q => by omega) (fun q => ?_)⟩
    exact pu_eq rfl
theorem t_store {N c n : Nat} {p v : Int} {M : Mm} (hs : shp (S0 N) c = some (.inl n)) (hc : c ≠ 0) (h0 : 0 ≤ p) (h1 : p < n) (hn : n ≤ 1000) (hv : R32 v) : Ret 0 0 0 mK_store [.inr c, .inl p, .inl v] (S0 N) M (Vo (S0 N) (mset M c p v)) := by
  refine eK_store [] 20 (Nat.le_of_ble_eq_true rfl) (fun hM => ?_)
  refine ⟨by omega, ite_i (fun q => by omega) (fun q => ?_)⟩
  conv => whnf
  rw [hs]
  refine ⟨by omega, ite_i (fun q => ?_) (fun q => by omega)⟩
  conv => whnf
  rw [hs]
  exact ⟨⟨hc, h0, h1, by omega, hv⟩, vo_eq rfl⟩
end
section
/-! ===== prices and reaches: pure words (as the reference has its rows) ===== -/
def ncv (pr : Int → Int) (key f : Int) : Int := if f = 4 then pr 6 else if f = 1 ∧ blk key then pr 0 else if f = 5 ∧ blk key then pr 1 else 0
def rcv (le ea mo : Int → Int) (p far : Int) : Int := if far < le p ∨ mo p < far then 1000000 else if ea p < far then far - ea p else 0
def stv (pr le ea mo : Int → Int) (hand a f b g : Int) : Int :=
  let dd := if hand = 0 then b - a else a - b
  if dd = 0 then (if f = g then pr 5 else 0)
  else if f = g then (if blk a ∧ ¬ blk b ∧ (dd = 1 ∨ dd = -1) then pr 4 else pr 3)
  else if (0 < dd ↔ f < g) then rcv le ea mo (10 * min f g + max f g) dd.natAbs
  else if min f g = 1 ∧ max f g ≠ 5 ∧ dd ≤ 5 ∧ -5 ≤ dd then pr 2 + dd.natAbs else 1000000
def rp (f g : Int) : Int := 3 * ((f - 1) * (10 - f) / 2 + (g - f - 1))
/-- the rules: the class's rows are the reference's -/
def RuI (M : Mm) : Prop := (∀ k, 0 ≤ k → k < 7 → M 3 k = M 30 k ∧ 0 ≤ M 30 k ∧ M 30 k ≤ 20) ∧
  ∀ f g, 1 ≤ f → f < g → g ≤ 5 → M 4 (rp f g) = M 27 (10 * f + g) ∧ M 4 (rp f g + 1) = M 28 (10 * f + g) ∧ M 4 (rp f g + 2) = M 29 (10 * f + g) ∧ 0 ≤ M 27 (10 * f + g) ∧ M 27 (10 * f + g) ≤ M 28 (10 * f + g) ∧ M 28 (10 * f + g) ≤ M 29 (10 * f + g) ∧ M 29 (10 * f + g) ≤ 24
theorem divI_2 {x : Int} (h0 : 0 ≤ x) (h1 : x ≤ 1000) : divI x 2 = x / 2 := by
  have hx : R32 x := by constructor <;> omega
  unfold divI
  rw [Int32.toInt_div_of_ne_right _ _ (by decide +kernel), i32_toInt hx, i32_toInt (by decide)]
  exact Int.tdiv_eq_ediv_of_nonneg h0
theorem rp_rng {f g : Int} (h1 : 1 ≤ f) (h2 : f < g) (h3 : g ≤ 5) : 0 ≤ (f - 1) * (10 - f) ∧ (f - 1) * (10 - f) ≤ 18 ∧ 0 ≤ rp f g ∧ rp f g + 2 < 30 := by
  unfold rp
  have : f = 1 ∨ f = 2 ∨ f = 3 ∨ f = 4 := by omega
  rcases this with rfl | rfl | rfl | rfl <;> omega
theorem rp_inj {f g f' g' : Int} (h1 : 1 ≤ f) (h2 : f < g) (h3 : g ≤ 5) (h1' : 1 ≤ f') (h2' : f' < g') (h3' : g' ≤ 5) : (rp f g = rp f' g' ∧ f = f' ∧ g = g') ∨ rp f g + 3 ≤ rp f' g' ∨ rp f' g' + 3 ≤ rp f g := by
  unfold rp
  have q1 : f = 1 ∨ f = 2 ∨ f = 3 ∨ f = 4 := by omega
  have q2 : f' = 1 ∨ f' = 2 ∨ f' = 3 ∨ f' = 4 := by omega
  rcases q1 with rfl | rfl | rfl | rfl <;> rcases q2 with rfl | rfl | rfl | rfl <;> omega
theorem t_priceOf {N : Nat} {k : Int} {M : Mm} (h0 : 0 ≤ k) (h1 : k < 7) : Ret 1 0 0 mU_priceOf [.inr 2, .inl k] (S0 N) M (Pu (S0 N) M (M 3 k)) := by
  refine eU_priceOf [] 20 (Nat.le_of_ble_eq_true rfl) (fun hM => ?_)
  refine CL.pu (t_at rfl h0 h1 (Nat.le_of_ble_eq_true rfl)) (Nat.le_of_ble_eq_true rfl) ?_
  exact pu_eq rfl
theorem t_setPrice {N : Nat} {k v : Int} {M : Mm} (h0 : 0 ≤ k) (h1 : k < 7) (hv : R32 v) : Ret 1 0 0 mU_setPrice [.inr 2, .inl k, .inl v] (S0 N) M (Vo (S0 N) (mset M 3 k v)) := by
  refine eU_setPrice [] 20 (Nat.le_of_ble_eq_true rfl) (fun hM => ?_)
  refine CL.vo (t_store rfl (by decide) h0 h1 (Nat.le_of_ble_eq_true rfl) hv) (Nat.le_of_ble_eq_true rfl) (fun hM => ?_)
  exact vo_eq rfl
theorem t_reachPlace {N : Nat} {f g : Int} {M : Mm} (h1 : 1 ≤ f) (h2 : f < g) (h3 : g ≤ 5) : Ret 0 0 0 mU_reachPlace [.inl f, .inl g] (S0 N) M (Pu (S0 N) M (rp f g)) := by
  have h4 := rp_rng h1 h2 h3
  refine eU_reachPlace [] 30 (Nat.le_of_ble_eq_true rfl) (fun hM => ?_)
  refine ⟨⟨by decide, by decide⟩, ?_⟩
  rw [divI_2 (by omega) (by omega)]
  refine pu_eq ?_
  unfold rp
  omega
theorem t_reachPart {N : Nat} {f g w : Int} {M : Mm} (h1 : 1 ≤ f) (h2 : f < g) (h3 : g ≤ 5) (h4 : 0 ≤ w) (h5 : w < 3) : Ret 1 0 0 mU_reachPart [.inr 2, .inl f, .inl g, .inl w] (S0 N) M (Pu (S0 N) M (M 4 (rp f g + w))) := by
  have h6 := rp_rng h1 h2 h3
  refine eU_reachPart [] 30 (Nat.le_of_ble_eq_true rfl) (fun hM => ?_)
  refine CL.pu (t_reachPlace h1 h2 h3) (Nat.le_of_ble_eq_true rfl) ?_
  refine CL.pu (t_at (n := 30) rfl (by omega) (by omega) (Nat.le_of_ble_eq_true rfl)) (Nat.le_of_ble_eq_true rfl) ?_
  exact pu_eq rfl
theorem t_setReach {N : Nat} {f g l e m : Int} {M : Mm} (h1 : 1 ≤ f) (h2 : f < g) (h3 : g ≤ 5) (hl : R32 l) (he : R32 e) (hm : R32 m) : Ret 1 0 0 mU_setReach [.inr 2, .inl f, .inl g, .inl l, .inl e, .inl m] (S0 N) M (Vo (S0 N) (mset (mset (mset M 4 (rp f g) l) 4 (rp f g + 1) e) 4 (rp f g + 2) m)) := by
  have h6 := rp_rng h1 h2 h3
  refine eU_setReach [] 40 (Nat.le_of_ble_eq_true rfl) (fun hM => ?_)
  refine CL.pu (t_reachPlace h1 h2 h3) (Nat.le_of_ble_eq_true rfl) ?_
  refine CL.vo (t_store (n := 30) rfl (by decide) (by omega) (by omega) (Nat.le_of_ble_eq_true rfl) hl) (Nat.le_of_ble_eq_true rfl) (fun hM => ?_)
  refine CL.vo (t_store (n := 30) rfl (by decide) (by omega) (by omega) (Nat.le_of_ble_eq_true rfl) he) (Nat.le_of_ble_eq_true rfl) (fun hM => ?_)
  refine CL.vo (t_store (n := 30) rfl (by decide) (by omega) (by omega) (Nat.le_of_ble_eq_true rfl) hm) (Nat.le_of_ble_eq_true rfl) (fun hM => ?_)
  exact vo_eq rfl
theorem t_noteCost {N : Nat} {k f : Int} {M : Mm} (hI : RuI M) (h0 : 0 ≤ k) (h1 : k ≤ 1000) (hf : R32 f) : Ret 1 0 0 mU_noteCost [.inr 2, .inl k, .inl f] (S0 N) M (Pu (S0 N) M (ncv (M 30) k f)) := by
  have e6 := (hI.1 6 (by omega) (by omega)).1
  have e0 := (hI.1 0 (by omega) (by omega)).1
  have e1 := (hI.1 1 (by omega) (by omega)).1
  refine eU_noteCost [] 60 (Nat.le_of_ble_eq_true rfl) (fun hM => ?_)
  repeat' first
    | (exact pu_eq (by grind [ncv]))
    | (exact hM _ _)
    | (refine ite_i (fun _ => ?_) (fun _ => ?_))
    | (refine CL.bl (t_isBlack h0 h1) (Nat.le_of_ble_eq_true rfl) (fun _ => ?_) (fun _ => ?_))
    | (refine CL.pu (t_at (n := 7) rfl (by omega) (by omega) (Nat.le_of_ble_eq_true rfl)) (Nat.le_of_ble_eq_true rfl) ?_)
    | (exact trivial)
    | (omega)
    | (refine And.intro ?_ ?_)
theorem t_reachCost {N : Nat} {f g a : Int} {M : Mm} (hI : RuI M) (h1 : 1 ≤ f) (h2 : f < g) (h3 : g ≤ 5) (h4 : 0 ≤ a) (h5 : a ≤ 1000) : Ret 1 0 0 mU_reachCost [.inr 2, .inl (rp f g), .inl a] (S0 N) M (Pu (S0 N) M (if rcv (M 27) (M 28) (M 29) (10 * f + g) a = 1000000 then -9 else rcv (M 27) (M 28) (M 29) (10 * f + g) a)) := by
  have h6 := rp_rng h1 h2 h3
  obtain ⟨e1, e2, e3, e4, e5, e6, e7⟩ := hI.2 f g h1 h2 h3
  have hv : ∀ x, x = rcv (M 27) (M 28) (M 29) (10 * f + g) a → x ≤ 1000 → x = (if rcv (M 27) (M 28) (M 29) (10 * f + g) a = 1000000 then -9 else rcv (M 27) (M 28) (M 29) (10 * f + g) a) := by
    intro x hx hl
    rw [← hx, if_neg (by omega)]
  have hw : rcv (M 27) (M 28) (M 29) (10 * f + g) a = 1000000 → -9 = (if rcv (M 27) (M 28) (M 29) (10 * f + g) a = 1000000 then -9 else rcv (M 27) (M 28) (M 29) (10 * f + g) a) := fun h => by rw [if_pos h]
  refine eU_reachCost [] 60 (Nat.le_of_ble_eq_true rfl) (fun hM => ?_)
  refine ⟨by omega, ite_i (fun q => by omega) (fun q => ?_)⟩
  refine ⟨by omega, ite_i (fun q => ?_) (fun q => by omega)⟩
  refine ⟨by omega, ⟨by omega, hM _ _⟩, ite_i (fun q => ?_) (fun q => ?_)⟩
  · exact pu_eq (hw (by unfold rcv; rw [if_pos (by omega)]))
  · refine ⟨by omega, ⟨by omega, hM _ _⟩, ite_i (fun q => ?_) (fun q => ?_)⟩
    · exact pu_eq (hw (by unfold rcv; rw [if_pos (by omega)]))
    · refine ⟨by omega, ⟨by omega, hM _ _⟩, ite_i (fun q => ?_) (fun q => ?_)⟩
      · exact pu_eq (hv _ (by unfold rcv; rw [if_neg (by omega), if_pos (by omega)]; omega) (by omega))
      · exact pu_eq (hv _ (by unfold rcv; rw [if_neg (by omega), if_neg (by omega)]) (by omega))
theorem t_stepCost {N : Nat} {sd hand a f b g : Int} {M : Mm} (hI : RuI M) (hsd : (hand = 0 ∧ sd = 1) ∨ (hand = 1 ∧ sd = -1)) (ha0 : 0 ≤ a) (ha1 : a < 60) (hb0 : 0 ≤ b) (hb1 : b < 60) (hf0 : 1 ≤ f) (hf1 : f ≤ 5) (hg0 : 1 ≤ g) (hg1 : g ≤ 5) : Ret 2 0 0 mU_stepCost [.inr 2, .inl sd, .inl a, .inl f, .inl b, .inl g] (S0 N) M (Pu (S0 N) M (if stv (M 30) (M 27) (M 28) (M 29) hand a f b g = 1000000 then -9 else stv (M 30) (M 27) (M 28) (M 29) hand a f b g)) := by
  have e5 := hI.1 5 (by omega) (by omega)
  have e4 := hI.1 4 (by omega) (by omega)
  have e3 := hI.1 3 (by omega) (by omega)
  have e2 := hI.1 2 (by omega) (by omega)
  have hdd : (b - a) * sd = (if hand = 0 then b - a else a - b) := by
    rcases hsd with ⟨rfl, rfl⟩ | ⟨rfl, rfl⟩ <;> simp <;> omega
  have hdr : -59 ≤ (if hand = 0 then b - a else a - b) ∧ (if hand = 0 then b - a else a - b) ≤ 59 := by split <;> omega
  generalize hE : (if stv (M 30) (M 27) (M 28) (M 29) hand a f b g = 1000000 then -9 else stv (M 30) (M 27) (M 28) (M 29) hand a f b g) = E
  unfold stv at hE
  dsimp only at hE
  generalize (if hand = 0 then b - a else a - b) = dd at hE hdd hdr
  refine eU_stepCost [] 120 (Nat.le_of_ble_eq_true rfl) (fun hM => ?_)
  conv => whnf
  rw [hdd]
  refine ⟨by omega, ?_⟩
  refine ⟨by omega, ite_i (fun q => ?_) (fun q => ?_)⟩
  · rw [if_pos q] at hE
    refine ⟨by omega, ite_i (fun q => ?_) (fun q => ?_)⟩
    · refine CL.pu (t_at (n := 7) rfl (by omega) (by omega) (Nat.le_of_ble_eq_true rfl)) (Nat.le_of_ble_eq_true rfl) ?_
      refine pu_eq ?_
      rw [← hE, if_pos q, if_neg (by omega)]; exact e5.1
    · refine pu_eq ?_
      rw [← hE, if_neg q, if_neg (by omega)]
  · rw [if_neg q] at hE
    refine ⟨by omega, ite_i (fun q2 => ?_) (fun q2 => ?_)⟩
    · rw [if_pos q2] at hE
      have l4 : blk a ∧ ¬ blk b ∧ (dd = 1 ∨ dd = -1) → M 3 4 = E := fun h => by rw [← hE, if_pos h, if_neg (by omega)]; exact e4.1
      have l3 : ¬ (blk a ∧ ¬ blk b ∧ (dd = 1 ∨ dd = -1)) → M 3 3 = E := fun h => by rw [← hE, if_neg h, if_neg (by omega)]; exact e3.1
      refine ⟨by omega, ite_i (fun q3 => ?_) (fun q3 => ?_)⟩
      · refine CL.bl (t_isBlack ha0 (by omega)) (Nat.le_of_ble_eq_true rfl) (fun q4 => ?_) (fun q4 => ?_)
        · refine ⟨R32_1, ?_⟩
          refine CL.bl (t_isBlack hb0 (by omega)) (Nat.le_of_ble_eq_true rfl) (fun q5 => ?_) (fun q5 => ?_)
          · exact ⟨R32_1, R32_0, CL.pu (t_at (n := 7) rfl (by omega) (by omega) (Nat.le_of_ble_eq_true rfl)) (Nat.le_of_ble_eq_true rfl) (pu_eq (l3 (by intro h; exact h.2.1 q5)))⟩
          · exact ⟨R32_0, R32_1, CL.pu (t_at (n := 7) rfl (by omega) (by omega) (Nat.le_of_ble_eq_true rfl)) (Nat.le_of_ble_eq_true rfl) (pu_eq (l4 ⟨q4, q5, by omega⟩))⟩
        · exact ⟨R32_0, R32_0, CL.pu (t_at (n := 7) rfl (by omega) (by omega) (Nat.le_of_ble_eq_true rfl)) (Nat.le_of_ble_eq_true rfl) (pu_eq (l3 (by intro h; exact q4 h.1)))⟩
      · exact ⟨R32_0, CL.pu (t_at (n := 7) rfl (by omega) (by omega) (Nat.le_of_ble_eq_true rfl)) (Nat.le_of_ble_eq_true rfl) (pu_eq (l3 (by intro h; omega)))⟩
    · rw [if_neg q2] at hE
      refine ⟨by omega, by omega, by omega, ite_i (fun q3 => ?_) (fun q3 => ?_)⟩
      · refine ⟨by omega, ite_i (fun q4 => ?_) (fun q4 => ?_)⟩
        · refine ⟨⟨R32_1, R32_1⟩, ?_⟩
          refine CL.pu (t_reachPlace (by omega) (by omega) (by omega)) (Nat.le_of_ble_eq_true rfl) ?_
          refine CL.pu (t_reachCost hI (by omega) (by omega) (by omega) (by omega) (by omega)) (Nat.le_of_ble_eq_true rfl) (pu_eq ?_)
          rw [if_pos (by omega : (0 < dd ↔ f < g))] at hE
          exact hE
        · refine ⟨⟨R32_1, R32_0⟩, ?_⟩
          rw [if_neg (by omega : ¬ (0 < dd ↔ f < g))] at hE
          refine ⟨by omega, ite_i (fun q5 => ?_) (fun q5 => ?_)⟩
          · refine ⟨by omega, ite_i (fun q6 => ?_) (fun q6 => ?_)⟩
            · refine ⟨R32_0, pu_eq ?_⟩
              rw [if_neg (show ¬ (min f g = 1 ∧ max f g ≠ 5 ∧ dd ≤ 5 ∧ -5 ≤ dd) by omega), if_pos rfl] at hE
              exact hE
            · refine ⟨by omega, ite_i (fun q7 => ?_) (fun q7 => ?_)⟩
              · refine ⟨R32_0, pu_eq ?_⟩
                rw [if_neg (show ¬ (min f g = 1 ∧ max f g ≠ 5 ∧ dd ≤ 5 ∧ -5 ≤ dd) by omega), if_pos rfl] at hE
                exact hE
              · refine ⟨R32_1, ?_⟩
                refine CL.pu (t_at (n := 7) rfl (by omega) (by omega) (Nat.le_of_ble_eq_true rfl)) (Nat.le_of_ble_eq_true rfl) (pu_eq ?_)
                rw [if_pos (show min f g = 1 ∧ max f g ≠ 5 ∧ dd ≤ 5 ∧ -5 ≤ dd by omega), if_neg (by omega)] at hE
                rw [← hE, e2.1]
          · refine ⟨R32_0, pu_eq ?_⟩
            rw [if_neg (show ¬ (min f g = 1 ∧ max f g ≠ 5 ∧ dd ≤ 5 ∧ -5 ≤ dd) by omega), if_pos rfl] at hE
            exact hE
      · refine ⟨by omega, ite_i (fun q4 => ?_) (fun q4 => ?_)⟩
        · refine ⟨⟨R32_0, R32_1⟩, ?_⟩
          rw [if_neg (by omega : ¬ (0 < dd ↔ f < g))] at hE
          refine ⟨by omega, ite_i (fun q5 => ?_) (fun q5 => ?_)⟩
          · refine ⟨by omega, ite_i (fun q6 => ?_) (fun q6 => ?_)⟩
            · refine ⟨R32_0, pu_eq ?_⟩
              rw [if_neg (show ¬ (min f g = 1 ∧ max f g ≠ 5 ∧ dd ≤ 5 ∧ -5 ≤ dd) by omega), if_pos rfl] at hE
              exact hE
            · refine ⟨by omega, ite_i (fun q7 => ?_) (fun q7 => ?_)⟩
              · refine ⟨R32_0, pu_eq ?_⟩
                rw [if_neg (show ¬ (min f g = 1 ∧ max f g ≠ 5 ∧ dd ≤ 5 ∧ -5 ≤ dd) by omega), if_pos rfl] at hE
                exact hE
              · refine ⟨R32_1, ?_⟩
                refine CL.pu (t_at (n := 7) rfl (by omega) (by omega) (Nat.le_of_ble_eq_true rfl)) (Nat.le_of_ble_eq_true rfl) (pu_eq ?_)
                rw [if_pos (show min f g = 1 ∧ max f g ≠ 5 ∧ dd ≤ 5 ∧ -5 ≤ dd by omega), if_neg (by omega)] at hE
                rw [← hE, e2.1]
          · refine ⟨R32_0, pu_eq ?_⟩
            rw [if_neg (show ¬ (min f g = 1 ∧ max f g ≠ 5 ∧ dd ≤ 5 ∧ -5 ≤ dd) by omega), if_pos rfl] at hE
            exact hE
        · refine ⟨⟨R32_0, R32_0⟩, ?_⟩
          refine CL.pu (t_reachPlace (by omega) (by omega) (by omega)) (Nat.le_of_ble_eq_true rfl) ?_
          refine CL.pu (t_reachCost hI (by omega) (by omega) (by omega) (by omega) (by omega)) (Nat.le_of_ble_eq_true rfl) (pu_eq ?_)
          rw [if_pos (by omega : (0 < dd ↔ f < g))] at hE
          exact hE
end
section
/-! ===== notes by moments: pure words ===== -/
def cnt (f : Int → Int) : Nat → Int
  | 0 => 0
  | n + 1 => cnt f n + (if f n = -9 then 0 else 1)
theorem cnt_rng (f : Int → Int) : ∀ n : Nat, 0 ≤ cnt f n ∧ cnt f n ≤ n := by
  intro n
  induction n with
  | zero => simp [cnt]
  | succ n ih => unfold cnt; split <;> omega
theorem cnt_mono (f : Int → Int) {a b : Nat} (h : a ≤ b) : cnt f a ≤ cnt f b := by
  induction b with
  | zero => have : a = 0 := by omega
            subst this; omega
  | succ b ih =>
    by_cases hab : a = b + 1
    · subst hab; omega
    · have := ih (by omega)
      have e : cnt f (b + 1) = cnt f b + (if f b = -9 then 0 else 1) := rfl
      rw [e]; split <;> omega
theorem cnt_lt (f : Int → Int) {a b : Nat} (h : a < b) (ha : f a ≠ -9) : cnt f a < cnt f b := by
  have h1 := cnt_mono f (show a + 1 ≤ b from h)
  have e : cnt f (a + 1) = cnt f a + (if f a = -9 then 0 else 1) := rfl
  rw [if_neg ha] at e
  omega
theorem cnt_congr {f g : Int → Int} : ∀ n : Nat, (∀ m : Nat, m < n → f m = g m) → cnt f n = cnt g n := by
  intro n
  induction n with
  | zero => intro _; rfl
  | succ n ih => intro h; unfold cnt; rw [ih (fun m hm => h m (by omega)), h n (by omega)]
/-- the moment of note k -/
def nmo (f : Int → Int) (k : Int) : Nat → Int
  | 0 => 0
  | n + 1 => if f n ≠ -9 ∧ cnt f n = k then n else nmo f k n
theorem nmo_is {f : Int → Int} {k : Int} {m : Nat} : ∀ {n : Nat}, m < n → f m ≠ -9 → cnt f m = k → nmo f k n = m := by
  intro n
  induction n with
  | zero => intro h; omega
  | succ n ih =>
    intro h h1 h2
    unfold nmo
    by_cases hm : m = n
    · subst hm; rw [if_pos ⟨h1, h2⟩]
    · rw [if_neg]
      · exact ih (by omega) h1 h2
      · rintro ⟨h3, h4⟩
        have := cnt_lt f (show m < n by omega) h1
        omega
theorem nmo_ex {f : Int → Int} {k : Int} : ∀ {n : Nat}, 0 ≤ k → k < cnt f n → ∃ m : Nat, m < n ∧ f m ≠ -9 ∧ cnt f m = k := by
  intro n
  induction n with
  | zero => intro h1 h2; simp [cnt] at h2; omega
  | succ n ih =>
    intro h1 h2
    unfold cnt at h2
    by_cases hk : k < cnt f n
    · obtain ⟨m, a, b, c⟩ := ih h1 hk
      exact ⟨m, by omega, b, c⟩
    · by_cases hf : f n = -9
      · rw [if_pos hf] at h2; omega
      · rw [if_neg hf] at h2
        exact ⟨n, by omega, hf, by omega⟩
theorem nmo_ok {f : Int → Int} {k : Int} {n : Nat} (h1 : 0 ≤ k) (h2 : k < cnt f n) : 0 ≤ nmo f k n ∧ nmo f k n < n ∧ f (nmo f k n) ≠ -9 ∧ cnt f (nmo f k n).toNat = k := by
  obtain ⟨m, a, b, c⟩ := nmo_ex h1 h2
  rw [nmo_is a b c]
  refine ⟨by omega, by omega, b, ?_⟩
  rw [Int.toNat_natCast]; exact c
/-- keys of a hand by moments (as the reference has them) -/
abbrev fK (M : Mm) (h : Int) : Int → Int := fun m => M 25 (30 * h + m)
def KyI (M : Mm) : Prop := ∀ j, 0 ≤ j → j < 60 → (M 25 j = -9 ∨ (0 ≤ M 25 j ∧ M 25 j < 60)) ∧ (M 26 j = -9 ∨ (1 ≤ M 26 j ∧ M 26 j ≤ 5)) ∧ (M 25 j = -9 → M 26 j = -9)
/-! ===== the reference: leaves ===== -/
theorem z_within {N : Nat} {v a b : Int} {M : Mm} (hv : R32 v) (ha : R32 a) (hb : R32 b) : Ret 0 0 0 mM_within [.inl v, .inl a, .inl b] (S0 N) M (Pu (S0 N) M (bi (a ≤ v ∧ v ≤ b))) := by
  refine eM_within [] 20 (Nat.le_of_ble_eq_true rfl) (fun hM => ?_)
  repeat' first
    | (exact ⟨Or.inr rfl, pu_eq (bi_t (by omega)).symm⟩)
    | (exact ⟨Or.inl rfl, pu_eq (bi_f (by omega)).symm⟩)
    | (exact hM _ _)
    | (refine ite_i (fun _ => ?_) (fun _ => ?_))
    | (exact trivial)
    | (omega)
    | (refine And.intro ?_ ?_)
theorem pu_bi {S : Ly} {M : Mm} {p q : Prop} [Decidable p] [Decidable q] (h : p ↔ q) : bi p = bi q := by
  unfold bi; simp [h]
theorem bi01 {p : Prop} [Decidable p] : bi p = 0 ∨ bi p = 1 := by unfold bi; split <;> simp
theorem z_isHand {N : Nat} {h : Int} {M : Mm} (hh : R32 h) : Ret 1 0 0 mM_isHand [.inl h] (S0 N) M (Pu (S0 N) M (bi (h = 0 ∨ h = 1))) := by
  refine eM_isHand [] 20 (Nat.le_of_ble_eq_true rfl) (fun hM => ?_)
  refine CL.pu (z_within hh (by decide) (by decide)) (Nat.le_of_ble_eq_true rfl) ⟨bi01, pu_eq (pu_bi (S := []) (M := M) (by omega))⟩
theorem z_isMoment {N : Nat} {h : Int} {M : Mm} (hh : R32 h) : Ret 1 0 0 mM_isMoment [.inl h] (S0 N) M (Pu (S0 N) M (bi (0 ≤ h ∧ h < 30))) := by
  refine eM_isMoment [] 20 (Nat.le_of_ble_eq_true rfl) (fun hM => ?_)
  refine CL.pu (z_within hh (by decide) (by decide)) (Nat.le_of_ble_eq_true rfl) ⟨bi01, pu_eq (pu_bi (S := []) (M := M) (by omega))⟩
theorem z_isFinger {N : Nat} {h : Int} {M : Mm} (hh : R32 h) : Ret 1 0 0 mM_isFinger [.inl h] (S0 N) M (Pu (S0 N) M (bi (1 ≤ h ∧ h ≤ 5))) := by
  refine eM_isFinger [] 20 (Nat.le_of_ble_eq_true rfl) (fun hM => ?_)
  refine CL.pu (z_within hh (by decide) (by decide)) (Nat.le_of_ble_eq_true rfl) ⟨bi01, pu_eq (pu_bi (S := []) (M := M) (by omega))⟩
theorem z_isKey {N : Nat} {h : Int} {M : Mm} (hh : R32 h) : Ret 1 0 0 mM_isKey [.inl h] (S0 N) M (Pu (S0 N) M (bi (0 ≤ h ∧ h < 60))) := by
  refine eM_isKey [] 20 (Nat.le_of_ble_eq_true rfl) (fun hM => ?_)
  refine CL.pu (z_within hh (by decide) (by decide)) (Nat.le_of_ble_eq_true rfl) ⟨bi01, pu_eq (pu_bi (S := []) (M := M) (by omega))⟩
theorem z_isBlack {N : Nat} {k : Int} {M : Mm} (h0 : 0 ≤ k) (h1 : k ≤ 1000) : Ret 0 0 0 mM_isBlack [.inl k] (S0 N) M (Pu (S0 N) M (bi (blk k))) := by
  refine eM_isBlack [] 30 (Nat.le_of_ble_eq_true rfl) (fun hM => ?_)
  refine ⟨⟨by decide, by decide⟩, ?_⟩
  rw [remI_12 h0 h1]
  repeat' first
    | (exact ⟨Or.inr rfl, pu_eq (bi_t (by omega)).symm⟩)
    | (exact ⟨Or.inl rfl, pu_eq (bi_f (by omega)).symm⟩)
    | (exact hM _ _)
    | (refine ite_i (fun _ => ?_) (fun _ => ?_))
    | (exact trivial)
    | (omega)
    | (refine And.intro ?_ ?_)
theorem z_isChanged {N : Nat} {M : Mm} : Ret 0 0 0 mM_isChanged [.inr 24] (S0 N) M (Vo (S0 N) (mset (mset M 24 18 0) 24 19 0)) := by
  refine eM_isChanged [] 20 (Nat.le_of_ble_eq_true rfl) (fun hM => ?_)
  exact ⟨⟨R32_0, Or.inl rfl, trivial⟩, ⟨R32_0, Or.inl rfl, trivial⟩, vo_eq rfl⟩
/-- a hand gets a key at a moment -/
def lay1 (M : Mm) (j key : Int) : Mm := if M 25 j = key then mset M 25 j key else mset (mset M 26 j (-9)) 25 j key
theorem z_lays {N : Nat} {h m key : Int} {M : Mm} (hh : h = 0 ∨ h = 1) (h0 : 0 ≤ m) (h1 : m < 30) (hk : R32 key) : Ret 0 0 0 mM_lays [.inr 24, .inl h, .inl m, .inl key] (S0 N) M (Vo (S0 N) (lay1 M (30 * h + m) key)) := by
  refine eM_lays [] 40 (Nat.le_of_ble_eq_true rfl) (fun hM => ?_)
  refine ⟨by omega, ⟨hM _ _, hk⟩, ite_i (fun q => ?_) (fun q => ?_)⟩
  · refine ⟨⟨by decide, by omega, by omega, by omega, hk⟩, vo_eq ?_⟩
    unfold lay1; rw [if_pos q]
  · refine ⟨⟨by decide, by omega, by omega, by omega, by decide⟩, ⟨by decide, by omega, by omega, by omega, hk⟩, vo_eq ?_⟩
    unfold lay1; rw [if_neg q]
theorem z_notesOf_loop {N : Nat} {h : Int} {M : Mm} (hh : h = 0 ∨ h = 1) : ∀ (n i : Nat), i + n = 30 → AJ 0 0 0 mM_notesOf (Pu (S0 N) M (cnt (fK M h) 30)) 0 0 4 [some (.inr 24), some (.inl h), some (.inl (cnt (fK M h) i)), some (.inl i)] [] (S0 N) M := by
  intro n
  induction n with
  | zero =>
    intro i hi
    have : i = 30 := by omega
    subst this
    refine aM_notesOf [4] 30 (fun hM => ?_)
    exact ⟨by decide, pu_eq rfl⟩
  | succ n ih =>
    intro i hi
    have hr := cnt_rng (fK M h) i
    refine aM_notesOf [4] 30 (fun hM => ?_)
    refine ⟨by omega, ite_i (fun q => ?_) (fun q => by omega)⟩
    refine ⟨by omega, ⟨hM _ _, by decide⟩, ite_i (fun q => ?_) (fun q => ?_)⟩
    · have e : cnt (fK M h) (i + 1) = cnt (fK M h) i + 0 := by
        show cnt (fK M h) i + (if fK M h i = -9 then 0 else 1) = _
        rw [if_pos q]
      have := ih (i + 1) (by omega)
      rw [e] at this
      exact this
    · have e : cnt (fK M h) (i + 1) = cnt (fK M h) i + 1 := by
        show cnt (fK M h) i + (if fK M h i = -9 then 0 else 1) = _
        rw [if_neg q]
      have := ih (i + 1) (by omega)
      rw [e] at this
      exact this
theorem z_notesOf {N : Nat} {h : Int} {M : Mm} (hh : h = 0 ∨ h = 1) : Ret 0 0 0 mM_notesOf [.inr 24, .inl h] (S0 N) M (Pu (S0 N) M (cnt (fK M h) 30)) := by
  refine eM_notesOf [4] 30 (Nat.le_of_ble_eq_true rfl) (fun hM => ?_)
  exact z_notesOf_loop hh 30 0 rfl
theorem z_isNote {N : Nat} {h k : Int} {M : Mm} (hh : h = 0 ∨ h = 1) (hk : R32 k) : Ret 1 0 0 mM_isNote [.inr 24, .inl h, .inl k] (S0 N) M (Pu (S0 N) M (bi (0 ≤ k ∧ k < cnt (fK M h) 30))) := by
  have hr := cnt_rng (fK M h) 30
  refine eM_isNote [] 30 (Nat.le_of_ble_eq_true rfl) (fun hM => ?_)
  refine CL.pu (z_notesOf hh) (Nat.le_of_ble_eq_true rfl) ?_
  refine CL.pu (z_within hk (by decide) (by omega)) (Nat.le_of_ble_eq_true rfl) ⟨bi01, pu_eq (pu_bi (S := []) (M := M) (by omega))⟩
end
section
theorem z_placeOf_loop {N : Nat} {h : Int} {M : Mm} (hh : h = 0 ∨ h = 1) {k : Int} {m : Nat} (hm : m < 30) (hf : fK M h m ≠ -9) (hk : cnt (fK M h) m = k) : ∀ (n i : Nat), i + n = m → AJ 0 0 0 mM_placeOf (Pu (S0 N) M (30 * h + m)) 0 0 8 [some (.inr 24), some (.inl h), some (.inl k), some (.inl (k - cnt (fK M h) i)), some (.inl (30 * h + i))] [] (S0 N) M := by
  intro n
  induction n with
  | zero =>
    intro i hi
    have : i = m := by omega
    subst this
    refine aM_placeOf [8] 30 (fun hM => ?_)
    refine ⟨by omega, ⟨hM _ _, by decide⟩, ite_i (fun q => absurd q hf) (fun q => ?_)⟩
    refine ⟨by omega, ite_i (fun q => by omega) (fun q => pu_eq rfl)⟩
  | succ n ih =>
    intro i hi
    have hr := cnt_rng (fK M h) i
    have hr2 := cnt_rng (fK M h) m
    refine aM_placeOf [8] 40 (fun hM => ?_)
    have key : ∀ q : Int, q = k - cnt (fK M h) (i + 1) → AJ 0 0 0 mM_placeOf (Pu (S0 N) M (30 * h + m)) 0 0 8 [some (.inr 24), some (.inl h), some (.inl k), some (.inl q), some (.inl (30 * h + i + 1))] [] (S0 N) M := by
      intro q hq
      have := ih (i + 1) (by omega)
      rw [hq]
      rw [show (30 * h + ((i + 1 : Nat) : Int)) = 30 * h + i + 1 by omega] at this
      exact this
    have e : cnt (fK M h) (i + 1) = cnt (fK M h) i + (if fK M h i = -9 then 0 else 1) := rfl
    refine ⟨by omega, ⟨hM _ _, by decide⟩, ite_i (fun q => ?_) (fun q => ?_)⟩
    · refine ⟨by omega, ⟨hM _ _, by decide⟩, ite_i (fun _ => ?_) (fun q2 => absurd q q2)⟩
      exact key _ (by rw [e, if_pos q]; omega)
    · have hlt := cnt_lt (fK M h) (show i < m by omega) q
      refine ⟨by omega, ite_i (fun q2 => ?_) (fun q2 => by omega)⟩
      refine ⟨by omega, ⟨hM _ _, by decide⟩, ite_i (fun q2 => absurd q2 q) (fun _ => ?_)⟩
      exact key _ (by rw [e, if_neg q]; omega)
theorem z_placeOf {N : Nat} {h k : Int} {M : Mm} (hh : h = 0 ∨ h = 1) (h0 : 0 ≤ k) (h1 : k < cnt (fK M h) 30) : Ret 0 0 0 mM_placeOf [.inr 24, .inl h, .inl k] (S0 N) M (Pu (S0 N) M (30 * h + nmo (fK M h) k 30)) := by
  obtain ⟨m, a, b, c⟩ := nmo_ex h0 h1
  rw [nmo_is a b c]
  refine eM_placeOf [8] 30 (Nat.le_of_ble_eq_true rfl) (fun hM => ?_)
  have := z_placeOf_loop (N := N) hh a b c m 0 (by omega)
  rw [show k - cnt (fK M h) 0 = k by simp [cnt], show 30 * h + ((0 : Nat) : Int) = 30 * h by omega] at this
  exact this
theorem z_noteCost {N : Nat} {k f : Int} {M : Mm} (hI : RuI M) (h0 : 0 ≤ k) (h1 : k ≤ 1000) (hf : R32 f) : Ret 1 0 0 mM_noteCost [.inr 24, .inl k, .inl f] (S0 N) M (Pu (S0 N) M (ncv (M 30) k f)) := by
  refine eM_noteCost [] 60 (Nat.le_of_ble_eq_true rfl) (fun hM => ?_)
  repeat' first
    | (exact pu_eq (by grind [ncv]))
    | (exact hM _ _)
    | (refine ite_i (fun _ => ?_) (fun _ => ?_))
    | (refine CL.bl (z_isBlack h0 h1) (Nat.le_of_ble_eq_true rfl) (fun _ => ?_) (fun _ => ?_))
    | (exact trivial)
    | (omega)
    | (refine And.intro ?_ ?_)
theorem z_byReach {N : Nat} {f g a : Int} {M : Mm} (hf0 : 1 ≤ f) (hf1 : f ≤ 5) (hg0 : 1 ≤ g) (hg1 : g ≤ 5) (hne : f ≠ g) (h4 : 0 ≤ a) (h5 : a ≤ 1000) : Ret 0 0 0 mM_byReach [.inr 24, .inl f, .inl g, .inl a] (S0 N) M (Pu (S0 N) M (rcv (M 27) (M 28) (M 29) (10 * min f g + max f g) a)) := by
  refine eM_byReach [] 60 (Nat.le_of_ble_eq_true rfl) (fun hM => ?_)
  refine ⟨by omega, ite_i (fun q => ?_) (fun q => ?_)⟩
  · rw [show min f g = f by omega, show max f g = g by omega]
    repeat' first
      | (exact pu_eq (by grind [rcv]))
      | (exact hM _ _)
      | (refine ite_i (fun _ => ?_) (fun _ => ?_))
      | (exact trivial)
      | (omega)
      | (refine And.intro ?_ ?_)
  · rw [show min f g = g by omega, show max f g = f by omega]
    repeat' first
      | (exact pu_eq (by grind [rcv]))
      | (exact hM _ _)
      | (refine ite_i (fun _ => ?_) (fun _ => ?_))
      | (exact trivial)
      | (omega)
      | (refine And.intro ?_ ?_)
theorem z_stepCost_tail {N : Nat} {hand a f b g dd far E : Int} {M : Mm} (ha0 : 0 ≤ a) (ha1 : a < 60) (hb0 : 0 ≤ b) (hb1 : b < 60) (hf0 : 1 ≤ f) (hf1 : f ≤ 5) (hg0 : 1 ≤ g) (hg1 : g ≤ 5) (hd0 : -59 ≤ dd) (hd1 : dd ≤ 59) (hfar : far = dd.natAbs)
    (hE0 : Unit → (if dd = 0 then (if f = g then M 30 5 else 0)
  else if f = g then (if blk a ∧ ¬ blk b ∧ (dd = 1 ∨ dd = -1) then M 30 4 else M 30 3)
  else if (0 < dd ↔ f < g) then rcv (M 27) (M 28) (M 29) (10 * min f g + max f g) dd.natAbs
  else if min f g = 1 ∧ max f g ≠ 5 ∧ dd ≤ 5 ∧ -5 ≤ dd then M 30 2 + dd.natAbs else 1000000) = E) :
    AJ 1 0 0 mM_stepCost (Pu (S0 N) M E) 0 0 32 [some (.inr 24), some (.inl hand), some (.inl a), some (.inl f), some (.inl b), some (.inl g), some (.inl dd), some (.inl far)] [] (S0 N) M := by
  refine aM_stepCost [] 120 (fun hM => ?_)
  refine ⟨by omega, ite_i (fun q => ?_) (fun q => ?_)⟩
  · refine ⟨by omega, ite_i (fun q2 => ?_) (fun q2 => ?_)⟩
    · exact ⟨by omega, pu_eq (by rw [← hE0 (), if_pos q, if_pos q2])⟩
    · exact pu_eq (by rw [← hE0 (), if_pos q, if_neg q2])
  · refine ⟨by omega, ite_i (fun q2 => ?_) (fun q2 => ?_)⟩
    · have l4 : Unit → blk a ∧ ¬ blk b ∧ (dd = 1 ∨ dd = -1) → M 30 4 = E := fun _ h => by rw [← hE0 (), if_neg q, if_pos q2, if_pos h]
      have l3 : Unit → ¬ (blk a ∧ ¬ blk b ∧ (dd = 1 ∨ dd = -1)) → M 30 3 = E := fun _ h => by rw [← hE0 (), if_neg q, if_pos q2, if_neg h]
      refine CL.bl (z_isBlack ha0 (by omega)) (Nat.le_of_ble_eq_true rfl) (fun q4 => ?_) (fun q4 => ?_)
      · refine ⟨R32_1, CL.bl (z_isBlack hb0 (by omega)) (Nat.le_of_ble_eq_true rfl) (fun q5 => ?_) (fun q5 => ?_)⟩
        · exact ⟨R32_1, by omega, pu_eq (l3 () (by intro h; exact h.2.1 q5))⟩
        · refine ⟨R32_0, by omega, ite_i (fun q6 => ?_) (fun q6 => ?_)⟩
          · exact ⟨by omega, pu_eq (l4 () ⟨q4, q5, by omega⟩)⟩
          · exact ⟨by omega, pu_eq (l3 () (by intro h; omega))⟩
      · exact ⟨R32_0, by omega, pu_eq (l3 () (by intro h; exact q4 h.1))⟩
    · refine ⟨by omega, ite_i (fun q3 => ?_) (fun q3 => ?_)⟩
      · refine ⟨by omega, ite_i (fun q4 => ?_) (fun q4 => ?_)⟩
        · refine ⟨⟨R32_1, R32_1⟩, ?_⟩
          refine CL.pu (z_byReach hf0 hf1 hg0 hg1 q2 (by omega) (by omega)) (Nat.le_of_ble_eq_true rfl) (pu_eq ?_)
          rw [← hE0 (), if_neg q, if_neg q2, if_pos (by omega : (0 < dd ↔ f < g)), hfar]
        · refine ⟨⟨R32_1, R32_0⟩, ?_⟩
          have qn : Unit → ¬ (0 < dd ↔ f < g) := fun _ => by omega
          have ly : Unit → (min f g = 1 ∧ max f g ≠ 5 ∧ dd ≤ 5 ∧ -5 ≤ dd) → M 30 2 + far = E := fun _ h => by rw [← hE0 (), if_neg q, if_neg q2, if_neg (qn ()), if_pos h, hfar]
          have ln : Unit → ¬ (min f g = 1 ∧ max f g ≠ 5 ∧ dd ≤ 5 ∧ -5 ≤ dd) → 1000000 = E := fun _ h => by rw [← hE0 (), if_neg q, if_neg q2, if_neg (qn ()), if_neg h]
          refine ⟨by omega, ite_i (fun p1 => ?_) (fun p1 => ?_)⟩
          · refine ⟨by omega, ite_i (fun _ => ?_) (fun p2 => absurd p1 p2)⟩
            refine ⟨by omega, ite_i (fun p3 => ?_) (fun p3 => ?_)⟩
            · exact ⟨R32_0, pu_eq (ln () (by omega))⟩
            · refine ⟨by omega, ite_i (fun p4 => ?_) (fun p4 => ?_)⟩
              · exact ⟨R32_0, pu_eq (ln () (by omega))⟩
              · exact ⟨R32_1, by omega, pu_eq (ly () (by omega))⟩
          · refine ⟨by omega, ite_i (fun p2 => absurd p2 p1) (fun _ => ?_)⟩
            refine ⟨by omega, ite_i (fun p2 => ?_) (fun p2 => ?_)⟩
            · refine ⟨by omega, ite_i (fun p3 => ?_) (fun p3 => ?_)⟩
              · exact ⟨R32_0, pu_eq (ln () (by omega))⟩
              · refine ⟨by omega, ite_i (fun p4 => ?_) (fun p4 => ?_)⟩
                · exact ⟨R32_0, pu_eq (ln () (by omega))⟩
                · exact ⟨R32_1, by omega, pu_eq (ly () (by omega))⟩
            · exact ⟨R32_0, pu_eq (ln () (by omega))⟩
      · refine ⟨by omega, ite_i (fun q4 => ?_) (fun q4 => ?_)⟩
        · refine ⟨⟨R32_0, R32_1⟩, ?_⟩
          have qn : Unit → ¬ (0 < dd ↔ f < g) := fun _ => by omega
          have ly : Unit → (min f g = 1 ∧ max f g ≠ 5 ∧ dd ≤ 5 ∧ -5 ≤ dd) → M 30 2 + far = E := fun _ h => by rw [← hE0 (), if_neg q, if_neg q2, if_neg (qn ()), if_pos h, hfar]
          have ln : Unit → ¬ (min f g = 1 ∧ max f g ≠ 5 ∧ dd ≤ 5 ∧ -5 ≤ dd) → 1000000 = E := fun _ h => by rw [← hE0 (), if_neg q, if_neg q2, if_neg (qn ()), if_neg h]
          refine ⟨by omega, ite_i (fun p1 => ?_) (fun p1 => ?_)⟩
          · refine ⟨by omega, ite_i (fun _ => ?_) (fun p2 => absurd p1 p2)⟩
            refine ⟨by omega, ite_i (fun p3 => ?_) (fun p3 => ?_)⟩
            · exact ⟨R32_0, pu_eq (ln () (by omega))⟩
            · refine ⟨by omega, ite_i (fun p4 => ?_) (fun p4 => ?_)⟩
              · exact ⟨R32_0, pu_eq (ln () (by omega))⟩
              · exact ⟨R32_1, by omega, pu_eq (ly () (by omega))⟩
          · refine ⟨by omega, ite_i (fun p2 => absurd p2 p1) (fun _ => ?_)⟩
            refine ⟨by omega, ite_i (fun p2 => ?_) (fun p2 => ?_)⟩
            · refine ⟨by omega, ite_i (fun p3 => ?_) (fun p3 => ?_)⟩
              · exact ⟨R32_0, pu_eq (ln () (by omega))⟩
              · refine ⟨by omega, ite_i (fun p4 => ?_) (fun p4 => ?_)⟩
                · exact ⟨R32_0, pu_eq (ln () (by omega))⟩
                · exact ⟨R32_1, by omega, pu_eq (ly () (by omega))⟩
            · exact ⟨R32_0, pu_eq (ln () (by omega))⟩
        · refine ⟨⟨R32_0, R32_0⟩, ?_⟩
          refine CL.pu (z_byReach hf0 hf1 hg0 hg1 q2 (by omega) (by omega)) (Nat.le_of_ble_eq_true rfl) (pu_eq ?_)
          rw [← hE0 (), if_neg q, if_neg q2, if_pos (by omega : (0 < dd ↔ f < g)), hfar]
theorem z_stepCost {N : Nat} {hand a f b g : Int} {M : Mm} (hh : hand = 0 ∨ hand = 1) (ha0 : 0 ≤ a) (ha1 : a < 60) (hb0 : 0 ≤ b) (hb1 : b < 60) (hf0 : 1 ≤ f) (hf1 : f ≤ 5) (hg0 : 1 ≤ g) (hg1 : g ≤ 5) : Ret 1 0 0 mM_stepCost [.inr 24, .inl hand, .inl a, .inl f, .inl b, .inl g] (S0 N) M (Pu (S0 N) M (stv (M 30) (M 27) (M 28) (M 29) hand a f b g)) := by
  generalize hE : stv (M 30) (M 27) (M 28) (M 29) hand a f b g = E
  unfold stv at hE
  dsimp only at hE
  have tl := fun dd far h1 h2 h3 h4 => z_stepCost_tail (N := N) (hand := hand) (dd := dd) (far := far) (E := E) (M := M) ha0 ha1 hb0 hb1 hf0 hf1 hg0 hg1 h1 h2 h3 h4
  refine eM_stepCost [32] 120 (Nat.le_of_ble_eq_true rfl) (fun hM => ?_)
  refine ⟨by omega, ite_i (fun q => ?_) (fun q => ?_)⟩
  · simp only [q, if_true] at hE
    refine ⟨by omega, ite_i (fun q2 => ?_) (fun q2 => ?_)⟩
    · exact tl _ _ (by omega) (by omega) (by omega) (fun _ => hE)
    · exact tl _ _ (by omega) (by omega) (by omega) (fun _ => hE)
  · simp only [q, if_false] at hE
    refine ⟨by omega, ite_i (fun q2 => ?_) (fun q2 => ?_)⟩
    · exact tl _ _ (by omega) (by omega) (by omega) (fun _ => hE)
    · exact tl _ _ (by omega) (by omega) (by omega) (fun _ => hE)
end
section
/-! ===== ranges ===== -/
theorem ncv_rng {M : Mm} (hI : RuI M) (k f : Int) : 0 ≤ ncv (M 30) k f ∧ ncv (M 30) k f ≤ 20 := by
  have e6 := (hI.1 6 (by omega) (by omega)).2
  have e0 := (hI.1 0 (by omega) (by omega)).2
  have e1 := (hI.1 1 (by omega) (by omega)).2
  unfold ncv
  split
  · exact e6
  · split
    · exact e0
    · split
      · exact e1
      · omega
theorem rcv_rng {M : Mm} (hI : RuI M) {f g a : Int} (h1 : 1 ≤ f) (h2 : f < g) (h3 : g ≤ 5) (h4 : 0 ≤ a) : rcv (M 27) (M 28) (M 29) (10 * f + g) a = 1000000 ∨ (0 ≤ rcv (M 27) (M 28) (M 29) (10 * f + g) a ∧ rcv (M 27) (M 28) (M 29) (10 * f + g) a ≤ 24) := by
  obtain ⟨e1, e2, e3, e4, e5, e6, e7⟩ := hI.2 f g h1 h2 h3
  unfold rcv
  split
  · exact Or.inl rfl
  · right
    split <;> omega
theorem stv_rng {M : Mm} (hI : RuI M) {hand a f b g : Int} (hf0 : 1 ≤ f) (hf1 : f ≤ 5) (hg0 : 1 ≤ g) (hg1 : g ≤ 5) : stv (M 30) (M 27) (M 28) (M 29) hand a f b g = 1000000 ∨ (0 ≤ stv (M 30) (M 27) (M 28) (M 29) hand a f b g ∧ stv (M 30) (M 27) (M 28) (M 29) hand a f b g ≤ 25) := by
  have e5 := (hI.1 5 (by omega) (by omega)).2
  have e4 := (hI.1 4 (by omega) (by omega)).2
  have e3 := (hI.1 3 (by omega) (by omega)).2
  have e2 := (hI.1 2 (by omega) (by omega)).2
  unfold stv
  dsimp only
  generalize (if hand = 0 then b - a else a - b) = dd
  split
  · right; split <;> omega
  · split
    · right; split <;> omega
    · split
      · have := rcv_rng hI (f := min f g) (g := max f g) (a := dd.natAbs) (by omega) (by omega) (by omega) (by omega)
        omega
      · split
        · right; omega
        · exact Or.inl rfl
/-! ===== what is laid out ===== -/
/-- a mark as a set of fingers -/
def cod (m : Int) : Int := if m = -9 then 62 else shlI 1 m
def okc (c f : Int) : Prop := andI (shrI c f) 1 = 1
theorem cod_ok {m f : Int} (hm : m = -9 ∨ (1 ≤ m ∧ m ≤ 5)) (hf0 : 1 ≤ f) (hf1 : f ≤ 5) : okc (cod m) f ↔ (m = -9 ∨ m = f) := by
  have h1 : m = -9 ∨ m = 1 ∨ m = 2 ∨ m = 3 ∨ m = 4 ∨ m = 5 := by omega
  have h2 : f = 1 ∨ f = 2 ∨ f = 3 ∨ f = 4 ∨ f = 5 := by omega
  unfold okc cod
  rcases h1 with rfl | rfl | rfl | rfl | rfl | rfl <;> rcases h2 with rfl | rfl | rfl | rfl | rfl <;> decide +kernel
theorem cod_rng {m : Int} (hm : m = -9 ∨ (1 ≤ m ∧ m ≤ 5)) : R32 (cod m) := by
  unfold cod
  split
  · decide
  · exact R32_toInt _
/-- notes of hand h laid out: hand, number, keys, fingers -/
def Laid (M M' : Mm) (h : Int) : Prop := M' 24 6 = h ∧ M' 24 7 = cnt (fK M h) 30 ∧ (∀ m : Nat, m < 30 → fK M h m ≠ -9 → M' 31 (cnt (fK M h) m) = fK M h m ∧ M' 32 (cnt (fK M h) m) = cod (M 26 (30 * h + m))) ∧
  ∀ c j, ¬ (c = 31 ∨ c = 32 ∨ (c = 24 ∧ (j = 6 ∨ j = 7))) → M' c j = M c j
theorem z_layNotes_loop {N : Nat} {h : Int} {M : Mm} (hh : h = 0 ∨ h = 1) (hk : KyI M) : ∀ (n i : Nat), i + n = 30 → ∀ M1 : Mm, M1 24 6 = h → M1 24 7 = cnt (fK M h) i → (∀ m : Nat, m < i → fK M h m ≠ -9 → M1 31 (cnt (fK M h) m) = fK M h m ∧ M1 32 (cnt (fK M h) m) = cod (M 26 (30 * h + m))) → (∀ c j, ¬ (c = 31 ∨ c = 32 ∨ (c = 24 ∧ (j = 6 ∨ j = 7))) → M1 c j = M c j) → ∀ L3 : Option Vl,
    AJ 0 0 0 mM_layNotes (fun r S' M' => r = none ∧ S' = S0 N ∧ Laid M M' h) 0 0 12 [some (.inr 24), some (.inl h), some (.inl i), L3] [] (S0 N) M1 := by
  intro n
  induction n with
  | zero =>
    intro i hi M1 e1 e2 e3 e4 L3
    have : i = 30 := by omega
    subst this
    refine aM_layNotes [12] 30 (fun hM => ?_)
    exact ⟨by decide, rfl, rfl, e1, e2, e3, e4⟩
  | succ n ih =>
    intro i hi M1 e1 e2 e3 e4 L3
    have hr := cnt_rng (fK M h) i
    have f25 : ∀ j, M1 25 j = M 25 j := fun j => e4 25 j (by omega)
    have f26 : ∀ j, M1 26 j = M 26 j := fun j => e4 26 j (by omega)
    have hkk := hk (30 * h + i) (by omega) (by omega)
    refine aM_layNotes [12] 60 (fun hM => ?_)
    refine ⟨by omega, ite_i (fun q => ?_) (fun q => by omega)⟩
    refine ⟨by omega, ⟨hM _ _, by decide⟩, ite_i (fun q => ?_) (fun q => ?_)⟩
    · rw [f25] at q
      have e : cnt (fK M h) (i + 1) = cnt (fK M h) i := by
        show cnt (fK M h) i + (if fK M h i = -9 then 0 else 1) = _
        rw [if_pos q]; omega
      exact ih (i + 1) (by omega) M1 e1 (by rw [e]; exact e2) (fun m hm hf => by
        by_cases hmi : m = i
        · subst hmi; exact absurd q hf
        · exact e3 m (by omega) hf) e4 _
    · rw [f25] at q
      have e : cnt (fK M h) (i + 1) = cnt (fK M h) i + 1 := by
        show cnt (fK M h) i + (if fK M h i = -9 then 0 else 1) = _
        rw [if_neg q]
      have fin : ∀ v j1 j2 j3 kk : Int, v = cod (M 26 (30 * h + i)) → j1 = M1 24 7 → j2 = M1 24 7 → j3 = M1 24 7 + 1 → kk = M1 25 (30 * h + i) → AJ 0 0 0 mM_layNotes (fun r S' M' => r = none ∧ S' = S0 N ∧ Laid M M' h) 0 0 12 [some (.inr 24), some (.inl h), some (.inl ((i : Int) + 1)), some (.inl (30 * h + i))] [] (S0 N) (mset (mset (mset M1 31 j1 kk) 32 j2 v) 24 7 j3) := by
        intro v j1 j2 j3 kk hv h1 h2 h3 h4
        subst h1; subst h2; subst h3; subst h4
        refine ih (i + 1) (by omega) _ ?_ ?_ ?_ ?_ _
        · simp [mset, e1]
        · simp [mset, e, e2]
        · intro m hm hf
          by_cases hmi : m = i
          · subst hmi
            simp [mset, e2, f25, hv]
          · have h1 := e3 m (by omega) hf
            have h2 := cnt_lt (fK M h) (show m < i by omega) hf
            have h3 : ¬ (cnt (fK M h) m = cnt (fK M h) i) := by omega
            simp [mset, e2, h3, h1]
        · intro c j hcj
          rw [mset_ne (by omega), mset_ne (by omega), mset_ne (by omega)]
          exact e4 c j hcj
      have h7 : ∀ a b : Int, (mset M1 31 a b) 24 7 = M1 24 7 := fun a b => by simp [mset]
      have h72 : ∀ a b c e : Int, (mset (mset M1 31 a b) 32 c e) 24 7 = M1 24 7 := fun a b c e => by simp [mset]
      have g26 : ∀ a b : Int, (mset M1 31 a b) 26 (30 * h + i) = M 26 (30 * h + i) := fun a b => by rw [mset_ne (by omega), f26]
      refine ⟨by omega, ⟨by decide, by omega, by omega, by omega, hM _ _⟩, ?_⟩
      refine ⟨by omega, ⟨by rw [g26, ← f26]; exact hM _ _, by decide⟩, ite_i (fun q2 => ?_) (fun q2 => ?_)⟩
      · rw [g26] at q2
        refine ⟨⟨by decide, by rw [h7]; omega, by rw [h7]; omega, by rw [h7]; omega, by decide⟩, ⟨by rw [h72]; omega, trivial⟩, ?_⟩
        exact fin _ _ _ _ _ (by unfold cod; rw [if_pos q2]) rfl (h7 _ _) (by rw [h72]) rfl
      · rw [g26] at q2
        have hc := cod_rng hkk.2.1
        have hc2 : shlI 1 (M 26 (30 * h + i)) = cod (M 26 (30 * h + i)) := by unfold cod; rw [if_neg q2]
        refine ⟨by omega, ⟨by decide, by rw [h7]; omega, by rw [h7]; omega, by rw [h7]; omega, by rw [g26, hc2]; exact hc⟩, ⟨by rw [h72]; omega, trivial⟩, ?_⟩
        exact fin _ _ _ _ _ (by rw [g26, hc2]) rfl (h7 _ _) (by rw [h72]) rfl
theorem z_layNotes {N : Nat} {h : Int} {M : Mm} (hh : h = 0 ∨ h = 1) (hk : KyI M) : Ret 0 0 0 mM_layNotes [.inr 24, .inl h] (S0 N) M (fun r S' M' => r = none ∧ S' = S0 N ∧ Laid M M' h) := by
  refine eM_layNotes [12] 30 (Nat.le_of_ble_eq_true rfl) (fun hM => ?_)
  refine ⟨⟨by omega, trivial⟩, ⟨by decide, trivial⟩, ?_⟩
  refine AJ.wk (z_layNotes_loop (N := N) hh hk 30 0 rfl _ ?_ ?_ ?_ ?_ none) ⟨rfl, rfl, rfl, trivial⟩
  · simp [mset]
  · simp [mset, cnt]
  · intro m hm; omega
  · intro c j hcj
    rw [mset_ne (by omega), mset_ne (by omega)]
end
section
/-! ===== the reference: a hand's table ===== -/
/-- M agrees with M0 but for the tables' own rows (33 to 37) -/
def Agr (M0 M : Mm) : Prop := ∀ c j, c < 33 ∨ 37 < c → M c j = M0 c j
/-- what is laid out is well laid -/
def LOk (M : Mm) : Prop := RuI M ∧ (M 24 6 = 0 ∨ M 24 6 = 1) ∧ 0 ≤ M 24 7 ∧ M 24 7 ≤ 30 ∧ ∀ k, 0 ≤ k → k < M 24 7 → 0 ≤ M 31 k ∧ M 31 k < 60
abbrev stM (M : Mm) (k f g : Int) : Int := stv (M 30) (M 27) (M 28) (M 29) (M 24 6) (M 31 k) f (M 31 (k + 1)) g
abbrev ncM (M : Mm) (k f : Int) : Int := ncv (M 30) (M 31 k) f
abbrev okM (M : Mm) (k f : Int) : Prop := andI (shrI (M 32 k) f) 1 = 1
def goM (M : Mm) (k f g : Int) : Int := if okM M (k + 1) g then stM M k f g + ncM M (k + 1) g else 1000000
theorem Agr.c {M0 M : Mm} (h : Agr M0 M) (c : Nat) (hc : c < 33 ∨ 37 < c) : M c = M0 c := by
  funext j; exact h c j hc
theorem RuI.agr {M0 M : Mm} (h : Agr M0 M) (hI : RuI M0) : RuI M := by
  unfold RuI at *
  rw [h.c 3 (by omega), h.c 4 (by omega), h.c 27 (by omega), h.c 28 (by omega), h.c 29 (by omega), h.c 30 (by omega)]
  exact hI
theorem R32_andI (x y : Int) : R32 (andI x y) := R32_toInt _
theorem z_isOf {N : Nat} {k f : Int} {M0 M : Mm} (hA : Agr M0 M) (h0 : 0 ≤ k) (h1 : k < 30) : Ret 0 0 0 mM_isOf [.inr 24, .inl k, .inl f] (S0 N) M (Pu (S0 N) M (bi (okM M0 k f))) := by
  have e : M 32 k = M0 32 k := hA 32 k (by omega)
  refine eM_isOf [] 30 (Nat.le_of_ble_eq_true rfl) (fun hM => ?_)
  refine ⟨by omega, ⟨R32_andI _ _, by decide⟩, ite_i (fun q => ?_) (fun q => ?_)⟩
  · exact ⟨Or.inr rfl, pu_eq (bi_t (by rw [e] at q; exact q)).symm⟩
  · exact ⟨Or.inl rfl, pu_eq (bi_f (by rw [e] at q; exact q)).symm⟩
theorem z_stepAt {N : Nat} {k f g : Int} {M0 M : Mm} (hA : Agr M0 M) (hL : LOk M0) (h0 : 0 ≤ k) (h1 : k + 1 < M0 24 7) (hf0 : 1 ≤ f) (hf1 : f ≤ 5) (hg0 : 1 ≤ g) (hg1 : g ≤ 5) : Ret 2 0 0 mM_stepAt [.inr 24, .inl k, .inl f, .inl g] (S0 N) M (Pu (S0 N) M (stM M0 k f g)) := by
  obtain ⟨l1, l2, l3, l4, l5⟩ := hL
  have a1 := l5 k h0 (by omega)
  have a2 := l5 (k + 1) (by omega) (by omega)
  have e24 := hA.c 24 (by omega)
  have e31 := hA.c 31 (by omega)
  have e1 : stM M k f g = stM M0 k f g := by
    unfold stM; rw [e24, e31, hA.c 30 (by omega), hA.c 27 (by omega), hA.c 28 (by omega), hA.c 29 (by omega)]
  rw [← e1]
  refine eM_stepAt [] 30 (Nat.le_of_ble_eq_true rfl) (fun hM => ?_)
  refine ⟨by omega, by omega, CL.pu (z_stepCost (by rw [e24]; exact l2) (by rw [e31]; omega) (by rw [e31]; omega) (by rw [e31]; omega) (by rw [e31]; omega) hf0 hf1 hg0 hg1) (Nat.le_of_ble_eq_true rfl) (pu_eq rfl)⟩
theorem z_goingOn {N : Nat} {k f g : Int} {M0 M : Mm} (hA : Agr M0 M) (hL : LOk M0) (h0 : 0 ≤ k) (h1 : k + 1 < M0 24 7) (hf0 : 1 ≤ f) (hf1 : f ≤ 5) (hg0 : 1 ≤ g) (hg1 : g ≤ 5) : Ret 3 0 0 mM_goingOn [.inr 24, .inl k, .inl f, .inl g] (S0 N) M (Pu (S0 N) M (goM M0 k f g)) := by
  obtain ⟨l1, l2, l3, l4, l5⟩ := id hL
  have a2 := l5 (k + 1) (by omega) (by omega)
  have e31 := hA.c 31 (by omega)
  have e30 := hA.c 30 (by omega)
  refine eM_goingOn [] 30 (Nat.le_of_ble_eq_true rfl) (fun hM => ?_)
  refine CL.bl (z_isOf hA (by omega) (by omega)) (Nat.le_of_ble_eq_true rfl) (fun q => ?_) (fun q => ?_)
  · refine ⟨R32_1, CL.pu (z_stepAt hA hL h0 h1 hf0 hf1 hg0 hg1) (Nat.le_of_ble_eq_true rfl) ?_⟩
    refine ⟨by omega, CL.pu (z_noteCost (RuI.agr hA l1) (by rw [e31]; omega) (by rw [e31]; omega) (by omega)) (Nat.le_of_ble_eq_true rfl) (pu_eq ?_)⟩
    unfold goM ncM; rw [if_pos q, e31, e30]
  · refine ⟨R32_0, pu_eq ?_⟩
    unfold goM; rw [if_neg q]
theorem goM_rng {M : Mm} (hI : RuI M) {k f g : Int} (hf0 : 1 ≤ f) (hf1 : f ≤ 5) (hg0 : 1 ≤ g) (hg1 : g ≤ 5) : (0 ≤ goM M k f g ∧ goM M k f g ≤ 45) ∨ (1000000 ≤ goM M k f g ∧ goM M k f g ≤ 1000020) := by
  have h1 := stv_rng hI (hand := M 24 6) (a := M 31 k) (b := M 31 (k + 1)) hf0 hf1 hg0 hg1
  have h2 := ncv_rng hI (M 31 (k + 1)) g
  unfold goM
  split
  · unfold stM ncM; omega
  · omega
/-- what is left from note k on, with finger f -/
def aft (M : Mm) (k f : Int) : Int := if 0 < M 24 12 ∧ k = M 24 10 then M 37 f else M 35 (6 * k + f)
theorem z_after {N : Nat} {k f : Int} {M : Mm} (h0 : 0 ≤ k) (h1 : k < 30) (hf0 : 1 ≤ f) (hf1 : f ≤ 5) : Ret 0 0 0 mM_after [.inr 24, .inl k, .inl f] (S0 N) M (Pu (S0 N) M (aft M k f)) := by
  refine eM_after [] 30 (Nat.le_of_ble_eq_true rfl) (fun hM => ?_)
  refine ⟨hM _ _, ite_i (fun q => ?_) (fun q => ?_)⟩
  · refine ⟨⟨by omega, hM _ _⟩, ite_i (fun q2 => ?_) (fun q2 => ?_)⟩
    · exact ⟨by omega, pu_eq (by unfold aft; rw [if_pos ⟨q, q2⟩])⟩
    · exact ⟨by omega, pu_eq (by unfold aft; rw [if_neg (fun h => q2 h.2)])⟩
  · exact ⟨by omega, pu_eq (by unfold aft; rw [if_neg (fun h => q h.1)])⟩
end
section
def mn (x least : Int) : Int := if x < least then x else least
def mfr (φ : Int → Int) : Nat → Int → Int → Int
  | 0, _, l => l
  | n + 1, g, l => mfr φ n (g + 1) (mn (φ g) l)
def m5 (φ : Int → Int) : Int := mfr φ 5 1 1000000
theorem mn_rng {x l : Int} (h0 : 0 ≤ x) (h1 : 0 ≤ l) (h2 : l ≤ 1000000) : 0 ≤ mn x l ∧ mn x l ≤ 1000000 := by unfold mn; split <;> omega
theorem mfr_congr {φ ψ : Int → Int} : ∀ (n : Nat) (g l : Int), (∀ i, g ≤ i → i < g + n → φ i = ψ i) → mfr φ n g l = mfr ψ n g l := by
  intro n
  induction n with
  | zero => intro g l h; rfl
  | succ n ih =>
    intro g l h
    unfold mfr
    rw [h g (by omega) (by omega)]
    exact ih _ _ (fun i h1 h2 => h i (by omega) (by omega))
theorem m5_congr {φ ψ : Int → Int} (h : ∀ g, 1 ≤ g → g ≤ 5 → φ g = ψ g) : m5 φ = m5 ψ := mfr_congr 5 1 _ (fun i h1 h2 => h i h1 (by omega))
theorem mfr_rng {φ : Int → Int} : ∀ (n : Nat) (g l : Int), (∀ i, g ≤ i → i < g + n → 0 ≤ φ i) → 0 ≤ l → l ≤ 1000000 → 0 ≤ mfr φ n g l ∧ mfr φ n g l ≤ 1000000 := by
  intro n
  induction n with
  | zero => intro g l h h1 h2; exact ⟨h1, h2⟩
  | succ n ih =>
    intro g l h h1 h2
    have h3 := mn_rng (h g (by omega) (by omega)) h1 h2
    exact ih _ _ (fun i q1 q2 => h i (by omega) (by omega)) h3.1 h3.2
theorem m5_rng {φ : Int → Int} (h : ∀ g, 1 ≤ g → g ≤ 5 → 0 ≤ φ g) : 0 ≤ m5 φ ∧ m5 φ ≤ 1000000 := mfr_rng 5 1 _ (fun i h1 h2 => h i h1 (by omega)) (by omega) (by omega)
/-- places b+1 to b+i of a cell written -/
def wr (M : Mm) (c : Nat) (b : Int) (V : Int → Int) (i : Int) : Mm := fun c' j => if c' = c ∧ b + 1 ≤ j ∧ j ≤ b + i then V (j - b) else M c' j
theorem wr_0 (M : Mm) (c : Nat) (b : Int) (V : Int → Int) : wr M c b V 0 = M := by
  funext c' j; unfold wr; rw [if_neg]; omega
theorem wr_step {M : Mm} {c : Nat} {b i v : Int} {V : Int → Int} (hi : 0 ≤ i) (hv : v = V (i + 1)) : mset (wr M c b V i) c (b + (i + 1)) v = wr M c b V (i + 1) := by
  funext c' j
  unfold mset wr
  by_cases h : c' = c ∧ j = b + (i + 1)
  · rw [if_pos h, if_pos (by omega), hv]; congr 1; omega
  · rw [if_neg h]
    by_cases h2 : c' = c ∧ b + 1 ≤ j ∧ j ≤ b + i
    · rw [if_pos h2, if_pos (by omega)]
    · rw [if_neg h2, if_neg (by omega)]
theorem wr_ne {M : Mm} {c : Nat} {b i : Int} {V : Int → Int} {c' : Nat} {j : Int} (h : ¬ (c' = c ∧ b + 1 ≤ j ∧ j ≤ b + i)) : wr M c b V i c' j = M c' j := by unfold wr; rw [if_neg h]
theorem wr_eq {M : Mm} {c : Nat} {b i : Int} {V : Int → Int} {f : Int} (h1 : 1 ≤ f) (h2 : f ≤ i) : wr M c b V i c (b + f) = V f := by
  unfold wr; rw [if_pos (by omega)]; congr 1; omega
theorem Agr.wr {M0 M : Mm} (h : Agr M0 M) {c : Nat} (hc : 33 ≤ c ∧ c ≤ 37) (b i : Int) (V : Int → Int) : Agr M0 (wr M c b V i) := by
  intro c' j hc'
  rw [wr_ne (by omega)]; exact h c' j hc'
theorem aft_congr {M M' : Mm} {k f : Int} (h12 : M' 24 12 = M 24 12) (h10 : M' 24 10 = M 24 10) (h37 : M' 37 f = M 37 f) (h35 : M' 35 (6 * k + f) = M 35 (6 * k + f)) : aft M' k f = aft M k f := by
  unfold aft; rw [h12, h10, h37, h35]
section Back
variable {N : Nat} {k : Int} {M0 M : Mm}
theorem z_back_inner {f : Int} {Φ : Option Vl → Ly → Mm → Prop} {φ : Int → Int} (hA : Agr M0 M) (hL : LOk M0) (h0 : 0 ≤ k) (h1 : k + 1 < M0 24 7) (hf0 : 1 ≤ f) (hf1 : f ≤ 5) (hB : ∀ g, 1 ≤ g → g ≤ 5 → 0 ≤ aft M (k + 1) g ∧ aft M (k + 1) g ≤ 2000000) (hφ : ∀ g, 1 ≤ g → g ≤ 5 → φ g = goM M0 k f g + aft M (k + 1) g) :
    ∀ (n : Nat) (g l : Int) (L5 : Option Vl), g + n = 6 → 1 ≤ g → 0 ≤ l → l ≤ 1000000 → AJ 4 0 0 mM_back Φ 0 0 82 [some (.inr 24), some (.inl k), some (.inl f), some (.inl (mfr φ n g l))] [] (S0 N) M → AJ 4 0 0 mM_back Φ 0 0 27 [some (.inr 24), some (.inl k), some (.inl f), some (.inl l), some (.inl g), L5] [] (S0 N) M := by
  intro n
  induction n with
  | zero =>
    intro g l L5 hg hg1 hl0 hl1 kk
    have : g = 6 := by omega
    subst this
    refine aM_back [82] 30 (fun hM => ?_)
    exact ⟨by decide, AJ.wk kk ⟨rfl, rfl, rfl, rfl, trivial⟩⟩
  | succ n ih =>
    intro g l L5 hg hg1 hl0 hl1 kk
    have e247 : M 24 7 = M0 24 7 := hA 24 7 (by omega)
    have hb := hB g hg1 (by omega)
    have hgo := goM_rng hL.1 (k := k) hf0 hf1 hg1 (show g ≤ 5 by omega)
    have hp := hφ g hg1 (by omega)
    have hl7 := hL.2.2.2.1
    refine aM_back [82, 27] 40 (fun hM => ?_)
    refine ⟨by omega, ite_i (fun q => by omega) (fun q => ?_)⟩
    refine ⟨by omega, ite_i (fun q => ?_) (fun q => by omega)⟩
    refine CL.pu (z_goingOn hA hL h0 h1 hf0 hf1 hg1 (by omega)) (Nat.le_of_ble_eq_true rfl) ?_
    refine CL.pu (z_after (by omega) (by omega) hg1 (by omega)) (Nat.le_of_ble_eq_true rfl) ?_
    refine ⟨by omega, ite_i (fun q => ?_) (fun q => ?_)⟩
    · refine ih (g + 1) _ _ (by omega) (by omega) (by omega) (by omega) ?_
      unfold mfr mn at kk
      rw [hp, if_pos q] at kk
      exact kk
    · refine ih (g + 1) _ _ (by omega) (by omega) (by omega) (by omega) ?_
      unfold mfr mn at kk
      rw [hp, if_neg q] at kk
      exact kk
/-- what back writes -/
def bkV (M0 M : Mm) (k f : Int) : Int := if k = M0 24 7 - 1 then 0 else m5 (fun g => goM M0 k f g + aft M (k + 1) g)
theorem z_back_outer (hA : Agr M0 M) (hL : LOk M0) (h0 : 0 ≤ k) (h1 : k < M0 24 7) (hB : k + 1 < M0 24 7 → ∀ g, 1 ≤ g → g ≤ 5 → 0 ≤ aft M (k + 1) g ∧ aft M (k + 1) g ≤ 2000000) :
    ∀ (n i : Nat) (Lt : Lc), i + n = 5 → AJ 4 0 0 mM_back (Vo (S0 N) (wr M 35 (6 * k) (bkV M0 M k) 5)) 0 0 2 [some (.inr 24), some (.inl k), some (.inl (i + 1))] [] (S0 N) (wr M 35 (6 * k) (bkV M0 M k) i) := by
  intro n
  induction n with
  | zero =>
    intro i Lt hi
    have : i = 5 := by omega
    subst this
    refine aM_back [2] 30 (fun hM => ?_)
    exact ⟨by decide, vo_eq rfl⟩
  | succ n ih =>
    intro i Lt hi
    have hl7 := hL.2.2.2.1
    have hA1 : Agr M0 (wr M 35 (6 * k) (bkV M0 M k) i) := hA.wr (by omega) _ _ _
    have e247 : (wr M 35 (6 * k) (bkV M0 M k) i) 24 7 = M0 24 7 := hA1 24 7 (by omega)
    have fin : ∀ v : Int, 0 ≤ v → v ≤ 1000000 → v = bkV M0 M k (i + 1) → AJ 4 0 0 mM_back (Vo (S0 N) (wr M 35 (6 * k) (bkV M0 M k) 5)) 0 0 82 [some (.inr 24), some (.inl k), some (.inl (i + 1)), some (.inl v)] [] (S0 N) (wr M 35 (6 * k) (bkV M0 M k) i) := by
      intro v hv0 hv1 hv
      refine aM_back [2] 30 (fun hM => ?_)
      refine ⟨⟨by decide, by omega, by omega, by omega, by omega⟩, ?_⟩
      have h2 := ih (i + 1) [] (by omega)
      rw [show ((i + 1 : Nat) : Int) = (i : Int) + 1 by omega] at h2
      rw [wr_step (by omega) hv]
      exact AJ.wk h2 ⟨rfl, rfl, rfl, trivial⟩
    refine aM_back [82, 27] 40 (fun hM => ?_)
    refine ⟨by omega, ite_i (fun q => by omega) (fun q => ?_)⟩
    refine ⟨by omega, ite_i (fun q => ?_) (fun q => ?_)⟩
    · have e0 : bkV M0 M k (i + 1) = 0 := by unfold bkV; rw [if_pos (by omega)]
      have f0 := fin 0 (by omega) (by omega) e0.symm
      have inner : AJ 4 0 0 mM_back (Vo (S0 N) (wr M 35 (6 * k) (bkV M0 M k) 5)) 0 0 27 [some (.inr 24), some (.inl k), some (.inl (i + 1)), some (.inl 0), some (.inl 1)] [] (S0 N) (wr M 35 (6 * k) (bkV M0 M k) i) := by
        refine aM_back [82] 40 (fun hM => ?_)
        refine ⟨by decide, ⟨by omega, by omega⟩, ite_i (fun q => by omega) (fun q => ?_)⟩
        exact AJ.wk f0 ⟨rfl, rfl, rfl, rfl, trivial⟩
      exact inner
    · have hB1 := hB (by omega)
      have haf : ∀ g, 1 ≤ g → g ≤ 5 → aft (wr M 35 (6 * k) (bkV M0 M k) i) (k + 1) g = aft M (k + 1) g := fun g q1 q2 => aft_congr (wr_ne (by omega)) (wr_ne (by omega)) (wr_ne (by omega)) (wr_ne (by omega))
      have e1 : bkV M0 M k (i + 1) = m5 (fun g => goM M0 k (i + 1) g + aft M (k + 1) g) := by unfold bkV; rw [if_neg (by omega)]
      have hr := m5_rng (φ := fun g => goM M0 k (i + 1) g + aft M (k + 1) g) (fun g q1 q2 => by
        have := hB1 g q1 q2
        have := goM_rng hL.1 (k := k) (f := i + 1) (by omega) (by omega) q1 q2
        omega)
      refine AJ.wk (z_back_inner (φ := fun g => goM M0 k (i + 1) g + aft M (k + 1) g) hA1 hL h0 (by omega) (by omega) (by omega) (fun g q1 q2 => by rw [haf g q1 q2]; exact hB1 g q1 q2) (fun g q1 q2 => by rw [haf g q1 q2]) 5 1 1000000 none (by omega) (by omega) (by omega) (by omega) ?_) ⟨rfl, rfl, rfl, rfl, rfl, trivial⟩
      exact fin _ hr.1 hr.2 e1.symm
theorem z_back (hA : Agr M0 M) (hL : LOk M0) (h0 : 0 ≤ k) (h1 : k < M0 24 7) (hB : k + 1 < M0 24 7 → ∀ g, 1 ≤ g → g ≤ 5 → 0 ≤ aft M (k + 1) g ∧ aft M (k + 1) g ≤ 2000000) : Ret 4 0 0 mM_back [.inr 24, .inl k] (S0 N) M (Vo (S0 N) (wr M 35 (6 * k) (bkV M0 M k) 5)) := by
  refine eM_back [2] 30 (Nat.le_of_ble_eq_true rfl) (fun hM => ?_)
  have h2 := z_back_outer (N := N) hA hL h0 h1 hB 5 0 [] (by omega)
  rw [show ((0 : Nat) : Int) = 0 from rfl, wr_0] at h2
  exact h2
end Back
end
section
/-! ===== pure: tables from one place back ===== -/
def bv (w : Int → Int → Int → Int) (e : Int) (T : Int → Int) : Nat → Int → Int
  | 0, f => T f
  | d + 1, f => m5 (fun g => w (e - (d + 1)) f g + bv w e T d g)
def bz (w : Int → Int → Int → Int) (e : Int) (T : Int → Int) (k f : Int) : Int := bv w e T (e - k).toNat f
theorem bz_e (w : Int → Int → Int → Int) (e : Int) (T : Int → Int) (f : Int) : bz w e T e f = T f := by
  unfold bz; rw [show (e - e).toNat = 0 by omega]; rfl
theorem bz_s {w : Int → Int → Int → Int} {e : Int} {T : Int → Int} {k f : Int} (h : k < e) : bz w e T k f = m5 (fun g => w k f g + bz w e T (k + 1) g) := by
  unfold bz
  have h1 : (e - k).toNat = (e - (k + 1)).toNat + 1 := by omega
  rw [h1]
  show m5 (fun g => w (e - (((e - (k + 1)).toNat : Int) + 1)) f g + _) = _
  rw [show e - (((e - (k + 1)).toNat : Int) + 1) = k by omega]
theorem bz_rng {w : Int → Int → Int → Int} {e : Int} {T : Int → Int} (hw : ∀ k f g, 1 ≤ f → f ≤ 5 → 1 ≤ g → g ≤ 5 → 0 ≤ w k f g) (hT : ∀ f, 1 ≤ f → f ≤ 5 → 0 ≤ T f ∧ T f ≤ 1000000) {k f : Int} (hk : k ≤ e) (hf0 : 1 ≤ f) (hf1 : f ≤ 5) : 0 ≤ bz w e T k f ∧ bz w e T k f ≤ 1000000 := by
  unfold bz
  generalize hd : (e - k).toNat = d
  clear hd hk
  induction d generalizing f with
  | zero => exact hT f hf0 hf1
  | succ d ih =>
    refine m5_rng (fun g h1 h2 => ?_)
    have q1 := ih h1 h2
    have q2 := hw (e - (d + 1)) f g hf0 hf1 h1 h2
    omega
/-- rows lo to hi of rest hold V; all else is as it was -/
def BK (Ma Mb : Mm) (lo hi : Int) (V : Int → Int → Int) : Prop := (∀ k f, lo ≤ k → k ≤ hi → 1 ≤ f → f ≤ 5 → Mb 35 (6 * k + f) = V k f) ∧ ∀ c j, ¬ (c = 35 ∧ 6 * lo + 1 ≤ j ∧ j ≤ 6 * hi + 5) → Mb c j = Ma c j
theorem BK.rf (M : Mm) {lo hi : Int} (V : Int → Int → Int) (h : hi < lo) : BK M M lo hi V := ⟨fun k f h1 h2 => by omega, fun _ _ _ => rfl⟩
theorem BK.st {Ma Mb : Mm} {k hi : Int} {V : Int → Int → Int} {U : Int → Int} (h : BK Ma Mb (k + 1) hi V) (hk : k ≤ hi) (hU : ∀ f, 1 ≤ f → f ≤ 5 → U f = V k f) : BK Ma (wr Mb 35 (6 * k) U 5) k hi V := by
  refine ⟨fun k' f h1 h2 h3 h4 => ?_, fun c j hc => ?_⟩
  · by_cases hkk : k' = k
    · subst hkk
      rw [wr_eq h3 h4]; exact hU f h3 h4
    · rw [wr_ne (by omega)]; exact h.1 k' f (by omega) h2 h3 h4
  · rw [wr_ne (by omega)]; exact h.2 c j (by omega)
theorem BK.agr {M0 Ma Mb : Mm} {lo hi : Int} {V : Int → Int → Int} (h : BK Ma Mb lo hi V) (hA : Agr M0 Ma) : Agr M0 Mb := fun c j hc => by rw [h.2 c j (by omega)]; exact hA c j hc
/-! ties: both parts -/
def TOk (M : Mm) : Prop := 0 < M 24 12 ∧ 0 ≤ M 24 10 ∧ M 24 10 + M 24 12 ≤ M 24 11 ∧ M 24 11 + M 24 12 ≤ M 24 7
def jsM (M : Mm) (k f g : Int) : Int := if okM M (M 24 10 + (k + 1)) g ∧ okM M (M 24 11 + (k + 1)) g then goM M (M 24 10 + k) f g + goM M (M 24 11 + k) f g else 1000000
theorem jsM_rng {M : Mm} (hI : RuI M) {k f g : Int} (hf0 : 1 ≤ f) (hf1 : f ≤ 5) (hg0 : 1 ≤ g) (hg1 : g ≤ 5) : 0 ≤ jsM M k f g ∧ jsM M k f g ≤ 2000040 := by
  have h1 := goM_rng hI (k := M 24 10 + k) hf0 hf1 hg0 hg1
  have h2 := goM_rng hI (k := M 24 11 + k) hf0 hf1 hg0 hg1
  unfold jsM
  split <;> omega
section Tie
variable {N : Nat} {M0 M : Mm}
theorem z_isOfBoth {k f : Int} (hA : Agr M0 M) (hT : TOk M0) (hL : LOk M0) (h0 : 0 ≤ k) (h1 : k < M0 24 12) : Ret 1 0 0 mM_isOfBoth [.inr 24, .inl k, .inl f] (S0 N) M (Pu (S0 N) M (bi (okM M0 (M0 24 10 + k) f ∧ okM M0 (M0 24 11 + k) f))) := by
  obtain ⟨t1, t2, t3, t4⟩ := hT
  have l4 := hL.2.2.2.1
  have e10 : M 24 10 = M0 24 10 := hA 24 10 (by omega)
  have e11 : M 24 11 = M0 24 11 := hA 24 11 (by omega)
  refine eM_isOfBoth [] 30 (Nat.le_of_ble_eq_true rfl) (fun hM => ?_)
  conv => whnf
  rw [e10]
  refine CL.bl (z_isOf hA (by omega) (by omega)) (Nat.le_of_ble_eq_true rfl) (fun q => ?_) (fun q => ?_)
  · refine ⟨R32_1, ?_⟩
    conv => whnf
    rw [e11]
    refine CL.bl (z_isOf hA (by omega) (by omega)) (Nat.le_of_ble_eq_true rfl) (fun q2 => ?_) (fun q2 => ?_)
    · exact ⟨R32_1, Or.inr rfl, pu_eq (bi_t ⟨q, q2⟩).symm⟩
    · exact ⟨R32_0, Or.inl rfl, pu_eq (bi_f (fun h => q2 h.2)).symm⟩
  · exact ⟨R32_0, Or.inl rfl, pu_eq (bi_f (fun h => q h.1)).symm⟩
theorem z_jointStep {k f g : Int} (hA : Agr M0 M) (hT : TOk M0) (hL : LOk M0) (h0 : 0 ≤ k) (h1 : k + 1 < M0 24 12) (hf0 : 1 ≤ f) (hf1 : f ≤ 5) (hg0 : 1 ≤ g) (hg1 : g ≤ 5) : Ret 4 0 0 mM_jointStep [.inr 24, .inl k, .inl f, .inl g] (S0 N) M (Pu (S0 N) M (jsM M0 k f g)) := by
  obtain ⟨t1, t2, t3, t4⟩ := id hT
  have l4 := hL.2.2.2.1
  have e10 : M 24 10 = M0 24 10 := hA 24 10 (by omega)
  have e11 : M 24 11 = M0 24 11 := hA 24 11 (by omega)
  refine eM_jointStep [] 30 (Nat.le_of_ble_eq_true rfl) (fun hM => ?_)
  refine CL.bl (z_isOfBoth hA hT hL (by omega) h1) (Nat.le_of_ble_eq_true rfl) (fun q => ?_) (fun q => ?_)
  · refine ⟨R32_1, ?_⟩
    conv => whnf
    rw [e10]
    refine CL.pu (z_goingOn hA hL (by omega) (by omega) hf0 hf1 hg0 hg1) (Nat.le_of_ble_eq_true rfl) ?_
    conv => whnf
    rw [e11]
    refine CL.pu (z_goingOn hA hL (by omega) (by omega) hf0 hf1 hg0 hg1) (Nat.le_of_ble_eq_true rfl) (pu_eq ?_)
    unfold jsM; rw [if_pos q]
  · refine ⟨R32_0, pu_eq ?_⟩
    unfold jsM; rw [if_neg q]
theorem z_joint_inner {k f : Int} {Φ : Option Vl → Ly → Mm → Prop} {φ : Int → Int} (hA : Agr M0 M) (hT : TOk M0) (hL : LOk M0) (h0 : 0 ≤ k) (h1 : k + 1 < M0 24 12) (hf0 : 1 ≤ f) (hf1 : f ≤ 5) (hB : ∀ g, 1 ≤ g → g ≤ 5 → 0 ≤ M 36 (6 * (k + 1) + g) ∧ M 36 (6 * (k + 1) + g) ≤ 1000000) (hφ : ∀ g, 1 ≤ g → g ≤ 5 → φ g = jsM M0 k f g + M 36 (6 * (k + 1) + g)) :
    ∀ (n : Nat) (g l : Int) (L6 : Option Vl), g + n = 6 → 1 ≤ g → 0 ≤ l → l ≤ 1000000 → AJ 5 0 0 mM_findJoint Φ 0 0 127 [some (.inr 24), some (.inl k), some (.inl f), some (.inl 0), some (.inl (mfr φ n g l))] [] (S0 N) M → AJ 5 0 0 mM_findJoint Φ 0 0 70 [some (.inr 24), some (.inl k), some (.inl f), some (.inl 0), some (.inl l), some (.inl g), L6] [] (S0 N) M := by
  intro n
  induction n with
  | zero =>
    intro g l L6 hg hg1 hl0 hl1 kk
    have : g = 6 := by omega
    subst this
    refine aM_findJoint [127] 30 (fun hM => ?_)
    exact ⟨by decide, AJ.wk kk ⟨rfl, rfl, rfl, rfl, rfl, trivial⟩⟩
  | succ n ih =>
    intro g l L6 hg hg1 hl0 hl1 kk
    have hb := hB g hg1 (by omega)
    have hgo := jsM_rng hL.1 (k := k) hf0 hf1 hg1 (show g ≤ 5 by omega)
    have hp := hφ g hg1 (by omega)
    obtain ⟨t1, t2, t3, t4⟩ := id hT
    have l4 := hL.2.2.2.1
    refine aM_findJoint [127, 70] 40 (fun hM => ?_)
    refine ⟨by omega, ite_i (fun q => by omega) (fun q => ?_)⟩
    refine ⟨R32_0, CL.pu (z_jointStep hA hT hL h0 h1 hf0 hf1 hg1 (by omega)) (Nat.le_of_ble_eq_true rfl) ?_⟩
    refine ⟨by omega, by omega, ite_i (fun q => ?_) (fun q => ?_)⟩
    · refine ih (g + 1) _ _ (by omega) (by omega) (by omega) (by omega) ?_
      unfold mfr mn at kk
      rw [hp, if_pos q] at kk
      exact kk
    · refine ih (g + 1) _ _ (by omega) (by omega) (by omega) (by omega) ?_
      unfold mfr mn at kk
      rw [hp, if_neg q] at kk
      exact kk
def clp (x : Int) : Int := if x < 1000000 then x else 1000000
def jtV (M0 M : Mm) (k f : Int) : Int := if k = M0 24 12 - 1 then clp (M 35 (6 * (M0 24 10 + k) + f) + M 35 (6 * (M0 24 11 + k) + f)) else m5 (fun g => jsM M0 k f g + M 36 (6 * (k + 1) + g))
theorem z_joint_outer {k : Int} (hA : Agr M0 M) (hT : TOk M0) (hL : LOk M0) (h0 : 0 ≤ k) (h1 : k < M0 24 12) (hB : k + 1 < M0 24 12 → ∀ g, 1 ≤ g → g ≤ 5 → 0 ≤ M 36 (6 * (k + 1) + g) ∧ M 36 (6 * (k + 1) + g) ≤ 1000000)
    (hC : k + 1 = M0 24 12 → ∀ g, 1 ≤ g → g ≤ 5 → 0 ≤ M 35 (6 * (M0 24 10 + k) + g) ∧ M 35 (6 * (M0 24 10 + k) + g) ≤ 1000000 ∧ 0 ≤ M 35 (6 * (M0 24 11 + k) + g) ∧ M 35 (6 * (M0 24 11 + k) + g) ≤ 1000000) :
    ∀ (n i : Nat), i + n = 5 → AJ 5 0 0 mM_findJoint (Vo (S0 N) (wr M 36 (6 * k) (jtV M0 M k) 5)) 0 0 2 [some (.inr 24), some (.inl k), some (.inl (i + 1))] [] (S0 N) (wr M 36 (6 * k) (jtV M0 M k) i) := by
  intro n
  induction n with
  | zero =>
    intro i hi
    have : i = 5 := by omega
    subst this
    refine aM_findJoint [2] 30 (fun hM => ?_)
    exact ⟨by decide, vo_eq rfl⟩
  | succ n ih =>
    intro i hi
    obtain ⟨t1, t2, t3, t4⟩ := id hT
    have l4 := hL.2.2.2.1
    have hA1 : Agr M0 (wr M 36 (6 * k) (jtV M0 M k) i) := hA.wr (by omega) _ _ _
    have e10 : (wr M 36 (6 * k) (jtV M0 M k) i) 24 10 = M0 24 10 := hA1 24 10 (by omega)
    have e11 : (wr M 36 (6 * k) (jtV M0 M k) i) 24 11 = M0 24 11 := hA1 24 11 (by omega)
    have e12 : (wr M 36 (6 * k) (jtV M0 M k) i) 24 12 = M0 24 12 := hA1 24 12 (by omega)
    have fin : ∀ (v b : Int), 0 ≤ v → v ≤ 2000000 → clp v = jtV M0 M k (i + 1) → AJ 5 0 0 mM_findJoint (Vo (S0 N) (wr M 36 (6 * k) (jtV M0 M k) 5)) 0 0 127 [some (.inr 24), some (.inl k), some (.inl (i + 1)), some (.inl b), some (.inl v)] [] (S0 N) (wr M 36 (6 * k) (jtV M0 M k) i) := by
      intro v b hv0 hv1 hv
      have h2 := ih (i + 1) (by omega)
      rw [show ((i + 1 : Nat) : Int) = (i : Int) + 1 by omega] at h2
      refine aM_findJoint [2] 30 (fun hM => ?_)
      refine ⟨by omega, ite_i (fun q => ?_) (fun q => ?_)⟩
      · refine ⟨⟨by decide, by omega, by omega, by omega, by omega⟩, ?_⟩
        unfold clp at hv
        rw [if_pos q] at hv
        rw [wr_step (by omega) hv]
        exact AJ.wk h2 ⟨rfl, rfl, rfl, trivial⟩
      · refine ⟨⟨by decide, by omega, by omega, by omega, by omega⟩, ?_⟩
        unfold clp at hv
        rw [if_neg q] at hv
        rw [wr_step (by omega) hv]
        exact AJ.wk h2 ⟨rfl, rfl, rfl, trivial⟩
    refine aM_findJoint [127, 70] 60 (fun hM => ?_)
    refine ⟨by omega, ite_i (fun q => by omega) (fun q => ?_)⟩
    refine ⟨by omega, ite_i (fun q => ?_) (fun q => ?_)⟩
    · have hc := hC (by omega) (i + 1) (by omega) (by omega)
      have f1 : (wr M 36 (6 * k) (jtV M0 M k) i) 35 (6 * (M0 24 10 + k) + (i + 1)) = M 35 (6 * (M0 24 10 + k) + (i + 1)) := wr_ne (by omega)
      have f2 : (wr M 36 (6 * k) (jtV M0 M k) i) 35 (6 * (M0 24 11 + k) + (i + 1)) = M 35 (6 * (M0 24 11 + k) + (i + 1)) := wr_ne (by omega)
      have e0 : clp (M 35 (6 * (M0 24 10 + k) + (i + 1)) + M 35 (6 * (M0 24 11 + k) + (i + 1))) = jtV M0 M k (i + 1) := by unfold jtV; rw [if_pos (by omega)]
      have f0 := fin _ 1 (by omega) (by omega) e0
      refine ⟨R32_1, ?_⟩
      conv => whnf
      rw [e10]
      refine ⟨by omega, ?_⟩
      conv => whnf
      rw [e11]
      refine ⟨by omega, ?_⟩
      rw [f1, f2]
      have inner : AJ 5 0 0 mM_findJoint (Vo (S0 N) (wr M 36 (6 * k) (jtV M0 M k) 5)) 0 0 70 [some (.inr 24), some (.inl k), some (.inl (i + 1)), some (.inl 1), some (.inl (M 35 (6 * (M0 24 10 + k) + (i + 1)) + M 35 (6 * (M0 24 11 + k) + (i + 1)))), some (.inl 1)] [] (S0 N) (wr M 36 (6 * k) (jtV M0 M k) i) := by
        refine aM_findJoint [127] 40 (fun hM => ?_)
        exact ⟨by decide, R32_1, AJ.wk f0 ⟨rfl, rfl, rfl, rfl, rfl, trivial⟩⟩
      exact inner
    · have hB1 := hB (by omega)
      have haf : ∀ g, 1 ≤ g → g ≤ 5 → (wr M 36 (6 * k) (jtV M0 M k) i) 36 (6 * (k + 1) + g) = M 36 (6 * (k + 1) + g) := fun g q1 q2 => wr_ne (by omega)
      have hr := m5_rng (φ := fun g => jsM M0 k (i + 1) g + M 36 (6 * (k + 1) + g)) (fun g q1 q2 => by
        have := hB1 g q1 q2
        have := jsM_rng hL.1 (k := k) (f := i + 1) (by omega) (by omega) q1 q2
        omega)
      have e1 : clp (m5 (fun g => jsM M0 k (i + 1) g + M 36 (6 * (k + 1) + g))) = jtV M0 M k (i + 1) := by
        unfold jtV; rw [if_neg (by omega)]
        unfold clp; split <;> omega
      refine ⟨R32_0, ?_⟩
      refine AJ.wk (z_joint_inner (φ := fun g => jsM M0 k (i + 1) g + M 36 (6 * (k + 1) + g)) hA1 hT hL h0 (by omega) (by omega) (by omega) (fun g q1 q2 => by rw [haf g q1 q2]; exact hB1 g q1 q2) (fun g q1 q2 => by rw [haf g q1 q2]) 5 1 1000000 none (by omega) (by omega) (by omega) (by omega) ?_) ⟨rfl, rfl, rfl, rfl, rfl, rfl, trivial⟩
      exact fin _ 0 hr.1 (Int.le_trans hr.2 (by decide)) e1
theorem z_findJoint {k : Int} (hA : Agr M0 M) (hT : TOk M0) (hL : LOk M0) (h0 : 0 ≤ k) (h1 : k < M0 24 12) (hB : k + 1 < M0 24 12 → ∀ g, 1 ≤ g → g ≤ 5 → 0 ≤ M 36 (6 * (k + 1) + g) ∧ M 36 (6 * (k + 1) + g) ≤ 1000000)
    (hC : k + 1 = M0 24 12 → ∀ g, 1 ≤ g → g ≤ 5 → 0 ≤ M 35 (6 * (M0 24 10 + k) + g) ∧ M 35 (6 * (M0 24 10 + k) + g) ≤ 1000000 ∧ 0 ≤ M 35 (6 * (M0 24 11 + k) + g) ∧ M 35 (6 * (M0 24 11 + k) + g) ≤ 1000000) : Ret 5 0 0 mM_findJoint [.inr 24, .inl k] (S0 N) M (Vo (S0 N) (wr M 36 (6 * k) (jtV M0 M k) 5)) := by
  refine eM_findJoint [2] 30 (Nat.le_of_ble_eq_true rfl) (fun hM => ?_)
  have h2 := z_joint_outer (N := N) hA hT hL h0 h1 hB hC 5 0 (by omega)
  rw [show ((0 : Nat) : Int) = 0 from rfl, wr_0] at h2
  exact h2
end Tie
end
section
/-! pure: what is left in a hand with a tie -/
/-- between the parts, as both begin with x -/
def rsX (M : Mm) (x k f : Int) : Int := bz (goM M) (M 24 11 - 1) (fun f => stM M (M 24 11 - 1) f x) k f
/-- the end -/
def rsT (M : Mm) (k f : Int) : Int := bz (goM M) (M 24 7 - 1) (fun _ => 0) k f
/-- both parts at once -/
def jtX (M : Mm) (x k f : Int) : Int := bz (jsM M) (M 24 12 - 1) (fun f => clp (rsX M x (M 24 10 + M 24 12 - 1) f + rsT M (M 24 11 + M 24 12 - 1) f)) k f
def wtX (M : Mm) (x : Int) : Int := if okM M (M 24 10) x ∧ okM M (M 24 11) x then clp (jtX M x 0 x + ncM M (M 24 11) x) else 1000000
/-- the beginning -/
def rsH (M : Mm) (k f : Int) : Int := bz (goM M) (M 24 10) (wtX M) k f
theorem rsX_rng {M : Mm} (hI : RuI M) {x k f : Int} (hx0 : 1 ≤ x) (hx1 : x ≤ 5) (hk : k ≤ M 24 11 - 1) (hf0 : 1 ≤ f) (hf1 : f ≤ 5) : 0 ≤ rsX M x k f ∧ rsX M x k f ≤ 1000000 := by
  refine bz_rng (fun k f g h1 h2 h3 h4 => ?_) (fun f h1 h2 => ?_) hk hf0 hf1
  · have := goM_rng hI (k := k) h1 h2 h3 h4; omega
  · have := stv_rng hI (hand := M 24 6) (a := M 31 (M 24 11 - 1)) (b := M 31 (M 24 11 - 1 + 1)) h1 h2 hx0 hx1
    unfold stM; omega
theorem rsT_rng {M : Mm} (hI : RuI M) {k f : Int} (hk : k ≤ M 24 7 - 1) (hf0 : 1 ≤ f) (hf1 : f ≤ 5) : 0 ≤ rsT M k f ∧ rsT M k f ≤ 1000000 := by
  refine bz_rng (fun k f g h1 h2 h3 h4 => ?_) (fun f h1 h2 => by omega) hk hf0 hf1
  have := goM_rng hI (k := k) h1 h2 h3 h4; omega
theorem jtX_rng {M : Mm} (hI : RuI M) (hT : TOk M) {x k f : Int} (hx0 : 1 ≤ x) (hx1 : x ≤ 5) (hk : k ≤ M 24 12 - 1) (hf0 : 1 ≤ f) (hf1 : f ≤ 5) : 0 ≤ jtX M x k f ∧ jtX M x k f ≤ 1000000 := by
  obtain ⟨t1, t2, t3, t4⟩ := hT
  refine bz_rng (fun k f g h1 h2 h3 h4 => (jsM_rng hI h1 h2 h3 h4).1) (fun f h1 h2 => ?_) hk hf0 hf1
  have q1 := rsX_rng hI (k := M 24 10 + M 24 12 - 1) hx0 hx1 (by omega) h1 h2
  have q2 := rsT_rng hI (k := M 24 11 + M 24 12 - 1) (by omega) h1 h2
  unfold clp
  split <;> omega
theorem wtX_rng {M : Mm} (hI : RuI M) (hT : TOk M) {x : Int} (hx0 : 1 ≤ x) (hx1 : x ≤ 5) : 0 ≤ wtX M x ∧ wtX M x ≤ 1000000 := by
  have h1 := jtX_rng hI hT (k := 0) hx0 hx1 (by have := hT.1; omega) hx0 hx1
  have h2 := ncv_rng hI (M 31 (M 24 11)) x
  unfold wtX
  split
  · unfold clp ncM; split <;> omega
  · omega
theorem rsH_rng {M : Mm} (hI : RuI M) (hT : TOk M) {k f : Int} (hk : k ≤ M 24 10) (hf0 : 1 ≤ f) (hf1 : f ≤ 5) : 0 ≤ rsH M k f ∧ rsH M k f ≤ 1000000 := by
  refine bz_rng (fun k f g h1 h2 h3 h4 => ?_) (fun f h1 h2 => wtX_rng hI hT h1 h2) hk hf0 hf1
  have := goM_rng hI (k := k) h1 h2 h3 h4; omega
section With
variable {N : Nat} {M0 : Mm}
/-- rows lo to hi of joint -/
def JK (Ma Mb : Mm) (lo hi : Int) (V : Int → Int → Int) : Prop := (∀ k f, lo ≤ k → k ≤ hi → 1 ≤ f → f ≤ 5 → Mb 36 (6 * k + f) = V k f) ∧ ∀ c j, ¬ (c = 36 ∧ 6 * lo + 1 ≤ j ∧ j ≤ 6 * hi + 5) → Mb c j = Ma c j
theorem JK.st {Ma Mb : Mm} {k hi : Int} {V : Int → Int → Int} {U : Int → Int} (h : JK Ma Mb (k + 1) hi V) (hk : k ≤ hi) (hU : ∀ f, 1 ≤ f → f ≤ 5 → U f = V k f) : JK Ma (wr Mb 36 (6 * k) U 5) k hi V := by
  refine ⟨fun k' f h1 h2 h3 h4 => ?_, fun c j hc => ?_⟩
  · by_cases hkk : k' = k
    · subst hkk
      rw [wr_eq h3 h4]; exact hU f h3 h4
    · rw [wr_ne (by omega)]; exact h.1 k' f (by omega) h2 h3 h4
  · rw [wr_ne (by omega)]; exact h.2 c j (by omega)
/-- behind findWith x: the rows between the parts, joint, with x; the rest as it was -/
def WX (M0 Ma Mb : Mm) (x : Int) : Prop := (∀ k f, M0 24 10 + M0 24 12 - 1 ≤ k → k ≤ M0 24 11 - 1 → 1 ≤ f → f ≤ 5 → Mb 35 (6 * k + f) = rsX M0 x k f) ∧ (∀ k f, 0 ≤ k → k ≤ M0 24 12 - 1 → 1 ≤ f → f ≤ 5 → Mb 36 (6 * k + f) = jtX M0 x k f) ∧ Mb 37 x = wtX M0 x ∧
  ∀ c j, ¬ (c = 35 ∧ 6 * (M0 24 10 + M0 24 12 - 1) + 1 ≤ j ∧ j ≤ 6 * (M0 24 11 - 1) + 5) → c ≠ 36 → ¬ (c = 37 ∧ j = x) → Mb c j = Ma c j
theorem z_with_l1 {x : Int} {M : Mm} {Φ : Option Vl → Ly → Mm → Prop} (hA : Agr M0 M) (hT : TOk M0) (hL : LOk M0) (hx0 : 1 ≤ x) (hx1 : x ≤ 5) (kk : AJ 6 0 0 mM_findWith Φ 0 0 43 [some (.inr 24), some (.inl x)] [] (S0 N) (wr M 35 (6 * (M0 24 11 - 1)) (fun f => stM M0 (M0 24 11 - 1) f x) 5)) :
    ∀ (n i : Nat) (L3 : Option Vl), i + n = 5 → AJ 6 0 0 mM_findWith Φ 0 0 2 [some (.inr 24), some (.inl x), some (.inl (i + 1)), L3] [] (S0 N) (wr M 35 (6 * (M0 24 11 - 1)) (fun f => stM M0 (M0 24 11 - 1) f x) i) := by
  intro n
  induction n with
  | zero =>
    intro i L3 hi
    have : i = 5 := by omega
    subst this
    refine aM_findWith [43] 30 (fun hM => ?_)
    exact ⟨by decide, AJ.wk kk ⟨rfl, rfl, trivial⟩⟩
  | succ n ih =>
    intro i L3 hi
    obtain ⟨t1, t2, t3, t4⟩ := id hT
    have l4 := hL.2.2.2.1
    have hA1 : Agr M0 (wr M 35 (6 * (M0 24 11 - 1)) (fun f => stM M0 (M0 24 11 - 1) f x) i) := hA.wr (by omega) _ _ _
    have e11 := hA1 24 11 (by omega)
    have hst := stv_rng hL.1 (hand := M0 24 6) (a := M0 31 (M0 24 11 - 1)) (b := M0 31 (M0 24 11 - 1 + 1)) (f := i + 1) (g := x) (by omega) (by omega) hx0 hx1
    have h2 := ih (i + 1)
    rw [show ((i + 1 : Nat) : Int) = (i : Int) + 1 by omega] at h2
    refine aM_findWith [2] 30 (fun hM => ?_)
    refine ⟨by omega, ite_i (fun q => by omega) (fun q => ?_)⟩
    conv => whnf
    rw [e11]
    refine CL.pu (z_stepAt hA1 hL (by omega) (by omega) (by omega) (by omega) hx0 hx1) (Nat.le_of_ble_eq_true rfl) ?_
    conv => whnf
    rw [e11]
    refine ⟨⟨by decide, by omega, by omega, by omega, by unfold stM; omega⟩, ?_⟩
    rw [wr_step (by omega) rfl]
    exact h2 _ (by omega)
theorem z_with_l2 {x : Int} {Ma : Mm} {Φ : Option Vl → Ly → Mm → Prop} (hA : Agr M0 Ma) (hT : TOk M0) (hL : LOk M0) (hx0 : 1 ≤ x) (hx1 : x ≤ 5) (hMa : ∀ f, 1 ≤ f → f ≤ 5 → Ma 35 (6 * (M0 24 11 - 1) + f) = rsX M0 x (M0 24 11 - 1) f)
    (kk : ∀ Mb, BK Ma Mb (M0 24 10 + M0 24 12 - 1) (M0 24 11 - 2) (rsX M0 x) → AJ 6 0 0 mM_findWith Φ 0 0 76 [some (.inr 24), some (.inl x)] [] (S0 N) Mb) :
    ∀ (n : Nat) (k : Int) (Mk : Mm), k + 1 = M0 24 10 + M0 24 12 - 1 + n → k ≤ M0 24 11 - 2 → BK Ma Mk (k + 1) (M0 24 11 - 2) (rsX M0 x) → AJ 6 0 0 mM_findWith Φ 0 0 50 [some (.inr 24), some (.inl x), some (.inl k)] [] (S0 N) Mk := by
  intro n
  obtain ⟨t1, t2, t3, t4⟩ := id hT
  have l4 := hL.2.2.2.1
  induction n with
  | zero =>
    intro k Mk hk hk2 hB
    have hA1 := hB.agr hA
    have e10 := hA1 24 10 (by omega)
    have e12 := hA1 24 12 (by omega)
    refine aM_findWith [76] 30 (fun hM => ?_)
    refine ⟨by omega, ite_i (fun q => ?_) (fun q => by omega)⟩
    refine AJ.wk (kk Mk ?_) ⟨rfl, rfl, trivial⟩
    rw [show k + 1 = M0 24 10 + M0 24 12 - 1 by omega] at hB
    exact hB
  | succ n ih =>
    intro k Mk hk hk2 hB
    have hA1 := hB.agr hA
    have e10 := hA1 24 10 (by omega)
    have e12 := hA1 24 12 (by omega)
    have haf : ∀ g, 1 ≤ g → g ≤ 5 → aft Mk (k + 1) g = rsX M0 x (k + 1) g := by
      intro g h1 h2
      unfold aft
      rw [if_neg (by omega)]
      by_cases hkk : k + 1 = M0 24 11 - 1
      · rw [hkk, hB.2 35 _ (by omega)]; exact hMa g h1 h2
      · exact hB.1 (k + 1) g (by omega) (by omega) h1 h2
    have hV : ∀ f, 1 ≤ f → f ≤ 5 → bkV M0 Mk k f = rsX M0 x k f := by
      intro f h1 h2
      unfold bkV rsX
      rw [if_neg (by omega), bz_s (by omega)]
      exact m5_congr (fun g q1 q2 => by rw [haf g q1 q2]; rfl)
    refine aM_findWith [50] 30 (fun hM => ?_)
    refine ⟨by omega, ite_i (fun q => by omega) (fun q => ?_)⟩
    refine CL.vo (z_back hA1 hL (by omega) (by omega) (fun _ g q1 q2 => by
      have := rsX_rng hL.1 (k := k + 1) hx0 hx1 (by omega) q1 q2
      rw [haf g q1 q2]; omega)) (Nat.le_of_ble_eq_true rfl) (fun hM => ?_)
    refine ih (k + -1) _ (by omega) (by omega) ?_
    rw [show k + -1 + 1 = k by omega]
    exact hB.st hk2 hV
theorem z_with_l3 {x : Int} {Ma : Mm} {Φ : Option Vl → Ly → Mm → Prop} (hA : Agr M0 Ma) (hT : TOk M0) (hL : LOk M0) (hx0 : 1 ≤ x) (hx1 : x ≤ 5) (h1 : ∀ f, 1 ≤ f → f ≤ 5 → Ma 35 (6 * (M0 24 10 + M0 24 12 - 1) + f) = rsX M0 x (M0 24 10 + M0 24 12 - 1) f) (h2 : ∀ f, 1 ≤ f → f ≤ 5 → Ma 35 (6 * (M0 24 11 + M0 24 12 - 1) + f) = rsT M0 (M0 24 11 + M0 24 12 - 1) f)
    (kk : ∀ Mb, JK Ma Mb 0 (M0 24 12 - 1) (jtX M0 x) → AJ 6 0 0 mM_findWith Φ 0 0 98 [some (.inr 24), some (.inl x)] [] (S0 N) Mb) :
    ∀ (n : Nat) (k : Int) (Mk : Mm), k + 1 = n → k ≤ M0 24 12 - 1 → JK Ma Mk (k + 1) (M0 24 12 - 1) (jtX M0 x) → AJ 6 0 0 mM_findWith Φ 0 0 83 [some (.inr 24), some (.inl x), some (.inl k)] [] (S0 N) Mk := by
  intro n
  obtain ⟨t1, t2, t3, t4⟩ := id hT
  have l4 := hL.2.2.2.1
  induction n with
  | zero =>
    intro k Mk hk hk2 hB
    refine aM_findWith [98] 30 (fun hM => ?_)
    refine ⟨by omega, ite_i (fun q => ?_) (fun q => by omega)⟩
    refine AJ.wk (kk Mk ?_) ⟨rfl, rfl, trivial⟩
    rw [show k + 1 = 0 by omega] at hB
    exact hB
  | succ n ih =>
    intro k Mk hk hk2 hB
    have hA1 : Agr M0 Mk := fun c j hc => by rw [hB.2 c j (by omega)]; exact hA c j hc
    have g35 : ∀ j, Mk 35 j = Ma 35 j := fun j => hB.2 35 j (by omega)
    have hV : ∀ f, 1 ≤ f → f ≤ 5 → jtV M0 Mk k f = jtX M0 x k f := by
      intro f q1 q2
      unfold jtV
      by_cases hl : k = M0 24 12 - 1
      · rw [if_pos hl, g35, g35, show M0 24 10 + k = M0 24 10 + M0 24 12 - 1 by omega, show M0 24 11 + k = M0 24 11 + M0 24 12 - 1 by omega, h1 f q1 q2, h2 f q1 q2, hl]
        unfold jtX; rw [bz_e]
      · rw [if_neg hl]
        unfold jtX
        rw [bz_s (by omega)]
        exact m5_congr (fun g q3 q4 => by rw [hB.1 (k + 1) g (by omega) (by omega) q3 q4]; rfl)
    refine aM_findWith [83] 30 (fun hM => ?_)
    refine ⟨by omega, ite_i (fun q => by omega) (fun q => ?_)⟩
    refine CL.vo (z_findJoint hA1 hT hL (by omega) (by omega) (fun q1 g q2 q3 => ?_) (fun q1 g q2 q3 => ?_)) (Nat.le_of_ble_eq_true rfl) (fun hM => ?_)
    · rw [hB.1 (k + 1) g (by omega) (by omega) q2 q3]
      exact jtX_rng hL.1 hT hx0 hx1 (by omega) q2 q3
    · rw [g35, g35, show M0 24 10 + k = M0 24 10 + M0 24 12 - 1 by omega, show M0 24 11 + k = M0 24 11 + M0 24 12 - 1 by omega, h1 g q2 q3, h2 g q2 q3]
      have r1 := rsX_rng hL.1 (k := M0 24 10 + M0 24 12 - 1) hx0 hx1 (by omega) q2 q3
      have r2 := rsT_rng hL.1 (k := M0 24 11 + M0 24 12 - 1) (by omega) q2 q3
      exact ⟨r1.1, r1.2, r2.1, r2.2⟩
    · refine ih (k + -1) _ (by omega) (by omega) ?_
      rw [show k + -1 + 1 = k by omega]
      exact hB.st hk2 hV
theorem z_findWith {x : Int} {M : Mm} (hA : Agr M0 M) (hT : TOk M0) (hL : LOk M0) (hx0 : 1 ≤ x) (hx1 : x ≤ 5) (h2 : ∀ f, 1 ≤ f → f ≤ 5 → M 35 (6 * (M0 24 11 + M0 24 12 - 1) + f) = rsT M0 (M0 24 11 + M0 24 12 - 1) f) : Ret 6 0 0 mM_findWith [.inr 24, .inl x] (S0 N) M (fun r S' M' => r = none ∧ S' = S0 N ∧ WX M0 M M' x) := by
  obtain ⟨t1, t2, t3, t4⟩ := id hT
  have l4 := hL.2.2.2.1
  have hA1 : Agr M0 (wr M 35 (6 * (M0 24 11 - 1)) (fun f => stM M0 (M0 24 11 - 1) f x) 5) := hA.wr (by omega) _ _ _
  have c98 : ∀ Ma Mb, Agr M0 Ma → BK (wr M 35 (6 * (M0 24 11 - 1)) (fun f => stM M0 (M0 24 11 - 1) f x) 5) Ma (M0 24 10 + M0 24 12 - 1) (M0 24 11 - 2) (rsX M0 x) → JK Ma Mb 0 (M0 24 12 - 1) (jtX M0 x) → AJ 6 0 0 mM_findWith (fun r S' M' => r = none ∧ S' = S0 N ∧ WX M0 M M' x) 0 0 98 [some (.inr 24), some (.inl x)] [] (S0 N) Mb := by
    intro Ma Mb hAa hB hJ
    have hAb : Agr M0 Mb := fun c j hc => by rw [hJ.2 c j (by omega)]; exact hAa c j hc
    have e11 := hAb 24 11 (by omega)
    have e31 := hAb.c 31 (by omega)
    have e30 := hAb.c 30 (by omega)
    have hk := hL.2.2.2.2 (M0 24 11) (by omega) (by omega)
    have hj := hJ.1 0 x (by omega) (by omega) hx0 hx1
    rw [show (6 * 0 + x : Int) = x by omega] at hj
    have hjr := jtX_rng hL.1 hT (k := 0) hx0 hx1 (by omega) hx0 hx1
    have hnr := ncv_rng hL.1 (M0 31 (M0 24 11)) x
    have fin : ∀ v, v = wtX M0 x → Unit → WX M0 M (mset Mb 37 x v) x := by
      intro v hv _
      refine ⟨fun k f q1 q2 q3 q4 => ?_, fun k f q1 q2 q3 q4 => ?_, ?_, fun c j q1 q2 q3 => ?_⟩
      · rw [mset_ne (by omega), hJ.2 35 _ (by omega)]
        by_cases hkk : k = M0 24 11 - 1
        · rw [hkk, hB.2 35 _ (by omega), wr_eq q3 q4]
          unfold rsX; rw [bz_e]
        · exact hB.1 k f q1 (by omega) q3 q4
      · rw [mset_ne (by omega)]; exact hJ.1 k f q1 q2 q3 q4
      · rw [mset_eq]; exact hv
      · rw [mset_ne (by omega), hJ.2 c j (by omega), hB.2 c j (by omega), wr_ne (by omega)]
    refine aM_findWith [] 60 (fun hM => ?_)
    refine ⟨by omega, ?_⟩
    conv => whnf
    rw [e11, e31, hj]
    refine ⟨by omega, CL.pu (z_noteCost (RuI.agr hAb hL.1) (by omega) (by omega) (by omega)) (Nat.le_of_ble_eq_true rfl) ?_⟩
    rw [e30]
    refine CL.bl (z_isOfBoth hAb hT hL (by omega) t1) (Nat.le_of_ble_eq_true rfl) (fun q => ?_) (fun q => ?_)
    · rw [show M0 24 10 + 0 = M0 24 10 by omega, show M0 24 11 + 0 = M0 24 11 by omega] at q
      refine ⟨R32_1, by omega, ite_i (fun q2 => ?_) (fun q2 => ?_)⟩
      · refine ⟨⟨by decide, by omega, by omega, by omega, by omega⟩, rfl, rfl, fin _ ?_ ()⟩
        unfold wtX clp ncM; rw [if_pos q, if_pos q2]
      · refine ⟨⟨by decide, by omega, by omega, by omega, by omega⟩, rfl, rfl, fin _ ?_ ()⟩
        unfold wtX clp ncM; rw [if_pos q, if_neg q2]
    · rw [show M0 24 10 + 0 = M0 24 10 by omega, show M0 24 11 + 0 = M0 24 11 by omega] at q
      refine ⟨R32_0, ⟨by decide, by omega, by omega, by omega, by omega⟩, rfl, rfl, fin _ ?_ ()⟩
      unfold wtX; rw [if_neg q]
  have c76 : ∀ Ma, BK (wr M 35 (6 * (M0 24 11 - 1)) (fun f => stM M0 (M0 24 11 - 1) f x) 5) Ma (M0 24 10 + M0 24 12 - 1) (M0 24 11 - 2) (rsX M0 x) → AJ 6 0 0 mM_findWith (fun r S' M' => r = none ∧ S' = S0 N ∧ WX M0 M M' x) 0 0 76 [some (.inr 24), some (.inl x)] [] (S0 N) Ma := by
    intro Ma hB
    have hAa := hB.agr hA1
    have e12 := hAa 24 12 (by omega)
    refine aM_findWith [83] 30 (fun hM => ?_)
    conv => whnf
    rw [e12]
    refine z_with_l3 hAa hT hL hx0 hx1 (fun f q1 q2 => ?_) (fun f q1 q2 => ?_) (fun Mb hJ => c98 Ma Mb hAa hB hJ) (M0 24 12).toNat _ _ (by omega) (by omega) ⟨fun k f q1 q2 => by omega, fun _ _ _ => rfl⟩
    · by_cases hkk : M0 24 10 + M0 24 12 - 1 = M0 24 11 - 1
      · rw [hkk, hB.2 35 _ (by omega), wr_eq q1 q2]
        unfold rsX; rw [bz_e]
      · exact hB.1 _ f (by omega) (by omega) q1 q2
    · rw [hB.2 35 _ (by omega), wr_ne (by omega)]; exact h2 f q1 q2
  have c43 : AJ 6 0 0 mM_findWith (fun r S' M' => r = none ∧ S' = S0 N ∧ WX M0 M M' x) 0 0 43 [some (.inr 24), some (.inl x)] [] (S0 N) (wr M 35 (6 * (M0 24 11 - 1)) (fun f => stM M0 (M0 24 11 - 1) f x) 5) := by
    have e11 := hA1 24 11 (by omega)
    refine aM_findWith [50] 30 (fun hM => ?_)
    conv => whnf
    rw [e11]
    refine z_with_l2 hA1 hT hL hx0 hx1 (fun f q1 q2 => ?_) c76 (M0 24 11 - 1 - (M0 24 10 + M0 24 12 - 1)).toNat _ _ (by omega) (by omega) (BK.rf _ _ (by omega))
    rw [wr_eq q1 q2]; unfold rsX; rw [bz_e]
  refine eM_findWith [2] 30 (Nat.le_of_ble_eq_true rfl) (fun hM => ?_)
  have h3 := z_with_l1 hA hT hL hx0 hx1 c43 5 0 none (by omega)
  rw [show ((0 : Nat) : Int) = 0 from rfl, wr_0] at h3
  exact AJ.wk h3 ⟨rfl, rfl, rfl, trivial⟩
end With
end
section
def A0 (M : Mm) (f : Int) : Int := if 0 < M 24 12 then rsH M 0 f else rsT M 0 f
def stC (M : Mm) (f : Int) : Int := if okM M 0 f then ncM M 0 f + A0 M f else 1000000
def tot (M : Mm) : Int := m5 (stC M)
def lrV (M : Mm) : Int := if M 24 7 = 0 then 0 else if tot M < 1000000 then tot M else -9
/-- the tables behind leastRow, with a tie -/
def FT (M0 M : Mm) : Prop := (∀ k f, M0 24 11 + M0 24 12 - 1 ≤ k → k ≤ M0 24 7 - 1 → 1 ≤ f → f ≤ 5 → M 35 (6 * k + f) = rsT M0 k f) ∧ (∀ f, 1 ≤ f → f ≤ 5 → M 37 f = wtX M0 f) ∧ ∀ k f, 0 ≤ k → k ≤ M0 24 10 - 1 → 1 ≤ f → f ≤ 5 → M 35 (6 * k + f) = rsH M0 k f
/-- without -/
def UT (M0 M : Mm) : Prop := ∀ k f, 0 ≤ k → k ≤ M0 24 7 - 1 → 1 ≤ f → f ≤ 5 → M 35 (6 * k + f) = rsT M0 k f
section Row
variable {N : Nat} {M0 : Mm}
theorem z_tie_l1 {Ma : Mm} {Φ : Option Vl → Ly → Mm → Prop} (hA : Agr M0 Ma) (hT : TOk M0) (hL : LOk M0)
    (kk : ∀ Mb, BK Ma Mb (M0 24 11 + M0 24 12 - 1) (M0 24 7 - 1) (rsT M0) → AJ 7 0 0 mM_findTie Φ 0 0 33 [some (.inr 24)] [] (S0 N) Mb) :
    ∀ (n : Nat) (k : Int) (Mk : Mm), k + 1 = M0 24 11 + M0 24 12 - 1 + n → k ≤ M0 24 7 - 1 → BK Ma Mk (k + 1) (M0 24 7 - 1) (rsT M0) → AJ 7 0 0 mM_findTie Φ 0 0 7 [some (.inr 24), some (.inl k)] [] (S0 N) Mk := by
  intro n
  obtain ⟨t1, t2, t3, t4⟩ := id hT
  have l4 := hL.2.2.2.1
  induction n with
  | zero =>
    intro k Mk hk hk2 hB
    have hA1 := hB.agr hA
    have e11 := hA1 24 11 (by omega)
    have e12 := hA1 24 12 (by omega)
    refine aM_findTie [33] 30 (fun hM => ?_)
    refine ⟨by omega, ite_i (fun q => ?_) (fun q => by omega)⟩
    refine AJ.wk (kk Mk ?_) ⟨rfl, trivial⟩
    rw [show k + 1 = M0 24 11 + M0 24 12 - 1 by omega] at hB
    exact hB
  | succ n ih =>
    intro k Mk hk hk2 hB
    have hA1 := hB.agr hA
    have e11 := hA1 24 11 (by omega)
    have e12 := hA1 24 12 (by omega)
    have e10 := hA1 24 10 (by omega)
    have haf : k + 1 < M0 24 7 → ∀ g, 1 ≤ g → g ≤ 5 → aft Mk (k + 1) g = rsT M0 (k + 1) g := by
      intro hk3 g h1 h2
      unfold aft
      rw [if_neg (by omega)]
      exact hB.1 (k + 1) g (by omega) (by omega) h1 h2
    have hV : ∀ f, 1 ≤ f → f ≤ 5 → bkV M0 Mk k f = rsT M0 k f := by
      intro f h1 h2
      unfold bkV rsT
      by_cases hl : k = M0 24 7 - 1
      · rw [if_pos hl, hl, bz_e]
      · rw [if_neg hl, bz_s (by omega)]
        exact m5_congr (fun g q1 q2 => by rw [haf (by omega) g q1 q2]; rfl)
    refine aM_findTie [7] 30 (fun hM => ?_)
    refine ⟨by omega, ite_i (fun q => by omega) (fun q => ?_)⟩
    refine CL.vo (z_back hA1 hL (by omega) (by omega) (fun q0 g q1 q2 => by
      have := rsT_rng hL.1 (k := k + 1) (by omega) q1 q2
      rw [haf q0 g q1 q2]; omega)) (Nat.le_of_ble_eq_true rfl) (fun hM => ?_)
    refine ih (k + -1) _ (by omega) (by omega) ?_
    rw [show k + -1 + 1 = k by omega]
    exact hB.st hk2 hV
/-- between: the end stands, with 1 to i stand -/
def FW (M0 M : Mm) (i : Int) : Prop := Agr M0 M ∧ (∀ k f, M0 24 11 + M0 24 12 - 1 ≤ k → k ≤ M0 24 7 - 1 → 1 ≤ f → f ≤ 5 → M 35 (6 * k + f) = rsT M0 k f) ∧ ∀ f, 1 ≤ f → f ≤ i → M 37 f = wtX M0 f
theorem WX.agr {M0 Ma Mb : Mm} {x : Int} (h : WX M0 Ma Mb x) (hA : Agr M0 Ma) : Agr M0 Mb := fun c j hc => by rw [h.2.2.2 c j (by omega) (by omega) (by omega)]; exact hA c j hc
theorem z_tie_l2 {Φ : Option Vl → Ly → Mm → Prop} (hT : TOk M0) (hL : LOk M0)
    (kk : ∀ Mb, FW M0 Mb 5 → AJ 7 0 0 mM_findTie Φ 0 0 51 [some (.inr 24)] [] (S0 N) Mb) :
    ∀ (n i : Nat) (Mk : Mm), i + n = 5 → FW M0 Mk i → AJ 7 0 0 mM_findTie Φ 0 0 35 [some (.inr 24), some (.inl (i + 1))] [] (S0 N) Mk := by
  intro n
  obtain ⟨t1, t2, t3, t4⟩ := id hT
  have l4 := hL.2.2.2.1
  induction n with
  | zero =>
    intro i Mk hi hW
    have : i = 5 := by omega
    subst this
    refine aM_findTie [51] 30 (fun hM => ?_)
    exact ⟨by decide, AJ.wk (kk Mk hW) ⟨rfl, trivial⟩⟩
  | succ n ih =>
    intro i Mk hi hW
    obtain ⟨w1, w2, w3⟩ := hW
    have h2 := ih (i + 1)
    rw [show ((i + 1 : Nat) : Int) = (i : Int) + 1 by omega] at h2
    refine aM_findTie [35] 30 (fun hM => ?_)
    refine ⟨by omega, ite_i (fun q => by omega) (fun q => ?_)⟩
    refine ⟨6, _, (Nat.le_of_ble_eq_true rfl), z_findWith w1 hT hL (by omega) (by omega) (fun f q1 q2 => w2 _ f (by omega) (by omega) q1 q2), ?_⟩
    rintro r S' M' ⟨rfl, rfl, hX⟩ hM
    refine h2 M' (by omega) ⟨hX.agr w1, fun k f q1 q2 q3 q4 => ?_, fun f q1 q2 => ?_⟩
    · rw [hX.2.2.2 35 _ (by omega) (by omega) (by omega)]; exact w2 k f q1 q2 q3 q4
    · by_cases hf : f = i + 1
      · rw [hf]; exact hX.2.2.1
      · rw [hX.2.2.2 37 f (by omega) (by omega) (by omega)]; exact w3 f q1 (by omega)
theorem z_tie_l3 {Ma : Mm} {Φ : Option Vl → Ly → Mm → Prop} (hA : Agr M0 Ma) (hT : TOk M0) (hL : LOk M0) (hw : ∀ f, 1 ≤ f → f ≤ 5 → Ma 37 f = wtX M0 f)
    (kk : ∀ Mb, BK Ma Mb 0 (M0 24 10 - 1) (rsH M0) → Φ none (S0 N) Mb) :
    ∀ (n : Nat) (k : Int) (Mk : Mm), k + 1 = n → k ≤ M0 24 10 - 1 → BK Ma Mk (k + 1) (M0 24 10 - 1) (rsH M0) → AJ 7 0 0 mM_findTie Φ 0 0 58 [some (.inr 24), some (.inl k)] [] (S0 N) Mk := by
  intro n
  obtain ⟨t1, t2, t3, t4⟩ := id hT
  have l4 := hL.2.2.2.1
  induction n with
  | zero =>
    intro k Mk hk hk2 hB
    refine aM_findTie [] 30 (fun hM => ?_)
    refine ⟨by omega, ite_i (fun q => ?_) (fun q => by omega)⟩
    refine kk Mk ?_
    rw [show k + 1 = 0 by omega] at hB
    exact hB
  | succ n ih =>
    intro k Mk hk hk2 hB
    have hA1 := hB.agr hA
    have e12 := hA1 24 12 (by omega)
    have e10 := hA1 24 10 (by omega)
    have haf : ∀ g, 1 ≤ g → g ≤ 5 → aft Mk (k + 1) g = rsH M0 (k + 1) g := by
      intro g h1 h2
      unfold aft
      by_cases hkk : k + 1 = M0 24 10
      · rw [if_pos (by omega), hB.2 37 g (by omega), hw g h1 h2, hkk]
        unfold rsH; rw [bz_e]
      · rw [if_neg (by omega)]
        exact hB.1 (k + 1) g (by omega) (by omega) h1 h2
    have hV : ∀ f, 1 ≤ f → f ≤ 5 → bkV M0 Mk k f = rsH M0 k f := by
      intro f h1 h2
      unfold bkV rsH
      rw [if_neg (by omega), bz_s (by omega)]
      exact m5_congr (fun g q1 q2 => by rw [haf g q1 q2]; rfl)
    refine aM_findTie [58] 30 (fun hM => ?_)
    refine ⟨by omega, ite_i (fun q => by omega) (fun q => ?_)⟩
    refine CL.vo (z_back hA1 hL (by omega) (by omega) (fun q0 g q1 q2 => by
      have := rsH_rng hL.1 hT (k := k + 1) (by omega) q1 q2
      rw [haf g q1 q2]; omega)) (Nat.le_of_ble_eq_true rfl) (fun hM => ?_)
    refine ih (k + -1) _ (by omega) (by omega) ?_
    rw [show k + -1 + 1 = k by omega]
    exact hB.st hk2 hV
theorem z_findTie {M : Mm} (hA : Agr M0 M) (hT : TOk M0) (hL : LOk M0) : Ret 7 0 0 mM_findTie [.inr 24] (S0 N) M (fun r S' M' => r = none ∧ S' = S0 N ∧ Agr M0 M' ∧ FT M0 M') := by
  obtain ⟨t1, t2, t3, t4⟩ := id hT
  have l4 := hL.2.2.2.1
  have c51 : ∀ Mb, FW M0 Mb 5 → AJ 7 0 0 mM_findTie (fun r S' M' => r = none ∧ S' = S0 N ∧ Agr M0 M' ∧ FT M0 M') 0 0 51 [some (.inr 24)] [] (S0 N) Mb := by
    intro Mb hW
    obtain ⟨w1, w2, w3⟩ := hW
    have e10 := w1 24 10 (by omega)
    refine aM_findTie [58] 30 (fun hM => ?_)
    conv => whnf
    rw [e10]
    refine z_tie_l3 w1 hT hL w3 (fun Mc hB => ⟨rfl, rfl, hB.agr w1, fun k f q1 q2 q3 q4 => ?_, fun f q1 q2 => ?_, fun k f q1 q2 q3 q4 => hB.1 k f q1 q2 q3 q4⟩) (M0 24 10).toNat _ _ (by omega) (by omega) (BK.rf _ _ (by omega))
    · rw [hB.2 35 _ (by omega)]; exact w2 k f q1 q2 q3 q4
    · rw [hB.2 37 _ (by omega)]; exact w3 f q1 q2
  have c33 : ∀ Mb, BK M Mb (M0 24 11 + M0 24 12 - 1) (M0 24 7 - 1) (rsT M0) → AJ 7 0 0 mM_findTie (fun r S' M' => r = none ∧ S' = S0 N ∧ Agr M0 M' ∧ FT M0 M') 0 0 33 [some (.inr 24)] [] (S0 N) Mb := by
    intro Mb hB
    refine aM_findTie [35] 30 (fun hM => ?_)
    exact z_tie_l2 hT hL c51 5 0 Mb (by omega) ⟨hB.agr hA, fun k f q1 q2 q3 q4 => hB.1 k f q1 q2 q3 q4, fun f q1 q2 => by omega⟩
  have e7 := hA 24 7 (by omega)
  refine eM_findTie [7] 30 (Nat.le_of_ble_eq_true rfl) (fun hM => ?_)
  conv => whnf
  rw [e7]
  exact z_tie_l1 hA hT hL c33 (M0 24 7 - (M0 24 11 + M0 24 12 - 1)).toNat _ _ (by omega) (by omega) (BK.rf _ _ (by omega))
/-- the tables stand -/
def RT (M0 M : Mm) : Prop := Agr M0 M ∧ (0 < M0 24 12 → FT M0 M) ∧ (M0 24 12 = 0 → UT M0 M)
theorem RT.a0 {M : Mm} (h : RT M0 M) (ht : M0 24 12 = 0 ∨ TOk M0) (hL : LOk M0) (hn : 0 < M0 24 7) {f : Int} (hf0 : 1 ≤ f) (hf1 : f ≤ 5) : aft M 0 f = A0 M0 f := by
  obtain ⟨h1, h2, h3⟩ := h
  have e10 := h1 24 10 (by omega)
  have e12 := h1 24 12 (by omega)
  unfold aft A0
  rw [e10, e12]
  rcases ht with ht | ht
  · rw [if_neg (by omega), if_neg (by omega)]
    exact h3 ht 0 f (by omega) (by omega) hf0 hf1
  · obtain ⟨t1, t2, t3, t4⟩ := id ht
    obtain ⟨g1, g2, g3⟩ := h2 t1
    rw [if_pos t1]
    by_cases h0 : 0 = M0 24 10
    · rw [if_pos ⟨t1, h0⟩, g2 f hf0 hf1]
      unfold rsH; rw [← h0, bz_e]
    · rw [if_neg (fun q => h0 q.2)]
      exact g3 0 f (by omega) (by omega) hf0 hf1
theorem A0_rng (ht : M0 24 12 = 0 ∨ TOk M0) (hL : LOk M0) (hn : 0 < M0 24 7) {f : Int} (hf0 : 1 ≤ f) (hf1 : f ≤ 5) : 0 ≤ A0 M0 f ∧ A0 M0 f ≤ 1000000 := by
  unfold A0
  rcases ht with ht | ht
  · rw [if_neg (by omega)]; exact rsT_rng hL.1 (by omega) hf0 hf1
  · obtain ⟨t1, t2, t3, t4⟩ := id ht
    rw [if_pos t1]; exact rsH_rng hL.1 ht (by omega) hf0 hf1
theorem stC_rng (ht : M0 24 12 = 0 ∨ TOk M0) (hL : LOk M0) (hn : 0 < M0 24 7) {f : Int} (hf0 : 1 ≤ f) (hf1 : f ≤ 5) : 0 ≤ stC M0 f ∧ stC M0 f ≤ 1000020 := by
  have h1 := A0_rng ht hL hn hf0 hf1
  have h2 := ncv_rng hL.1 (M0 31 0) f
  unfold stC
  split
  · unfold ncM; omega
  · omega
theorem z_startCost {f : Int} {M : Mm} (h : RT M0 M) (ht : M0 24 12 = 0 ∨ TOk M0) (hL : LOk M0) (hn : 0 < M0 24 7) (hf0 : 1 ≤ f) (hf1 : f ≤ 5) : Ret 2 0 0 mM_startCost [.inr 24, .inl f] (S0 N) M (Pu (S0 N) M (stC M0 f)) := by
  have hA := h.1
  have e31 := hA.c 31 (by omega)
  have e30 := hA.c 30 (by omega)
  have hk := hL.2.2.2.2 0 (by omega) hn
  refine eM_startCost [] 30 (Nat.le_of_ble_eq_true rfl) (fun hM => ?_)
  refine CL.bl (z_isOf hA (by omega) (by omega)) (Nat.le_of_ble_eq_true rfl) (fun q => ?_) (fun q => ?_)
  · refine ⟨R32_1, by omega, CL.pu (z_noteCost (RuI.agr hA hL.1) (by rw [e31]; omega) (by rw [e31]; omega) (by omega)) (Nat.le_of_ble_eq_true rfl) ?_⟩
    refine CL.pu (z_after (by omega) (by omega) hf0 hf1) (Nat.le_of_ble_eq_true rfl) (pu_eq ?_)
    unfold stC ncM; rw [if_pos q, h.a0 ht hL hn hf0 hf1, e31, e30]
  · refine ⟨R32_0, pu_eq ?_⟩
    unfold stC; rw [if_neg q]
theorem z_start_loop {M : Mm} (h : RT M0 M) (ht : M0 24 12 = 0 ∨ TOk M0) (hL : LOk M0) (hn : 0 < M0 24 7) : ∀ (n : Nat) (g l : Int), g + n = 6 → 1 ≤ g → 0 ≤ l → l ≤ 1000000 → AJ 3 0 0 mM_leastStart (Pu (S0 N) M (mfr (stC M0) n g l)) 0 0 5 [some (.inr 24), some (.inl l), some (.inl g)] [] (S0 N) M := by
  intro n
  induction n with
  | zero =>
    intro g l hg hg1 hl0 hl1
    have : g = 6 := by omega
    subst this
    refine aM_leastStart [] 30 (fun hM => ?_)
    exact ⟨by decide, pu_eq rfl⟩
  | succ n ih =>
    intro g l hg hg1 hl0 hl1
    have hr := stC_rng ht hL hn hg1 (show g ≤ 5 by omega)
    refine aM_leastStart [5] 30 (fun hM => ?_)
    refine ⟨by omega, ite_i (fun q => by omega) (fun q => ?_)⟩
    refine CL.pu (z_startCost h ht hL hn hg1 (by omega)) (Nat.le_of_ble_eq_true rfl) ?_
    refine ⟨by omega, ite_i (fun q => ?_) (fun q => ?_)⟩
    · refine CL.pu (z_startCost h ht hL hn hg1 (by omega)) (Nat.le_of_ble_eq_true rfl) ?_
      have := ih (g + 1) (stC M0 g) (by omega) (by omega) (by omega) (by omega)
      unfold mfr mn
      rw [if_pos q]; exact this
    · have := ih (g + 1) l (by omega) (by omega) (by omega) (by omega)
      unfold mfr mn
      rw [if_neg q]; exact this
theorem z_leastStart {M : Mm} (h : RT M0 M) (ht : M0 24 12 = 0 ∨ TOk M0) (hL : LOk M0) (hn : 0 < M0 24 7) : Ret 3 0 0 mM_leastStart [.inr 24] (S0 N) M (Pu (S0 N) M (tot M0)) := by
  refine eM_leastStart [5] 30 (Nat.le_of_ble_eq_true rfl) (fun hM => ?_)
  exact z_start_loop h ht hL hn 5 1 1000000 (by omega) (by omega) (by omega) (by omega)
theorem tot_rng (ht : M0 24 12 = 0 ∨ TOk M0) (hL : LOk M0) (hn : 0 < M0 24 7) : 0 ≤ tot M0 ∧ tot M0 ≤ 1000000 := m5_rng (fun g h1 h2 => (stC_rng ht hL hn h1 h2).1)
theorem z_row_loop {Ma : Mm} {Φ : Option Vl → Ly → Mm → Prop} (hA : Agr M0 Ma) (ht : M0 24 12 = 0) (hL : LOk M0)
    (kk : ∀ Mb, BK Ma Mb 0 (M0 24 7 - 1) (rsT M0) → AJ 8 0 0 mM_leastRow Φ 0 0 49 [some (.inr 24)] [] (S0 N) Mb) :
    ∀ (n : Nat) (k : Int) (Mk : Mm), k + 1 = n → k ≤ M0 24 7 - 1 → BK Ma Mk (k + 1) (M0 24 7 - 1) (rsT M0) → AJ 8 0 0 mM_leastRow Φ 0 0 27 [some (.inr 24), some (.inl k)] [] (S0 N) Mk := by
  intro n
  have l4 := hL.2.2.2.1
  induction n with
  | zero =>
    intro k Mk hk hk2 hB
    refine aM_leastRow [49] 30 (fun hM => ?_)
    refine ⟨by omega, ite_i (fun q => ?_) (fun q => by omega)⟩
    refine AJ.wk (kk Mk ?_) ⟨rfl, trivial⟩
    rw [show k + 1 = 0 by omega] at hB
    exact hB
  | succ n ih =>
    intro k Mk hk hk2 hB
    have hA1 := hB.agr hA
    have e12 := hA1 24 12 (by omega)
    have haf : k + 1 < M0 24 7 → ∀ g, 1 ≤ g → g ≤ 5 → aft Mk (k + 1) g = rsT M0 (k + 1) g := by
      intro hk3 g h1 h2
      unfold aft
      rw [if_neg (by omega)]
      exact hB.1 (k + 1) g (by omega) (by omega) h1 h2
    have hV : ∀ f, 1 ≤ f → f ≤ 5 → bkV M0 Mk k f = rsT M0 k f := by
      intro f h1 h2
      unfold bkV rsT
      by_cases hl : k = M0 24 7 - 1
      · rw [if_pos hl, hl, bz_e]
      · rw [if_neg hl, bz_s (by omega)]
        exact m5_congr (fun g q1 q2 => by rw [haf (by omega) g q1 q2]; rfl)
    refine aM_leastRow [27] 30 (fun hM => ?_)
    refine ⟨by omega, ite_i (fun q => by omega) (fun q => ?_)⟩
    refine ⟨by omega, ite_i (fun q => ?_) (fun q => by omega)⟩
    refine CL.vo (z_back hA1 hL (by omega) (by omega) (fun q0 g q1 q2 => by
      have := rsT_rng hL.1 (k := k + 1) (by omega) q1 q2
      rw [haf q0 g q1 q2]; omega)) (Nat.le_of_ble_eq_true rfl) (fun hM => ?_)
    refine ih (k + -1) _ (by omega) (by omega) ?_
    rw [show k + -1 + 1 = k by omega]
    exact hB.st hk2 hV
theorem z_leastRow {M : Mm} (hA : Agr M0 M) (ht : M0 24 12 = 0 ∨ TOk M0) (hL : LOk M0) : Ret 8 0 0 mM_leastRow [.inr 24] (S0 N) M (fun r S' M' => r = some (.inl (lrV M0)) ∧ S' = S0 N ∧ Agr M0 M' ∧ (0 < M0 24 7 → RT M0 M')) := by
  have l3 := hL.2.2.1
  have l4 := hL.2.2.2.1
  have e7 := hA 24 7 (by omega)
  have e12 := hA 24 12 (by omega)
  have c49 : 0 < M0 24 7 → ∀ Mb, RT M0 Mb → AJ 8 0 0 mM_leastRow (fun r S' M' => r = some (.inl (lrV M0)) ∧ S' = S0 N ∧ Agr M0 M' ∧ (0 < M0 24 7 → RT M0 M')) 0 0 49 [some (.inr 24)] [] (S0 N) Mb := by
    intro hn Mb hR
    have tr := tot_rng ht hL hn
    refine aM_leastRow [] 30 (fun hM => ?_)
    refine CL.pu (z_leastStart hR ht hL hn) (Nat.le_of_ble_eq_true rfl) ?_
    refine ⟨by omega, ite_i (fun q => ?_) (fun q => ?_)⟩
    · refine ⟨?_, rfl, hR.1, fun _ => hR⟩
      unfold lrV; rw [if_neg (by omega), if_pos q]
    · refine ⟨?_, rfl, hR.1, fun _ => hR⟩
      unfold lrV; rw [if_neg (by omega), if_neg q]
  refine eM_leastRow [27] 30 (Nat.le_of_ble_eq_true rfl) (fun hM => ?_)
  refine ⟨by omega, ite_i (fun q => ?_) (fun q => ?_)⟩
  · refine ⟨?_, rfl, hA, fun h => by omega⟩
    unfold lrV; rw [if_pos (by omega)]
  · refine ⟨hM _ _, ite_i (fun q2 => ?_) (fun q2 => ?_)⟩
    · have hT : TOk M0 := by
        rcases ht with ht | ht
        · omega
        · exact ht
      refine ⟨7, _, (Nat.le_of_ble_eq_true rfl), z_findTie hA hT hL, ?_⟩
      rintro r S' M' ⟨rfl, rfl, hA', hF⟩ hM'
      have e7' := hA' 24 7 (by omega)
      have e12' := hA' 24 12 (by omega)
      conv => whnf
      rw [e7']
      have hg := c49 (by omega) M' ⟨hA', fun _ => hF, fun h => by omega⟩
      have l27 : AJ 8 0 0 mM_leastRow (fun r S' M' => r = some (.inl (lrV M0)) ∧ S' = S0 N ∧ Agr M0 M' ∧ (0 < M0 24 7 → RT M0 M')) 0 0 27 [some (.inr 24), some (.inl (M0 24 7 - 1))] [] (S0 N) M' := by
        refine aM_leastRow [49] 30 (fun hM => ?_)
        refine ⟨by omega, ite_i (fun q => by omega) (fun q => ?_)⟩
        refine ⟨hM _ _, ite_i (fun q => by omega) (fun q => ?_)⟩
        exact AJ.wk hg ⟨rfl, trivial⟩
      exact l27
    · have h0 : M0 24 12 = 0 := by
        rcases ht with ht | ht
        · exact ht
        · have := ht.1; omega
      conv => whnf
      rw [e7]
      exact z_row_loop hA h0 hL (fun Mb hB => c49 (by omega) Mb ⟨hB.agr hA, fun h => by omega, fun _ k f q1 q2 q3 q4 => hB.1 k f q1 q2 q3 q4⟩) (M0 24 7).toNat _ _ (by omega) (by omega) (BK.rf _ _ (by omega))
end Row
end
section
/-! ===== ties of the reference; what leastOfHand answers ===== -/
def TieI (M : Mm) : Prop := ∀ h, h = 0 ∨ h = 1 → M 40 h = -9 ∨ (0 ≤ M 40 h ∧ M 40 h ≤ 28 ∧ 1 ≤ M 42 h ∧ M 42 h ≤ 15 ∧ M 40 h + M 42 h ≤ M 41 h ∧ M 41 h ≤ 29)
abbrev thd (M : Mm) (h : Int) : Prop := M 40 h ≠ -9 ∧ M 41 h + M 42 h ≤ cnt (fK M h) 30
theorem z_doesTieHold {N : Nat} {h : Int} {M : Mm} (hh : h = 0 ∨ h = 1) (hT : TieI M) : Ret 1 0 0 mM_doesTieHold [.inr 24, .inl h] (S0 N) M (Pu (S0 N) M (bi (thd M h))) := by
  have hr := cnt_rng (fK M h) 30
  have ht := hT h hh
  refine eM_doesTieHold [] 40 (Nat.le_of_ble_eq_true rfl) (fun hM => ?_)
  refine ⟨by omega, ⟨hM _ _, by decide⟩, ite_i (fun q => ?_) (fun q => ?_)⟩
  · exact ⟨Or.inl rfl, pu_eq (bi_f (fun h => h.1 q)).symm⟩
  · refine CL.pu (z_notesOf hh) (Nat.le_of_ble_eq_true rfl) ?_
    refine ⟨by omega, by omega, by omega, ite_i (fun q2 => ?_) (fun q2 => ?_)⟩
    · exact ⟨Or.inl rfl, pu_eq (bi_f (fun h => by have := h.2; omega)).symm⟩
    · exact ⟨Or.inr rfl, pu_eq (bi_t ⟨q, by omega⟩).symm⟩
theorem cnt_fr {M M' : Mm} {h : Int} (e : ∀ j, M' 25 j = M 25 j) : cnt (fK M' h) 30 = cnt (fK M h) 30 := cnt_congr 30 (fun m _ => e _)
theorem z_layTie {N : Nat} {h : Int} {M : Mm} (hh : h = 0 ∨ h = 1) (hT : TieI M) : Ret 2 0 0 mM_layTie [.inr 24, .inl h] (S0 N) M (Vo (S0 N) (mset (mset (mset M 24 10 (M 40 h)) 24 11 (M 41 h)) 24 12 (if thd M h then M 42 h else 0))) := by
  have f : ∀ c j, c ≠ 24 → (mset (mset M 24 10 (M 40 h)) 24 11 (M 41 h)) c j = M c j := fun c j hc => by rw [mset_ne (by omega), mset_ne (by omega)]
  have hT2 : TieI (mset (mset M 24 10 (M 40 h)) 24 11 (M 41 h)) := by
    intro h' hh'
    rw [f 40 _ (by omega), f 41 _ (by omega), f 42 _ (by omega)]; exact hT h' hh'
  have he : thd (mset (mset M 24 10 (M 40 h)) 24 11 (M 41 h)) h ↔ thd M h := by
    unfold thd
    rw [f 40 _ (by omega), f 41 _ (by omega), f 42 _ (by omega), cnt_fr (M := M) (fun j => f 25 j (by omega))]
  have g41 : (mset M 24 10 (M 40 h)) 41 h = M 41 h := mset_ne (by omega)
  refine eM_layTie [] 40 (Nat.le_of_ble_eq_true rfl) (fun hM => ?_)
  refine ⟨by omega, ⟨hM _ _, trivial⟩, by omega, ⟨by rw [g41]; exact hM _ _, trivial⟩, ?_⟩
  rw [g41]
  refine CL.bl (z_doesTieHold hh hT2) (Nat.le_of_ble_eq_true rfl) (fun q => ?_) (fun q => ?_)
  · refine ⟨R32_1, by omega, ⟨by rw [f 42 _ (by omega)]; exact hM _ _, trivial⟩, vo_eq ?_⟩
    rw [f 42 _ (by omega), if_pos (he.mp q)]
  · refine ⟨R32_0, ⟨by decide, trivial⟩, vo_eq ?_⟩
    rw [if_neg (fun z => q (he.mpr z))]
/-! the same data give the same tables -/
def DEq (M M' : Mm) : Prop := M' 24 6 = M 24 6 ∧ M' 24 7 = M 24 7 ∧ M' 24 12 = M 24 12 ∧ (0 < M 24 12 → M' 24 10 = M 24 10 ∧ M' 24 11 = M 24 11) ∧ (∀ k, 0 ≤ k → k < M 24 7 → M' 31 k = M 31 k ∧ M' 32 k = M 32 k) ∧ M' 27 = M 27 ∧ M' 28 = M 28 ∧ M' 29 = M 29 ∧ M' 30 = M 30
theorem bz_congr {w w' : Int → Int → Int → Int} {e lo : Int} {T T' : Int → Int} (hw : ∀ k f g, lo ≤ k → k < e → 1 ≤ f → f ≤ 5 → 1 ≤ g → g ≤ 5 → w' k f g = w k f g) (hT : ∀ f, 1 ≤ f → f ≤ 5 → T' f = T f) {k f : Int} (h0 : lo ≤ k) (h1 : k ≤ e) (hf0 : 1 ≤ f) (hf1 : f ≤ 5) : bz w' e T' k f = bz w e T k f := by
  have key : ∀ (d : Nat), (d : Int) ≤ e - lo → ∀ f, 1 ≤ f → f ≤ 5 → bv w' e T' d f = bv w e T d f := by
    intro d
    induction d with
    | zero => intro _ f h1 h2; exact hT f h1 h2
    | succ d ih =>
      intro hd f h1 h2
      unfold bv
      exact m5_congr (fun g q1 q2 => by rw [hw _ f g (by omega) (by omega) h1 h2 q1 q2, ih (by omega) g q1 q2])
  unfold bz
  exact key _ (by omega) f hf0 hf1
section Eq
variable {M M' : Mm}
theorem de_go (h : DEq M M') {k f g : Int} (h0 : 0 ≤ k) (h1 : k + 1 < M 24 7) : goM M' k f g = goM M k f g ∧ stM M' k f g = stM M k f g := by
  obtain ⟨e6, e7, e12, e10, ek, r7, r8, r9, r0⟩ := h
  have a1 := ek k h0 (by omega)
  have a2 := ek (k + 1) (by omega) h1
  unfold goM okM ncM stM
  rw [a1.1, a2.1, a2.2, e6, r7, r8, r9, r0]
  exact ⟨rfl, rfl⟩
theorem de_ok (h : DEq M M') {k f : Int} (h0 : 0 ≤ k) (h1 : k < M 24 7) : M' 32 k = M 32 k ∧ ncM M' k f = ncM M k f := by
  obtain ⟨e6, e7, e12, e10, ek, r7, r8, r9, r0⟩ := h
  have a1 := ek k h0 h1
  unfold ncM
  rw [a1.1, a1.2, r0]
  exact ⟨rfl, rfl⟩
theorem de_rsT (h : DEq M M') {k f : Int} (h0 : 0 ≤ k) (h1 : k ≤ M 24 7 - 1) (hf0 : 1 ≤ f) (hf1 : f ≤ 5) : rsT M' k f = rsT M k f := by
  unfold rsT
  rw [h.2.1]
  exact bz_congr (lo := 0) (fun k f g q1 q2 _ _ _ _ => (de_go h q1 (by omega)).1) (fun _ _ _ => rfl) h0 h1 hf0 hf1
theorem de_rsX (h : DEq M M') (hT : TOk M) {x k f : Int} (h0 : 0 ≤ k) (h1 : k ≤ M 24 11 - 1) (hf0 : 1 ≤ f) (hf1 : f ≤ 5) : rsX M' x k f = rsX M x k f := by
  obtain ⟨t1, t2, t3, t4⟩ := id hT
  have e := h.2.2.2.1 t1
  unfold rsX
  rw [e.2]
  exact bz_congr (lo := 0) (fun k f g q1 q2 _ _ _ _ => (de_go h q1 (by omega)).1) (fun f _ _ => (de_go (f := f) (g := x) h (k := M 24 11 - 1) (by omega) (by omega)).2) h0 h1 hf0 hf1
theorem de_js (h : DEq M M') (hT : TOk M) {k f g : Int} (h0 : 0 ≤ k) (h1 : k + 1 < M 24 12) : jsM M' k f g = jsM M k f g := by
  obtain ⟨t1, t2, t3, t4⟩ := id hT
  have e := h.2.2.2.1 t1
  unfold jsM okM
  rw [e.1, e.2, (de_ok h (k := M 24 10 + (k + 1)) (f := g) (by omega) (by omega)).1, (de_ok h (k := M 24 11 + (k + 1)) (f := g) (by omega) (by omega)).1, (de_go h (k := M 24 10 + k) (by omega) (by omega)).1, (de_go h (k := M 24 11 + k) (by omega) (by omega)).1]
theorem de_jtX (h : DEq M M') (hT : TOk M) {x k f : Int} (h0 : 0 ≤ k) (h1 : k ≤ M 24 12 - 1) (hf0 : 1 ≤ f) (hf1 : f ≤ 5) : jtX M' x k f = jtX M x k f := by
  obtain ⟨t1, t2, t3, t4⟩ := id hT
  have e := h.2.2.2.1 t1
  unfold jtX
  rw [h.2.2.1, e.1, e.2]
  exact bz_congr (lo := 0) (fun k f g q1 q2 _ _ _ _ => de_js h hT q1 (by omega)) (fun f q1 q2 => by rw [de_rsX h hT (by omega) (by omega) q1 q2, de_rsT h (by omega) (by omega) q1 q2]) h0 h1 hf0 hf1
theorem de_wtX (h : DEq M M') (hT : TOk M) {x : Int} (hx0 : 1 ≤ x) (hx1 : x ≤ 5) : wtX M' x = wtX M x := by
  obtain ⟨t1, t2, t3, t4⟩ := id hT
  have e := h.2.2.2.1 t1
  unfold wtX okM
  rw [e.1, e.2, (de_ok h (k := M 24 10) (f := x) (by omega) (by omega)).1, (de_ok h (k := M 24 11) (f := x) (by omega) (by omega)).1, (de_ok h (k := M 24 11) (f := x) (by omega) (by omega)).2, de_jtX h hT (by omega) (by omega) hx0 hx1]
theorem de_rsH (h : DEq M M') (hT : TOk M) {k f : Int} (h0 : 0 ≤ k) (h1 : k ≤ M 24 10) (hf0 : 1 ≤ f) (hf1 : f ≤ 5) : rsH M' k f = rsH M k f := by
  obtain ⟨t1, t2, t3, t4⟩ := id hT
  have e := h.2.2.2.1 t1
  unfold rsH
  rw [e.1]
  exact bz_congr (lo := 0) (fun k f g q1 q2 _ _ _ _ => (de_go h q1 (by omega)).1) (fun f q1 q2 => de_wtX h hT q1 q2) h0 h1 hf0 hf1
theorem de_lrV (h : DEq M M') (ht : M 24 12 = 0 ∨ TOk M) (h0 : 0 ≤ M 24 7) : lrV M' = lrV M := by
  unfold lrV
  rw [h.2.1]
  by_cases hn : M 24 7 = 0
  · rw [if_pos hn, if_pos hn]
  · rw [if_neg hn, if_neg hn]
    have e : tot M' = tot M := by
      unfold tot
      refine m5_congr (fun f q1 q2 => ?_)
      have eo := de_ok h (k := 0) (f := f) (by omega) (by omega)
      unfold stC okM
      rw [eo.1, eo.2]
      have ea : A0 M' f = A0 M f := by
        unfold A0
        rw [h.2.2.1]
        rcases ht with ht | ht
        · rw [if_neg (by omega), if_neg (by omega)]; exact de_rsT h (by omega) (by omega) q1 q2
        · have t := ht.1
          rw [if_pos t, if_pos t]
          exact de_rsH h ht (by omega) ht.2.1 q1 q2
      rw [ea]
    rw [e]
end Eq
/-- what is laid out of hand h -/
def LM (M : Mm) (h : Int) : Mm := fun c j =>
  if c = 31 then M 25 (30 * h + nmo (fK M h) j 30)
  else if c = 32 then cod (M 26 (30 * h + nmo (fK M h) j 30))
  else if c = 24 then (if j = 6 then h else if j = 7 then cnt (fK M h) 30 else if j = 10 then M 40 h else if j = 11 then M 41 h else if j = 12 then (if thd M h then M 42 h else 0) else M 24 j)
  else M c j
section LMs
variable {M : Mm} {h : Int}
theorem LM_6 : LM M h 24 6 = h := by simp [LM]
theorem LM_7 : LM M h 24 7 = cnt (fK M h) 30 := by simp [LM]
theorem LM_10 : LM M h 24 10 = M 40 h := by simp [LM]
theorem LM_11 : LM M h 24 11 = M 41 h := by simp [LM]
theorem LM_12 : LM M h 24 12 = (if thd M h then M 42 h else 0) := by simp [LM]
theorem LM_31 (k : Int) : LM M h 31 k = M 25 (30 * h + nmo (fK M h) k 30) := by simp [LM]
theorem LM_32 (k : Int) : LM M h 32 k = cod (M 26 (30 * h + nmo (fK M h) k 30)) := by simp [LM]
theorem LM_o (c : Nat) (hc : c ≠ 24 ∧ c ≠ 31 ∧ c ≠ 32) : LM M h c = M c := by funext j; simp [LM, hc.1, hc.2.1, hc.2.2]
theorem LM_ok (hh : h = 0 ∨ h = 1) (hR : RuI M) (hK : KyI M) : LOk (LM M h) := by
  have hr := cnt_rng (fK M h) 30
  refine ⟨?_, ?_, ?_, ?_, fun k h0 h1 => ?_⟩
  · unfold RuI at *
    rw [LM_o 3 (by omega), LM_o 4 (by omega), LM_o 27 (by omega), LM_o 28 (by omega), LM_o 29 (by omega), LM_o 30 (by omega)]
    exact hR
  · rw [LM_6]; exact hh
  · rw [LM_7]; omega
  · rw [LM_7]; omega
  · rw [LM_7] at h1
    have := nmo_ok h0 h1
    rw [LM_31]
    have hk := hK (30 * h + nmo (fK M h) k 30) (by omega) (by omega)
    have hne : M 25 (30 * h + nmo (fK M h) k 30) ≠ -9 := this.2.2.1
    omega
theorem LM_tie (hh : h = 0 ∨ h = 1) (hT : TieI M) : LM M h 24 12 = 0 ∨ TOk (LM M h) := by
  rw [LM_12]
  have ht := hT h hh
  by_cases hc : thd M h
  · right
    unfold TOk
    rw [LM_12, LM_10, LM_11, LM_7, if_pos hc]
    have := hc.1
    have := hc.2
    omega
  · left; rw [if_neg hc]
end LMs
/-- what the best row of hand h costs -/
def bst (M : Mm) (h : Int) : Int := lrV (LM M h)
/-- scratch of the reference: rows that are laid out anew each time -/
abbrev scM (c : Nat) (j : Int) : Prop := (31 ≤ c ∧ c ≤ 37) ∨ (c = 24 ∧ (j = 6 ∨ j = 7 ∨ j = 10 ∨ j = 11 ∨ j = 12))
def FrM (M M' : Mm) : Prop := ∀ c j, ¬ scM c j → M' c j = M c j
theorem laid_de {M M1 : Mm} {h : Int} (hh : h = 0 ∨ h = 1) (hl : Laid M M1 h) : DEq (LM M h) (mset (mset (mset M1 24 10 (M1 40 h)) 24 11 (M1 41 h)) 24 12 (if thd M1 h then M1 42 h else 0)) ∧ FrM M (mset (mset (mset M1 24 10 (M1 40 h)) 24 11 (M1 41 h)) 24 12 (if thd M1 h then M1 42 h else 0)) := by
  obtain ⟨l1, l2, l3, l4⟩ := hl
  have f : ∀ c, c ≠ 24 → c ≠ 31 → c ≠ 32 → M1 c = M c := fun c h1 h2 h3 => by funext j; exact l4 c j (by omega)
  have ht : thd M1 h ↔ thd M h := by unfold thd; rw [f 40 (by omega) (by omega) (by omega), f 41 (by omega) (by omega) (by omega), f 42 (by omega) (by omega) (by omega), cnt_fr (M := M) (fun j => by rw [f 25 (by omega) (by omega) (by omega)])]
  have hif : (if thd M1 h then M1 42 h else 0) = (if thd M h then M 42 h else 0) := by
    by_cases hc : thd M h
    · rw [if_pos hc, if_pos (ht.mpr hc), f 42 (by omega) (by omega) (by omega)]
    · rw [if_neg hc, if_neg (fun z => hc (ht.mp z))]
  refine ⟨⟨?_, ?_, ?_, fun _ => ⟨?_, ?_⟩, fun k h0 h1 => ?_, ?_, ?_, ?_, ?_⟩, fun c j hs => ?_⟩
  · rw [LM_6, mset_ne (by omega), mset_ne (by omega), mset_ne (by omega)]; exact l1
  · rw [LM_7, mset_ne (by omega), mset_ne (by omega), mset_ne (by omega)]; exact l2
  · rw [LM_12, mset_eq]; exact hif
  · rw [LM_10, mset_ne (by omega), mset_ne (by omega), mset_eq, f 40 (by omega) (by omega) (by omega)]
  · rw [LM_11, mset_ne (by omega), mset_eq, f 41 (by omega) (by omega) (by omega)]
  · rw [LM_7] at h1
    obtain ⟨m, a, b, c⟩ := nmo_ex h0 h1
    have h3 := l3 m a b
    rw [c] at h3
    rw [LM_31, LM_32, nmo_is a b c]
    refine ⟨?_, ?_⟩
    · rw [mset_ne (by omega), mset_ne (by omega), mset_ne (by omega)]; exact h3.1
    · rw [mset_ne (by omega), mset_ne (by omega), mset_ne (by omega)]; exact h3.2
  · rw [LM_o 27 (by omega)]; funext j; rw [mset_ne (by omega), mset_ne (by omega), mset_ne (by omega)]; exact l4 _ _ (by omega)
  · rw [LM_o 28 (by omega)]; funext j; rw [mset_ne (by omega), mset_ne (by omega), mset_ne (by omega)]; exact l4 _ _ (by omega)
  · rw [LM_o 29 (by omega)]; funext j; rw [mset_ne (by omega), mset_ne (by omega), mset_ne (by omega)]; exact l4 _ _ (by omega)
  · rw [LM_o 30 (by omega)]; funext j; rw [mset_ne (by omega), mset_ne (by omega), mset_ne (by omega)]; exact l4 _ _ (by omega)
  · rw [mset_ne (by omega), mset_ne (by omega), mset_ne (by omega)]; exact l4 c j (by omega)
theorem LOk.de {M M' : Mm} (h : DEq M M') (hL : LOk M) (hR : RuI M') : LOk M' := by
  obtain ⟨l1, l2, l3, l4, l5⟩ := hL
  refine ⟨hR, by rw [h.1]; exact l2, by rw [h.2.1]; exact l3, by rw [h.2.1]; exact l4, fun k h0 h1 => ?_⟩
  rw [h.2.1] at h1
  rw [(h.2.2.2.2.1 k h0 h1).1]; exact l5 k h0 h1
theorem tie_de {M M' : Mm} (h : DEq M M') (ht : M 24 12 = 0 ∨ TOk M) : M' 24 12 = 0 ∨ TOk M' := by
  rcases ht with ht | ht
  · left; rw [h.2.2.1]; exact ht
  · right
    have e := h.2.2.2.1 ht.1
    unfold TOk
    rw [h.2.2.1, e.1, e.2, h.2.1]; exact ht
/-- what must hold of a state of the reference -/
def MI (M : Mm) : Prop := RuI M ∧ KyI M ∧ TieI M
theorem MI.fr {M M' : Mm} (h : MI M) (hF : FrM M M') : MI M' := by
  have f : ∀ c, c < 31 → c ≠ 24 → M' c = M c := fun c h1 h2 => by funext j; exact hF c j (by omega)
  have g : ∀ c, 37 < c → M' c = M c := fun c h1 => by funext j; exact hF c j (by omega)
  obtain ⟨h1, h2, h3⟩ := h
  refine ⟨?_, ?_, ?_⟩
  · unfold RuI at *; rw [f 3 (by omega) (by omega), f 4 (by omega) (by omega), f 27 (by omega) (by omega), f 28 (by omega) (by omega), f 29 (by omega) (by omega), f 30 (by omega) (by omega)]; exact h1
  · unfold KyI at *; rw [f 25 (by omega) (by omega), f 26 (by omega) (by omega)]; exact h2
  · unfold TieI at *; rw [g 40 (by omega), g 41 (by omega), g 42 (by omega)]; exact h3
theorem z_leastOfHand {N : Nat} {h : Int} {M : Mm} (hh : h = 0 ∨ h = 1) (hI : MI M) : Ret 9 0 0 mM_leastOfHand [.inr 24, .inl h] (S0 N) M (fun r S' M' => r = some (.inl (bst M h)) ∧ S' = S0 N ∧ FrM M M' ∧ ∃ M2, DEq (LM M h) M2 ∧ FrM M M2 ∧ Agr M2 M' ∧ (0 < M2 24 7 → RT M2 M')) := by
  obtain ⟨i1, i2, i3⟩ := id hI
  refine eM_leastOfHand [] 30 (Nat.le_of_ble_eq_true rfl) (fun hM => ?_)
  refine ⟨0, _, (Nat.le_of_ble_eq_true rfl), z_layNotes hh i2, ?_⟩
  rintro r S' M1 ⟨rfl, rfl, hl⟩ hM1
  have hI1 : MI M1 := hI.fr (fun c j hs => hl.2.2.2 c j (by omega))
  refine CL.vo (z_layTie hh hI1.2.2) (Nat.le_of_ble_eq_true rfl) (fun hM2 => ?_)
  obtain ⟨d1, d2⟩ := laid_de hh hl
  generalize (mset (mset (mset M1 24 10 (M1 40 h)) 24 11 (M1 41 h)) 24 12 (if thd M1 h then M1 42 h else 0)) = M2 at d1 d2 hM2
  have hL0 := LM_ok hh i1 i2
  have ht0 := LM_tie hh i3
  refine ⟨8, _, (Nat.le_of_ble_eq_true rfl), z_leastRow (M0 := M2) (fun c j _ => rfl) (tie_de d1 ht0) (hL0.de d1 (hI.fr d2).1), ?_⟩
  rintro r S' M3 ⟨rfl, rfl, hA, hR⟩ hM3
  refine ⟨?_, rfl, fun c j hs => ?_, M2, d1, d2, hA, hR⟩
  · rw [de_lrV d1 ht0 hL0.2.2.1]; rfl
  · rw [hA c j (by omega)]; exact d2 c j hs
end
section
/-! ===== the least finger that reaches a value ===== -/
def Fst (φ : Int → Int) (v g : Int) : Prop := 1 ≤ g ∧ g ≤ 5 ∧ φ g = v ∧ ∀ i, 1 ≤ i → i < g → φ i ≠ v
theorem Fst.uniq {φ : Int → Int} {v g g' : Int} (h : Fst φ v g) (h' : Fst φ v g') : g = g' := by
  rcases Int.lt_trichotomy g g' with q | q | q
  · exact absurd h.2.2.1 (h'.2.2.2 g h.1 q)
  · exact q
  · exact absurd h'.2.2.1 (h.2.2.2 g' h'.1 q)
theorem Fst.congr {φ ψ : Int → Int} {v g : Int} (h : Fst φ v g) (he : ∀ g, 1 ≤ g → g ≤ 5 → φ g = ψ g) : Fst ψ v g := ⟨h.1, h.2.1, by rw [← he g h.1 h.2.1]; exact h.2.2.1, fun i h1 h2 => by rw [← he i h1 (by have := h.2.1; omega)]; exact h.2.2.2 i h1 h2⟩
theorem Fst.of {φ : Int → Int} {v g : Int} (h0 : 1 ≤ g) (h1 : g ≤ 5) (h : φ g = v) : ∃ g', Fst φ v g' := by
  by_cases c1 : φ 1 = v
  · exact ⟨1, by omega, by omega, c1, fun i h1 h2 => by omega⟩
  by_cases c2 : φ 2 = v
  · exact ⟨2, by omega, by omega, c2, fun i h1 h2 => by rw [show i = 1 by omega]; exact c1⟩
  by_cases c3 : φ 3 = v
  · refine ⟨3, by omega, by omega, c3, fun i h1 h2 => ?_⟩
    rcases (show i = 1 ∨ i = 2 by omega) with rfl | rfl <;> assumption
  by_cases c4 : φ 4 = v
  · refine ⟨4, by omega, by omega, c4, fun i h1 h2 => ?_⟩
    rcases (show i = 1 ∨ i = 2 ∨ i = 3 by omega) with rfl | rfl | rfl <;> assumption
  · have : g = 5 := by
      rcases (show g = 1 ∨ g = 2 ∨ g = 3 ∨ g = 4 ∨ g = 5 by omega) with rfl | rfl | rfl | rfl | rfl
      · exact absurd h c1
      · exact absurd h c2
      · exact absurd h c3
      · exact absurd h c4
      · rfl
    subst this
    refine ⟨5, by omega, by omega, h, fun i h1 h2 => ?_⟩
    rcases (show i = 1 ∨ i = 2 ∨ i = 3 ∨ i = 4 by omega) with rfl | rfl | rfl | rfl <;> assumption
theorem mfr_at {φ : Int → Int} : ∀ (n : Nat) (g l : Int), mfr φ n g l = l ∨ ∃ i, g ≤ i ∧ i < g + n ∧ φ i = mfr φ n g l := by
  intro n
  induction n with
  | zero => intro g l; exact Or.inl rfl
  | succ n ih =>
    intro g l
    unfold mfr
    rcases ih (g + 1) (mn (φ g) l) with h | ⟨i, h1, h2, h3⟩
    · rw [h]
      unfold mn
      split
      · right; exact ⟨g, by omega, by omega, rfl⟩
      · left; rfl
    · right; exact ⟨i, by omega, by omega, h3⟩
theorem m5_at {φ : Int → Int} (h : m5 φ < 1000000) : ∃ g, Fst φ (m5 φ) g := by
  rcases mfr_at (φ := φ) 5 1 1000000 with q | ⟨i, h1, h2, h3⟩
  · unfold m5 at h; omega
  · exact Fst.of h1 (by omega) h3
theorem mfr_le {φ : Int → Int} : ∀ (n : Nat) (g l : Int), mfr φ n g l ≤ l ∧ ∀ i, g ≤ i → i < g + n → mfr φ n g l ≤ φ i := by
  intro n
  induction n with
  | zero => intro g l; exact ⟨Int.le_refl _, fun i h1 h2 => by omega⟩
  | succ n ih =>
    intro g l
    unfold mfr
    obtain ⟨h1, h2⟩ := ih (g + 1) (mn (φ g) l)
    have h3 : mn (φ g) l ≤ l ∧ mn (φ g) l ≤ φ g := by unfold mn; split <;> omega
    refine ⟨by omega, fun i q1 q2 => ?_⟩
    by_cases hi : i = g
    · subst hi; omega
    · exact h2 i (by omega) (by omega)
theorem m5_le {φ : Int → Int} {g : Int} (h1 : 1 ≤ g) (h2 : g ≤ 5) : m5 φ ≤ φ g := (mfr_le 5 1 1000000).2 g h1 (by omega)
/-! ===== the best row, said of any fingers p ===== -/
def rowT (M : Mm) (p : Int → Int) (lo : Int) : Prop := ∀ k, lo ≤ k → k < M 24 7 - 1 → Fst (fun g => goM M k (p k) g + rsT M (k + 1) g) (rsT M k (p k)) (p (k + 1))
def BR (M : Mm) (p : Int → Int) : Prop := Fst (stC M) (tot M) (p 0) ∧ (M 24 12 = 0 → rowT M p 0) ∧
  (0 < M 24 12 → (∀ k, 0 ≤ k → k < M 24 10 → Fst (fun g => goM M k (p k) g + rsH M (k + 1) g) (rsH M k (p k)) (p (k + 1))) ∧
    (∀ k, 0 ≤ k → k < M 24 12 - 1 → Fst (fun g => jsM M k (p (M 24 10 + k)) g + jtX M (p (M 24 10)) (k + 1) g) (jtX M (p (M 24 10)) k (p (M 24 10 + k))) (p (M 24 10 + k + 1))) ∧
    (∀ k, M 24 10 + M 24 12 - 1 ≤ k → k < M 24 11 - 1 → Fst (fun g => goM M k (p k) g + rsX M (p (M 24 10)) (k + 1) g) (rsX M (p (M 24 10)) k (p k)) (p (k + 1))) ∧
    (∀ k, 0 ≤ k → k < M 24 12 → p (M 24 11 + k) = p (M 24 10 + k)) ∧ rowT M p (M 24 11 + M 24 12 - 1))
theorem chain_uniq {p p' : Int → Int} {lo hi : Int} {φ : Int → Int → Int → Int} {v : Int → Int → Int} (h0 : p lo = p' lo) (h : ∀ k, lo ≤ k → k < hi → Fst (φ k (p k)) (v k (p k)) (p (k + 1))) (h' : ∀ k, lo ≤ k → k < hi → Fst (φ k (p' k)) (v k (p' k)) (p' (k + 1))) : ∀ k, lo ≤ k → k ≤ hi → p k = p' k := by
  have key : ∀ n : Nat, lo + n ≤ hi → p (lo + n) = p' (lo + n) := by
    intro n
    induction n with
    | zero => intro _; simpa using h0
    | succ n ih =>
      intro hn
      have e := ih (by omega)
      have h1 := h (lo + n) (by omega) (by omega)
      have h2 := h' (lo + n) (by omega) (by omega)
      rw [← e] at h2
      have := h1.uniq h2
      rw [show lo + n + 1 = lo + ((n + 1 : Nat) : Int) by omega] at this
      exact this
  intro k h1 h2
  have := key (k - lo).toNat (by omega)
  rw [show lo + ((k - lo).toNat : Int) = k by omega] at this
  exact this
theorem BR.uniq {M : Mm} {p p' : Int → Int} (ht : M 24 12 = 0 ∨ TOk M) (h : BR M p) (h' : BR M p') : ∀ k, 0 ≤ k → k < M 24 7 → p k = p' k := by
  obtain ⟨a1, a2, a3⟩ := h
  obtain ⟨b1, b2, b3⟩ := h'
  have e0 := a1.uniq b1
  rcases ht with ht | ht
  · intro k h1 h2
    exact chain_uniq (lo := 0) (hi := M 24 7 - 1) (φ := fun k f g => goM M k f g + rsT M (k + 1) g) (v := fun k f => rsT M k f) e0 (a2 ht) (b2 ht) k h1 (by omega)
  · obtain ⟨t1, t2, t3, t4⟩ := id ht
    obtain ⟨c1, c2, c3, c4, c5⟩ := a3 t1
    obtain ⟨d1, d2, d3, d4, d5⟩ := b3 t1
    have s1 := chain_uniq (lo := 0) (hi := M 24 10) (φ := fun k f g => goM M k f g + rsH M (k + 1) g) (v := fun k f => rsH M k f) e0 c1 d1
    have ei := s1 (M 24 10) t2 (Int.le_refl _)
    have s2 := chain_uniq (p := fun k => p (M 24 10 + k)) (p' := fun k => p' (M 24 10 + k)) (lo := 0) (hi := M 24 12 - 1) (φ := fun k f g => jsM M k f g + jtX M (p (M 24 10)) (k + 1) g) (v := fun k f => jtX M (p (M 24 10)) k f) (by simpa using ei) (fun k q1 q2 => by have := c2 k q1 q2; rw [show M 24 10 + k + 1 = M 24 10 + (k + 1) by omega] at this; exact this) (fun k q1 q2 => by have := d2 k q1 q2; rw [← ei, show M 24 10 + k + 1 = M 24 10 + (k + 1) by omega] at this; exact this)
    have e2 := s2 (M 24 12 - 1) (by omega) (by omega)
    rw [show M 24 10 + (M 24 12 - 1) = M 24 10 + M 24 12 - 1 by omega] at e2
    have s3 := chain_uniq (lo := M 24 10 + M 24 12 - 1) (hi := M 24 11 - 1) (φ := fun k f g => goM M k f g + rsX M (p (M 24 10)) (k + 1) g) (v := fun k f => rsX M (p (M 24 10)) k f) e2 c3 (fun k q1 q2 => by have := d3 k q1 q2; rw [← ei] at this; exact this)
    have s4 : ∀ k, 0 ≤ k → k < M 24 12 → p (M 24 11 + k) = p' (M 24 11 + k) := fun k q1 q2 => by rw [c4 k q1 q2, d4 k q1 q2]; exact s2 k q1 (by omega)
    have e4 := s4 (M 24 12 - 1) (by omega) (by omega)
    rw [show M 24 11 + (M 24 12 - 1) = M 24 11 + M 24 12 - 1 by omega] at e4
    have s5 := chain_uniq (lo := M 24 11 + M 24 12 - 1) (hi := M 24 7 - 1) (φ := fun k f g => goM M k f g + rsT M (k + 1) g) (v := fun k f => rsT M k f) e4 c5 d5
    intro k h1 h2
    by_cases k1 : k ≤ M 24 10
    · exact s1 k h1 k1
    by_cases k2 : k ≤ M 24 10 + M 24 12 - 1
    · have := s2 (k - M 24 10) (by omega) (by omega)
      rw [show M 24 10 + (k - M 24 10) = k by omega] at this
      exact this
    by_cases k3 : k ≤ M 24 11 - 1
    · exact s3 k (by omega) k3
    by_cases k4 : k ≤ M 24 11 + M 24 12 - 1
    · have := s4 (k - M 24 11) (by omega) (by omega)
      rw [show M 24 11 + (k - M 24 11) = k by omega] at this
      exact this
    · exact s5 k (by omega) (by omega)
section Fing
variable {N : Nat} {M0 M : Mm}
theorem z_fb_loop {k f gs : Int} (hA : Agr M0 M) (hL : LOk M0) (h0 : 0 ≤ k) (h1 : k + 1 < M0 24 7) (hf0 : 1 ≤ f) (hf1 : f ≤ 5) (hB : ∀ g, 1 ≤ g → g ≤ 5 → 0 ≤ aft M (k + 1) g ∧ aft M (k + 1) g ≤ 2000000) (hv : R32 (aft M k f)) (hF : Fst (fun g => goM M0 k f g + aft M (k + 1) g) (aft M k f) gs) :
    ∀ (n : Nat) (g : Int), g + n = gs → 1 ≤ g → AJ 4 0 0 mM_fingerBehind (Pu (S0 N) M gs) 0 0 2 [some (.inr 24), some (.inl k), some (.inl f), some (.inl g)] [] (S0 N) M := by
  intro n
  have l4 := hL.2.2.2.1
  obtain ⟨g0, g1, g2, g3⟩ := hF
  induction n with
  | zero =>
    intro g hg hg0
    have : g = gs := by omega
    subst this
    have hgo := goM_rng hL.1 (k := k) hf0 hf1 g0 g1
    have hb := hB g g0 g1
    refine aM_fingerBehind [] 30 (fun hM => ?_)
    refine CL.pu (z_goingOn hA hL h0 h1 hf0 hf1 g0 g1) (Nat.le_of_ble_eq_true rfl) ?_
    refine CL.pu (z_after (by omega) (by omega) g0 g1) (Nat.le_of_ble_eq_true rfl) ?_
    refine CL.pu (z_after (by omega) (by omega) hf0 hf1) (Nat.le_of_ble_eq_true rfl) ?_
    exact ⟨⟨by omega, hv⟩, ite_i (fun q => pu_eq rfl) (fun q => absurd g2 q)⟩
  | succ n ih =>
    intro g hg hg0
    have hgo := goM_rng hL.1 (k := k) hf0 hf1 hg0 (show g ≤ 5 by omega)
    have hb := hB g hg0 (by omega)
    refine aM_fingerBehind [2] 30 (fun hM => ?_)
    refine CL.pu (z_goingOn hA hL h0 h1 hf0 hf1 hg0 (by omega)) (Nat.le_of_ble_eq_true rfl) ?_
    refine CL.pu (z_after (by omega) (by omega) hg0 (by omega)) (Nat.le_of_ble_eq_true rfl) ?_
    refine CL.pu (z_after (by omega) (by omega) hf0 hf1) (Nat.le_of_ble_eq_true rfl) ?_
    exact ⟨⟨by omega, hv⟩, ite_i (fun q => absurd q (g3 g hg0 (by omega))) (fun q => ih (g + 1) (by omega) (by omega))⟩
theorem z_fingerBehind {k f gs : Int} (hA : Agr M0 M) (hL : LOk M0) (h0 : 0 ≤ k) (h1 : k + 1 < M0 24 7) (hf0 : 1 ≤ f) (hf1 : f ≤ 5) (hB : ∀ g, 1 ≤ g → g ≤ 5 → 0 ≤ aft M (k + 1) g ∧ aft M (k + 1) g ≤ 2000000) (hv : R32 (aft M k f)) (hF : Fst (fun g => goM M0 k f g + aft M (k + 1) g) (aft M k f) gs) : Ret 4 0 0 mM_fingerBehind [.inr 24, .inl k, .inl f] (S0 N) M (Pu (S0 N) M gs) := by
  have := hF.1
  refine eM_fingerBehind [2] 30 (Nat.le_of_ble_eq_true rfl) (fun hM => ?_)
  exact z_fb_loop hA hL h0 h1 hf0 hf1 hB hv hF (gs - 1).toNat 1 (by omega) (by omega)
theorem z_jb_loop {k f gs : Int} (hA : Agr M0 M) (hT : TOk M0) (hL : LOk M0) (h0 : 0 ≤ k) (h1 : k + 1 < M0 24 12) (hf0 : 1 ≤ f) (hf1 : f ≤ 5) (hB : ∀ g, 1 ≤ g → g ≤ 5 → 0 ≤ M 36 (6 * (k + 1) + g) ∧ M 36 (6 * (k + 1) + g) ≤ 1000000) (hF : Fst (fun g => jsM M0 k f g + M 36 (6 * (k + 1) + g)) (M 36 (6 * k + f)) gs) :
    ∀ (n : Nat) (g : Int), g + n = gs → 1 ≤ g → AJ 5 0 0 mM_jointBehind (Pu (S0 N) M gs) 0 0 2 [some (.inr 24), some (.inl k), some (.inl f), some (.inl g)] [] (S0 N) M := by
  intro n
  have l4 := hL.2.2.2.1
  obtain ⟨t1, t2, t3, t4⟩ := id hT
  obtain ⟨g0, g1, g2, g3⟩ := hF
  induction n with
  | zero =>
    intro g hg hg0
    have : g = gs := by omega
    subst this
    have hgo := jsM_rng hL.1 (k := k) hf0 hf1 g0 g1
    have hb := hB g g0 g1
    refine aM_jointBehind [] 30 (fun hM => ?_)
    refine CL.pu (z_jointStep hA hT hL h0 h1 hf0 hf1 g0 g1) (Nat.le_of_ble_eq_true rfl) ?_
    exact ⟨by omega, by omega, ⟨by omega, hM _ _⟩, ite_i (fun q => pu_eq rfl) (fun q => absurd g2 q)⟩
  | succ n ih =>
    intro g hg hg0
    have hgo := jsM_rng hL.1 (k := k) hf0 hf1 hg0 (show g ≤ 5 by omega)
    have hb := hB g hg0 (by omega)
    refine aM_jointBehind [2] 30 (fun hM => ?_)
    refine CL.pu (z_jointStep hA hT hL h0 h1 hf0 hf1 hg0 (by omega)) (Nat.le_of_ble_eq_true rfl) ?_
    exact ⟨by omega, by omega, ⟨by omega, hM _ _⟩, ite_i (fun q => absurd q (g3 g hg0 (by omega))) (fun q => ih (g + 1) (by omega) (by omega))⟩
theorem z_jointBehind {k f gs : Int} (hA : Agr M0 M) (hT : TOk M0) (hL : LOk M0) (h0 : 0 ≤ k) (h1 : k + 1 < M0 24 12) (hf0 : 1 ≤ f) (hf1 : f ≤ 5) (hB : ∀ g, 1 ≤ g → g ≤ 5 → 0 ≤ M 36 (6 * (k + 1) + g) ∧ M 36 (6 * (k + 1) + g) ≤ 1000000) (hF : Fst (fun g => jsM M0 k f g + M 36 (6 * (k + 1) + g)) (M 36 (6 * k + f)) gs) : Ret 5 0 0 mM_jointBehind [.inr 24, .inl k, .inl f] (S0 N) M (Pu (S0 N) M gs) := by
  have := hF.1
  refine eM_jointBehind [2] 30 (Nat.le_of_ble_eq_true rfl) (fun hM => ?_)
  exact z_jb_loop hA hT hL h0 h1 hf0 hf1 hB hF (gs - 1).toNat 1 (by omega) (by omega)
end Fing
end
section
/-! ===== the reference writes its best row ===== -/
/-- M0 with the row of fingers of M -/
def P9 (M0 M : Mm) : Mm := fun c j => if c = 39 then M 39 j else M0 c j
theorem P9_o {M0 M : Mm} (c : Nat) (hc : c ≠ 39) : P9 M0 M c = M0 c := by funext j; simp [P9, hc]
def Ag9 (M0 M : Mm) : Prop := ∀ c j, c < 33 ∨ 37 < c → c ≠ 39 → M c j = M0 c j
theorem Ag9.p {M0 M : Mm} (h : Ag9 M0 M) : Agr (P9 M0 M) M := by
  intro c j hc
  by_cases h9 : c = 39
  · subst h9; simp [P9]
  · rw [P9_o c h9]; exact h c j hc h9
theorem P9_go {M0 M : Mm} : goM (P9 M0 M) = goM M0 := by
  funext k f g; unfold goM stM ncM okM; rw [P9_o 30 (by omega), P9_o 27 (by omega), P9_o 28 (by omega), P9_o 29 (by omega), P9_o 24 (by omega), P9_o 31 (by omega), P9_o 32 (by omega)]
theorem P9_st {M0 M : Mm} (k f g : Int) : stM (P9 M0 M) k f g = stM M0 k f g := by
  unfold stM; rw [P9_o 30 (by omega), P9_o 27 (by omega), P9_o 28 (by omega), P9_o 29 (by omega), P9_o 24 (by omega), P9_o 31 (by omega)]
theorem P9_js {M0 M : Mm} : jsM (P9 M0 M) = jsM M0 := by
  funext k f g; unfold jsM okM; rw [P9_go, P9_o 24 (by omega), P9_o 32 (by omega)]
theorem P9_rsT {M0 M : Mm} : rsT (P9 M0 M) = rsT M0 := by
  funext k f; unfold rsT; rw [P9_go, P9_o 24 (by omega)]
theorem P9_rsX {M0 M : Mm} : rsX (P9 M0 M) = rsX M0 := by
  funext x k f; unfold rsX; rw [P9_go, P9_o 24 (by omega)]
  simp only [P9_st]
theorem P9_jtX {M0 M : Mm} : jtX (P9 M0 M) = jtX M0 := by
  funext x k f; unfold jtX; rw [P9_js, P9_rsX, P9_rsT, P9_o 24 (by omega)]
theorem P9_wtX {M0 M : Mm} : wtX (P9 M0 M) = wtX M0 := by
  funext x; unfold wtX okM ncM; rw [P9_jtX, P9_o 24 (by omega), P9_o 32 (by omega), P9_o 31 (by omega), P9_o 30 (by omega)]
theorem P9_ru {M0 M : Mm} (h : RuI M0) : RuI (P9 M0 M) := by
  unfold RuI at *
  rw [P9_o 3 (by omega), P9_o 4 (by omega), P9_o 27 (by omega), P9_o 28 (by omega), P9_o 29 (by omega), P9_o 30 (by omega)]; exact h
theorem P9_L {M0 M : Mm} (h : LOk M0) : LOk (P9 M0 M) := by
  obtain ⟨l1, l2⟩ := h
  refine ⟨P9_ru l1, ?_⟩
  rw [P9_o 24 (by omega), P9_o 31 (by omega)]; exact l2
theorem P9_T {M0 M : Mm} (h : TOk M0) : TOk (P9 M0 M) := by
  unfold TOk at *; rw [P9_o 24 (by omega)]; exact h
section Find
variable {N : Nat} {M0 : Mm} {a : Int}
/-- a finger written -/
theorem Ag9.w {M0 M : Mm} (h : Ag9 M0 M) (j v : Int) : Ag9 M0 (mset M 39 j v) := fun c i hc h9 => by rw [mset_ne (by omega)]; exact h c i hc h9
/-- the row so far: fingers 1 to 5 at places lo to k -/
abbrev pf (M : Mm) (a : Int) : Int → Int := fun k => M 39 (a + k)
theorem z_step9 {M : Mm} {k : Int} (hA : Ag9 M0 M) (hL : LOk M0) (h0 : 0 ≤ k) (h1 : k + 1 < M0 24 7) (hf0 : 1 ≤ M 39 (a + k)) (hf1 : M 39 (a + k) ≤ 5) {V : Int → Int → Int} (hV : ∀ g, 1 ≤ g → g ≤ 5 → aft M (k + 1) g = V (k + 1) g) (hr : ∀ g, 1 ≤ g → g ≤ 5 → 0 ≤ V (k + 1) g ∧ V (k + 1) g ≤ 1000000) (hk : aft M k (M 39 (a + k)) = V k (M 39 (a + k))) (hm : V k (M 39 (a + k)) = m5 (fun g => goM M0 k (M 39 (a + k)) g + V (k + 1) g)) (hlt : V k (M 39 (a + k)) < 1000000) :
    ∃ gs, Fst (fun g => goM M0 k (M 39 (a + k)) g + V (k + 1) g) (V k (M 39 (a + k))) gs ∧ V (k + 1) gs < 1000000 ∧ Ret 4 0 0 mM_fingerBehind [.inr 24, .inl k, .inl (M 39 (a + k))] (S0 N) M (Pu (S0 N) M gs) := by
  obtain ⟨gs, hF⟩ := m5_at (φ := fun g => goM M0 k (M 39 (a + k)) g + V (k + 1) g) (by rw [← hm]; exact hlt)
  rw [← hm] at hF
  have hgo := goM_rng hL.1 (k := k) hf0 hf1 hF.1 hF.2.1
  have hvr := hr gs hF.1 hF.2.1
  have heq : goM M0 k (M 39 (a + k)) gs + V (k + 1) gs = V k (M 39 (a + k)) := hF.2.2.1
  have hr0 : 0 ≤ V k (M 39 (a + k)) := by omega
  refine ⟨gs, hF, by omega, ?_⟩
  refine z_fingerBehind hA.p (P9_L hL) h0 (by rw [P9_o 24 (by omega)]; exact h1) hf0 hf1 (fun g q1 q2 => ?_) (by rw [hk]; omega) ?_
  · rw [hV g q1 q2]; have := hr g q1 q2; omega
  · rw [P9_go, hk]
    exact hF.congr (fun g q1 q2 => by rw [hV g q1 q2])
theorem z_ff_start {M : Mm} {gs : Int} {Φ : Option Vl → Ly → Mm → Prop} (h : RT M0 M) (ht : M0 24 12 = 0 ∨ TOk M0) (hL : LOk M0) (hn : 0 < M0 24 7) (hF : Fst (stC M0) (tot M0) gs) (kk : AJ 8 0 0 mM_findFingers Φ 0 0 20 [some (.inr 24), some (.inl a), some (.inl gs)] [] (S0 N) M) :
    ∀ (n : Nat) (g : Int), g + n = gs → 1 ≤ g → AJ 8 0 0 mM_findFingers Φ 0 0 2 [some (.inr 24), some (.inl a), some (.inl g)] [] (S0 N) M := by
  intro n
  obtain ⟨g0, g1, g2, g3⟩ := hF
  have htr := tot_rng ht hL hn
  induction n with
  | zero =>
    intro g hg hg0
    have : g = gs := by omega
    subst this
    have hr := stC_rng ht hL hn g0 g1
    refine aM_findFingers [20] 30 (fun hM => ?_)
    refine CL.pu (z_startCost h ht hL hn g0 g1) (Nat.le_of_ble_eq_true rfl) ?_
    refine CL.pu (z_leastStart h ht hL hn) (Nat.le_of_ble_eq_true rfl) ?_
    exact ⟨by omega, ite_i (fun q => kk) (fun q => absurd g2 q)⟩
  | succ n ih =>
    intro g hg hg0
    have hr := stC_rng ht hL hn hg0 (show g ≤ 5 by omega)
    refine aM_findFingers [2] 30 (fun hM => ?_)
    refine CL.pu (z_startCost h ht hL hn hg0 (by omega)) (Nat.le_of_ble_eq_true rfl) ?_
    refine CL.pu (z_leastStart h ht hL hn) (Nat.le_of_ble_eq_true rfl) ?_
    exact ⟨by omega, ite_i (fun q => absurd q (g3 g hg0 (by omega))) (fun q => ih (g + 1) (by omega) (by omega))⟩
/-- the loop of findFingers, with a table V -/
theorem z_ff_loop {V : Int → Int → Int} {hi : Int} {Φ : Option Vl → Ly → Mm → Prop} (hL : LOk M0) (ha : a = 0 ∨ a = 30) (hhi : hi + 1 ≤ M0 24 7) {Ma : Mm} (hAa : Ag9 M0 Ma) (hV : ∀ M, (∀ c j, c ≠ 39 → M c j = Ma c j) → ∀ k g, 0 ≤ k → k ≤ hi → 1 ≤ g → g ≤ 5 → aft M k g = V k g) (hr : ∀ k g, 0 ≤ k → k ≤ hi → 1 ≤ g → g ≤ 5 → 0 ≤ V k g ∧ V k g ≤ 1000000) (hm : ∀ k f, 0 ≤ k → k < hi → V k f = m5 (fun g => goM M0 k f g + V (k + 1) g))
    (kk : ∀ M f, (∀ c j, ¬ (c = 39 ∧ a + 1 ≤ j ∧ j ≤ a + hi) → M c j = Ma c j) → (∀ k, 0 ≤ k → k ≤ hi → 1 ≤ M 39 (a + k) ∧ M 39 (a + k) ≤ 5) → V hi (M 39 (a + hi)) < 1000000 → (∀ k, 0 ≤ k → k < hi → Fst (fun g => goM M0 k (M 39 (a + k)) g + V (k + 1) g) (V k (M 39 (a + k))) (M 39 (a + k + 1))) → AJ 8 0 0 mM_findFingers Φ 0 0 86 [some (.inr 24), some (.inl a), some (.inl f)] [] (S0 N) M) :
    ∀ (n : Nat) (k f0 : Int) (M : Mm), k + n = hi → 0 ≤ k → (∀ c j, ¬ (c = 39 ∧ a + 1 ≤ j ∧ j ≤ a + k) → M c j = Ma c j) → (∀ i, 0 ≤ i → i ≤ k → 1 ≤ M 39 (a + i) ∧ M 39 (a + i) ≤ 5) → V k (M 39 (a + k)) < 1000000 → (∀ i, 0 ≤ i → i < k → Fst (fun g => goM M0 i (M 39 (a + i)) g + V (i + 1) g) (V i (M 39 (a + i))) (M 39 (a + i + 1))) → AJ 8 0 0 mM_findFingers Φ 0 0 51 [some (.inr 24), some (.inl a), some (.inl f0), some (.inl k), some (.inl hi)] [] (S0 N) M := by
  intro n
  have l4 := hL.2.2.2.1
  induction n with
  | zero =>
    intro k f0 M hk h0 hMa hp hlt hc
    have : k = hi := by omega
    subst this
    refine aM_findFingers [86] 30 (fun hM => ?_)
    refine ⟨by omega, ite_i (fun q => by omega) (fun q => ?_)⟩
    exact AJ.wk (kk M f0 hMa hp hlt hc) ⟨rfl, rfl, rfl, trivial⟩
  | succ n ih =>
    intro k f0 M hk h0 hMa hp hlt hc
    have hA : Ag9 M0 M := fun c j q1 q2 => by rw [hMa c j (by omega)]; exact hAa c j q1 q2
    have hpk := hp k h0 (Int.le_refl _)
    have hV1 := hV M (fun c j q => hMa c j (by omega))
    obtain ⟨gs, hF, hl2, hR⟩ := z_step9 (N := N) (a := a) (k := k) hA hL h0 (by omega) hpk.1 hpk.2 (V := V) (fun g q1 q2 => hV1 (k + 1) g (by omega) (by omega) q1 q2) (fun g q1 q2 => hr (k + 1) g (by omega) (by omega) q1 q2) (hV1 k _ h0 (by omega) hpk.1 hpk.2) (hm k _ h0 (by omega)) hlt
    have hg := hF.1
    have hg' := hF.2.1
    have e1 : ∀ i, i ≤ k → (mset M 39 (a + k + 1) gs) 39 (a + i) = M 39 (a + i) := fun i q => mset_ne (by omega)
    have e2 : (mset M 39 (a + k + 1) gs) 39 (a + (k + 1)) = gs := by rw [show a + (k + 1) = a + k + 1 by omega, mset_eq]
    refine aM_findFingers [51] 40 (fun hM => ?_)
    refine ⟨by omega, ite_i (fun q => ?_) (fun q => by omega)⟩
    refine ⟨by omega, CL.pu hR (Nat.le_of_ble_eq_true rfl) ?_⟩
    refine ⟨⟨by decide, by omega, by omega, by omega, by omega⟩, ?_⟩
    refine ih (k + 1) _ _ (by omega) (by omega) ?_ ?_ ?_ ?_
    · intro c j q
      rw [mset_ne (by omega)]; exact hMa c j (by omega)
    · intro i q1 q2
      by_cases hi2 : i = k + 1
      · subst hi2; rw [e2]; omega
      · rw [e1 i (by omega)]; exact hp i q1 (by omega)
    · rw [e2]; exact hl2
    · intro i q1 q2
      by_cases hi2 : i = k
      · subst hi2
        rw [e1 i (by omega), mset_eq]; exact hF
      · rw [e1 i (by omega), show a + i + 1 = a + (i + 1) by omega, e1 (i + 1) (by omega)]
        have := hc i q1 (by omega)
        rw [show a + i + 1 = a + (i + 1) by omega] at this
        exact this
end Find
end
section
section Tied
variable {N : Nat} {M0 : Mm} {a : Int}
/-- the tables that findTied reads -/
def TB (M0 M : Mm) (x : Int) : Prop := Ag9 M0 M ∧ (∀ k f, M0 24 10 + M0 24 12 - 1 ≤ k → k ≤ M0 24 11 - 1 → 1 ≤ f → f ≤ 5 → M 35 (6 * k + f) = rsX M0 x k f) ∧ (∀ k f, 0 ≤ k → k ≤ M0 24 12 - 1 → 1 ≤ f → f ≤ 5 → M 36 (6 * k + f) = jtX M0 x k f) ∧ ∀ k f, M0 24 11 + M0 24 12 - 1 ≤ k → k ≤ M0 24 7 - 1 → 1 ≤ f → f ≤ 5 → M 35 (6 * k + f) = rsT M0 k f
theorem TB.w {M : Mm} {x j v : Int} (h : TB M0 M x) : TB M0 (mset M 39 j v) x := by
  obtain ⟨h1, h2, h3, h4⟩ := h
  refine ⟨h1.w j v, fun k f q1 q2 q3 q4 => ?_, fun k f q1 q2 q3 q4 => ?_, fun k f q1 q2 q3 q4 => ?_⟩
  · rw [mset_ne (by omega)]; exact h2 k f q1 q2 q3 q4
  · rw [mset_ne (by omega)]; exact h3 k f q1 q2 q3 q4
  · rw [mset_ne (by omega)]; exact h4 k f q1 q2 q3 q4
/-- fingers at places lo to hi are new, all else of M stands; those up to hi are fingers -/
def Nw (a : Int) (Ma M : Mm) (lo hi : Int) : Prop := (∀ c j, ¬ (c = 39 ∧ a + lo ≤ j ∧ j ≤ a + hi) → M c j = Ma c j) ∧ ∀ k, lo ≤ k → k ≤ hi → 1 ≤ M 39 (a + k) ∧ M 39 (a + k) ≤ 5
theorem Nw.st {Ma M : Mm} {lo hi g : Int} (h : Nw a Ma M lo hi) (hg0 : 1 ≤ g) (hg1 : g ≤ 5) (hl : lo ≤ hi + 1) : Nw a Ma (mset M 39 (a + (hi + 1)) g) lo (hi + 1) := by
  refine ⟨fun c j q => ?_, fun k q1 q2 => ?_⟩
  · rw [mset_ne (by omega)]; exact h.1 c j (by omega)
  · by_cases hk : k = hi + 1
    · subst hk; rw [mset_eq]; omega
    · rw [mset_ne (by omega)]; exact h.2 k q1 (by omega)
theorem z_td_l1 {x : Int} {Ma : Mm} {Φ : Option Vl → Ly → Mm → Prop} (hT : TOk M0) (hL : LOk M0) (ha : a = 0 ∨ a = 30) (hx0 : 1 ≤ x) (hx1 : x ≤ 5) (hB : TB M0 Ma x) (hx : Ma 39 (a + M0 24 10) = x)
    (kk : ∀ M, TB M0 M x → Nw a Ma M (M0 24 10 + 1) (M0 24 10 + M0 24 12 - 1) → 1 ≤ M 39 (a + (M0 24 10 + M0 24 12 - 1)) → M 39 (a + (M0 24 10 + M0 24 12 - 1)) ≤ 5 → jtX M0 x (M0 24 12 - 1) (M 39 (a + (M0 24 10 + M0 24 12 - 1))) < 1000000 → (∀ k, 0 ≤ k → k < M0 24 12 - 1 → Fst (fun g => jsM M0 k (M 39 (a + (M0 24 10 + k))) g + jtX M0 x (k + 1) g) (jtX M0 x k (M 39 (a + (M0 24 10 + k)))) (M 39 (a + (M0 24 10 + k + 1)))) → AJ 7 0 0 mM_findTied Φ 0 0 68 [some (.inr 24), some (.inl a), some (.inl x)] [] (S0 N) M) :
    ∀ (n : Nat) (k : Int) (M : Mm), k + n = M0 24 12 - 1 → 0 ≤ k → TB M0 M x → Nw a Ma M (M0 24 10 + 1) (M0 24 10 + k) → 1 ≤ M 39 (a + (M0 24 10 + k)) → M 39 (a + (M0 24 10 + k)) ≤ 5 → jtX M0 x k (M 39 (a + (M0 24 10 + k))) < 1000000 → (∀ i, 0 ≤ i → i < k → Fst (fun g => jsM M0 i (M 39 (a + (M0 24 10 + i))) g + jtX M0 x (i + 1) g) (jtX M0 x i (M 39 (a + (M0 24 10 + i)))) (M 39 (a + (M0 24 10 + i + 1)))) → AJ 7 0 0 mM_findTied Φ 0 0 19 [some (.inr 24), some (.inl a), some (.inl x), some (.inl k)] [] (S0 N) M := by
  intro n
  have l4 := hL.2.2.2.1
  obtain ⟨t1, t2, t3, t4⟩ := id hT
  induction n with
  | zero =>
    intro k M hk h0 hTB hN hf0 hf1 hlt hc
    have : k = M0 24 12 - 1 := by omega
    subst this
    have e12 := hTB.1 24 12 (by omega) (by omega)
    refine aM_findTied [68] 30 (fun hM => ?_)
    refine ⟨by omega, ite_i (fun q => by omega) (fun q => ?_)⟩
    rw [show M0 24 10 + (M0 24 12 - 1) = M0 24 10 + M0 24 12 - 1 by omega] at hN hlt hf0 hf1
    exact AJ.wk (kk M hTB hN hf0 hf1 hlt hc) ⟨rfl, rfl, rfl, trivial⟩
  | succ n ih =>
    intro k M hk h0 hTB hN hf0 hf1 hlt hc
    obtain ⟨b1, b2, b3, b4⟩ := id hTB
    have e12 := b1 24 12 (by omega) (by omega)
    have e10 := b1 24 10 (by omega) (by omega)
    have hm : jtX M0 x k (M 39 (a + (M0 24 10 + k))) = m5 (fun g => jsM M0 k (M 39 (a + (M0 24 10 + k))) g + jtX M0 x (k + 1) g) := by unfold jtX; rw [bz_s (by omega)]
    obtain ⟨gs, hF⟩ := m5_at (φ := fun g => jsM M0 k (M 39 (a + (M0 24 10 + k))) g + jtX M0 x (k + 1) g) (by rw [← hm]; exact hlt)
    rw [← hm] at hF
    have heq : jsM M0 k (M 39 (a + (M0 24 10 + k))) gs + jtX M0 x (k + 1) gs = jtX M0 x k (M 39 (a + (M0 24 10 + k))) := hF.2.2.1
    have hjr := jsM_rng hL.1 (k := k) hf0 hf1 hF.1 hF.2.1
    have hR : Ret 5 0 0 mM_jointBehind [.inr 24, .inl k, .inl (M 39 (a + (M0 24 10 + k)))] (S0 N) M (Pu (S0 N) M gs) := by
      refine z_jointBehind b1.p (P9_T hT) (P9_L hL) h0 (by rw [P9_o 24 (by omega)]; omega) hf0 hf1 (fun g q1 q2 => ?_) ?_
      · rw [b3 (k + 1) g (by omega) (by omega) q1 q2]; exact jtX_rng hL.1 hT hx0 hx1 (by omega) q1 q2
      · rw [P9_js, b3 k _ h0 (by omega) hf0 hf1]
        exact hF.congr (fun g q1 q2 => by rw [b3 (k + 1) g (by omega) (by omega) q1 q2])
    have hg0 := hF.1
    have hg1 := hF.2.1
    have e1 : ∀ i, i ≤ k → (mset M 39 (a + (M0 24 10 + k + 1)) gs) 39 (a + (M0 24 10 + i)) = M 39 (a + (M0 24 10 + i)) := fun i q => mset_ne (by omega)
    have e2 : (mset M 39 (a + (M0 24 10 + k + 1)) gs) 39 (a + (M0 24 10 + (k + 1))) = gs := by rw [show M0 24 10 + (k + 1) = M0 24 10 + k + 1 by omega, mset_eq]
    refine aM_findTied [19] 60 (fun hM => ?_)
    refine ⟨by omega, ite_i (fun q => ?_) (fun q => by omega)⟩
    conv => whnf
    rw [e10, show a + M0 24 10 + k = a + (M0 24 10 + k) by omega]
    refine ⟨by omega, CL.pu hR (Nat.le_of_ble_eq_true rfl) ?_⟩
    rw [show a + (M0 24 10 + k) + 1 = a + (M0 24 10 + k + 1) by omega]
    refine ⟨⟨by decide, by omega, by omega, by omega, by omega⟩, ?_⟩
    refine ih (k + 1) _ (by omega) (by omega) hTB.w ?_ (by rw [e2]; omega) (by rw [e2]; omega) (by rw [e2]; omega) ?_
    · have := hN.st hg0 hg1 (by omega)
      rw [show M0 24 10 + (k + 1) = M0 24 10 + k + 1 by omega]; exact this
    · intro i q1 q2
      by_cases hik : i = k
      · subst hik; rw [e1 i (by omega), mset_eq]; exact hF
      · rw [e1 i (by omega), show M0 24 10 + i + 1 = M0 24 10 + (i + 1) by omega, e1 (i + 1) (by omega)]
        have := hc i q1 (by omega)
        rw [show M0 24 10 + i + 1 = M0 24 10 + (i + 1) by omega] at this
        exact this
theorem z_td_in {x k f gs : Int} {M : Mm} {Φ : Option Vl → Ly → Mm → Prop} (hT : TOk M0) (hL : LOk M0) (ha : a = 0 ∨ a = 30) (hx0 : 1 ≤ x) (hx1 : x ≤ 5) (hB : TB M0 M x) (h0 : M0 24 10 + M0 24 12 - 1 ≤ k) (h1 : k < M0 24 11 - 1) (hf : M 39 (a + k) = f) (hf0 : 1 ≤ f) (hf1 : f ≤ 5) (hF : Fst (fun g => goM M0 k f g + rsX M0 x (k + 1) g) (rsX M0 x k f) gs)
    (kk : AJ 7 0 0 mM_findTied Φ 0 0 80 [some (.inr 24), some (.inl a), some (.inl x), some (.inl (k + 1))] [] (S0 N) (mset M 39 (a + k + 1) gs)) :
    ∀ (n : Nat) (g : Int), g + n = gs → 1 ≤ g → AJ 7 0 0 mM_findTied Φ 0 0 93 [some (.inr 24), some (.inl a), some (.inl x), some (.inl k), some (.inl g)] [] (S0 N) M := by
  intro n
  have l4 := hL.2.2.2.1
  obtain ⟨t1, t2, t3, t4⟩ := id hT
  obtain ⟨b1, b2, b3, b4⟩ := id hB
  obtain ⟨g0, g1, g2, g3⟩ := hF
  subst hf
  have e24 : P9 M0 M 24 = M0 24 := P9_o 24 (by omega)
  have ek := b2 k (M 39 (a + k)) h0 (by omega) hf0 hf1
  induction n with
  | zero =>
    intro g hg hg0
    have : g = gs := by omega
    subst this
    have hgo := goM_rng hL.1 (k := k) hf0 hf1 g0 g1
    have hr := rsX_rng hL.1 (k := k + 1) hx0 hx1 (by omega) g0 g1
    have ek1 := b2 (k + 1) g (by omega) (by omega) g0 g1
    refine aM_findTied [80] 60 (fun hM => ?_)
    refine ⟨by omega, CL.pu (z_goingOn b1.p (P9_L hL) (by omega) (by rw [e24]; omega) hf0 hf1 g0 g1) (Nat.le_of_ble_eq_true rfl) ?_⟩
    rw [P9_go]
    refine ⟨by omega, by omega, by omega, ⟨by rw [ek1]; omega, hM _ _⟩, ite_i (fun q => ?_) (fun q => absurd (by rw [ek1, ek]; exact g2) q)⟩
    refine ⟨⟨by decide, by omega, by omega, by omega, by omega⟩, AJ.wk kk ⟨rfl, rfl, rfl, rfl, trivial⟩⟩
  | succ n ih =>
    intro g hg hg0
    have hgo := goM_rng hL.1 (k := k) hf0 hf1 hg0 (show g ≤ 5 by omega)
    have hr := rsX_rng hL.1 (k := k + 1) hx0 hx1 (by omega) hg0 (show g ≤ 5 by omega)
    have ek1 := b2 (k + 1) g (by omega) (by omega) hg0 (by omega)
    refine aM_findTied [93] 60 (fun hM => ?_)
    refine ⟨by omega, CL.pu (z_goingOn b1.p (P9_L hL) (by omega) (by rw [e24]; omega) hf0 hf1 hg0 (by omega)) (Nat.le_of_ble_eq_true rfl) ?_⟩
    rw [P9_go]
    refine ⟨by omega, by omega, by omega, ⟨by rw [ek1]; omega, hM _ _⟩, ite_i (fun q => ?_) (fun q => ?_)⟩
    · rw [ek1, ek] at q; exact absurd q (g3 g hg0 (by omega))
    · exact ih (g + 1) (by omega) (by omega)
theorem z_td_l2 {x : Int} {Ma : Mm} {Φ : Option Vl → Ly → Mm → Prop} (hT : TOk M0) (hL : LOk M0) (ha : a = 0 ∨ a = 30) (hx0 : 1 ≤ x) (hx1 : x ≤ 5)
    (kk : ∀ M, TB M0 M x → Nw a Ma M (M0 24 10 + M0 24 12) (M0 24 11 - 1) → (∀ k, M0 24 10 + M0 24 12 - 1 ≤ k → k < M0 24 11 - 1 → Fst (fun g => goM M0 k (M 39 (a + k)) g + rsX M0 x (k + 1) g) (rsX M0 x k (M 39 (a + k))) (M 39 (a + (k + 1)))) → AJ 7 0 0 mM_findTied Φ 0 0 168 [some (.inr 24), some (.inl a), some (.inl x)] [] (S0 N) M) :
    ∀ (n : Nat) (k : Int) (M : Mm), k + n = M0 24 11 - 1 → M0 24 10 + M0 24 12 - 1 ≤ k → TB M0 M x → Nw a Ma M (M0 24 10 + M0 24 12) k → 1 ≤ M 39 (a + k) → M 39 (a + k) ≤ 5 → rsX M0 x k (M 39 (a + k)) < 1000000 → (∀ i, M0 24 10 + M0 24 12 - 1 ≤ i → i < k → Fst (fun g => goM M0 i (M 39 (a + i)) g + rsX M0 x (i + 1) g) (rsX M0 x i (M 39 (a + i))) (M 39 (a + (i + 1)))) → ∀ L4 : Option Vl, AJ 7 0 0 mM_findTied Φ 0 0 80 [some (.inr 24), some (.inl a), some (.inl x), some (.inl k), L4] [] (S0 N) M := by
  intro n
  have l4 := hL.2.2.2.1
  obtain ⟨t1, t2, t3, t4⟩ := id hT
  induction n with
  | zero =>
    intro k M hk h0 hTB hN hf0 hf1 hlt hc L4
    have : k = M0 24 11 - 1 := by omega
    subst this
    have e11 := hTB.1 24 11 (by omega) (by omega)
    refine aM_findTied [168] 30 (fun hM => ?_)
    refine ⟨by omega, ite_i (fun q => by omega) (fun q => ?_)⟩
    exact AJ.wk (kk M hTB hN hc) ⟨rfl, rfl, rfl, trivial⟩
  | succ n ih =>
    intro k M hk h0 hTB hN hf0 hf1 hlt hc L4
    have e11 := hTB.1 24 11 (by omega) (by omega)
    have hm : rsX M0 x k (M 39 (a + k)) = m5 (fun g => goM M0 k (M 39 (a + k)) g + rsX M0 x (k + 1) g) := by unfold rsX; rw [bz_s (by omega)]
    obtain ⟨gs, hF⟩ := m5_at (φ := fun g => goM M0 k (M 39 (a + k)) g + rsX M0 x (k + 1) g) (by rw [← hm]; exact hlt)
    rw [← hm] at hF
    have heq : goM M0 k (M 39 (a + k)) gs + rsX M0 x (k + 1) gs = rsX M0 x k (M 39 (a + k)) := hF.2.2.1
    have hjr := goM_rng hL.1 (k := k) hf0 hf1 hF.1 hF.2.1
    have hg0 := hF.1
    have hg1 := hF.2.1
    have e1 : ∀ i, i ≤ k → (mset M 39 (a + (k + 1)) gs) 39 (a + i) = M 39 (a + i) := fun i q => mset_ne (by omega)
    have nx := ih (k + 1) (mset M 39 (a + (k + 1)) gs) (by omega) (by omega) hTB.w (hN.st hg0 hg1 (by omega)) (by rw [mset_eq]; omega) (by rw [mset_eq]; omega) (by rw [mset_eq]; omega) (fun i q1 q2 => by
      by_cases hik : i = k
      · subst hik; rw [e1 i (by omega), mset_eq]; exact hF
      · rw [e1 i (by omega), e1 (i + 1) (by omega)]; exact hc i q1 (by omega)) none
    have inn := z_td_in (N := N) hT hL ha hx0 hx1 hTB h0 (by omega) rfl hf0 hf1 hF (by
      rw [show a + k + 1 = a + (k + 1) by omega]
      exact AJ.wk nx ⟨rfl, rfl, rfl, rfl, trivial⟩) (gs - 1).toNat 1 (by omega) (by omega)
    refine aM_findTied [93] 30 (fun hM => ?_)
    refine ⟨by omega, ite_i (fun q => ?_) (fun q => by omega)⟩
    exact AJ.wk inn ⟨rfl, rfl, rfl, rfl, rfl, trivial⟩
theorem z_td_l3 {x : Int} {Ma : Mm} {Φ : Option Vl → Ly → Mm → Prop} (hT : TOk M0) (hL : LOk M0) (ha : a = 0 ∨ a = 30) (hp : ∀ k, 0 ≤ k → k < M0 24 12 → 1 ≤ Ma 39 (a + (M0 24 10 + k)) ∧ Ma 39 (a + (M0 24 10 + k)) ≤ 5)
    (kk : ∀ M, TB M0 M x → Nw a Ma M (M0 24 11) (M0 24 11 + M0 24 12 - 1) → (∀ k, 0 ≤ k → k < M0 24 12 → M 39 (a + (M0 24 11 + k)) = M 39 (a + (M0 24 10 + k))) → AJ 7 0 0 mM_findTied Φ 0 0 210 [some (.inr 24), some (.inl a), some (.inl x)] [] (S0 N) M) :
    ∀ (n : Nat) (k : Int) (M : Mm), k + n = M0 24 12 → 0 ≤ k → TB M0 M x → Nw a Ma M (M0 24 11) (M0 24 11 + k - 1) → (∀ i, 0 ≤ i → i < k → M 39 (a + (M0 24 11 + i)) = M 39 (a + (M0 24 10 + i))) → AJ 7 0 0 mM_findTied Φ 0 0 170 [some (.inr 24), some (.inl a), some (.inl x), some (.inl k)] [] (S0 N) M := by
  intro n
  have l4 := hL.2.2.2.1
  obtain ⟨t1, t2, t3, t4⟩ := id hT
  induction n with
  | zero =>
    intro k M hk h0 hTB hN hc
    have : k = M0 24 12 := by omega
    subst this
    have e12 := hTB.1 24 12 (by omega) (by omega)
    refine aM_findTied [210] 30 (fun hM => ?_)
    refine ⟨by omega, ite_i (fun q => by omega) (fun q => ?_)⟩
    exact AJ.wk (kk M hTB hN hc) ⟨rfl, rfl, rfl, trivial⟩
  | succ n ih =>
    intro k M hk h0 hTB hN hc
    have e12 := hTB.1 24 12 (by omega) (by omega)
    have e11 := hTB.1 24 11 (by omega) (by omega)
    have e10 := hTB.1 24 10 (by omega) (by omega)
    have hf := hp k h0 (by omega)
    have hfe : M 39 (a + (M0 24 10 + k)) = Ma 39 (a + (M0 24 10 + k)) := hN.1 39 _ (by omega)
    rw [← hfe] at hf
    refine aM_findTied [170] 60 (fun hM => ?_)
    refine ⟨by omega, ite_i (fun q => ?_) (fun q => by omega)⟩
    conv => whnf
    rw [e10, e11, show a + M0 24 10 + k = a + (M0 24 10 + k) by omega]
    refine ⟨by omega, ?_⟩
    rw [show a + M0 24 11 + k = a + (M0 24 11 + k) by omega]
    refine ⟨⟨by decide, by omega, by omega, by omega, hM _ _⟩, ?_⟩
    refine ih (k + 1) _ (by omega) (by omega) hTB.w ?_ ?_
    · have := hN.st hf.1 hf.2 (by omega)
      rw [show M0 24 11 + k - 1 + 1 = M0 24 11 + k by omega] at this
      rw [show M0 24 11 + (k + 1) - 1 = M0 24 11 + k by omega]; exact this
    · intro i q1 q2
      rw [mset_ne (i := a + (M0 24 11 + k)) (j := a + (M0 24 10 + i)) (by omega)]
      by_cases hik : i = k
      · subst hik; rw [mset_eq]
      · rw [mset_ne (by omega)]; exact hc i q1 (by omega)
theorem z_td_l4 {x : Int} {Ma : Mm} {Φ : Option Vl → Ly → Mm → Prop} (hT : TOk M0) (hL : LOk M0) (ha : a = 0 ∨ a = 30)
    (kk : ∀ M, Nw a Ma M (M0 24 11 + M0 24 12) (M0 24 7 - 1) → TB M0 M x → (∀ k, M0 24 11 + M0 24 12 - 1 ≤ k → k < M0 24 7 - 1 → Fst (fun g => goM M0 k (M 39 (a + k)) g + rsT M0 (k + 1) g) (rsT M0 k (M 39 (a + k))) (M 39 (a + (k + 1)))) → Φ none (S0 N) M) :
    ∀ (n : Nat) (k : Int) (M : Mm), k + n = M0 24 7 - 1 → M0 24 11 + M0 24 12 - 1 ≤ k → TB M0 M x → Nw a Ma M (M0 24 11 + M0 24 12) k → 1 ≤ M 39 (a + k) → M 39 (a + k) ≤ 5 → rsT M0 k (M 39 (a + k)) < 1000000 → (∀ i, M0 24 11 + M0 24 12 - 1 ≤ i → i < k → Fst (fun g => goM M0 i (M 39 (a + i)) g + rsT M0 (i + 1) g) (rsT M0 i (M 39 (a + i))) (M 39 (a + (i + 1)))) → AJ 7 0 0 mM_findTied Φ 0 0 222 [some (.inr 24), some (.inl a), some (.inl x), some (.inl k)] [] (S0 N) M := by
  intro n
  have l4 := hL.2.2.2.1
  obtain ⟨t1, t2, t3, t4⟩ := id hT
  induction n with
  | zero =>
    intro k M hk h0 hTB hN hf0 hf1 hlt hc
    have : k = M0 24 7 - 1 := by omega
    subst this
    have e7 := hTB.1 24 7 (by omega) (by omega)
    refine aM_findTied [] 30 (fun hM => ?_)
    refine ⟨by omega, ite_i (fun q => by omega) (fun q => ?_)⟩
    exact kk M hN hTB hc
  | succ n ih =>
    intro k M hk h0 hTB hN hf0 hf1 hlt hc
    obtain ⟨b1, b2, b3, b4⟩ := id hTB
    have e7 := b1 24 7 (by omega) (by omega)
    have e10 := b1 24 10 (by omega) (by omega)
    have haf : ∀ i g, M0 24 11 + M0 24 12 - 1 ≤ i → i ≤ M0 24 7 - 1 → 1 ≤ g → g ≤ 5 → aft M i g = rsT M0 i g := fun i g q1 q2 q3 q4 => by
      unfold aft; rw [if_neg (by omega)]; exact b4 i g q1 q2 q3 q4
    obtain ⟨gs, hF, hl2, hR⟩ := z_step9 (N := N) (a := a) (k := k) b1 hL (by omega) (by omega) hf0 hf1 (V := rsT M0) (fun g q1 q2 => haf (k + 1) g (by omega) (by omega) q1 q2) (fun g q1 q2 => rsT_rng hL.1 (by omega) q1 q2) (haf k _ h0 (by omega) hf0 hf1) (by unfold rsT; rw [bz_s (by omega)]) hlt
    have hg0 := hF.1
    have hg1 := hF.2.1
    have e1 : ∀ i, i ≤ k → (mset M 39 (a + (k + 1)) gs) 39 (a + i) = M 39 (a + i) := fun i q => mset_ne (by omega)
    refine aM_findTied [222] 60 (fun hM => ?_)
    refine ⟨by omega, ite_i (fun q => ?_) (fun q => by omega)⟩
    refine ⟨by omega, CL.pu hR (Nat.le_of_ble_eq_true rfl) ?_⟩
    rw [show a + k + 1 = a + (k + 1) by omega]
    refine ⟨⟨by decide, by omega, by omega, by omega, by omega⟩, ?_⟩
    refine ih (k + 1) _ (by omega) (by omega) hTB.w (hN.st hg0 hg1 (by omega)) (by rw [mset_eq]; omega) (by rw [mset_eq]; omega) (by rw [mset_eq]; exact hl2) (fun i q1 q2 => ?_)
    by_cases hik : i = k
    · subst hik; rw [e1 i (by omega), mset_eq]; exact hF
    · rw [e1 i (by omega), e1 (i + 1) (by omega)]; exact hc i q1 (by omega)
end Tied
end
section
section Fin
variable {N : Nat} {M0 : Mm} {a : Int}
/-- behind findTied: the fingers from the tie's first note on -/
def TdP (M0 : Mm) (a : Int) (M M' : Mm) : Prop := (∀ c j, ¬ (c = 39 ∧ a + (M0 24 10 + 1) ≤ j ∧ j ≤ a + (M0 24 7 - 1)) → ¬ (33 ≤ c ∧ c ≤ 37) → M' c j = M c j) ∧ (∀ k, M0 24 10 + 1 ≤ k → k ≤ M0 24 7 - 1 → 1 ≤ M' 39 (a + k) ∧ M' 39 (a + k) ≤ 5) ∧
  (∀ k, 0 ≤ k → k < M0 24 12 - 1 → Fst (fun g => jsM M0 k (M' 39 (a + (M0 24 10 + k))) g + jtX M0 (M' 39 (a + M0 24 10)) (k + 1) g) (jtX M0 (M' 39 (a + M0 24 10)) k (M' 39 (a + (M0 24 10 + k)))) (M' 39 (a + (M0 24 10 + k + 1)))) ∧
  (∀ k, M0 24 10 + M0 24 12 - 1 ≤ k → k < M0 24 11 - 1 → Fst (fun g => goM M0 k (M' 39 (a + k)) g + rsX M0 (M' 39 (a + M0 24 10)) (k + 1) g) (rsX M0 (M' 39 (a + M0 24 10)) k (M' 39 (a + k))) (M' 39 (a + (k + 1)))) ∧
  (∀ k, 0 ≤ k → k < M0 24 12 → M' 39 (a + (M0 24 11 + k)) = M' 39 (a + (M0 24 10 + k))) ∧
  ∀ k, M0 24 11 + M0 24 12 - 1 ≤ k → k < M0 24 7 - 1 → Fst (fun g => goM M0 k (M' 39 (a + k)) g + rsT M0 (k + 1) g) (rsT M0 k (M' 39 (a + k))) (M' 39 (a + (k + 1)))
theorem wt_lt {x : Int} (hL : LOk M0) (hT : TOk M0) (hx0 : 1 ≤ x) (hx1 : x ≤ 5) (h : wtX M0 x < 1000000) : jtX M0 x 0 x < 1000000 ∧ okM M0 (M0 24 10) x ∧ okM M0 (M0 24 11) x := by
  have hr := jtX_rng hL.1 hT (k := 0) hx0 hx1 (by have := hT.1; omega) hx0 hx1
  have hn := ncv_rng hL.1 (M0 31 (M0 24 11)) x
  unfold wtX at h
  by_cases hc : okM M0 (M0 24 10) x ∧ okM M0 (M0 24 11) x
  · rw [if_pos hc] at h
    unfold clp ncM at h
    refine ⟨?_, hc⟩
    split at h <;> omega
  · rw [if_neg hc] at h; omega
theorem z_findTied {M : Mm} (hA : Ag9 M0 M) (hT : TOk M0) (hL : LOk M0) (ha : a = 0 ∨ a = 30) (hx0 : 1 ≤ M 39 (a + M0 24 10)) (hx1 : M 39 (a + M0 24 10) ≤ 5) (hw : wtX M0 (M 39 (a + M0 24 10)) < 1000000) (htl : ∀ k f, M0 24 11 + M0 24 12 - 1 ≤ k → k ≤ M0 24 7 - 1 → 1 ≤ f → f ≤ 5 → M 35 (6 * k + f) = rsT M0 k f) : Ret 7 0 0 mM_findTied [.inr 24, .inl a] (S0 N) M (fun r S' M' => r = none ∧ S' = S0 N ∧ TdP M0 a M M') := by
  obtain ⟨t1, t2, t3, t4⟩ := id hT
  have l4 := hL.2.2.2.1
  have e10 := hA 24 10 (by omega) (by omega)
  have e24 : P9 M0 M 24 = M0 24 := P9_o 24 (by omega)
  obtain ⟨j0, -, -⟩ := wt_lt hL hT hx0 hx1 hw
  generalize hxe : M 39 (a + M0 24 10) = x at hx0 hx1 hw j0
  refine eM_findTied [19] 30 (Nat.le_of_ble_eq_true rfl) (fun hM => ?_)
  conv => whnf
  rw [e10]
  refine ⟨by omega, ?_⟩
  rw [hxe]
  refine ⟨6, _, (Nat.le_of_ble_eq_true rfl), z_findWith hA.p (P9_T hT) (P9_L hL) hx0 hx1 (fun f q1 q2 => by rw [e24, P9_rsT]; exact htl _ f (by omega) (by omega) q1 q2), ?_⟩
  rintro r S' M1 ⟨rfl, rfl, hX⟩ hM1
  unfold WX at hX
  rw [e24, P9_rsX, P9_jtX] at hX
  obtain ⟨x1, x2, x3, x4⟩ := hX
  have n9 : ∀ j, M1 39 j = M 39 j := fun j => x4 39 j (by omega) (by omega) (by omega)
  have hTB1 : TB M0 M1 x := ⟨fun c j q1 q2 => by rw [x4 c j (by omega) (by omega) (by omega)]; exact hA c j q1 q2, x1, x2, fun k f q1 q2 q3 q4 => by rw [x4 35 _ (by omega) (by omega) (by omega)]; exact htl k f q1 q2 q3 q4⟩
  have h1x : M1 39 (a + M0 24 10) = x := by rw [n9]; exact hxe
  refine z_td_l1 hT hL ha hx0 hx1 hTB1 h1x (fun M2 b2 w2 f20 f21 lt2 c2 => ?_) (M0 24 12 - 1).toNat 0 M1 (by omega) (by omega) hTB1 ⟨fun c j q => rfl, fun k q1 q2 => by omega⟩ (by rw [show M0 24 10 + 0 = M0 24 10 by omega, h1x]; exact hx0) (by rw [show M0 24 10 + 0 = M0 24 10 by omega, h1x]; exact hx1) (by rw [show M0 24 10 + 0 = M0 24 10 by omega, h1x]; exact j0) (fun i q1 q2 => by omega)
  have e210 := b2.1 24 10 (by omega) (by omega)
  have e212 := b2.1 24 12 (by omega) (by omega)
  have hlast : jtX M0 x (M0 24 12 - 1) (M2 39 (a + (M0 24 10 + M0 24 12 - 1))) = clp (rsX M0 x (M0 24 10 + M0 24 12 - 1) (M2 39 (a + (M0 24 10 + M0 24 12 - 1))) + rsT M0 (M0 24 11 + M0 24 12 - 1) (M2 39 (a + (M0 24 10 + M0 24 12 - 1)))) := by unfold jtX; rw [bz_e]
  have rX := rsX_rng hL.1 (k := M0 24 10 + M0 24 12 - 1) hx0 hx1 (by omega) f20 f21
  have rT := rsT_rng hL.1 (k := M0 24 11 + M0 24 12 - 1) (by omega) f20 f21
  have hlt2 : rsX M0 x (M0 24 10 + M0 24 12 - 1) (M2 39 (a + (M0 24 10 + M0 24 12 - 1))) < 1000000 ∧ rsT M0 (M0 24 11 + M0 24 12 - 1) (M2 39 (a + (M0 24 10 + M0 24 12 - 1))) < 1000000 := by
    rw [hlast] at lt2
    unfold clp at lt2
    split at lt2 <;> omega
  have c68 : AJ 7 0 0 mM_findTied (fun r S' M' => r = none ∧ S' = S0 N ∧ TdP M0 a M M') 0 0 68 [some (.inr 24), some (.inl a), some (.inl x)] [] (S0 N) M2 := by
    refine aM_findTied [80] 30 (fun hM => ?_)
    conv => whnf
    rw [e210, e212]
    refine AJ.wk (z_td_l2 (Ma := M2) hT hL ha hx0 hx1 (fun M3 b3 w3 c3 => ?_) (M0 24 11 - 1 - (M0 24 10 + M0 24 12 - 1)).toNat (M0 24 10 + M0 24 12 - 1) M2 (by omega) (by omega) b2 ⟨fun c j q => rfl, fun k q1 q2 => by omega⟩ f20 f21 hlt2.1 (fun i q1 q2 => by omega) none) ⟨rfl, rfl, rfl, rfl, trivial⟩
    have p3 : ∀ k, k ≤ M0 24 10 + M0 24 12 - 1 → M3 39 (a + k) = M2 39 (a + k) := fun k q => w3.1 39 _ (by omega)
    have p2 : ∀ k, k ≤ M0 24 10 → M2 39 (a + k) = M1 39 (a + k) := fun k q => w2.1 39 _ (by omega)
    have r2 : ∀ k, 0 ≤ k → k < M0 24 12 → 1 ≤ M3 39 (a + (M0 24 10 + k)) ∧ M3 39 (a + (M0 24 10 + k)) ≤ 5 := by
      intro k q1 q2
      rw [p3 _ (by omega)]
      by_cases hk : k = 0
      · rw [hk, show M0 24 10 + 0 = M0 24 10 by omega, p2 _ (by omega), h1x]; exact ⟨hx0, hx1⟩
      · exact w2.2 (M0 24 10 + k) (by omega) (by omega)
    refine aM_findTied [170] 30 (fun hM => ?_)
    refine z_td_l3 (Ma := M3) hT hL ha r2 (fun M4 b4 w4 c4 => ?_) (M0 24 12).toNat 0 M3 (by omega) (by omega) b3 ⟨fun c j q => rfl, fun k q1 q2 => by omega⟩ (fun i q1 q2 => by omega)
    have p4 : ∀ k, k ≤ M0 24 11 - 1 → M4 39 (a + k) = M3 39 (a + k) := fun k q => w4.1 39 _ (by omega)
    have e411 := b4.1 24 11 (by omega) (by omega)
    have e412 := b4.1 24 12 (by omega) (by omega)
    have hl4 : M4 39 (a + (M0 24 11 + M0 24 12 - 1)) = M2 39 (a + (M0 24 10 + M0 24 12 - 1)) := by
      have := c4 (M0 24 12 - 1) (by omega) (by omega)
      rw [show M0 24 11 + (M0 24 12 - 1) = M0 24 11 + M0 24 12 - 1 by omega, show M0 24 10 + (M0 24 12 - 1) = M0 24 10 + M0 24 12 - 1 by omega] at this
      rw [this, p4 _ (by omega), p3 _ (by omega)]
    refine aM_findTied [222] 30 (fun hM => ?_)
    conv => whnf
    rw [e411, e412]
    refine z_td_l4 (x := x) (Ma := M4) hT hL ha (fun M5 w5 b5 c5 => ⟨rfl, rfl, ?_⟩) (M0 24 7 - 1 - (M0 24 11 + M0 24 12 - 1)).toNat (M0 24 11 + M0 24 12 - 1) M4 (by omega) (by omega) b4 ⟨fun c j q => rfl, fun k q1 q2 => by omega⟩ (by rw [hl4]; exact f20) (by rw [hl4]; exact f21) (by rw [hl4]; exact hlt2.2) (fun i q1 q2 => by omega)
    have p5 : ∀ k, k ≤ M0 24 11 + M0 24 12 - 1 → M5 39 (a + k) = M4 39 (a + k) := fun k q => w5.1 39 _ (by omega)
    have px : M5 39 (a + M0 24 10) = x := by rw [p5 _ (by omega), p4 _ (by omega), p3 _ (by omega), p2 _ (by omega)]; exact h1x
    refine ⟨fun c j q1 q2 => ?_, fun k q1 q2 => ?_, fun k q1 q2 => ?_, fun k q1 q2 => ?_, fun k q1 q2 => ?_, c5⟩
    · rw [w5.1 c j (by omega), w4.1 c j (by omega), w3.1 c j (by omega), w2.1 c j (by omega)]
      exact x4 c j (by omega) (by omega) (by omega)
    · by_cases k1 : M0 24 11 + M0 24 12 ≤ k
      · exact w5.2 k k1 q2
      rw [p5 k (by omega)]
      by_cases k2 : M0 24 11 ≤ k
      · exact w4.2 k k2 (by omega)
      rw [p4 k (by omega)]
      by_cases k3 : M0 24 10 + M0 24 12 ≤ k
      · exact w3.2 k k3 (by omega)
      rw [p3 k (by omega)]
      exact w2.2 k (by omega) (by omega)
    · rw [px, p5 _ (by omega), p4 _ (by omega), p3 _ (by omega), p5 _ (by omega), p4 _ (by omega), p3 _ (by omega)]
      exact c2 k q1 q2
    · rw [px, p5 k (by omega), p4 k (by omega), p5 (k + 1) (by omega), p4 (k + 1) (by omega)]
      exact c3 k q1 q2
    · rw [p5 _ (by omega), p5 _ (by omega)]; exact c4 k q1 q2
  exact c68
/-- behind findFingers -/
def FfP (M0 : Mm) (a : Int) (M M' : Mm) : Prop := (∀ c j, ¬ (c = 39 ∧ a ≤ j ∧ j ≤ a + (M0 24 7 - 1)) → ¬ (33 ≤ c ∧ c ≤ 37) → M' c j = M c j) ∧ (∀ k, 0 ≤ k → k ≤ M0 24 7 - 1 → 1 ≤ M' 39 (a + k) ∧ M' 39 (a + k) ≤ 5) ∧ BR M0 (pf M' a)
theorem z_findFingers {M : Mm} (h : RT M0 M) (ht : M0 24 12 = 0 ∨ TOk M0) (hL : LOk M0) (hn : 0 < M0 24 7) (ha : a = 0 ∨ a = 30) (hlt : tot M0 < 1000000) : Ret 8 0 0 mM_findFingers [.inr 24, .inl a] (S0 N) M (fun r S' M' => r = none ∧ S' = S0 N ∧ FfP M0 a M M') := by
  have l4 := hL.2.2.2.1
  obtain ⟨gs, hF⟩ := m5_at (φ := stC M0) hlt
  have hg0 := hF.1
  have hg1 := hF.2.1
  have hst : stC M0 gs = tot M0 := hF.2.2.1
  have hA0 : A0 M0 gs < 1000000 ∧ okM M0 0 gs := by
    have hn2 := ncv_rng hL.1 (M0 31 0) gs
    unfold stC at hst
    by_cases hc : okM M0 0 gs
    · rw [if_pos hc] at hst
      unfold ncM at hst
      exact ⟨by omega, hc⟩
    · rw [if_neg hc] at hst; omega
  have hA := h.1
  have h9 : Ag9 M0 (mset M 39 a gs) := fun c j q1 q2 => by rw [mset_ne (by omega)]; exact hA c j q1
  have e7 := h9 24 7 (by omega) (by omega)
  have e10 := h9 24 10 (by omega) (by omega)
  have e12 := h9 24 12 (by omega) (by omega)
  have p0 : (mset M 39 a gs) 39 (a + 0) = gs := by rw [show a + 0 = a by omega, mset_eq]
  have c20 : AJ 8 0 0 mM_findFingers (fun r S' M' => r = none ∧ S' = S0 N ∧ FfP M0 a M M') 0 0 20 [some (.inr 24), some (.inl a), some (.inl gs)] [] (S0 N) M := by
    refine aM_findFingers [51] 40 (fun hM => ?_)
    refine ⟨⟨by decide, by omega, by omega, by omega, by omega⟩, ?_⟩
    refine ⟨by rw [e12, ← hA 24 12 (by omega)]; exact hM _ _, ite_i (fun q => ?_) (fun q => ?_)⟩
    · rw [e12] at q
      have hT : TOk M0 := by
        rcases ht with ht | ht
        · omega
        · exact ht
      obtain ⟨t1, t2, t3, t4⟩ := id hT
      obtain ⟨f1, f2, f3⟩ := h.2.1 t1
      conv => whnf
      rw [e10]
      refine z_ff_loop (V := rsH M0) (hi := M0 24 10) hL ha (by omega) h9 (fun M1 hM1 k g q1 q2 q3 q4 => ?_) (fun k g q1 q2 q3 q4 => rsH_rng hL.1 hT q2 q3 q4) (fun k f q1 q2 => by unfold rsH; rw [bz_s q2]) (fun M2 f0 w2 r2 lt2 c2 => ?_) (M0 24 10).toNat 0 gs _ (by omega) (by omega) (fun c j q => rfl) (fun i q1 q2 => by rw [show i = 0 by omega, p0]; omega) ?_ (fun i q1 q2 => by omega)
      · unfold aft
        rw [hM1 24 12 (by omega), hM1 24 10 (by omega), e12, e10, hM1 37 g (by omega), hM1 35 _ (by omega), mset_ne (by omega), mset_ne (by omega)]
        by_cases hk : k = M0 24 10
        · rw [if_pos ⟨t1, hk⟩, f2 g q3 q4, hk]; unfold rsH; rw [bz_e]
        · rw [if_neg (fun z => hk z.2)]; exact f3 k g q1 (by omega) q3 q4
      · have g9 : Ag9 M0 M2 := fun c j q1 q2 => by rw [w2 c j (by omega)]; exact h9 c j q1 q2
        have g12 := g9 24 12 (by omega) (by omega)
        have g0 : M2 39 (a + 0) = gs := by rw [w2 39 _ (by omega)]; exact p0
        refine aM_findFingers [] 30 (fun hM => ?_)
        refine ⟨hM _ _, ite_i (fun q => ?_) (fun q => by omega)⟩
        have hwl : wtX M0 (M2 39 (a + M0 24 10)) < 1000000 := by
          have : rsH M0 (M0 24 10) (M2 39 (a + M0 24 10)) = wtX M0 (M2 39 (a + M0 24 10)) := by unfold rsH; rw [bz_e]
          rw [← this]; exact lt2
        have hr := r2 (M0 24 10) t2 (Int.le_refl _)
        refine ⟨7, _, (Nat.le_of_ble_eq_true rfl), z_findTied g9 hT hL ha hr.1 hr.2 hwl (fun k f q1 q2 q3 q4 => ?_), ?_⟩
        · rw [w2 35 _ (by omega), mset_ne (by omega)]; exact f1 k f q1 q2 q3 q4
        · rintro r S' M3 ⟨rfl, rfl, d1, d2, d3, d4, d5, d6⟩ hM3
          have p3 : ∀ k, k ≤ M0 24 10 → M3 39 (a + k) = M2 39 (a + k) := fun k q => d1 39 _ (by omega) (by omega)
          refine ⟨rfl, rfl, fun c j q1 q2 => ?_, fun k q1 q2 => ?_, ?_, fun h0 => by omega, fun _ => ⟨fun k q1 q2 => ?_, fun k q1 q2 => ?_, fun k q1 q2 => ?_, fun k q1 q2 => ?_, fun k q1 q2 => ?_⟩⟩
          · rw [d1 c j (by omega) q2, w2 c j (by omega), mset_ne (by omega)]
          · by_cases hk : k ≤ M0 24 10
            · rw [p3 k hk]; exact r2 k q1 hk
            · exact d2 k (by omega) q2
          · show Fst (stC M0) (tot M0) (M3 39 (a + 0))
            rw [p3 0 t2, g0]; exact hF
          · have := c2 k q1 q2
            rw [show a + k + 1 = a + (k + 1) by omega] at this
            show Fst (fun g => goM M0 k (M3 39 (a + k)) g + rsH M0 (k + 1) g) (rsH M0 k (M3 39 (a + k))) (M3 39 (a + (k + 1)))
            rw [p3 k (by omega), p3 (k + 1) (by omega)]; exact this
          · exact d3 k q1 q2
          · exact d4 k q1 q2
          · exact d5 k q1 q2
          · exact d6 k q1 q2
      · rw [p0]
        unfold A0 at hA0
        rw [if_pos t1] at hA0
        exact hA0.1
    · rw [e12] at q
      have h0 : M0 24 12 = 0 := by
        rcases ht with ht | ht
        · exact ht
        · have := ht.1; omega
      have hU := h.2.2 h0
      conv => whnf
      rw [e7]
      refine z_ff_loop (V := rsT M0) (hi := M0 24 7 - 1) hL ha (by omega) h9 (fun M1 hM1 k g q1 q2 q3 q4 => ?_) (fun k g q1 q2 q3 q4 => rsT_rng hL.1 q2 q3 q4) (fun k f q1 q2 => by unfold rsT; rw [bz_s q2]) (fun M2 f0 w2 r2 lt2 c2 => ?_) (M0 24 7 - 1).toNat 0 gs _ (by omega) (by omega) (fun c j q => rfl) (fun i q1 q2 => by rw [show i = 0 by omega, p0]; omega) ?_ (fun i q1 q2 => by omega)
      · unfold aft
        rw [hM1 24 12 (by omega), e12, if_neg (by omega), hM1 35 _ (by omega), mset_ne (by omega)]
        exact hU k g q1 q2 q3 q4
      · have g0 : M2 39 (a + 0) = gs := by rw [w2 39 _ (by omega)]; exact p0
        have g12 : M2 24 12 = M0 24 12 := by rw [w2 24 12 (by omega)]; exact e12
        refine aM_findFingers [] 30 (fun hM => ?_)
        refine ⟨by omega, ite_i (fun q => by omega) (fun q => ?_)⟩
        refine ⟨rfl, rfl, fun c j q1 q2 => ?_, r2, ?_, fun _ k q1 q2 => ?_, fun h1 => by omega⟩
        · rw [w2 c j (by omega), mset_ne (by omega)]
        · show Fst (stC M0) (tot M0) (M2 39 (a + 0))
          rw [g0]; exact hF
        · have := c2 k q1 q2
          rw [show a + k + 1 = a + (k + 1) by omega] at this
          exact this
      · rw [p0]
        unfold A0 at hA0
        rw [if_neg (by omega)] at hA0
        exact hA0.1
  refine eM_findFingers [2] 30 (Nat.le_of_ble_eq_true rfl) (fun hM => ?_)
  exact z_ff_start h ht hL hn hF c20 (gs - 1).toNat 1 (by omega) (by omega)
end Fin
end
section
/-! ===== the reference keeps what it found ===== -/
section De
variable {M M' : Mm}
theorem de_BR (h : DEq M M') (ht : M 24 12 = 0 ∨ TOk M) (hn : 0 < M 24 7) {p : Int → Int} (hp : ∀ k, 0 ≤ k → k ≤ M 24 7 - 1 → 1 ≤ p k ∧ p k ≤ 5) (hB : BR M p) : BR M' p := by
  obtain ⟨b1, b2, b3⟩ := hB
  have rt : ∀ lo, 0 ≤ lo → rowT M p lo → rowT M' p lo := by
    intro lo h0 hr k q1 q2
    rw [h.2.1] at q2
    have q := hp k (by omega) (by omega)
    rw [de_rsT h (by omega) (by omega) q.1 q.2]
    exact (hr k q1 q2).congr (fun g g1 g2 => by rw [de_rsT h (by omega) (by omega) g1 g2, (de_go h (by omega) (by omega)).1])
  have es : ∀ f, 1 ≤ f → f ≤ 5 → stC M' f = stC M f := by
    intro f q1 q2
    have eo := de_ok h (k := 0) (f := f) (by omega) (by omega)
    unfold stC okM
    rw [eo.1, eo.2]
    have ea : A0 M' f = A0 M f := by
      unfold A0
      rw [h.2.2.1]
      rcases ht with ht | ht
      · rw [if_neg (by omega), if_neg (by omega)]; exact de_rsT h (by omega) (by omega) q1 q2
      · have t := ht.1
        rw [if_pos t, if_pos t]
        exact de_rsH h ht (by omega) ht.2.1 q1 q2
    rw [ea]
  have et : tot M' = tot M := m5_congr es
  refine ⟨?_, fun h0 => ?_, fun h0 => ?_⟩
  · rw [et]; exact b1.congr (fun g q1 q2 => (es g q1 q2).symm)
  · rw [h.2.2.1] at h0; exact rt 0 (by omega) (b2 h0)
  · rw [h.2.2.1] at h0
    have hT : TOk M := by
      rcases ht with ht | ht
      · omega
      · exact ht
    obtain ⟨t1, t2, t3, t4⟩ := id hT
    obtain ⟨c1, c2, c3, c4, c5⟩ := b3 h0
    have e := h.2.2.2.1 h0
    have px := hp (M 24 10) t2 (by omega)
    rw [e.1, e.2, h.2.2.1]
    refine ⟨fun k q1 q2 => ?_, fun k q1 q2 => ?_, fun k q1 q2 => ?_, c4, rt _ (by omega) c5⟩
    · have q := hp k q1 (by omega)
      rw [de_rsH h hT q1 (by omega) q.1 q.2]
      exact (c1 k q1 q2).congr (fun g g1 g2 => by rw [de_rsH h hT (by omega) (by omega) g1 g2, (de_go h q1 (by omega)).1])
    · have q := hp (M 24 10 + k) (by omega) (by omega)
      rw [de_jtX h hT q1 (by omega) q.1 q.2]
      exact (c2 k q1 q2).congr (fun g g1 g2 => by rw [de_jtX h hT (by omega) (by omega) g1 g2, de_js h hT q1 (by omega)])
    · have q := hp k (by omega) (by omega)
      rw [de_rsX h hT (by omega) (by omega) q.1 q.2]
      exact (c3 k q1 q2).congr (fun g g1 g2 => by rw [de_rsX h hT (by omega) (by omega) g1 g2, (de_go h (by omega) (by omega)).1])
end De
theorem DEq.symm {M M' : Mm} (h : DEq M M') : DEq M' M := by
  obtain ⟨e6, e7, e12, e10, ek, r7, r8, r9, r0⟩ := h
  refine ⟨e6.symm, e7.symm, e12.symm, fun q => ?_, fun k q1 q2 => ?_, r7.symm, r8.symm, r9.symm, r0.symm⟩
  · rw [e12] at q; exact ⟨(e10 q).1.symm, (e10 q).2.symm⟩
  · rw [e7] at q2; exact ⟨(ek k q1 q2).1.symm, (ek k q1 q2).2.symm⟩
/-- the same hands, marks, rules and ties -/
def CE (M M' : Mm) : Prop := M' 25 = M 25 ∧ M' 26 = M 26 ∧ M' 27 = M 27 ∧ M' 28 = M 28 ∧ M' 29 = M 29 ∧ M' 30 = M 30 ∧ M' 40 = M 40 ∧ M' 41 = M 41 ∧ M' 42 = M 42
theorem ce_fK {M M' : Mm} (h : CE M M') (hd : Int) : fK M' hd = fK M hd := by funext m; show M' 25 _ = M 25 _; rw [h.1]
theorem ce_thd {M M' : Mm} (h : CE M M') (hd : Int) : thd M' hd ↔ thd M hd := by
  obtain ⟨a1, a2, a3, a4, a5, a6, a7, a8, a9⟩ := id h
  unfold thd
  rw [a7, a8, a9, ce_fK h]
theorem ce_LM {M M' : Mm} (h : CE M M') (hd : Int) : DEq (LM M hd) (LM M' hd) := by
  obtain ⟨a1, a2, a3, a4, a5, a6, a7, a8, a9⟩ := id h
  refine ⟨by rw [LM_6, LM_6], by rw [LM_7, LM_7, ce_fK h], ?_, fun _ => ⟨by rw [LM_10, LM_10, a7], by rw [LM_11, LM_11, a8]⟩, fun k _ _ => ⟨by rw [LM_31, LM_31, a1, ce_fK h], by rw [LM_32, LM_32, a2, ce_fK h]⟩, by rw [LM_o 27 (by omega), LM_o 27 (by omega), a3], by rw [LM_o 28 (by omega), LM_o 28 (by omega), a4], by rw [LM_o 29 (by omega), LM_o 29 (by omega), a5], by rw [LM_o 30 (by omega), LM_o 30 (by omega), a6]⟩
  rw [LM_12, LM_12]
  by_cases hc : thd M hd
  · rw [if_pos hc, if_pos ((ce_thd h hd).mpr hc), a9]
  · rw [if_neg hc, if_neg (fun z => hc ((ce_thd h hd).mp z))]
theorem ce_bst {M M' : Mm} (h : CE M M') {hd : Int} (hh : hd = 0 ∨ hd = 1) (hI : MI M) : bst M' hd = bst M hd := de_lrV (ce_LM h hd) (LM_tie hh hI.2.2) (LM_ok hh hI.1 hI.2.1).2.2.1
theorem FrM.ce {M M' : Mm} (h : FrM M M') : CE M M' := ⟨by funext j; exact h _ j (by omega), by funext j; exact h _ j (by omega), by funext j; exact h _ j (by omega), by funext j; exact h _ j (by omega), by funext j; exact h _ j (by omega), by funext j; exact h _ j (by omega), by funext j; exact h _ j (by omega), by funext j; exact h _ j (by omega), by funext j; exact h _ j (by omega)⟩
/-- what is kept of hand h -/
def Kp (M : Mm) (h : Int) : Prop := M 38 h = bst M h ∧ (bst M h ≠ -9 → 0 < cnt (fK M h) 30 → (∀ k, 0 ≤ k → k ≤ cnt (fK M h) 30 - 1 → 1 ≤ M 39 (30 * h + k) ∧ M 39 (30 * h + k) ≤ 5) ∧ BR (LM M h) (pf M (30 * h)))
theorem Kp.ce {M M' : Mm} {h : Int} (hk : Kp M h) (hc : CE M M') (hh : h = 0 ∨ h = 1) (hI : MI M) (h38 : M' 38 h = M 38 h) (h39 : ∀ k, 0 ≤ k → k < 30 → M' 39 (30 * h + k) = M 39 (30 * h + k)) : Kp M' h := by
  have eb := ce_bst hc hh hI
  have ef := ce_fK hc h
  have cr := cnt_rng (fK M h) 30
  refine ⟨by rw [h38, eb]; exact hk.1, fun q1 q2 => ?_⟩
  rw [eb] at q1
  rw [ef] at q2 ⊢
  obtain ⟨r1, r2⟩ := hk.2 q1 q2
  refine ⟨fun k z1 z2 => by rw [h39 k z1 (by omega)]; exact r1 k z1 z2, ?_⟩
  have hB := de_BR (ce_LM hc h) (LM_tie hh hI.2.2) (by rw [LM_7]; exact q2) (p := pf M (30 * h)) (fun k z1 z2 => r1 k z1 (by rw [LM_7] at z2; exact z2)) r2
  -- the fingers are the same
  have e7 : LM M' h 24 7 = cnt (fK M h) 30 := by rw [LM_7, ef]
  have pe : ∀ k, 0 ≤ k → k < 30 → pf M' (30 * h) k = pf M (30 * h) k := fun k z1 z2 => h39 k z1 z2
  have ht' := tie_de (ce_LM hc h) (LM_tie hh hI.2.2)
  obtain ⟨b1, b2, b3⟩ := hB
  have rt : ∀ lo, 0 ≤ lo → rowT (LM M' h) (pf M (30 * h)) lo → rowT (LM M' h) (pf M' (30 * h)) lo := fun lo h0 hr k z1 z2 => by
    rw [pe k (by omega) (by omega), pe (k + 1) (by omega) (by omega)]; exact hr k z1 z2
  refine ⟨by rw [pe 0 (by omega) (by omega)]; exact b1, fun z => rt 0 (by omega) (b2 z), fun z => ?_⟩
  have hT : TOk (LM M' h) := by
    rcases ht' with q | q
    · omega
    · exact q
  obtain ⟨t1, t2, t3, t4⟩ := id hT
  obtain ⟨c1, c2, c3, c4, c5⟩ := b3 z
  refine ⟨fun k z1 z2 => ?_, fun k z1 z2 => ?_, fun k z1 z2 => ?_, fun k z1 z2 => ?_, rt _ (by omega) c5⟩
  · rw [pe k (by omega) (by omega), pe (k + 1) (by omega) (by omega)]; exact c1 k z1 z2
  · rw [pe _ t2 (by omega), pe (LM M' h 24 10 + k) (by omega) (by omega), pe (LM M' h 24 10 + k + 1) (by omega) (by omega)]; exact c2 k z1 z2
  · rw [pe _ t2 (by omega), pe k (by omega) (by omega), pe (k + 1) (by omega) (by omega)]; exact c3 k z1 z2
  · rw [pe (LM M' h 24 11 + k) (by omega) (by omega), pe (LM M' h 24 10 + k) (by omega) (by omega)]; exact c4 k z1 z2
/-- the reference's marks of what it has found -/
def ChI (M : Mm) : Prop := (M 24 18 = 0 ∨ (M 24 18 = 1 ∧ Kp M 0)) ∧ (M 24 19 = 0 ∨ (M 24 19 = 1 ∧ Kp M 1))
/-- cells that the reference may change when it is asked -/
abbrev scA (c : Nat) (j : Int) : Prop := scM c j ∨ c = 38 ∨ c = 39 ∨ (c = 24 ∧ (j = 18 ∨ j = 19))
def FrA (M M' : Mm) : Prop := ∀ c j, ¬ scA c j → M' c j = M c j
theorem FrA.ce {M M' : Mm} (h : FrA M M') : CE M M' := ⟨by funext j; exact h _ j (by omega), by funext j; exact h _ j (by omega), by funext j; exact h _ j (by omega), by funext j; exact h _ j (by omega), by funext j; exact h _ j (by omega), by funext j; exact h _ j (by omega), by funext j; exact h _ j (by omega), by funext j; exact h _ j (by omega), by funext j; exact h _ j (by omega)⟩
theorem MI.ce {M M' : Mm} (h : MI M) (hF : CE M M') (h34 : M' 3 = M 3 ∧ M' 4 = M 4) : MI M' := by
  obtain ⟨a1, a2, a3, a4, a5, a6, a7, a8, a9⟩ := hF
  obtain ⟨h1, h2, h3⟩ := h
  refine ⟨?_, ?_, ?_⟩
  · unfold RuI at *; rw [a3, a4, a5, a6, h34.1, h34.2]; exact h1
  · unfold KyI at *; rw [a1, a2]; exact h2
  · unfold TieI at *; rw [a7, a8, a9]; exact h3
end
section
theorem DEq.trans {A B C : Mm} (h1 : DEq A B) (h2 : DEq B C) : DEq A C := by
  obtain ⟨e6, e7, e12, e10, ek, r7, r8, r9, r0⟩ := h1
  obtain ⟨f6, f7, f12, f10, fk, s7, s8, s9, s0⟩ := h2
  refine ⟨f6.trans e6, f7.trans e7, f12.trans e12, fun q => ?_, fun k q1 q2 => ?_, s7.trans r7, s8.trans r8, s9.trans r9, s0.trans r0⟩
  · have a := e10 q
    have b := f10 (by rw [e12]; exact q)
    exact ⟨b.1.trans a.1, b.2.trans a.2⟩
  · have a := ek k q1 q2
    have b := fk k q1 (by rw [e7]; exact q2)
    exact ⟨b.1.trans a.1, b.2.trans a.2⟩
theorem de_38 (M : Mm) (j v : Int) : DEq M (mset M 38 j v) := ⟨mset_ne (by omega), mset_ne (by omega), mset_ne (by omega), fun _ => ⟨mset_ne (by omega), mset_ne (by omega)⟩, fun k _ _ => ⟨mset_ne (by omega), mset_ne (by omega)⟩, by funext i; exact mset_ne (by omega), by funext i; exact mset_ne (by omega), by funext i; exact mset_ne (by omega), by funext i; exact mset_ne (by omega)⟩
theorem RT.m38 {M0 M : Mm} {j v : Int} (h : RT M0 M) (ht : M0 24 12 = 0 ∨ TOk M0) : RT (mset M0 38 j v) (mset M 38 j v) := by
  have d := de_38 M0 j v
  obtain ⟨h1, h2, h3⟩ := h
  refine ⟨fun c i hc => ?_, fun q => ?_, fun q k f q1 q2 q3 q4 => ?_⟩
  · unfold mset; split
    · rfl
    · exact h1 c i hc
  · rw [d.2.2.1] at q
    have hT : TOk M0 := by
      rcases ht with ht | ht
      · omega
      · exact ht
    obtain ⟨t1, t2, t3, t4⟩ := id hT
    obtain ⟨f1, f2, f3⟩ := h2 q
    have e := d.2.2.2.1 q
    unfold FT
    rw [e.1, e.2, d.2.2.1, d.2.1]
    refine ⟨fun k f q1 q2 q3 q4 => ?_, fun f q1 q2 => ?_, fun k f q1 q2 q3 q4 => ?_⟩
    · rw [mset_ne (by omega), de_rsT d (by omega) (by omega) q3 q4]; exact f1 k f q1 q2 q3 q4
    · rw [mset_ne (by omega), de_wtX d hT q1 q2]; exact f2 f q1 q2
    · rw [mset_ne (by omega), de_rsH d hT q1 (by omega) q3 q4]; exact f3 k f q1 q2 q3 q4
  · rw [d.2.2.1] at q
    rw [d.2.1] at q2
    rw [mset_ne (by omega), de_rsT d q1 q2 q3 q4]; exact h3 q k f q1 q2 q3 q4
theorem CE.trans' {A B C : Mm} (h1 : CE A B) (h2 : CE B C) : CE A C := ⟨h2.1.trans h1.1, h2.2.1.trans h1.2.1, h2.2.2.1.trans h1.2.2.1, h2.2.2.2.1.trans h1.2.2.2.1, h2.2.2.2.2.1.trans h1.2.2.2.2.1, h2.2.2.2.2.2.1.trans h1.2.2.2.2.2.1, h2.2.2.2.2.2.2.1.trans h1.2.2.2.2.2.2.1, h2.2.2.2.2.2.2.2.1.trans h1.2.2.2.2.2.2.2.1, h2.2.2.2.2.2.2.2.2.trans h1.2.2.2.2.2.2.2.2⟩
section Ask
variable {N : Nat} {M : Mm}
/-- the second half of findHand: from what is laid aside on -/
theorem z_fh_tail {h : Int} (hh : h = 0 ∨ h = 1) (hI : MI M) {Φ : Option Vl → Ly → Mm → Prop} (kk : ∀ M', (∀ c j, ¬ scM c j → ¬ (c = 38 ∧ j = h) → ¬ (c = 39 ∧ 30 * h ≤ j ∧ j < 30 * h + 30) → M' c j = M c j) → Kp M' h → Φ none (S0 N) M') :
    AJ 10 0 0 mM_findHand Φ 0 0 63 [some (.inr 24), some (.inl h)] [] (S0 N) M := by
  have cr := cnt_rng (fK M h) 30
  have hL0 := LM_ok hh hI.1 hI.2.1
  have ht0 := LM_tie hh hI.2.2
  refine aM_findHand [] 40 (fun hM => ?_)
  refine ⟨9, _, (Nat.le_of_ble_eq_true rfl), z_leastOfHand hh hI, ?_⟩
  rintro r S' M3 ⟨rfl, rfl, hF, M2, d1, d2, hA, hR⟩ hM3
  have hI2 := hI.fr d2
  have hL2 := hL0.de d1 hI2.1
  have ht2 := tie_de d1 ht0
  have e7 : M2 24 7 = cnt (fK M h) 30 := by rw [d1.2.1, LM_7]
  have hb : bst M h = -9 ∨ (0 ≤ bst M h ∧ bst M h < 1000000) := by
    unfold bst lrV
    split
    · right; omega
    · rename_i hn0
      have l3 := hL0.2.2.1
      have := tot_rng ht0 hL0 (by omega)
      split <;> omega
  have f7 : (mset M3 38 h (bst M h)) 24 7 = cnt (fK M h) 30 := by rw [mset_ne (by omega), hA 24 7 (by omega)]; exact e7
  have fr : ∀ c j, ¬ scM c j → ¬ (c = 38 ∧ j = h) → (mset M3 38 h (bst M h)) c j = M c j := fun c j q1 q2 => by rw [mset_ne (by omega)]; exact hF c j q1
  have cee : CE M (mset M3 38 h (bst M h)) := ⟨by funext j; exact fr _ j (by omega) (by omega), by funext j; exact fr _ j (by omega) (by omega), by funext j; exact fr _ j (by omega) (by omega), by funext j; exact fr _ j (by omega) (by omega), by funext j; exact fr _ j (by omega) (by omega), by funext j; exact fr _ j (by omega) (by omega), by funext j; exact fr _ j (by omega) (by omega), by funext j; exact fr _ j (by omega) (by omega), by funext j; exact fr _ j (by omega) (by omega)⟩
  have eb := ce_bst cee hh hI
  refine ⟨⟨by decide, by omega, by omega, by omega, by omega⟩, by omega, ?_⟩
  rw [mset_eq]
  refine ⟨by omega, ite_i (fun q => ?_) (fun q => ?_)⟩
  · exact kk _ (fun c j q1 q2 q3 => fr c j q1 q2) ⟨by rw [mset_eq, eb], fun z => absurd (by rw [eb]; exact q) z⟩
  · refine ⟨by omega, ite_i (fun q2 => ?_) (fun q2 => ?_)⟩
    · have hn : 0 < M2 24 7 := by omega
      have hlt : tot M2 < 1000000 := by
        have e : bst M h = lrV M2 := (de_lrV d1 ht0 hL0.2.2.1).symm
        rw [e] at q
        unfold lrV at q
        rw [if_neg (by omega)] at q
        split at q
        · assumption
        · exact absurd rfl q
      have d38 := de_38 M2 h (bst M h)
      have hL3 : LOk (mset M2 38 h (bst M h)) := hL2.de d38 (by
        have := hI2.1
        unfold RuI at *
        rw [show (mset M2 38 h (bst M h)) 3 = M2 3 by funext i; exact mset_ne (by omega), show (mset M2 38 h (bst M h)) 4 = M2 4 by funext i; exact mset_ne (by omega), d38.2.2.2.2.2.1, d38.2.2.2.2.2.2.1, d38.2.2.2.2.2.2.2.1, d38.2.2.2.2.2.2.2.2]
        exact this)
      have ht3 := tie_de d38 ht2
      have e73 : (mset M2 38 h (bst M h)) 24 7 = cnt (fK M h) 30 := by rw [d38.2.1, e7]
      have hlt3 : tot (mset M2 38 h (bst M h)) < 1000000 := by
        have e := de_lrV d38 ht2 hL2.2.2.1
        unfold lrV at e
        rw [d38.2.1, if_neg (show ¬ M2 24 7 = 0 by omega), if_pos hlt] at e
        split at e
        · assumption
        · have := tot_rng ht2 hL2 hn; omega
      refine ⟨8, _, (Nat.le_of_ble_eq_true rfl), z_findFingers ((hR hn).m38 ht2) ht3 hL3 (by rw [d38.2.1]; exact hn) (a := 30 * h) (by omega) hlt3, ?_⟩
      rintro r S' M4 ⟨rfl, rfl, g1, g2, g3⟩ hM4
      rw [e73] at g1 g2
      have fr4 : ∀ c j, ¬ scM c j → ¬ (c = 38 ∧ j = h) → ¬ (c = 39 ∧ 30 * h ≤ j ∧ j < 30 * h + 30) → M4 c j = M c j := fun c j q1 q2 q3 => by rw [g1 c j (by omega) (by omega)]; exact fr c j q1 q2
      have ce4 : CE M M4 := ⟨by funext j; exact fr4 _ j (by omega) (by omega) (by omega), by funext j; exact fr4 _ j (by omega) (by omega) (by omega), by funext j; exact fr4 _ j (by omega) (by omega) (by omega), by funext j; exact fr4 _ j (by omega) (by omega) (by omega), by funext j; exact fr4 _ j (by omega) (by omega) (by omega), by funext j; exact fr4 _ j (by omega) (by omega) (by omega), by funext j; exact fr4 _ j (by omega) (by omega) (by omega), by funext j; exact fr4 _ j (by omega) (by omega) (by omega), by funext j; exact fr4 _ j (by omega) (by omega) (by omega)⟩
      have eb4 := ce_bst ce4 hh hI
      refine kk M4 fr4 ⟨?_, fun _ _ => ⟨fun k z1 z2 => ?_, ?_⟩⟩
      · rw [g1 38 h (by omega) (by omega), mset_eq, eb4]
      · rw [ce_fK ce4] at z2; exact g2 k z1 z2
      · have dd : DEq (mset M2 38 h (bst M h)) (LM M4 h) := (d38.symm.trans d1.symm).trans (ce_LM ce4 h)
        exact de_BR dd ht3 (by rw [d38.2.1]; exact hn) (fun k z1 z2 => g2 k z1 (by rw [e73] at z2; exact z2)) g3
    · refine kk _ (fun c j q1 q2 q3 => fr c j q1 q2) ⟨by rw [mset_eq, eb], fun z1 z2 => ?_⟩
      rw [ce_fK cee] at z2
      omega
theorem z_fh_tail2 {h a b : Int} (hI : MI M) (hC : ChI M) (hab : (h = 0 ∧ a = 1 ∧ b = M 24 19) ∨ (h = 1 ∧ a = M 24 18 ∧ b = 1)) :
    AJ 10 0 0 mM_findHand (fun r S' M' => r = none ∧ S' = S0 N ∧ FrA M M' ∧ ChI M' ∧ Kp M' h ∧ ∀ j, j ≠ h → M' 38 j = M 38 j) 0 0 63 [some (.inr 24), some (.inl h)] [] (S0 N) (mset (mset M 24 18 a) 24 19 b) := by
  obtain ⟨c0, c1⟩ := id hC
  have hh : h = 0 ∨ h = 1 := by omega
  have f1 : ∀ c j, ¬ (c = 24 ∧ (j = 18 ∨ j = 19)) → (mset (mset M 24 18 a) 24 19 b) c j = M c j := fun c j z => by rw [mset_ne (by omega), mset_ne (by omega)]
  have hc1 : CE M (mset (mset M 24 18 a) 24 19 b) := ⟨by funext j; exact f1 _ j (by omega), by funext j; exact f1 _ j (by omega), by funext j; exact f1 _ j (by omega), by funext j; exact f1 _ j (by omega), by funext j; exact f1 _ j (by omega), by funext j; exact f1 _ j (by omega), by funext j; exact f1 _ j (by omega), by funext j; exact f1 _ j (by omega), by funext j; exact f1 _ j (by omega)⟩
  have hI1 := hI.ce hc1 ⟨by funext j; exact f1 _ j (by omega), by funext j; exact f1 _ j (by omega)⟩
  refine z_fh_tail hh hI1 (fun M' fr kp => ?_)
  have hc2 : CE M M' := hc1.trans' ⟨by funext j; exact fr _ j (by omega) (by omega) (by omega), by funext j; exact fr _ j (by omega) (by omega) (by omega), by funext j; exact fr _ j (by omega) (by omega) (by omega), by funext j; exact fr _ j (by omega) (by omega) (by omega), by funext j; exact fr _ j (by omega) (by omega) (by omega), by funext j; exact fr _ j (by omega) (by omega) (by omega), by funext j; exact fr _ j (by omega) (by omega) (by omega), by funext j; exact fr _ j (by omega) (by omega) (by omega), by funext j; exact fr _ j (by omega) (by omega) (by omega)⟩
  have e8 : M' 24 18 = a := by rw [fr 24 18 (by omega) (by omega) (by omega), mset_ne (by omega), mset_eq]
  have e9 : M' 24 19 = b := by rw [fr 24 19 (by omega) (by omega) (by omega), mset_eq]
  refine ⟨rfl, rfl, fun c j z => ?_, ?_, kp, fun j hj => by rw [fr 38 j (by omega) (by omega) (by omega)]; exact f1 _ _ (by omega)⟩
  · rw [fr c j (by omega) (by omega) (by omega)]; exact f1 c j (by omega)
  · unfold ChI
    rw [e8, e9]
    rcases hab with ⟨rfl, rfl, rfl⟩ | ⟨rfl, rfl, rfl⟩
    · refine ⟨Or.inr ⟨rfl, kp⟩, ?_⟩
      rcases c1 with c1 | ⟨c1, k1⟩
      · exact Or.inl c1
      · refine Or.inr ⟨c1, k1.ce hc2 (Or.inr rfl) hI ?_ (fun k z1 z2 => ?_)⟩
        · rw [fr 38 1 (by omega) (by omega) (by omega)]; exact f1 _ _ (by omega)
        · rw [fr 39 _ (by omega) (by omega) (by omega)]; exact f1 _ _ (by omega)
    · refine ⟨?_, Or.inr ⟨rfl, kp⟩⟩
      rcases c0 with c1 | ⟨c1, k1⟩
      · exact Or.inl c1
      · refine Or.inr ⟨c1, k1.ce hc2 (Or.inl rfl) hI ?_ (fun k z1 z2 => ?_)⟩
        · rw [fr 38 0 (by omega) (by omega) (by omega)]; exact f1 _ _ (by omega)
        · rw [fr 39 _ (by omega) (by omega) (by omega)]; exact f1 _ _ (by omega)
theorem z_findHand {h : Int} (hh : h = 0 ∨ h = 1) (hI : MI M) (hC : ChI M) : Ret 10 0 0 mM_findHand [.inr 24, .inl h] (S0 N) M (fun r S' M' => r = none ∧ S' = S0 N ∧ FrA M M' ∧ ChI M' ∧ Kp M' h ∧ ∀ j, j ≠ h → M' 38 j = M 38 j) := by
  obtain ⟨c0, c1⟩ := id hC
  have r8 : 0 ≤ M 24 18 ∧ M 24 18 ≤ 1 := by omega
  have r9 : 0 ≤ M 24 19 ∧ M 24 19 ≤ 1 := by omega
  rcases hh with rfl | rfl
  · refine eM_findHand [63] 60 (Nat.le_of_ble_eq_true rfl) (fun hM => ?_)
    refine ⟨by omega, ?_⟩
    refine ⟨by omega, ite_i (fun q => ?_) (fun q => ?_)⟩
    · refine ⟨by omega, ite_i (fun _ => ?_) (fun q2 => absurd q q2)⟩
      refine ⟨by omega, ?_⟩
      have e9 : mset M 24 18 1 24 19 = M 24 19 := mset_ne (by omega)
      refine ⟨⟨by omega, Or.inr rfl, trivial⟩, ?_⟩
      refine ⟨by omega, ite_i (fun q2 => ?_) (fun q2 => ?_)⟩
      · refine ⟨⟨by omega, by omega⟩, ?_⟩
        refine ⟨⟨by omega, Or.inl rfl, trivial⟩, ?_⟩
        exact z_fh_tail2 hI hC (Or.inl ⟨rfl, rfl, by omega⟩)
      · refine ⟨⟨by omega, Or.inr rfl, trivial⟩, ?_⟩
        exact z_fh_tail2 hI hC (Or.inl ⟨rfl, rfl, by omega⟩)
    · refine ⟨rfl, rfl, fun _ _ _ => rfl, hC, ?_, fun _ _ => rfl⟩
      rcases c0 with z | z
      · exact absurd z q
      · exact z.2
  · refine eM_findHand [63] 60 (Nat.le_of_ble_eq_true rfl) (fun hM => ?_)
    refine ⟨by omega, ?_⟩
    refine ⟨by omega, ite_i (fun q => ?_) (fun q => ?_)⟩
    · refine ⟨by omega, ite_i (fun q2 => ?_) (fun q2 => ?_)⟩
      · refine ⟨by omega, ?_⟩
        have e9 : mset M 24 18 0 24 19 = M 24 19 := mset_ne (by omega)
        refine ⟨⟨by omega, Or.inl rfl, trivial⟩, ?_⟩
        refine ⟨by omega, ite_i (fun _ => ?_) (fun q2 => absurd (e9.trans q) q2)⟩
        refine ⟨⟨by omega, by omega⟩, ?_⟩
        refine ⟨⟨by omega, Or.inr rfl, trivial⟩, ?_⟩
        exact z_fh_tail2 hI hC (Or.inr ⟨rfl, by omega, rfl⟩)
      · have e9 : mset M 24 18 1 24 19 = M 24 19 := mset_ne (by omega)
        refine ⟨⟨by omega, Or.inr rfl, trivial⟩, ?_⟩
        refine ⟨by omega, ite_i (fun _ => ?_) (fun q2 => absurd (e9.trans q) q2)⟩
        refine ⟨⟨by omega, by omega⟩, ?_⟩
        refine ⟨⟨by omega, Or.inr rfl, trivial⟩, ?_⟩
        exact z_fh_tail2 hI hC (Or.inr ⟨rfl, by omega, rfl⟩)
    · refine ⟨rfl, rfl, fun _ _ _ => rfl, hC, ?_, fun _ _ => rfl⟩
      rcases c1 with z | z
      · exact absurd z q
      · exact z.2
end Ask
end
section
/-! ===== the reference's questions: best, finger, would, tied ===== -/
theorem FrM.a {M M' : Mm} (h : FrM M M') : FrA M M' := fun c j z => h c j (by omega)
theorem FrA.trans {A B C : Mm} (h1 : FrA A B) (h2 : FrA B C) : FrA A C := fun c j z => (h2 c j z).trans (h1 c j z)
theorem MI.fra {M M' : Mm} (h : MI M) (hF : FrA M M') : MI M' := h.ce hF.ce ⟨by funext j; exact hF _ j (by omega), by funext j; exact hF _ j (by omega)⟩
theorem ChI.fr {M M' : Mm} (h : ChI M) (hI : MI M) (hF : FrM M M') : ChI M' := by
  have hc := hF.ce
  obtain ⟨c0, c1⟩ := h
  unfold ChI
  rw [hF 24 18 (by omega), hF 24 19 (by omega)]
  refine ⟨?_, ?_⟩
  · rcases c0 with z | ⟨z, k⟩
    · exact Or.inl z
    · exact Or.inr ⟨z, k.ce hc (Or.inl rfl) hI (hF 38 _ (by omega)) (fun _ _ _ => hF 39 _ (by omega))⟩
  · rcases c1 with z | ⟨z, k⟩
    · exact Or.inl z
    · exact Or.inr ⟨z, k.ce hc (Or.inr rfl) hI (hF 38 _ (by omega)) (fun _ _ _ => hF 39 _ (by omega))⟩
/-- asked: the scratch may have changed, no more -/
def Ak (M M' : Mm) : Prop := FrA M M' ∧ ChI M'
section Pub
variable {N : Nat} {M : Mm} {h : Int}
theorem bst_rng (hh : h = 0 ∨ h = 1) (hI : MI M) : bst M h = -9 ∨ (0 ≤ bst M h ∧ bst M h < 1000000) := by
  have hL0 := LM_ok hh hI.1 hI.2.1
  have ht0 := LM_tie hh hI.2.2
  unfold bst lrV
  split
  · right; omega
  · rename_i hn0
    have l3 := hL0.2.2.1
    have := tot_rng ht0 hL0 (by omega)
    split <;> omega
def bestV (M : Mm) (h : Int) : Int := if h = 0 ∨ h = 1 then bst M h else -1
theorem z_best (hr : R32 h) (hI : MI M) (hC : ChI M) : Ret 11 0 0 mM_best [.inr 24, .inl h] (S0 N) M (fun r S' M' => r = some (.inl (bestV M h)) ∧ S' = S0 N ∧ Ak M M') := by
  refine eM_best [] 30 (Nat.le_of_ble_eq_true rfl) (fun hM => ?_)
  refine CL.bl (z_isHand hr) (Nat.le_of_ble_eq_true rfl) (fun q => ?_) (fun q => ?_)
  · refine ⟨R32_1, ?_⟩
    refine ⟨10, _, (Nat.le_of_ble_eq_true rfl), z_findHand q hI hC, ?_⟩
    rintro r S' M' ⟨rfl, rfl, hF, hC', hk, hj⟩ hM'
    have e : bst M' h = bst M h := ce_bst hF.ce q hI
    refine ⟨by omega, ?_, rfl, hF, hC'⟩
    unfold bestV
    rw [if_pos q, hk.1, e]
  · refine ⟨R32_0, ?_, rfl, fun _ _ _ => rfl, hC⟩
    unfold bestV
    rw [if_neg q]
/-- what finger answers: the best row's finger -/
def FgV (M M' : Mm) (h k v : Int) : Prop := if (h = 0 ∨ h = 1) ∧ 0 ≤ k ∧ k < cnt (fK M h) 30 then (if bst M h = -9 then v = -9 else ∃ p : Int → Int, (∀ i, 0 ≤ i → i ≤ cnt (fK M h) 30 - 1 → 1 ≤ p i ∧ p i ≤ 5) ∧ BR (LM M h) p ∧ v = p k) else v = -1
theorem z_finger {k : Int} (hr : R32 h) (hrk : R32 k) (hI : MI M) (hC : ChI M) : Ret 11 0 0 mM_finger [.inr 24, .inl h, .inl k] (S0 N) M (fun r S' M' => (∃ v, r = some (.inl v) ∧ FgV M M' h k v) ∧ S' = S0 N ∧ Ak M M') := by
  have cr := cnt_rng (fK M h) 30
  refine eM_finger [] 40 (Nat.le_of_ble_eq_true rfl) (fun hM => ?_)
  refine CL.bl (z_isHand hr) (Nat.le_of_ble_eq_true rfl) (fun q => ?_) (fun q => ?_)
  · refine ⟨R32_1, ?_⟩
    refine CL.bl (z_isNote q hrk) (Nat.le_of_ble_eq_true rfl) (fun q2 => ?_) (fun q2 => ?_)
    · refine ⟨R32_1, ?_⟩
      refine ⟨10, _, (Nat.le_of_ble_eq_true rfl), z_findHand q hI hC, ?_⟩
      rintro r S' M' ⟨rfl, rfl, hF, hC', hk, hj⟩ hM'
      have e : bst M' h = bst M h := ce_bst hF.ce q hI
      have k1 := hk.1
      refine ⟨by omega, ⟨hM' _ _, by decide⟩, ite_i (fun q3 => ?_) (fun q3 => ?_)⟩
      · refine ⟨⟨_, rfl, ?_⟩, rfl, hF, hC'⟩
        unfold FgV
        rw [if_pos ⟨q, q2⟩, if_pos (by omega)]
      · refine ⟨by omega, ⟨_, rfl, ?_⟩, rfl, hF, hC'⟩
        unfold FgV
        rw [if_pos ⟨q, q2⟩, if_neg (by omega)]
        have hk2 := hk.2 (by omega)
        rw [ce_fK hF.ce] at hk2
        obtain ⟨a1, a2⟩ := hk2 (by omega)
        exact ⟨pf M' (30 * h), a1, de_BR (ce_LM hF.ce h).symm (LM_tie q (hI.fra hF).2.2) (by rw [LM_7, ce_fK hF.ce]; omega) (fun i z1 z2 => a1 i z1 (by rw [LM_7, ce_fK hF.ce] at z2; exact z2)) a2, rfl⟩
    · refine ⟨R32_0, ⟨_, rfl, ?_⟩, rfl, fun _ _ _ => rfl, hC⟩
      unfold FgV
      rw [if_neg (fun z => q2 z.2)]
  · refine ⟨R32_0, ⟨_, rfl, ?_⟩, rfl, fun _ _ _ => rfl, hC⟩
    unfold FgV
    rw [if_neg (fun z => q z.1)]
theorem de_s32 {A B : Mm} (d : DEq A B) (k v : Int) : DEq (mset A 32 k v) (mset B 32 k v) := by
  obtain ⟨e6, e7, e12, e10, ek, r7, r8, r9, r0⟩ := d
  have f : ∀ (X : Mm) (c : Nat), c ≠ 32 → (mset X 32 k v) c = X c := fun X c hc => by funext j; exact mset_ne (by omega)
  unfold DEq
  rw [f A 24 (by omega), f B 24 (by omega), f A 31 (by omega), f B 31 (by omega), f A 27 (by omega), f B 27 (by omega), f A 28 (by omega), f B 28 (by omega), f A 29 (by omega), f B 29 (by omega), f A 30 (by omega), f B 30 (by omega)]
  refine ⟨e6, e7, e12, e10, fun i z1 z2 => ⟨(ek i z1 z2).1, ?_⟩, r7, r8, r9, r0⟩
  unfold mset
  split
  · rfl
  · exact (ek i z1 z2).2
theorem LOk.s32 {A : Mm} (h : LOk A) (k v : Int) : LOk (mset A 32 k v) := by
  have f : ∀ (c : Nat), c ≠ 32 → (mset A 32 k v) c = A c := fun c hc => by funext j; exact mset_ne (by omega)
  unfold LOk RuI at *
  rw [f 24 (by omega), f 31 (by omega), f 3 (by omega), f 4 (by omega), f 27 (by omega), f 28 (by omega), f 29 (by omega), f 30 (by omega)]
  exact h
theorem tie_s32 {A : Mm} (h : A 24 12 = 0 ∨ TOk A) (k v : Int) : (mset A 32 k v) 24 12 = 0 ∨ TOk (mset A 32 k v) := by
  have f : (mset A 32 k v) 24 = A 24 := by funext j; exact mset_ne (by omega)
  unfold TOk at *
  rw [f]; exact h
def wouldV (M : Mm) (h k f : Int) : Int := if (h = 0 ∨ h = 1) ∧ (0 ≤ k ∧ k < cnt (fK M h) 30) ∧ 1 ≤ f ∧ f ≤ 5 then lrV (mset (LM M h) 32 k (shlI 1 f)) else -1
theorem z_would {k f : Int} (hr : R32 h) (hrk : R32 k) (hrf : R32 f) (hI : MI M) (hC : ChI M) : Ret 11 0 0 mM_would [.inr 24, .inl h, .inl k, .inl f] (S0 N) M (fun r S' M' => r = some (.inl (wouldV M h k f)) ∧ S' = S0 N ∧ Ak M M') := by
  have cr := cnt_rng (fK M h) 30
  refine eM_would [] 40 (Nat.le_of_ble_eq_true rfl) (fun hM => ?_)
  refine CL.bl (z_isHand hr) (Nat.le_of_ble_eq_true rfl) (fun q => ?_) (fun q => ?_)
  · refine ⟨R32_1, ?_⟩
    refine CL.bl (z_isNote q hrk) (Nat.le_of_ble_eq_true rfl) (fun q2 => ?_) (fun q2 => ?_)
    · refine ⟨R32_1, ?_⟩
      refine CL.bl (z_isFinger hrf) (Nat.le_of_ble_eq_true rfl) (fun q3 => ?_) (fun q3 => ?_)
      · refine ⟨R32_1, ?_⟩
        obtain ⟨i1, i2, i3⟩ := id hI
        refine ⟨0, _, (Nat.le_of_ble_eq_true rfl), z_layNotes q i2, ?_⟩
        rintro r S' M1 ⟨rfl, rfl, hl⟩ hM1
        have hI1 : MI M1 := hI.fr (fun c j hs => hl.2.2.2 c j (by omega))
        refine CL.vo (z_layTie q hI1.2.2) (Nat.le_of_ble_eq_true rfl) (fun hM2 => ?_)
        obtain ⟨d1, d2⟩ := laid_de q hl
        generalize (mset (mset (mset M1 24 10 (M1 40 h)) 24 11 (M1 41 h)) 24 12 (if thd M1 h then M1 42 h else 0)) = M2 at d1 d2 hM2
        have hL0 := LM_ok q i1 i2
        have ht0 := LM_tie q i3
        have hL2 := hL0.de d1 (hI.fr d2).1
        have ht2 := tie_de d1 ht0
        refine ⟨⟨by decide, by omega, by omega, by omega, R32_toInt _⟩, ?_⟩
        refine ⟨8, _, (Nat.le_of_ble_eq_true rfl), z_leastRow (M0 := mset M2 32 k (shlI 1 f)) (fun c j _ => rfl) (tie_s32 ht2 _ _) (hL2.s32 _ _), ?_⟩
        rintro r S' M3 ⟨rfl, rfl, hA, hR⟩ hM3
        have hF : FrM M M3 := fun c j z => by rw [hA c j (by omega), mset_ne (by omega)]; exact d2 c j z
        refine ⟨?_, rfl, hF.a, hC.fr hI hF⟩
        unfold wouldV
        rw [if_pos ⟨q, q2, q3⟩, de_lrV (de_s32 d1 k (shlI 1 f)) (tie_s32 ht0 _ _) (hL0.s32 _ _).2.2.1]
      · refine ⟨R32_0, ?_, rfl, fun _ _ _ => rfl, hC⟩
        unfold wouldV
        rw [if_neg (fun z => q3 z.2.2)]
    · refine ⟨R32_0, ?_, rfl, fun _ _ _ => rfl, hC⟩
      unfold wouldV
      rw [if_neg (fun z => q2 z.2.1)]
  · refine ⟨R32_0, ?_, rfl, fun _ _ _ => rfl, hC⟩
    unfold wouldV
    rw [if_neg (fun z => q z.1)]
end Pub
end
section
/-! ===== the reference: tied and stuck ===== -/
/-- what the notes up to k cost, the last with finger f -/
def nxV (M : Mm) (T : Int → Int) (k : Int) (g : Int) : Int := if okM M (k + 1) g then m5 (fun f => T f + stM M k f g) + ncM M (k + 1) g else 1000000
def up (M : Mm) : Nat → Int → Int
  | 0, f => if okM M 0 f then ncM M 0 f else 1000000
  | k + 1, g => clp (nxV M (up M k) (k : Int) g)
section Stuck
variable {N : Nat} {M0 M : Mm}
theorem nxV_rng (hI : RuI M0) {T : Int → Int} (hT : ∀ f, 1 ≤ f → f ≤ 5 → 0 ≤ T f ∧ T f ≤ 1000000) {k g : Int} (hg0 : 1 ≤ g) (hg1 : g ≤ 5) : 0 ≤ nxV M0 T k g ∧ nxV M0 T k g ≤ 1000020 := by
  have h2 := ncv_rng hI (M0 31 (k + 1)) g
  have h1 := m5_rng (φ := fun f => T f + stM M0 k f g) (fun f q1 q2 => by
    have := hT f q1 q2
    have := stv_rng hI (hand := M0 24 6) (a := M0 31 k) (b := M0 31 (k + 1)) q1 q2 hg0 hg1
    show 0 ≤ T f + stv _ _ _ _ _ _ _ _ _
    omega)
  unfold nxV
  split
  · unfold ncM; omega
  · omega
theorem up_rng (hI : RuI M0) : ∀ (k : Nat) (f : Int), 1 ≤ f → f ≤ 5 → 0 ≤ up M0 k f ∧ up M0 k f ≤ 1000000 := by
  intro k
  induction k with
  | zero =>
    intro f h1 h2
    have := ncv_rng hI (M0 31 0) f
    unfold up
    split
    · unfold ncM; omega
    · omega
  | succ k ih =>
    intro f h1 h2
    have := nxV_rng hI ih (k := k) h1 h2
    unfold up clp
    split <;> omega
theorem z_begin (hA : Agr M0 M) (hL : LOk M0) (hn : 0 < M0 24 7) : Ret 2 0 0 mM_begin [.inr 24] (S0 N) M (Vo (S0 N) (wr M 33 0 (up M0 0) 5)) := by
  have loop : ∀ (n i : Nat), i + n = 5 → AJ 2 0 0 mM_begin (Vo (S0 N) (wr M 33 0 (up M0 0) 5)) 0 0 2 [some (.inr 24), some (.inl (i + 1))] [] (S0 N) (wr M 33 0 (up M0 0) i) := by
    intro n
    induction n with
    | zero =>
      intro i hi
      have : i = 5 := by omega
      subst this
      refine aM_begin [2] 30 (fun hM => ?_)
      exact ⟨by decide, vo_eq rfl⟩
    | succ n ih =>
      intro i hi
      have hA1 : Agr M0 (wr M 33 0 (up M0 0) i) := hA.wr (by omega) _ _ _
      have e31 := hA1.c 31 (by omega)
      have e30 := hA1.c 30 (by omega)
      have a := hL.2.2.2.2 0 (by omega) hn
      have hr := up_rng hL.1 0 (i + 1) (by omega) (by omega)
      have h2 := ih (i + 1) (by omega)
      rw [show ((i + 1 : Nat) : Int) = (i : Int) + 1 by omega] at h2
      have e0 : up M0 0 (i + 1) = if okM M0 0 (i + 1) then ncM M0 0 (i + 1) else 1000000 := rfl
      refine aM_begin [2] 40 (fun hM => ?_)
      refine ⟨by omega, ite_i (fun q => by omega) (fun q => ?_)⟩
      refine CL.bl (z_isOf hA1 (by omega) (by omega)) (Nat.le_of_ble_eq_true rfl) (fun q2 => ?_) (fun q2 => ?_)
      · refine ⟨R32_1, by omega, ?_⟩
        refine CL.pu (z_noteCost (RuI.agr hA1 hL.1) (by rw [e31]; omega) (by rw [e31]; omega) (by omega)) (Nat.le_of_ble_eq_true rfl) ?_
        rw [if_pos q2] at e0
        have ev : ncv ((wr M 33 0 (up M0 0) i) 30) ((wr M 33 0 (up M0 0) i) 31 0) (i + 1) = up M0 0 (i + 1) := by rw [e31, e30, e0]
        refine ⟨⟨by decide, by omega, by omega, by omega, by omega⟩, ?_⟩
        rw [show (i : Int) + 1 = 0 + (i + 1) by omega, wr_step (by omega) (by rw [show (0 : Int) + (i + 1) = i + 1 by omega]; exact ev), show (0 : Int) + (i + 1) = i + 1 by omega]
        exact h2
      · rw [if_neg q2] at e0
        refine ⟨R32_0, ⟨by decide, by omega, by omega, by omega, by omega⟩, ?_⟩
        rw [show (i : Int) + 1 = 0 + (i + 1) by omega, wr_step (by omega) (by rw [e0]), show (0 : Int) + (i + 1) = i + 1 by omega]
        exact h2
  refine eM_begin [2] 30 (Nat.le_of_ble_eq_true rfl) (fun hM => ?_)
  have h2 := loop 5 0 (by omega)
  rw [show ((0 : Nat) : Int) = 0 from rfl, wr_0] at h2
  exact h2
theorem z_leastUp (hB : ∀ g, 1 ≤ g → g ≤ 5 → 0 ≤ M 33 g ∧ M 33 g ≤ 1000000) : Ret 0 0 0 mM_leastUp [.inr 24] (S0 N) M (Pu (S0 N) M (m5 (M 33))) := by
  have loop : ∀ (n : Nat) (g l : Int), g + n = 6 → 1 ≤ g → 0 ≤ l → l ≤ 1000000 → AJ 0 0 0 mM_leastUp (Pu (S0 N) M (mfr (M 33) n g l)) 0 0 5 [some (.inr 24), some (.inl l), some (.inl g)] [] (S0 N) M := by
    intro n
    induction n with
    | zero =>
      intro g l hg hg1 hl0 hl1
      have : g = 6 := by omega
      subst this
      refine aM_leastUp [] 30 (fun hM => ?_)
      exact ⟨by decide, pu_eq rfl⟩
    | succ n ih =>
      intro g l hg hg1 hl0 hl1
      have hr := hB g hg1 (by omega)
      refine aM_leastUp [5] 30 (fun hM => ?_)
      refine ⟨by omega, ite_i (fun q => by omega) (fun q => ?_)⟩
      refine ⟨by omega, by omega, ite_i (fun q => ?_) (fun q => ?_)⟩
      · refine ⟨by omega, ?_⟩
        have := ih (g + 1) (M 33 g) (by omega) (by omega) (by omega) (by omega)
        unfold mfr mn
        rw [if_pos q]; exact this
      · have := ih (g + 1) l (by omega) (by omega) (by omega) (by omega)
        unfold mfr mn
        rw [if_neg q]; exact this
  refine eM_leastUp [5] 30 (Nat.le_of_ble_eq_true rfl) (fun hM => ?_)
  exact loop 5 1 1000000 (by omega) (by omega) (by omega) (by omega)
theorem stM_rng (hI : RuI M0) {k f g : Int} (hf0 : 1 ≤ f) (hf1 : f ≤ 5) (hg0 : 1 ≤ g) (hg1 : g ≤ 5) : 0 ≤ stM M0 k f g ∧ stM M0 k f g ≤ 1000000 := by
  have := stv_rng hI (hand := M0 24 6) (a := M0 31 k) (b := M0 31 (k + 1)) hf0 hf1 hg0 hg1
  show 0 ≤ stv _ _ _ _ _ _ _ _ _ ∧ stv _ _ _ _ _ _ _ _ _ ≤ _
  omega
theorem z_goes_inner {k g : Int} {Φ : Option Vl → Ly → Mm → Prop} (hA : Agr M0 M) (hL : LOk M0) (h0 : 0 ≤ k) (h1 : k + 1 < M0 24 7) (hg0 : 1 ≤ g) (hg1 : g ≤ 5) (hB : ∀ f, 1 ≤ f → f ≤ 5 → 0 ≤ M 33 f ∧ M 33 f ≤ 1000000) {φ : Int → Int} (hφ : ∀ f, 1 ≤ f → f ≤ 5 → φ f = M 33 f + stM M0 k f g) :
    ∀ (n : Nat) (f l : Int) (L6 : Option Vl), f + n = 6 → 1 ≤ f → 0 ≤ l → l ≤ 1000000 → AJ 3 0 0 mM_goesOn Φ 0 0 60 [some (.inr 24), some (.inl k), some (.inl 1), some (.inl g), some (.inl (mfr φ n f l))] [] (S0 N) M → AJ 3 0 0 mM_goesOn Φ 0 0 14 [some (.inr 24), some (.inl k), some (.inl 1), some (.inl g), some (.inl l), some (.inl f), L6] [] (S0 N) M := by
  intro n
  induction n with
  | zero =>
    intro f l L6 hf hf1 hl0 hl1 kk
    have : f = 6 := by omega
    subst this
    refine aM_goesOn [60] 30 (fun hM => ?_)
    exact ⟨by decide, AJ.wk kk ⟨rfl, rfl, rfl, rfl, rfl, trivial⟩⟩
  | succ n ih =>
    intro f l L6 hf hf1 hl0 hl1 kk
    have hb := hB f hf1 (by omega)
    have hs := stM_rng hL.1 (k := k) hf1 (show f ≤ 5 by omega) hg0 hg1
    have hp := hφ f hf1 (by omega)
    refine aM_goesOn [60, 14] 40 (fun hM => ?_)
    refine ⟨by omega, ite_i (fun q => by omega) (fun q => ?_)⟩
    refine ⟨by omega, ?_⟩
    refine CL.pu (z_stepAt hA hL h0 h1 hf1 (by omega) hg0 hg1) (Nat.le_of_ble_eq_true rfl) ?_
    refine ⟨by omega, ite_i (fun q => ?_) (fun q => ?_)⟩
    · refine ih (f + 1) _ _ (by omega) (by omega) (by omega) (by omega) ?_
      unfold mfr mn at kk
      rw [hp, if_pos q] at kk
      exact kk
    · refine ih (f + 1) _ _ (by omega) (by omega) (by omega) (by omega) ?_
      unfold mfr mn at kk
      rw [hp, if_neg q] at kk
      exact kk
theorem z_goes_1 {k : Int} {Φ : Option Vl → Ly → Mm → Prop} (hA : Agr M0 M) (hL : LOk M0) (h0 : 0 ≤ k) (h1 : k + 1 < M0 24 7) (hB : ∀ f, 1 ≤ f → f ≤ 5 → 0 ≤ M 33 f ∧ M 33 f ≤ 1000000)
    (kk : AJ 3 0 0 mM_goesOn Φ 0 0 112 [some (.inr 24), some (.inl k), some (.inl 1)] [] (S0 N) (wr M 34 0 (nxV M0 (M 33) k) 5)) :
    ∀ (n i : Nat), i + n = 5 → AJ 3 0 0 mM_goesOn Φ 0 0 2 [some (.inr 24), some (.inl k), some (.inl 1), some (.inl (i + 1))] [] (S0 N) (wr M 34 0 (nxV M0 (M 33) k) i) := by
  intro n
  induction n with
  | zero =>
    intro i hi
    have : i = 5 := by omega
    subst this
    refine aM_goesOn [112] 30 (fun hM => ?_)
    exact ⟨by decide, AJ.wk kk ⟨rfl, rfl, rfl, trivial⟩⟩
  | succ n ih =>
    intro i hi
    have hA1 : Agr M0 (wr M 34 0 (nxV M0 (M 33) k) i) := hA.wr (by omega) _ _ _
    have e33 : (wr M 34 0 (nxV M0 (M 33) k) i) 33 = M 33 := by funext j; exact wr_ne (by omega)
    have e31 := hA1.c 31 (by omega)
    have e30 := hA1.c 30 (by omega)
    have a := hL.2.2.2.2 (k + 1) (by omega) h1
    have l7 := hL.2.2.2.1
    have hr := nxV_rng hL.1 hB (k := k) (g := i + 1) (by omega) (by omega)
    have hm := m5_rng (φ := fun f => M 33 f + stM M0 k f (i + 1)) (fun f q1 q2 => by
      have := hB f q1 q2
      have := stM_rng hL.1 (k := k) (f := f) (g := i + 1) q1 q2 (by omega) (by omega)
      show 0 ≤ M 33 f + stM M0 k f (i + 1)
      omega)
    have h2 := ih (i + 1) (by omega)
    rw [show ((i + 1 : Nat) : Int) = (i : Int) + 1 by omega] at h2
    have e0 : nxV M0 (M 33) k (i + 1) = if okM M0 (k + 1) (i + 1) then m5 (fun f => M 33 f + stM M0 k f (i + 1)) + ncM M0 (k + 1) (i + 1) else 1000000 := rfl
    have st : AJ 3 0 0 mM_goesOn Φ 0 0 60 [some (.inr 24), some (.inl k), some (.inl 1), some (.inl (i + 1)), some (.inl (m5 (fun f => M 33 f + stM M0 k f (i + 1))))] [] (S0 N) (wr M 34 0 (nxV M0 (M 33) k) i) := by
      generalize hv : m5 (fun f => M 33 f + stM M0 k f (i + 1)) = v at *
      refine aM_goesOn [2] 40 (fun hM => ?_)
      refine CL.bl (z_isOf hA1 (by omega) (by omega)) (Nat.le_of_ble_eq_true rfl) (fun q2 => ?_) (fun q2 => ?_)
      · refine ⟨R32_1, R32_1, by omega, ?_⟩
        refine CL.pu (z_noteCost (RuI.agr hA1 hL.1) (by rw [e31]; omega) (by rw [e31]; omega) (by omega)) (Nat.le_of_ble_eq_true rfl) ?_
        rw [if_pos q2] at e0
        have ev : v + ncv ((wr M 34 0 (nxV M0 (M 33) k) i) 30) ((wr M 34 0 (nxV M0 (M 33) k) i) 31 (k + 1)) (i + 1) = nxV M0 (M 33) k (i + 1) := by rw [e31, e30, e0]
        refine ⟨⟨by decide, by omega, by omega, by omega, by omega⟩, ?_⟩
        rw [show (i : Int) + 1 = 0 + (i + 1) by omega, wr_step (by omega) (by rw [show (0 : Int) + (i + 1) = i + 1 by omega]; exact ev), show (0 : Int) + (i + 1) = i + 1 by omega]
        exact AJ.wk h2 ⟨rfl, rfl, rfl, rfl, trivial⟩
      · rw [if_neg q2] at e0
        refine ⟨R32_0, ⟨by decide, by omega, by omega, by omega, by omega⟩, ?_⟩
        rw [show (i : Int) + 1 = 0 + (i + 1) by omega, wr_step (by omega) (by rw [e0]), show (0 : Int) + (i + 1) = i + 1 by omega]
        exact AJ.wk h2 ⟨rfl, rfl, rfl, rfl, trivial⟩
    refine aM_goesOn [60, 14] 40 (fun hM => ?_)
    refine ⟨by omega, ite_i (fun q => by omega) (fun q => ?_)⟩
    exact AJ.wk (z_goes_inner (φ := fun f => M 33 f + stM M0 k f (i + 1)) hA1 hL h0 h1 (by omega) (by omega) (fun f q1 q2 => by rw [e33]; exact hB f q1 q2) (fun f q1 q2 => by rw [e33]) 5 1 1000000 none (by omega) (by omega) (by omega) (by omega) st) ⟨rfl, rfl, rfl, rfl, rfl, rfl, trivial⟩
theorem z_goes_2 {k : Int} {V : Int → Int} (hV : ∀ f, 1 ≤ f → f ≤ 5 → M 34 f = V f ∧ 0 ≤ V f ∧ V f ≤ 1000020) : ∀ (n i : Nat), i + n = 5 → AJ 3 0 0 mM_goesOn (Vo (S0 N) (wr M 33 0 (fun g => clp (V g)) 5)) 0 0 114 [some (.inr 24), some (.inl k), some (.inl 1), some (.inl (i + 1))] [] (S0 N) (wr M 33 0 (fun g => clp (V g)) i) := by
  intro n
  induction n with
  | zero =>
    intro i hi
    have : i = 5 := by omega
    subst this
    refine aM_goesOn [114] 30 (fun hM => ?_)
    exact ⟨by decide, vo_eq rfl⟩
  | succ n ih =>
    intro i hi
    have hv := hV (i + 1) (by omega) (by omega)
    have e34 : (wr M 33 0 (fun g => clp (V g)) i) 34 (i + 1) = V (i + 1) := by rw [wr_ne (by omega)]; exact hv.1
    have h2 := ih (i + 1) (by omega)
    rw [show ((i + 1 : Nat) : Int) = (i : Int) + 1 by omega] at h2
    refine aM_goesOn [114] 30 (fun hM => ?_)
    refine ⟨by omega, ite_i (fun q => by omega) (fun q => ?_)⟩
    refine ⟨by omega, by omega, ite_i (fun q => ?_) (fun q => ?_)⟩
    · refine ⟨⟨by decide, by omega, by omega, by omega, by omega⟩, ?_⟩
      rw [show (i : Int) + 1 = 0 + (i + 1) by omega, wr_step (by omega) (by unfold clp; split <;> omega), show (0 : Int) + (i + 1) = i + 1 by omega]
      exact h2
    · have ec : V (i + 1) = clp (V (i + 1)) := by unfold clp; split <;> omega
      refine ⟨by omega, ⟨by decide, by omega, by omega, by omega, by omega⟩, ?_⟩
      rw [e34, show (i : Int) + 1 = 0 + (i + 1) by omega, wr_step (by omega) (by rw [show (0 : Int) + (i + 1) = i + 1 by omega]; exact ec), show (0 : Int) + (i + 1) = i + 1 by omega]
      exact h2
theorem z_goesOn {k : Int} (hA : Agr M0 M) (hL : LOk M0) (h0 : 0 ≤ k) (h1 : k + 1 < M0 24 7) (hB : ∀ f, 1 ≤ f → f ≤ 5 → 0 ≤ M 33 f ∧ M 33 f ≤ 1000000) :
    Ret 3 0 0 mM_goesOn [.inr 24, .inl k, .inl 1] (S0 N) M (Vo (S0 N) (wr (wr M 34 0 (nxV M0 (M 33) k) 5) 33 0 (fun g => clp (nxV M0 (M 33) k g)) 5)) := by
  refine eM_goesOn [2] 30 (Nat.le_of_ble_eq_true rfl) (fun hM => ?_)
  have h2 := z_goes_1 (N := N) (Φ := Vo (S0 N) (wr (wr M 34 0 (nxV M0 (M 33) k) 5) 33 0 (fun g => clp (nxV M0 (M 33) k g)) 5)) hA hL h0 h1 hB ?_ 5 0 (by omega)
  · rw [show ((0 : Nat) : Int) = 0 from rfl, wr_0] at h2
    exact h2
  · refine aM_goesOn [114] 30 (fun hM => ?_)
    have h3 := z_goes_2 (N := N) (k := k) (M := wr M 34 0 (nxV M0 (M 33) k) 5) (V := nxV M0 (M 33) k) (fun f q1 q2 => ⟨by rw [show f = 0 + f by omega, wr_eq (by omega) (by omega), show 0 + f = f by omega], nxV_rng hL.1 hB q1 q2⟩) 5 0 (by omega)
    rw [show ((0 : Nat) : Int) = 0 from rfl, wr_0] at h3
    exact h3
theorem nxV_congr {T T' : Int → Int} (h : ∀ f, 1 ≤ f → f ≤ 5 → T f = T' f) (k g : Int) : nxV M0 T k g = nxV M0 T' k g := by
  unfold nxV
  rw [m5_congr (φ := fun f => T f + stM M0 k f g) (ψ := fun f => T' f + stM M0 k f g) (fun f q1 q2 => by show T f + _ = T' f + _; rw [h f q1 q2])]
theorem z_plainTo {k : Nat} (hA : Agr M0 M) (hL : LOk M0) (h1 : (k : Int) < M0 24 7) : Ret 4 0 0 mM_plainTo [.inr 24, .inl k] (S0 N) M (fun r S' M' => r = some (.inl (m5 (up M0 k))) ∧ S' = S0 N ∧ Agr M0 M') := by
  have l7 := hL.2.2.2.1
  have loop : ∀ (n i : Nat), i + n = k → ∀ M1 : Mm, Agr M0 M1 → (∀ f, 1 ≤ f → f ≤ 5 → M1 33 f = up M0 i f) → AJ 4 0 0 mM_plainTo (fun r S' M' => r = some (.inl (m5 (up M0 k))) ∧ S' = S0 N ∧ Agr M0 M') 0 0 6 [some (.inr 24), some (.inl k), some (.inl i)] [] (S0 N) M1 := by
    intro n
    induction n with
    | zero =>
      intro i hi M1 hA1 hu
      have : i = k := by omega
      subst this
      refine aM_plainTo [] 30 (fun hM => ?_)
      refine ⟨by omega, ite_i (fun q => by omega) (fun q => ?_)⟩
      refine CL.pu (z_leastUp (fun g q1 q2 => by rw [hu g q1 q2]; exact up_rng hL.1 _ g q1 q2)) (Nat.le_of_ble_eq_true rfl) ?_
      refine ⟨?_, rfl, hA1⟩
      rw [m5_congr hu]
    | succ n ih =>
      intro i hi M1 hA1 hu
      have hB : ∀ f, 1 ≤ f → f ≤ 5 → 0 ≤ M1 33 f ∧ M1 33 f ≤ 1000000 := fun g q1 q2 => by rw [hu g q1 q2]; exact up_rng hL.1 _ g q1 q2
      refine aM_plainTo [6] 30 (fun hM => ?_)
      refine ⟨by omega, ite_i (fun q => ?_) (fun q => by omega)⟩
      refine CL.vo (z_goesOn hA1 hL (by omega) (by omega) hB) (Nat.le_of_ble_eq_true rfl) (fun hM2 => ?_)
      have h2 := ih (i + 1) (by omega) (wr (wr M1 34 0 (nxV M0 (M1 33) i) 5) 33 0 (fun g => clp (nxV M0 (M1 33) i g)) 5) ((hA1.wr (by omega) _ _ _).wr (by omega) _ _ _) (fun f q1 q2 => by
        rw [show f = 0 + f by omega, wr_eq (by omega) (by omega), show 0 + f = f by omega]
        show clp _ = clp _
        rw [nxV_congr hu])
      rw [show ((i + 1 : Nat) : Int) = (i : Int) + 1 by omega] at h2
      exact h2
  refine eM_plainTo [6] 30 (Nat.le_of_ble_eq_true rfl) (fun hM => ?_)
  refine CL.vo (z_begin hA hL (by omega)) (Nat.le_of_ble_eq_true rfl) (fun hM2 => ?_)
  exact loop k 0 (by omega) _ (hA.wr (by omega) _ _ _) (fun f q1 q2 => by rw [show f = 0 + f by omega, wr_eq (by omega) (by omega), show 0 + f = f by omega])
theorem de_up {M M' : Mm} (d : DEq M M') : ∀ (k : Nat), (k : Int) < M 24 7 → ∀ f, 1 ≤ f → f ≤ 5 → up M' k f = up M k f := by
  intro k
  induction k with
  | zero =>
    intro hk f q1 q2
    have e := de_ok d (k := 0) (f := f) (by omega) (by omega)
    unfold up okM
    rw [e.1, e.2]
  | succ k ih =>
    intro hk f q1 q2
    have e := de_ok d (k := (k : Int) + 1) (f := f) (by omega) (by omega)
    unfold up nxV okM
    rw [e.1, e.2, m5_congr (φ := fun g => up M' k g + stM M' k g f) (ψ := fun g => up M k g + stM M k g f) (fun g z1 z2 => by
      show up M' k g + stM M' k g f = _
      rw [ih (by omega) g z1 z2, (de_go (f := g) (g := f) d (k := (k : Int)) (by omega) (by omega)).2])]
/-- the first note at which the plain row stands still, or 99 -/
def StP (F : Int → Prop) (n v : Int) : Prop := (0 ≤ v ∧ v < n ∧ ¬ F v ∧ ∀ i, 0 ≤ i → i < v → F i) ∨ (v = 99 ∧ ∀ i, 0 ≤ i → i < n → F i)
theorem StP.uniq {F G : Int → Prop} {n v w : Int} (hn : n ≤ 30) (h : ∀ i, 0 ≤ i → i < n → (F i ↔ G i)) (h1 : StP F n v) (h2 : StP G n w) : v = w := by
  rcases h1 with ⟨a, b, c, d⟩ | ⟨a, d⟩ <;> rcases h2 with ⟨a', b', c', d'⟩ | ⟨a', d'⟩
  · rcases Int.lt_trichotomy v w with q | q | q
    · exact absurd ((h v a b).mpr (d' v a q)) c
    · exact q
    · exact absurd ((h w a' b').mp (d w a' q)) c'
  · exact absurd ((h v a b).mpr (d' v a b)) c
  · exact absurd ((h w a' b').mp (d w a' b')) c'
  · omega
def upF (M : Mm) (i : Int) : Prop := m5 (up M i.toNat) < 1000000
def StkV (M : Mm) (h v : Int) : Prop := if h = 0 ∨ h = 1 then (if bst M h = -9 then StP (upF (LM M h)) (cnt (fK M h) 30) v else v = -9) else v = -1
theorem z_stuck {h : Int} (hr : R32 h) (hI : MI M) (hC : ChI M) : Ret 10 0 0 mM_stuck [.inr 24, .inl h] (S0 N) M (fun r S' M' => (∃ v, r = some (.inl v) ∧ StkV M h v) ∧ S' = S0 N ∧ Ak M M') := by
  have cr := cnt_rng (fK M h) 30
  refine eM_stuck [24] 30 (Nat.le_of_ble_eq_true rfl) (fun hM => ?_)
  refine CL.bl (z_isHand hr) (Nat.le_of_ble_eq_true rfl) (fun q => ?_) (fun q => ?_)
  · refine ⟨R32_1, ?_⟩
    refine ⟨9, _, (Nat.le_of_ble_eq_true rfl), z_leastOfHand q hI, ?_⟩
    rintro r S' M3 ⟨rfl, rfl, hF, M2, d1, d2, hA, hR⟩ hM3
    have br := bst_rng q hI
    have hL0 := LM_ok q hI.1 hI.2.1
    have hL2 := hL0.de d1 (hI.fr d2).1
    have e7 : M2 24 7 = cnt (fK M h) 30 := by rw [d1.2.1, LM_7]
    refine ⟨by omega, ite_i (fun q2 => ?_) (fun q2 => ?_)⟩
    · have loop : ∀ (n i : Nat), (i : Int) + n = cnt (fK M h) 30 → (∀ j : Int, 0 ≤ j → j < i → upF (LM M h) j) → ∀ M4 : Mm, Agr M2 M4 → AJ 10 0 0 mM_stuck (fun r S' M' => (∃ v, r = some (.inl v) ∧ StkV M h v) ∧ S' = S0 N ∧ Ak M M') 0 0 24 [some (.inr 24), some (.inl h), some (.inl i)] [] (S0 N) M4 := by
        intro n
        induction n with
        | zero =>
          intro i hi hu M4 hA4
          have e74 : M4 24 7 = M2 24 7 := hA4 24 7 (by omega)
          have hF4 : FrM M M4 := fun c j z => by rw [hA4 c j (by omega)]; exact d2 c j z
          refine aM_stuck [] 30 (fun hM => ?_)
          refine ⟨by omega, ite_i (fun q => by omega) (fun q3 => ?_)⟩
          refine ⟨⟨_, rfl, ?_⟩, rfl, hF4.a, hC.fr hI hF4⟩
          unfold StkV
          rw [if_pos q, if_pos q2]
          exact Or.inr ⟨rfl, fun j z1 z2 => hu j z1 (by omega)⟩
        | succ n ih =>
          intro i hi hu M4 hA4
          have e74 : M4 24 7 = M2 24 7 := hA4 24 7 (by omega)
          refine aM_stuck [24] 30 (fun hM => ?_)
          refine ⟨by omega, ite_i (fun q3 => ?_) (fun q => by omega)⟩
          refine ⟨4, _, (Nat.le_of_ble_eq_true rfl), z_plainTo hA4 hL2 (by omega), ?_⟩
          rintro r S' M5 ⟨rfl, rfl, hA5⟩ hM5
          have hF5 : FrM M M5 := fun c j z => by rw [hA5 c j (by omega)]; exact d2 c j z
          have eu : m5 (up M2 i) = m5 (up (LM M h) i) := m5_congr (de_up d1 i (by rw [LM_7]; omega))
          have ur := m5_rng (fun g z1 z2 => (up_rng hL2.1 i g z1 z2).1)
          refine ⟨by omega, ite_i (fun q4 => ?_) (fun q4 => ?_)⟩
          · have h2 := ih (i + 1) (by omega) (fun j z1 z2 => by
              by_cases hj : j < i
              · exact hu j z1 hj
              · have : j = (i : Int) := by omega
                subst this
                show m5 (up (LM M h) ((i : Int).toNat)) < 1000000
                rw [Int.toNat_natCast, ← eu]; exact q4) M5 hA5
            rw [show ((i + 1 : Nat) : Int) = (i : Int) + 1 by omega] at h2
            exact h2
          · refine ⟨⟨_, rfl, ?_⟩, rfl, hF5.a, hC.fr hI hF5⟩
            unfold StkV
            rw [if_pos q, if_pos q2]
            refine Or.inl ⟨by omega, by omega, fun z => q4 ?_, hu⟩
            have z' : m5 (up (LM M h) ((i : Int).toNat)) < 1000000 := z
            rw [Int.toNat_natCast, ← eu] at z'; exact z'
      have hc : (cnt (fK M h) 30).toNat = cnt (fK M h) 30 := by omega
      exact loop (cnt (fK M h) 30).toNat 0 (by omega) (fun j z1 z2 => by omega) M3 hA
    · refine ⟨⟨_, rfl, ?_⟩, rfl, hF.a, hC.fr hI hF⟩
      unfold StkV
      rw [if_pos q, if_neg q2]
  · refine ⟨R32_0, ⟨_, rfl, ?_⟩, rfl, fun _ _ _ => rfl, hC⟩
    unfold StkV
    rw [if_neg q]
theorem de_t0 {A B : Mm} (d : DEq A B) : DEq (mset A 24 12 0) (mset B 24 12 0) := by
  obtain ⟨e6, e7, e12, e10, ek, r7, r8, r9, r0⟩ := d
  have f : ∀ (X : Mm) (c : Nat), c ≠ 24 → (mset X 24 12 0) c = X c := fun X c hc => by funext j; exact mset_ne (by omega)
  have g : ∀ (X : Mm) (j : Int), j ≠ 12 → (mset X 24 12 0) 24 j = X 24 j := fun X j hc => mset_ne (by omega)
  unfold DEq
  rw [g A 6 (by omega), g B 6 (by omega), g A 7 (by omega), g B 7 (by omega), f A 31 (by omega), f B 31 (by omega), f A 32 (by omega), f B 32 (by omega), f A 27 (by omega), f B 27 (by omega), f A 28 (by omega), f B 28 (by omega), f A 29 (by omega), f B 29 (by omega), f A 30 (by omega), f B 30 (by omega), mset_eq, mset_eq]
  exact ⟨e6, e7, rfl, fun z => absurd z (by omega), ek, r7, r8, r9, r0⟩
theorem LOk.t0 {A : Mm} (h : LOk A) : LOk (mset A 24 12 0) := by
  have f : ∀ (c : Nat), c ≠ 24 → (mset A 24 12 0) c = A c := fun c hc => by funext j; exact mset_ne (by omega)
  have g : ∀ (j : Int), j ≠ 12 → (mset A 24 12 0) 24 j = A 24 j := fun j hc => mset_ne (by omega)
  unfold LOk RuI at *
  rw [g 6 (by omega), g 7 (by omega), f 31 (by omega), f 3 (by omega), f 4 (by omega), f 27 (by omega), f 28 (by omega), f 29 (by omega), f 30 (by omega)]
  exact h
theorem de_agr {A B : Mm} (h : Agr A B) : DEq A B := ⟨h _ _ (by omega), h _ _ (by omega), h _ _ (by omega), fun _ => ⟨h _ _ (by omega), h _ _ (by omega)⟩, fun k _ _ => ⟨h _ _ (by omega), h _ _ (by omega)⟩, h.c _ (by omega), h.c _ (by omega), h.c _ (by omega), h.c _ (by omega)⟩
/-- what the least row without the tie costs -/
def plain (M : Mm) (h : Int) : Int := lrV (mset (LM M h) 24 12 0)
def tiedV (M : Mm) (h : Int) : Int := if h = 0 ∨ h = 1 then (if bst M h = -9 ∨ plain M h = -9 then -9 else bst M h - plain M h) else -1
theorem lrV_rng {A : Mm} (ht : A 24 12 = 0 ∨ TOk A) (hL : LOk A) : lrV A = -9 ∨ (0 ≤ lrV A ∧ lrV A < 1000000) := by
  unfold lrV
  split
  · right; omega
  · rename_i hn0
    have l3 := hL.2.2.1
    have := tot_rng ht hL (by omega)
    split <;> omega
theorem z_tied {h : Int} (hr : R32 h) (hI : MI M) (hC : ChI M) : Ret 10 0 0 mM_tied [.inr 24, .inl h] (S0 N) M (fun r S' M' => r = some (.inl (tiedV M h)) ∧ S' = S0 N ∧ Ak M M') := by
  refine eM_tied [] 30 (Nat.le_of_ble_eq_true rfl) (fun hM => ?_)
  refine CL.bl (z_isHand hr) (Nat.le_of_ble_eq_true rfl) (fun q => ?_) (fun q => ?_)
  · refine ⟨R32_1, ?_⟩
    refine ⟨9, _, (Nat.le_of_ble_eq_true rfl), z_leastOfHand q hI, ?_⟩
    rintro r S' M3 ⟨rfl, rfl, hF, M2, d1, d2, hA, hR⟩ hM3
    have br := bst_rng q hI
    have hL0 := LM_ok q hI.1 hI.2.1
    have d3 : DEq (LM M h) M3 := d1.trans (de_agr hA)
    have hL3 := hL0.de d3 (hI.fr hF).1
    refine ⟨⟨by decide, trivial⟩, ?_⟩
    refine ⟨8, _, (Nat.le_of_ble_eq_true rfl), z_leastRow (M0 := mset M3 24 12 0) (fun c j _ => rfl) (Or.inl (mset_eq ..)) hL3.t0, ?_⟩
    rintro r S' M4 ⟨rfl, rfl, hA4, hR4⟩ hM4
    have hF4 : FrM M M4 := fun c j z => by rw [hA4 c j (by omega), mset_ne (by omega)]; exact hF c j z
    have ep : lrV (mset M3 24 12 0) = plain M h := de_lrV (de_t0 d3) (Or.inl (mset_eq ..)) hL0.t0.2.2.1
    have pr := lrV_rng (A := mset M3 24 12 0) (Or.inl (mset_eq ..)) hL3.t0
    rw [ep] at pr ⊢
    have fin : ∀ v, v = tiedV M h → ((some (Sum.inl v) : Option Vl) = some (.inl (tiedV M h)) ∧ S0 N = S0 N ∧ Ak M M4) := fun v hv => ⟨by rw [hv], rfl, hF4.a, hC.fr hI hF4⟩
    refine ⟨by omega, ite_i (fun q2 => ?_) (fun q2 => ?_)⟩
    · exact fin _ (by unfold tiedV; rw [if_pos q, if_pos (Or.inl q2)])
    · refine ⟨by omega, ite_i (fun q3 => ?_) (fun q3 => ?_)⟩
      · exact fin _ (by unfold tiedV; rw [if_pos q, if_pos (Or.inr q3)])
      · exact fin _ (by unfold tiedV; rw [if_pos q, if_neg (by omega)])
  · refine ⟨R32_0, ?_, rfl, fun _ _ _ => rfl, hC⟩
    unfold tiedV
    rw [if_neg q]
end Stuck
end
section
/-! ===== the reference: calls that change its rows ===== -/
/-- an int and a memory -/
def Pv (S : Ly) (M1 : Mm) (x : Int) : Option Vl → Ly → Mm → Prop := fun r S' M' => r = some (.inl x) ∧ S' = S ∧ M' = M1
theorem pv_eq {S : Ly} {M1 M2 : Mm} {x y : Int} (h : x = y) (h2 : M2 = M1) : Pv S M1 y (some (.inl x)) S M2 := by
  subst h; subst h2; exact ⟨rfl, rfl, rfl⟩
abbrev isH (h : Int) : Prop := h = 0 ∨ h = 1
abbrev isM (m : Int) : Prop := 0 ≤ m ∧ m < 30
abbrev isF (f : Int) : Prop := 1 ≤ f ∧ f ≤ 5
abbrev isK (k : Int) : Prop := 0 ≤ k ∧ k < 60
/-- nothing is found any more -/
def chg (M : Mm) : Mm := mset (mset M 24 18 0) 24 19 0
section Set
variable {N : Nat} {M : Mm} {h m key : Int}
abbrev putK (h m key : Int) : Prop := (isH h ∧ isM m) ∧ (key = -9 ∨ isK key)
def putV (M : Mm) (h m key : Int) : Int := if isH h ∧ isM m then (if key = -9 ∨ isK key then M 25 (30 * h + m) else -2) else -1
theorem z_put (hr : R32 h) (hm : R32 m) (hk : R32 key) : Ret 2 0 0 mM_put [.inr 24, .inl h, .inl m, .inl key] (S0 N) M (Pv (S0 N) (if putK h m key then chg (lay1 M (30 * h + m) key) else M) (putV M h m key)) := by
  have go : isH h → isM m → (key = -9 ∨ isK key) → AJ 2 0 0 mM_put (Pv (S0 N) (if putK h m key then chg (lay1 M (30 * h + m) key) else M) (putV M h m key)) 0 0 32 [some (.inr 24), some (.inl h), some (.inl m), some (.inl key)] [] (S0 N) M := by
    intro q1 q2 q3
    refine aM_put [] 40 (fun hM => ?_)
    refine ⟨by omega, ?_⟩
    refine CL.vo (z_lays q1 q2.1 q2.2 hk) (Nat.le_of_ble_eq_true rfl) (fun hM2 => ?_)
    refine CL.vo z_isChanged (Nat.le_of_ble_eq_true rfl) (fun hM3 => ?_)
    exact pv_eq (by unfold putV; rw [if_pos ⟨q1, q2⟩, if_pos q3]) (by rw [if_pos ⟨⟨q1, q2⟩, q3⟩]; rfl)
  refine eM_put [32] 40 (Nat.le_of_ble_eq_true rfl) (fun hM => ?_)
  refine CL.bl (z_isHand hr) (Nat.le_of_ble_eq_true rfl) (fun q1 => ?_) (fun q1 => ?_)
  · refine ⟨R32_1, CL.bl (z_isMoment hm) (Nat.le_of_ble_eq_true rfl) (fun q2 => ?_) (fun q2 => ?_)⟩
    · refine ⟨R32_1, by omega, ite_i (fun q3 => ?_) (fun q3 => ?_)⟩
      · exact go q1 q2 (Or.inl q3)
      · refine CL.bl (z_isKey hk) (Nat.le_of_ble_eq_true rfl) (fun q4 => ?_) (fun q4 => ?_)
        · exact ⟨R32_1, go q1 q2 (Or.inr q4)⟩
        · refine ⟨R32_0, pv_eq (by unfold putV; rw [if_pos ⟨q1, q2⟩, if_neg (by omega)]) (by rw [if_neg (fun z => by have := z.2; omega)])⟩
    · exact ⟨R32_0, pv_eq (by unfold putV; rw [if_neg (fun z => q2 z.2)]) (by rw [if_neg (fun z => q2 z.1.2)])⟩
  · exact ⟨R32_0, pv_eq (by unfold putV; rw [if_neg (fun z => q1 z.1)]) (by rw [if_neg (fun z => q1 z.1.1)])⟩
abbrev markK (M : Mm) (h m f : Int) : Prop := (isH h ∧ isM m) ∧ (f = -9 ∨ isF f) ∧ M 25 (30 * h + m) ≠ -9
def markV (M : Mm) (h m f : Int) : Int := if isH h ∧ isM m then (if f = -9 ∨ isF f then (if M 25 (30 * h + m) = -9 then -3 else M 26 (30 * h + m)) else -2) else -1
theorem z_mark {f : Int} (hr : R32 h) (hm : R32 m) (hk : R32 f) : Ret 2 0 0 mM_mark [.inr 24, .inl h, .inl m, .inl f] (S0 N) M (Pv (S0 N) (if markK M h m f then chg (mset M 26 (30 * h + m) f) else M) (markV M h m f)) := by
  have go : isH h → isM m → (f = -9 ∨ isF f) → AJ 2 0 0 mM_mark (Pv (S0 N) (if markK M h m f then chg (mset M 26 (30 * h + m) f) else M) (markV M h m f)) 0 0 32 [some (.inr 24), some (.inl h), some (.inl m), some (.inl f)] [] (S0 N) M := by
    intro q1 q2 q3
    refine aM_mark [] 40 (fun hM => ?_)
    refine ⟨by omega, ⟨hM _ _, by decide⟩, ite_i (fun q4 => ?_) (fun q4 => ?_)⟩
    · exact pv_eq (by unfold markV; rw [if_pos ⟨q1, q2⟩, if_pos q3, if_pos q4]) (by rw [if_neg (fun z => z.2.2 q4)])
    · refine ⟨by omega, ⟨by decide, by omega, by omega, by omega, hk⟩, ?_⟩
      refine CL.vo z_isChanged (Nat.le_of_ble_eq_true rfl) (fun hM3 => ?_)
      exact pv_eq (by unfold markV; rw [if_pos ⟨q1, q2⟩, if_pos q3, if_neg q4]) (by rw [if_pos ⟨⟨q1, q2⟩, q3, q4⟩]; rfl)
  refine eM_mark [32] 40 (Nat.le_of_ble_eq_true rfl) (fun hM => ?_)
  refine CL.bl (z_isHand hr) (Nat.le_of_ble_eq_true rfl) (fun q1 => ?_) (fun q1 => ?_)
  · refine ⟨R32_1, CL.bl (z_isMoment hm) (Nat.le_of_ble_eq_true rfl) (fun q2 => ?_) (fun q2 => ?_)⟩
    · refine ⟨R32_1, by omega, ite_i (fun q3 => ?_) (fun q3 => ?_)⟩
      · exact go q1 q2 (Or.inl q3)
      · refine CL.bl (z_isFinger hk) (Nat.le_of_ble_eq_true rfl) (fun q4 => ?_) (fun q4 => ?_)
        · exact ⟨R32_1, go q1 q2 (Or.inr q4)⟩
        · refine ⟨R32_0, pv_eq (by unfold markV; rw [if_pos ⟨q1, q2⟩, if_neg (by omega)]) (by rw [if_neg (fun z => by have := z.2.1; omega)])⟩
    · exact ⟨R32_0, pv_eq (by unfold markV; rw [if_neg (fun z => q2 z.2)]) (by rw [if_neg (fun z => q2 z.1.2)])⟩
  · exact ⟨R32_0, pv_eq (by unfold markV; rw [if_neg (fun z => q1 z.1)]) (by rw [if_neg (fun z => q1 z.1.1)])⟩
abbrev priceK (k v : Int) : Prop := (0 ≤ k ∧ k ≤ 6) ∧ 0 ≤ v ∧ v ≤ 20
def priceV (M : Mm) (k v : Int) : Int := if priceK k v then M 30 k else -2
theorem z_price {k v : Int} (hr : R32 k) (hm : R32 v) : Ret 2 0 0 mM_price [.inr 24, .inl k, .inl v] (S0 N) M (Pv (S0 N) (if priceK k v then chg (mset M 30 k v) else M) (priceV M k v)) := by
  refine eM_price [] 40 (Nat.le_of_ble_eq_true rfl) (fun hM => ?_)
  refine CL.bl (z_within hr R32_0 (by decide)) (Nat.le_of_ble_eq_true rfl) (fun q1 => ?_) (fun q1 => ?_)
  · refine ⟨R32_1, CL.bl (z_within hm R32_0 (by decide)) (Nat.le_of_ble_eq_true rfl) (fun q2 => ?_) (fun q2 => ?_)⟩
    · refine ⟨R32_1, by omega, ⟨by decide, by omega, by omega, by omega, hm⟩, ?_⟩
      refine CL.vo z_isChanged (Nat.le_of_ble_eq_true rfl) (fun hM3 => ?_)
      exact pv_eq (by unfold priceV; rw [if_pos ⟨q1, q2⟩]) (by rw [if_pos ⟨q1, q2⟩]; rfl)
    · exact ⟨R32_0, pv_eq (by unfold priceV; rw [if_neg (fun z => q2 z.2)]) (by rw [if_neg (fun z => q2 z.2)])⟩
  · exact ⟨R32_0, pv_eq (by unfold priceV; rw [if_neg (fun z => q1 z.1)]) (by rw [if_neg (fun z => q1 z.1)])⟩
abbrev tieK (h i j n : Int) : Prop := isH h ∧ (0 ≤ i ∧ i ≤ 28) ∧ (1 ≤ j ∧ j ≤ 29) ∧ (1 ≤ n ∧ n ≤ 15) ∧ i + n ≤ j
def tieE (M : Mm) (h i j n : Int) : Mm := mset (mset (mset M 40 h i) 41 h j) 42 h n
def tieV (M : Mm) (h i j n : Int) : Int := if isH h then (if tieK h i j n then bi (j + n ≤ cnt (fK M h) 30) else -2) else -1
theorem z_ties {i j n : Int} (q : isH h) (hT : TieI M) (hi : 0 ≤ i ∧ i ≤ 28) (hj : 1 ≤ j ∧ j ≤ 29) (hn : 1 ≤ n ∧ n ≤ 15) (hij : i + n ≤ j) : Ret 2 0 0 mM_ties [.inr 24, .inl h, .inl i, .inl j, .inl n] (S0 N) M (Pv (S0 N) (chg (tieE M h i j n)) (bi (j + n ≤ cnt (fK M h) 30))) := by
  refine eM_ties [] 40 (Nat.le_of_ble_eq_true rfl) (fun hM => ?_)
  refine ⟨⟨by decide, by omega, by omega, by omega, by omega⟩, ⟨by decide, by omega, by omega, by omega, by omega⟩, ⟨by decide, by omega, by omega, by omega, by omega⟩, ?_⟩
  refine CL.vo z_isChanged (Nat.le_of_ble_eq_true rfl) (fun hM3 => ?_)
  have f : ∀ c jj, c ≠ 24 → (chg (tieE M h i j n)) c jj = (tieE M h i j n) c jj := fun c jj hc => by unfold chg; rw [mset_ne (by omega), mset_ne (by omega)]
  have e40 : ∀ x, (chg (tieE M h i j n)) 40 x = if x = h then i else M 40 x := fun x => by
    rw [f _ _ (by omega)]; unfold tieE; rw [mset_ne (by omega), mset_ne (by omega)]; unfold mset; simp
  have e41 : ∀ x, (chg (tieE M h i j n)) 41 x = if x = h then j else M 41 x := fun x => by
    rw [f _ _ (by omega)]; unfold tieE; rw [mset_ne (by omega)]; unfold mset; simp
  have e42 : ∀ x, (chg (tieE M h i j n)) 42 x = if x = h then n else M 42 x := fun x => by
    rw [f _ _ (by omega)]; unfold tieE mset; simp
  have e25 : ∀ x, (chg (tieE M h i j n)) 25 x = M 25 x := fun x => by
    rw [f _ _ (by omega)]; unfold tieE; rw [mset_ne (by omega), mset_ne (by omega), mset_ne (by omega)]
  have hT2 : TieI (chg (tieE M h i j n)) := by
    intro x hx
    have := hT x hx
    rw [e40, e41, e42]
    by_cases hxh : x = h
    · rw [if_pos hxh, if_pos hxh, if_pos hxh]; right; omega
    · rw [if_neg hxh, if_neg hxh, if_neg hxh]; exact this
  have ht : thd (chg (tieE M h i j n)) h ↔ j + n ≤ cnt (fK M h) 30 := by
    unfold thd
    rw [e40, e41, e42, if_pos rfl, if_pos rfl, if_pos rfl, cnt_fr e25]
    omega
  refine CL.bl (z_doesTieHold q hT2) (Nat.le_of_ble_eq_true rfl) (fun q2 => ?_) (fun q2 => ?_)
  · exact ⟨R32_1, pv_eq (bi_t (ht.mp q2)).symm rfl⟩
  · exact ⟨R32_0, pv_eq (bi_f (fun z => q2 (ht.mpr z))).symm rfl⟩
theorem z_tie {i j n : Int} (hr : R32 h) (hi : R32 i) (hj : R32 j) (hn : R32 n) (hT : TieI M) : Ret 3 0 0 mM_tie [.inr 24, .inl h, .inl i, .inl j, .inl n] (S0 N) M (Pv (S0 N) (if tieK h i j n then chg (tieE M h i j n) else M) (tieV M h i j n)) := by
  refine eM_tie [] 40 (Nat.le_of_ble_eq_true rfl) (fun hM => ?_)
  refine CL.bl (z_isHand hr) (Nat.le_of_ble_eq_true rfl) (fun q1 => ?_) (fun q1 => ?_)
  · have bad : ¬ tieK h i j n → Pv (S0 N) (if tieK h i j n then chg (tieE M h i j n) else M) (tieV M h i j n) (some (.inl (-2))) (S0 N) M := fun q => pv_eq (by unfold tieV; rw [if_pos q1, if_neg q]) (by rw [if_neg q])
    refine ⟨R32_1, CL.bl (z_within hi R32_0 (by decide)) (Nat.le_of_ble_eq_true rfl) (fun q2 => ?_) (fun q2 => ?_)⟩
    · refine ⟨R32_1, CL.bl (z_within hj R32_1 (by decide)) (Nat.le_of_ble_eq_true rfl) (fun q3 => ?_) (fun q3 => ?_)⟩
      · refine ⟨R32_1, CL.bl (z_within hn R32_1 (by decide)) (Nat.le_of_ble_eq_true rfl) (fun q4 => ?_) (fun q4 => ?_)⟩
        · refine ⟨R32_1, by omega, ite_i (fun q5 => ?_) (fun q5 => ?_)⟩
          · exact bad (fun z => absurd z.2.2.2.2 (by omega))
          · refine ⟨2, _, (Nat.le_of_ble_eq_true rfl), z_ties q1 hT q2 q3 q4 (by omega), ?_⟩
            rintro r S' M' ⟨rfl, rfl, rfl⟩ hM'
            have ok : tieK h i j n := ⟨q1, q2, q3, q4, by omega⟩
            exact pv_eq (by unfold tieV; rw [if_pos q1, if_pos ok]) (by rw [if_pos ok])
        · exact ⟨R32_0, bad (fun z => q4 z.2.2.2.1)⟩
      · exact ⟨R32_0, bad (fun z => q3 z.2.2.1)⟩
    · exact ⟨R32_0, bad (fun z => q2 z.2.1)⟩
  · exact ⟨R32_0, pv_eq (by unfold tieV; rw [if_neg q1]) (by rw [if_neg (fun z => q1 z.1)])⟩
def untieV (M : Mm) (h : Int) : Int := if isH h then bi (M 40 h ≠ -9) else -1
theorem z_untie (hr : R32 h) : Ret 2 0 0 mM_untie [.inr 24, .inl h] (S0 N) M (Pv (S0 N) (if isH h then chg (mset M 40 h (-9)) else M) (untieV M h)) := by
  refine eM_untie [] 40 (Nat.le_of_ble_eq_true rfl) (fun hM => ?_)
  refine CL.bl (z_isHand hr) (Nat.le_of_ble_eq_true rfl) (fun q1 => ?_) (fun q1 => ?_)
  · refine ⟨R32_1, by omega, ⟨hM _ _, by decide⟩, ite_i (fun q2 => ?_) (fun q2 => ?_)⟩
    · refine ⟨⟨by decide, by omega, by omega, by omega, by decide⟩, ?_⟩
      refine CL.vo z_isChanged (Nat.le_of_ble_eq_true rfl) (fun hM3 => ?_)
      exact pv_eq (by unfold untieV; rw [if_pos q1]; exact (bi_f (fun z => z q2)).symm) (by rw [if_pos q1]; rfl)
    · refine ⟨⟨by decide, by omega, by omega, by omega, by decide⟩, ?_⟩
      refine CL.vo z_isChanged (Nat.le_of_ble_eq_true rfl) (fun hM3 => ?_)
      exact pv_eq (by unfold untieV; rw [if_pos q1]; exact (bi_t q2).symm) (by rw [if_pos q1]; rfl)
  · exact ⟨R32_0, pv_eq (by unfold untieV; rw [if_neg q1]) (by rw [if_neg q1])⟩
abbrev reachK (f g l e o : Int) : Prop := (isF f ∧ isF g) ∧ ((0 ≤ l ∧ l ≤ 24) ∧ (l ≤ e ∧ e ≤ 24) ∧ e ≤ o ∧ o ≤ 24) ∧ f < g
def reachV (f g l e o : Int) : Int := if isF f ∧ isF g then (if (0 ≤ l ∧ l ≤ 24) ∧ (l ≤ e ∧ e ≤ 24) ∧ e ≤ o ∧ o ≤ 24 then (if f < g then 1 else -3) else -2) else -1
def reachE (M : Mm) (f g l e o : Int) : Mm := mset (mset (mset M 27 (10 * f + g) l) 28 (10 * f + g) e) 29 (10 * f + g) o
theorem z_reach {f g l e o : Int} (hf : R32 f) (hg : R32 g) (hl : R32 l) (he : R32 e) (ho : R32 o) : Ret 2 0 0 mM_reach [.inr 24, .inl f, .inl g, .inl l, .inl e, .inl o] (S0 N) M (Pv (S0 N) (if reachK f g l e o then chg (reachE M f g l e o) else M) (reachV f g l e o)) := by
  refine eM_reach [] 60 (Nat.le_of_ble_eq_true rfl) (fun hM => ?_)
  refine CL.bl (z_isFinger hf) (Nat.le_of_ble_eq_true rfl) (fun q1 => ?_) (fun q1 => ?_)
  · refine ⟨R32_1, CL.bl (z_isFinger hg) (Nat.le_of_ble_eq_true rfl) (fun q2 => ?_) (fun q2 => ?_)⟩
    · have bad : ¬ ((0 ≤ l ∧ l ≤ 24) ∧ (l ≤ e ∧ e ≤ 24) ∧ e ≤ o ∧ o ≤ 24) → Pv (S0 N) (if reachK f g l e o then chg (reachE M f g l e o) else M) (reachV f g l e o) (some (.inl (-2))) (S0 N) M := fun q => pv_eq (by unfold reachV; rw [if_pos ⟨q1, q2⟩, if_neg q]) (by rw [if_neg (fun z => q z.2.1)])
      refine ⟨R32_1, CL.bl (z_within hl R32_0 (by decide)) (Nat.le_of_ble_eq_true rfl) (fun q3 => ?_) (fun q3 => ?_)⟩
      · refine ⟨R32_1, CL.bl (z_within he hl (by decide)) (Nat.le_of_ble_eq_true rfl) (fun q4 => ?_) (fun q4 => ?_)⟩
        · refine ⟨R32_1, CL.bl (z_within ho he (by decide)) (Nat.le_of_ble_eq_true rfl) (fun q5 => ?_) (fun q5 => ?_)⟩
          · have q6 : (0 ≤ l ∧ l ≤ 24) ∧ (l ≤ e ∧ e ≤ 24) ∧ e ≤ o ∧ o ≤ 24 := ⟨q3, q4, q5⟩
            refine ⟨R32_1, by omega, ite_i (fun q7 => ?_) (fun q7 => ?_)⟩
            · refine ⟨⟨by decide, by omega, by omega, by omega, by omega⟩, ⟨by decide, by omega, by omega, by omega, by omega⟩, ⟨by decide, by omega, by omega, by omega, by omega⟩, ?_⟩
              refine CL.vo z_isChanged (Nat.le_of_ble_eq_true rfl) (fun hM3 => ?_)
              exact pv_eq (by unfold reachV; rw [if_pos ⟨q1, q2⟩, if_pos q6, if_pos q7]) (by rw [if_pos ⟨⟨q1, q2⟩, q6, q7⟩]; rfl)
            · exact pv_eq (by unfold reachV; rw [if_pos ⟨q1, q2⟩, if_pos q6, if_neg q7]) (by rw [if_neg (fun z => q7 z.2.2)])
          · exact ⟨R32_0, bad (fun z => q5 z.2.2)⟩
        · exact ⟨R32_0, bad (fun z => q4 z.2.1)⟩
      · exact ⟨R32_0, bad (fun z => q3 z.1)⟩
    · exact ⟨R32_0, pv_eq (by unfold reachV; rw [if_neg (fun z => q2 z.2)]) (by rw [if_neg (fun z => q2 z.1.2)])⟩
  · exact ⟨R32_0, pv_eq (by unfold reachV; rw [if_neg (fun z => q1 z.1)]) (by rw [if_neg (fun z => q1 z.1.1)])⟩
def reachOfV (M : Mm) (f g w : Int) : Int := if isF f ∧ isF g then (if 0 ≤ w ∧ w ≤ 2 then (if f < g then (if w = 0 then M 27 (10 * f + g) else if w = 1 then M 28 (10 * f + g) else M 29 (10 * f + g)) else -3) else -2) else -1
theorem z_reachOf {f g w : Int} (hf : R32 f) (hg : R32 g) (hw : R32 w) : Ret 2 0 0 mM_reachOf [.inr 24, .inl f, .inl g, .inl w] (S0 N) M (Pu (S0 N) M (reachOfV M f g w)) := by
  refine eM_reachOf [] 60 (Nat.le_of_ble_eq_true rfl) (fun hM => ?_)
  refine CL.bl (z_isFinger hf) (Nat.le_of_ble_eq_true rfl) (fun q1 => ?_) (fun q1 => ?_)
  · refine ⟨R32_1, CL.bl (z_isFinger hg) (Nat.le_of_ble_eq_true rfl) (fun q2 => ?_) (fun q2 => ?_)⟩
    · refine ⟨R32_1, CL.bl (z_within hw R32_0 (by decide)) (Nat.le_of_ble_eq_true rfl) (fun q3 => ?_) (fun q3 => ?_)⟩
      · refine ⟨R32_1, by omega, ite_i (fun q4 => ?_) (fun q4 => ?_)⟩
        · refine ⟨by omega, ite_i (fun q5 => ?_) (fun q5 => ?_)⟩
          · exact ⟨by omega, pu_eq (by unfold reachOfV; rw [if_pos ⟨q1, q2⟩, if_pos q3, if_pos q4, if_pos q5])⟩
          · refine ⟨by omega, ite_i (fun q6 => ?_) (fun q6 => ?_)⟩
            · exact ⟨by omega, pu_eq (by unfold reachOfV; rw [if_pos ⟨q1, q2⟩, if_pos q3, if_pos q4, if_neg q5, if_pos q6])⟩
            · exact ⟨by omega, pu_eq (by unfold reachOfV; rw [if_pos ⟨q1, q2⟩, if_pos q3, if_pos q4, if_neg q5, if_neg q6])⟩
        · exact pu_eq (by unfold reachOfV; rw [if_pos ⟨q1, q2⟩, if_pos q3, if_neg q4])
      · exact ⟨R32_0, pu_eq (by unfold reachOfV; rw [if_pos ⟨q1, q2⟩, if_neg q3])⟩
    · exact ⟨R32_0, pu_eq (by unfold reachOfV; rw [if_neg (fun z => q2 z.2)])⟩
  · exact ⟨R32_0, pu_eq (by unfold reachOfV; rw [if_neg (fun z => q1 z.1)])⟩
def costsV (M : Mm) (k f : Int) : Int := if isF f then (if isK k then ncv (M 30) k f else -2) else -1
theorem z_costs {k f : Int} (hf : R32 f) (hk : R32 k) (hI : RuI M) : Ret 2 0 0 mM_costs [.inr 24, .inl k, .inl f] (S0 N) M (Pu (S0 N) M (costsV M k f)) := by
  refine eM_costs [] 60 (Nat.le_of_ble_eq_true rfl) (fun hM => ?_)
  refine CL.bl (z_isFinger hf) (Nat.le_of_ble_eq_true rfl) (fun q1 => ?_) (fun q1 => ?_)
  · refine ⟨R32_1, CL.bl (z_isKey hk) (Nat.le_of_ble_eq_true rfl) (fun q2 => ?_) (fun q2 => ?_)⟩
    · refine ⟨R32_1, CL.pu (z_noteCost hI q2.1 (by omega) hf) (Nat.le_of_ble_eq_true rfl) ?_⟩
      exact pu_eq (by unfold costsV; rw [if_pos q1, if_pos q2])
    · exact ⟨R32_0, pu_eq (by unfold costsV; rw [if_pos q1, if_neg q2])⟩
  · exact ⟨R32_0, pu_eq (by unfold costsV; rw [if_neg q1])⟩
def stepV (M : Mm) (h a f b g : Int) : Int := if isH h ∧ isF f ∧ isF g then (if isK a ∧ isK b then (if stv (M 30) (M 27) (M 28) (M 29) h a f b g < 1000000 then stv (M 30) (M 27) (M 28) (M 29) h a f b g else -9) else -2) else -1
theorem z_step {a f b g : Int} (hr : R32 h) (ha : R32 a) (hf : R32 f) (hb : R32 b) (hg : R32 g) (hI : RuI M) : Ret 2 0 0 mM_step [.inr 24, .inl h, .inl a, .inl f, .inl b, .inl g] (S0 N) M (Pu (S0 N) M (stepV M h a f b g)) := by
  refine eM_step [] 60 (Nat.le_of_ble_eq_true rfl) (fun hM => ?_)
  refine CL.bl (z_isHand hr) (Nat.le_of_ble_eq_true rfl) (fun q0 => ?_) (fun q0 => ?_)
  · refine ⟨R32_1, CL.bl (z_isFinger hf) (Nat.le_of_ble_eq_true rfl) (fun q1 => ?_) (fun q1 => ?_)⟩
    · refine ⟨R32_1, CL.bl (z_isFinger hg) (Nat.le_of_ble_eq_true rfl) (fun q2 => ?_) (fun q2 => ?_)⟩
      · refine ⟨R32_1, CL.bl (z_isKey ha) (Nat.le_of_ble_eq_true rfl) (fun q3 => ?_) (fun q3 => ?_)⟩
        · refine ⟨R32_1, CL.bl (z_isKey hb) (Nat.le_of_ble_eq_true rfl) (fun q4 => ?_) (fun q4 => ?_)⟩
          · have sr := stv_rng hI (hand := h) (a := a) (b := b) q1.1 q1.2 q2.1 q2.2
            refine ⟨R32_1, CL.pu (z_stepCost q0 q3.1 q3.2 q4.1 q4.2 q1.1 q1.2 q2.1 q2.2) (Nat.le_of_ble_eq_true rfl) ?_⟩
            refine ⟨by omega, ite_i (fun q5 => ?_) (fun q5 => ?_)⟩
            · exact pu_eq (by unfold stepV; rw [if_pos ⟨q0, q1, q2⟩, if_pos ⟨q3, q4⟩, if_pos q5])
            · exact pu_eq (by unfold stepV; rw [if_pos ⟨q0, q1, q2⟩, if_pos ⟨q3, q4⟩, if_neg q5])
          · exact ⟨R32_0, pu_eq (by unfold stepV; rw [if_pos ⟨q0, q1, q2⟩, if_neg (fun z => q4 z.2)])⟩
        · exact ⟨R32_0, pu_eq (by unfold stepV; rw [if_pos ⟨q0, q1, q2⟩, if_neg (fun z => q3 z.1)])⟩
      · exact ⟨R32_0, pu_eq (by unfold stepV; rw [if_neg (fun z => q2 z.2.2)])⟩
    · exact ⟨R32_0, pu_eq (by unfold stepV; rw [if_neg (fun z => q1 z.2.1)])⟩
  · exact ⟨R32_0, pu_eq (by unfold stepV; rw [if_neg (fun z => q0 z.1)])⟩
end Set
end
section
/-! ===== the reference: clear, note ===== -/
/-- hand h rests at moments 0 .. i - 1 -/
def clrM (M : Mm) (h i : Int) : Mm := fun c j => if (c = 25 ∨ c = 26) ∧ 30 * h ≤ j ∧ j < 30 * h + i then -9 else M c j
section Nt
variable {N : Nat} {M : Mm} {h : Int}
theorem clr_step {i : Int} (hK : KyI M) (hh : isH h) (h0 : 0 ≤ i) (h1 : i < 30) : lay1 (clrM M h i) (30 * h + i) (-9) = clrM M h (i + 1) := by
  have hk := hK (30 * h + i) (by omega) (by omega)
  have e5 : clrM M h i 25 (30 * h + i) = M 25 (30 * h + i) := by unfold clrM; rw [if_neg (by omega)]
  have e6 : clrM M h i 26 (30 * h + i) = M 26 (30 * h + i) := by unfold clrM; rw [if_neg (by omega)]
  unfold lay1
  rw [e5]
  funext c j
  by_cases hj : j = 30 * h + i
  · subst hj
    by_cases c5 : c = 25
    · subst c5
      have : clrM M h (i + 1) 25 (30 * h + i) = -9 := by unfold clrM; rw [if_pos (by omega)]
      rw [this]
      split <;> exact mset_eq ..
    · by_cases c6 : c = 26
      · subst c6
        have : clrM M h (i + 1) 26 (30 * h + i) = -9 := by unfold clrM; rw [if_pos (by omega)]
        rw [this]
        split
        · rename_i q; rw [mset_ne (by omega), e6]; exact hk.2.2 q
        · rw [mset_ne (by omega)]; exact mset_eq ..
      · have : clrM M h (i + 1) c (30 * h + i) = clrM M h i c (30 * h + i) := by unfold clrM; rw [if_neg (by omega), if_neg (by omega)]
        rw [this]
        split
        · exact mset_ne (by omega)
        · rw [mset_ne (by omega), mset_ne (by omega)]
  · have : clrM M h (i + 1) c j = clrM M h i c j := by
      unfold clrM
      by_cases q : (c = 25 ∨ c = 26) ∧ 30 * h ≤ j ∧ j < 30 * h + i
      · rw [if_pos q, if_pos (by omega)]
      · rw [if_neg q, if_neg (by omega)]
    rw [this]
    split
    · exact mset_ne (by omega)
    · rw [mset_ne (by omega), mset_ne (by omega)]
def clearV (M : Mm) (h : Int) : Int := if isH h then cnt (fK M h) 30 else -1
theorem z_clear (hr : R32 h) (hK : KyI M) : Ret 2 0 0 mM_clear [.inr 24, .inl h] (S0 N) M (Pv (S0 N) (if isH h then chg (mset (clrM M h 30) 40 h (-9)) else M) (clearV M h)) := by
  refine eM_clear [17] 40 (Nat.le_of_ble_eq_true rfl) (fun hM => ?_)
  refine CL.bl (z_isHand hr) (Nat.le_of_ble_eq_true rfl) (fun q => ?_) (fun q => ?_)
  · refine ⟨R32_1, CL.pu (z_notesOf q) (Nat.le_of_ble_eq_true rfl) ?_⟩
    have loop : ∀ (n i : Nat), i + n = 30 → AJ 2 0 0 mM_clear (Pv (S0 N) (if isH h then chg (mset (clrM M h 30) 40 h (-9)) else M) (clearV M h)) 0 0 17 [some (.inr 24), some (.inl h), some (.inl (cnt (fK M h) 30)), some (.inl i)] [] (S0 N) (clrM M h i) := by
      intro n
      induction n with
      | zero =>
        intro i hi
        have : i = 30 := by omega
        subst this
        refine aM_clear [] 40 (fun hM => ?_)
        refine ⟨by decide, ⟨by decide, by omega, by omega, by omega, by decide⟩, ?_⟩
        refine CL.vo z_isChanged (Nat.le_of_ble_eq_true rfl) (fun hM3 => ?_)
        exact pv_eq (by unfold clearV; rw [if_pos q]) (by rw [if_pos q]; rfl)
      | succ n ih =>
        intro i hi
        have h2 := ih (i + 1) (by omega)
        rw [show ((i + 1 : Nat) : Int) = (i : Int) + 1 by omega] at h2
        refine aM_clear [17] 40 (fun hM => ?_)
        refine ⟨by omega, ite_i (fun q2 => ?_) (fun q => by omega)⟩
        refine CL.vo (z_lays q (by omega) (by omega) (by decide)) (Nat.le_of_ble_eq_true rfl) (fun hM3 => ?_)
        rw [clr_step hK q (by omega) (by omega)]
        exact h2
    have h2 := loop 30 0 (by omega)
    have e0 : clrM M h 0 = M := by funext c j; unfold clrM; rw [if_neg (by omega)]
    rw [show ((0 : Nat) : Int) = 0 from rfl, e0] at h2
    exact h2
  · exact ⟨R32_0, pv_eq (by unfold clearV; rw [if_neg q]) (by rw [if_neg q])⟩
def noteV (M : Mm) (h k w : Int) : Int := if isH h ∧ 0 ≤ k ∧ k < cnt (fK M h) 30 then (if w = 0 then nmo (fK M h) k 30 else if w = 1 then M 25 (30 * h + nmo (fK M h) k 30) else if w = 2 then M 26 (30 * h + nmo (fK M h) k 30) else if w = 3 then bi (blk (M 25 (30 * h + nmo (fK M h) k 30))) else -2) else -1
theorem z_note {k w : Int} (hr : R32 h) (hk : R32 k) (hw : R32 w) (hK : KyI M) : Ret 2 0 0 mM_note [.inr 24, .inl h, .inl k, .inl w] (S0 N) M (Pu (S0 N) M (noteV M h k w)) := by
  refine eM_note [] 40 (Nat.le_of_ble_eq_true rfl) (fun hM => ?_)
  refine CL.bl (z_isHand hr) (Nat.le_of_ble_eq_true rfl) (fun q => ?_) (fun q => ?_)
  · refine ⟨R32_1, CL.bl (z_isNote q hk) (Nat.le_of_ble_eq_true rfl) (fun q2 => ?_) (fun q2 => ?_)⟩
    · have no := nmo_ok q2.1 q2.2
      have ky := hK (30 * h + nmo (fK M h) k 30) (by omega) (by omega)
      have kne : M 25 (30 * h + nmo (fK M h) k 30) ≠ -9 := no.2.2.1
      refine ⟨R32_1, CL.pu (z_placeOf q q2.1 q2.2) (Nat.le_of_ble_eq_true rfl) ?_⟩
      refine ⟨by omega, fun q3 => ?_, fun q3 => ?_, fun q3 => ?_, fun q3 => ?_, fun q3 => ?_, trivial⟩
      · exact pu_eq (by unfold noteV; rw [if_pos ⟨q, q2⟩, if_neg (by omega), if_neg (by omega), if_neg (by omega), if_neg (by omega)])
      · exact pu_eq (by unfold noteV; rw [if_pos ⟨q, q2⟩, if_pos (by omega)]; omega)
      · exact ⟨by omega, pu_eq (by unfold noteV; rw [if_pos ⟨q, q2⟩, if_neg (by omega), if_pos (by omega)])⟩
      · exact ⟨by omega, pu_eq (by unfold noteV; rw [if_pos ⟨q, q2⟩, if_neg (by omega), if_neg (by omega), if_pos (by omega)])⟩
      · refine ⟨by omega, ?_⟩
        refine CL.bl (z_isBlack (by omega) (by omega)) (Nat.le_of_ble_eq_true rfl) (fun q4 => ?_) (fun q4 => ?_)
        · exact ⟨R32_1, pu_eq (by unfold noteV; rw [if_pos ⟨q, q2⟩, if_neg (by omega), if_neg (by omega), if_neg (by omega), if_pos (by omega)]; exact (bi_t q4).symm)⟩
        · exact ⟨R32_0, pu_eq (by unfold noteV; rw [if_pos ⟨q, q2⟩, if_neg (by omega), if_neg (by omega), if_neg (by omega), if_pos (by omega)]; exact (bi_f q4).symm)⟩
    · exact ⟨R32_0, pu_eq (by unfold noteV; rw [if_neg (fun z => q2 z.2)])⟩
  · exact ⟨R32_0, pu_eq (by unfold noteV; rw [if_neg (fun z => q z.1)])⟩
end Nt
end
section
/-! ===== the reference: phrases ===== -/
/-- where x is first, of places i .. i + n - 1 -/
def fi (f : Int → Int) (x : Int) : Nat → Int → Int
  | 0, _ => -9
  | n + 1, i => if f i = x then i else fi f x n (i + 1)
theorem fi_rng {f : Int → Int} {x : Int} : ∀ (n : Nat) (i : Int), fi f x n i = -9 ∨ (i ≤ fi f x n i ∧ fi f x n i < i + n) := by
  intro n
  induction n with
  | zero => intro i; exact Or.inl rfl
  | succ n ih =>
    intro i
    unfold fi
    split
    · right; omega
    · have := ih (i + 1); omega
theorem fi_congr {f g : Int → Int} {x : Int} : ∀ (n : Nat) (i : Int), (∀ j, i ≤ j → j < i + n → f j = g j) → fi f x n i = fi g x n i := by
  intro n
  induction n with
  | zero => intro i _; rfl
  | succ n ih =>
    intro i h
    unfold fi
    rw [h i (by omega) (by omega), ih (i + 1) (fun j q1 q2 => h j (by omega) (by omega))]
/-- rows a .. b moved one place down, from place p on, before place q -/
def shd (a b : Nat) (M : Mm) (p q : Int) : Mm := fun c j => if (a ≤ c ∧ c ≤ b) ∧ p ≤ j ∧ j < q then M c (j + 1) else M c j
theorem shd_0 {a b : Nat} {M : Mm} {p : Int} : shd a b M p p = M := by
  funext c j; unfold shd; rw [if_neg (by omega)]
theorem shd_in {a b : Nat} {M : Mm} {p q : Int} {c : Nat} {j : Int} (h : (a ≤ c ∧ c ≤ b) ∧ p ≤ j ∧ j < q) : shd a b M p q c j = M c (j + 1) := by unfold shd; rw [if_pos h]
theorem shd_out {a b : Nat} {M : Mm} {p q : Int} {c : Nat} {j : Int} (h : ¬ ((a ≤ c ∧ c ≤ b) ∧ p ≤ j ∧ j < q)) : shd a b M p q c j = M c j := by unfold shd; rw [if_neg h]
theorem shd_step {a : Nat} {M : Mm} {p q : Int} (h : p ≤ q) : mset (mset (mset (mset (shd a (a + 3) M p q) a q (M a (q + 1))) (a + 1) q (M (a + 1) (q + 1))) (a + 2) q (M (a + 2) (q + 1))) (a + 3) q (M (a + 3) (q + 1)) = shd a (a + 3) M p (q + 1) := by
  funext c j
  by_cases hj : (a ≤ c ∧ c ≤ a + 3) ∧ j = q
  · obtain ⟨hc, rfl⟩ := hj
    rw [shd_in (by omega)]
    have : c = a ∨ c = a + 1 ∨ c = a + 2 ∨ c = a + 3 := by omega
    rcases this with rfl | rfl | rfl | rfl
    · rw [mset_ne (by omega), mset_ne (by omega), mset_ne (by omega), mset_eq]
    · rw [mset_ne (by omega), mset_ne (by omega), mset_eq]
    · rw [mset_ne (by omega), mset_eq]
    · rw [mset_eq]
  · rw [mset_ne (by omega), mset_ne (by omega), mset_ne (by omega), mset_ne (by omega)]
    by_cases hc : (a ≤ c ∧ c ≤ a + 3) ∧ p ≤ j ∧ j < q
    · rw [shd_in hc, shd_in (by omega)]
    · rw [shd_out hc, shd_out (by omega)]
/-- the reference's phrases are phrases -/
def PhI (M : Mm) : Prop := (0 ≤ M 24 25 ∧ M 24 25 ≤ 6) ∧ ∀ p, 0 ≤ p → p < M 24 25 → (0 ≤ M 43 p ∧ M 43 p < 26) ∧ (M 44 p = 0 ∨ M 44 p = 1) ∧ (0 ≤ M 45 p ∧ M 45 p ≤ 28) ∧ 2 ≤ M 46 p ∧ M 46 p ≤ 12
/-- the phrase at place p is gone -/
def gsE (M : Mm) (p : Int) : Mm := mset (shd 43 46 M p (M 24 25 - 1)) 24 25 (M 24 25 - 1)
def phV (M : Mm) (x : Int) : Int := fi (M 43) x (M 24 25).toNat 0
section Ph
variable {N : Nat} {M : Mm} {h : Int}
theorem gs_25 (p : Int) : gsE M p 24 25 = M 24 25 - 1 := mset_eq ..
theorem gs_fr {p : Int} {c : Nat} {j : Int} (hc : ¬ (43 ≤ c ∧ c ≤ 46)) (h2 : ¬ (c = 24 ∧ j = 25)) : gsE M p c j = M c j := by
  unfold gsE; rw [mset_ne (by omega), shd_out (by omega)]
theorem gs_in {p : Int} {c : Nat} {j : Int} (hc : 43 ≤ c ∧ c ≤ 46) : gsE M p c j = if p ≤ j ∧ j < M 24 25 - 1 then M c (j + 1) else M c j := by
  unfold gsE; rw [mset_ne (by omega)]
  by_cases q : p ≤ j ∧ j < M 24 25 - 1
  · rw [if_pos q, shd_in (by omega)]
  · rw [if_neg q, shd_out (by omega)]
theorem PhI.gs (hP : PhI M) {p : Int} (h0 : 0 ≤ p) (h1 : p < M 24 25) : PhI (gsE M p) := by
  obtain ⟨a, b⟩ := hP
  unfold PhI
  rw [gs_25]
  refine ⟨by omega, fun q q1 q2 => ?_⟩
  rw [gs_in (by omega), gs_in (by omega), gs_in (by omega), gs_in (by omega)]
  by_cases hq : p ≤ q ∧ q < M 24 25 - 1
  · rw [if_pos hq, if_pos hq, if_pos hq, if_pos hq]; exact b (q + 1) (by omega) (by omega)
  · rw [if_neg hq, if_neg hq, if_neg hq, if_neg hq]; exact b q (by omega) (by omega)
theorem z_phraseOf {x : Int} (hx : R32 x) (hP : PhI M) : Ret 0 0 0 mM_phraseOf [.inr 24, .inl x] (S0 N) M (Pu (S0 N) M (phV M x)) := by
  obtain ⟨a, b⟩ := hP
  have loop : ∀ (n : Nat) (i : Int), 0 ≤ i → i + n = M 24 25 → AJ 0 0 0 mM_phraseOf (Pu (S0 N) M (fi (M 43) x n i)) 0 0 2 [some (.inr 24), some (.inl x), some (.inl i)] [] (S0 N) M := by
    intro n
    induction n with
    | zero =>
      intro i h0 hi
      refine aM_phraseOf [] 30 (fun hM => ?_)
      exact ⟨by omega, ite_i (fun q => by omega) (fun q => pu_eq rfl)⟩
    | succ n ih =>
      intro i h0 hi
      refine aM_phraseOf [2] 30 (fun hM => ?_)
      refine ⟨by omega, ite_i (fun q => ?_) (fun q => by omega)⟩
      refine ⟨by omega, ⟨hM _ _, hx⟩, ite_i (fun q => ?_) (fun q => ?_)⟩
      · exact pu_eq (by unfold fi; rw [if_pos q])
      · have h2 := ih (i + 1) (by omega) (by omega)
        unfold fi; rw [if_neg q]; exact h2
  refine eM_phraseOf [2] 30 (Nat.le_of_ble_eq_true rfl) (fun hM => ?_)
  exact loop _ 0 (by omega) (by omega)
theorem z_goes {p : Int} (hP : PhI M) (h0 : 0 ≤ p) (h1 : p < M 24 25) : Ret 0 0 0 mM_goes [.inr 24, .inl p] (S0 N) M (Vo (S0 N) (gsE M p)) := by
  obtain ⟨a, b⟩ := hP
  have loop : ∀ (n : Nat) (i : Int), p ≤ i → i + n = M 24 25 - 1 → AJ 0 0 0 mM_goes (Vo (S0 N) (gsE M p)) 0 0 2 [some (.inr 24), some (.inl p), some (.inl i)] [] (S0 N) (shd 43 46 M p i) := by
    intro n
    induction n with
    | zero =>
      intro i h2 hi
      have e : shd 43 46 M p i 24 25 = M 24 25 := shd_out (by omega)
      refine aM_goes [] 40 (fun hM => ?_)
      refine ⟨by omega, ite_i (fun q => by omega) (fun q => ?_)⟩
      refine ⟨⟨by omega, trivial⟩, vo_eq ?_⟩
      have : i = M 24 25 - 1 := by omega
      rw [e, this]; rfl
    | succ n ih =>
      intro i h2 hi
      have e : shd 43 46 M p i 24 25 = M 24 25 := shd_out (by omega)
      have h3 := ih (i + 1) (by omega) (by omega)
      have e3 : shd 43 46 M p i 43 (i + 1) = M 43 (i + 1) := shd_out (by omega)
      have e4 : shd 43 46 M p i 44 (i + 1) = M 44 (i + 1) := shd_out (by omega)
      have e5 : shd 43 46 M p i 45 (i + 1) = M 45 (i + 1) := shd_out (by omega)
      have e6 : shd 43 46 M p i 46 (i + 1) = M 46 (i + 1) := shd_out (by omega)
      refine aM_goes [2] 60 (fun hM => ?_)
      refine ⟨by omega, ite_i (fun q => ?_) (fun q => by omega)⟩
      refine ⟨by omega, ⟨by decide, by omega, by omega, by omega, hM _ _⟩, ?_⟩
      rw [e3]
      refine ⟨by omega, ⟨by decide, by omega, by omega, by omega, by rw [mset_ne (by omega)]; exact hM _ _⟩, ?_⟩
      rw [mset_ne (by omega), e4]
      refine ⟨by omega, ⟨by decide, by omega, by omega, by omega, by rw [mset_ne (by omega), mset_ne (by omega)]; exact hM _ _⟩, ?_⟩
      rw [mset_ne (by omega), mset_ne (by omega), e5]
      refine ⟨by omega, ⟨by decide, by omega, by omega, by omega, by rw [mset_ne (by omega), mset_ne (by omega), mset_ne (by omega)]; exact hM _ _⟩, ?_⟩
      rw [mset_ne (by omega), mset_ne (by omega), mset_ne (by omega), e6]
      have st := shd_step (a := 43) (M := M) h2
      rw [st]
      exact h3
  refine eM_goes [2] 30 (Nat.le_of_ble_eq_true rfl) (fun hM => ?_)
  have h2 := loop (M 24 25 - 1 - p).toNat p (by omega) (by omega)
  rw [shd_0] at h2
  exact h2
theorem phV_rng (hP : PhI M) (x : Int) : phV M x = -9 ∨ (0 ≤ phV M x ∧ phV M x < M 24 25) := by
  have := fi_rng (f := M 43) (x := x) (M 24 25).toNat 0
  have a := hP.1
  unfold phV
  omega
def forgetV (M : Mm) (x : Int) : Int := if phV M x = -9 then -1 else M 24 25 - 1
theorem z_forget {x : Int} (hx : R32 x) (hP : PhI M) : Ret 2 0 0 mM_forget [.inr 24, .inl x] (S0 N) M (Pv (S0 N) (if phV M x = -9 then M else gsE M (phV M x)) (forgetV M x)) := by
  have pr := phV_rng hP x
  have a := hP.1
  refine eM_forget [] 30 (Nat.le_of_ble_eq_true rfl) (fun hM => ?_)
  refine CL.pu (z_phraseOf hx hP) (Nat.le_of_ble_eq_true rfl) ?_
  refine ⟨by omega, ite_i (fun q => ?_) (fun q => ?_)⟩
  · exact pv_eq (by unfold forgetV; rw [if_pos q]) (by rw [if_pos q])
  · refine CL.vo (z_goes hP (by omega) (by omega)) (Nat.le_of_ble_eq_true rfl) (fun hM2 => ?_)
    exact pv_eq (by unfold forgetV; rw [if_neg q, gs_25]) (by rw [if_neg q])
def nameV (M : Mm) (k : Int) : Int := if 0 ≤ k ∧ k ≤ 5 then (if k < M 24 25 then M 43 k else -9) else -2
theorem z_name {k : Int} (hx : R32 k) : Ret 2 0 0 mM_name [.inr 24, .inl k] (S0 N) M (Pu (S0 N) M (nameV M k)) := by
  refine eM_name [] 30 (Nat.le_of_ble_eq_true rfl) (fun hM => ?_)
  refine CL.bl (z_within hx R32_0 (by decide)) (Nat.le_of_ble_eq_true rfl) (fun q => ?_) (fun q => ?_)
  · refine ⟨R32_1, ⟨hx, hM _ _⟩, ite_i (fun q2 => ?_) (fun q2 => ?_)⟩
    · exact ⟨by omega, pu_eq (by unfold nameV; rw [if_pos q, if_pos q2])⟩
    · exact pu_eq (by unfold nameV; rw [if_pos q, if_neg q2])
  · exact ⟨R32_0, pu_eq (by unfold nameV; rw [if_neg q])⟩
end Ph
end
section
/-! ===== the reference: phrase and prune ===== -/
section Ph2
variable {N : Nat} {M : Mm} {h : Int}
abbrev phraseK (x h i n : Int) : Prop := isH h ∧ (0 ≤ x ∧ x ≤ 25) ∧ (0 ≤ i ∧ i ≤ 28) ∧ 2 ≤ n ∧ n ≤ 12
/-- room for one more phrase of name x -/
def ph1 (M : Mm) (x : Int) : Mm := if phV M x = -9 then M else gsE M (phV M x)
def ph2 (M : Mm) : Mm := if M 24 25 = 6 then gsE M 0 else M
/-- a phrase at the end -/
def phA (M : Mm) (x h i n : Int) : Mm := mset (mset (mset (mset (mset M 43 (M 24 25) x) 44 (M 24 25) h) 45 (M 24 25) i) 46 (M 24 25) n) 24 25 (M 24 25 + 1)
def phraseE (M : Mm) (x h i n : Int) : Mm := phA (ph2 (ph1 M x)) x h i n
def phraseV (M : Mm) (x h i n : Int) : Int := if isH h then (if phraseK x h i n then ph2 (ph1 M x) 24 25 + 1 else -2) else -1
theorem PhI.p1 (hP : PhI M) (x : Int) : PhI (ph1 M x) := by
  have pr := phV_rng hP x
  unfold ph1
  split
  · exact hP
  · exact hP.gs (by omega) (by omega)
theorem PhI.p2 (hP : PhI M) : PhI (ph2 M) ∧ ph2 M 24 25 ≤ 5 := by
  have a := hP.1
  unfold ph2
  split
  · rename_i q; exact ⟨hP.gs (by omega) (by omega), by rw [gs_25]; omega⟩
  · exact ⟨hP, by omega⟩
theorem z_ph_tail {x i n : Int} (ok : phraseK x h i n) {Φ : Option Vl → Ly → Mm → Prop} (hP : PhI M) (h5 : M 24 25 ≤ 5) (kk : Φ (some (.inl (M 24 25 + 1))) (S0 N) (phA M x h i n)) :
    AJ 2 0 0 mM_phrase Φ 0 0 76 [some (.inr 24), some (.inl x), some (.inl h), some (.inl i), some (.inl n)] [] (S0 N) M := by
  obtain ⟨k1, k2, k3, k4⟩ := ok
  have a := hP.1
  have e1 : ∀ v, (mset M 43 (M 24 25) v) 24 25 = M 24 25 := fun v => mset_ne (by omega)
  refine aM_phrase [] 60 (fun hM => ?_)
  refine ⟨⟨by decide, by omega, by omega, by omega, by omega⟩, ?_⟩
  conv => whnf
  rw [e1]
  refine ⟨⟨by decide, by omega, by omega, by omega, by omega⟩, ?_⟩
  conv => whnf
  rw [mset_ne (show (24 : Nat) ≠ 44 ∨ (25 : Int) ≠ M 24 25 by omega), e1]
  refine ⟨⟨by decide, by omega, by omega, by omega, by omega⟩, ?_⟩
  conv => whnf
  rw [mset_ne (show (24 : Nat) ≠ 45 ∨ (25 : Int) ≠ M 24 25 by omega), mset_ne (show (24 : Nat) ≠ 44 ∨ (25 : Int) ≠ M 24 25 by omega), e1]
  refine ⟨⟨by decide, by omega, by omega, by omega, by omega⟩, ?_⟩
  conv => whnf
  rw [mset_ne (show (24 : Nat) ≠ 46 ∨ (25 : Int) ≠ M 24 25 by omega), mset_ne (show (24 : Nat) ≠ 45 ∨ (25 : Int) ≠ M 24 25 by omega), mset_ne (show (24 : Nat) ≠ 44 ∨ (25 : Int) ≠ M 24 25 by omega), e1]
  refine ⟨⟨by omega, trivial⟩, ?_⟩
  conv => whnf
  rw [mset_eq]
  exact kk
theorem z_phrase {x i n : Int} (hx : R32 x) (hr : R32 h) (hi : R32 i) (hn : R32 n) (hP : PhI M) : Ret 2 0 0 mM_phrase [.inr 24, .inl x, .inl h, .inl i, .inl n] (S0 N) M (Pv (S0 N) (if phraseK x h i n then phraseE M x h i n else M) (phraseV M x h i n)) := by
  refine eM_phrase [62] 60 (Nat.le_of_ble_eq_true rfl) (fun hM => ?_)
  refine CL.bl (z_isHand hr) (Nat.le_of_ble_eq_true rfl) (fun q1 => ?_) (fun q1 => ?_)
  · have bad : ¬ phraseK x h i n → Pv (S0 N) (if phraseK x h i n then phraseE M x h i n else M) (phraseV M x h i n) (some (.inl (-2))) (S0 N) M := fun q => pv_eq (by unfold phraseV; rw [if_pos q1, if_neg q]) (by rw [if_neg q])
    refine ⟨R32_1, CL.bl (z_within hx R32_0 (by decide)) (Nat.le_of_ble_eq_true rfl) (fun q2 => ?_) (fun q2 => ?_)⟩
    · refine ⟨R32_1, CL.bl (z_within hi R32_0 (by decide)) (Nat.le_of_ble_eq_true rfl) (fun q3 => ?_) (fun q3 => ?_)⟩
      · refine ⟨R32_1, CL.bl (z_within hn (by decide) (by decide)) (Nat.le_of_ble_eq_true rfl) (fun q4 => ?_) (fun q4 => ?_)⟩
        · have ok : phraseK x h i n := ⟨q1, q2, q3, q4⟩
          have pr := phV_rng hP x
          have P1 := hP.p1 x
          have P2 := P1.p2
          have tail : AJ 2 0 0 mM_phrase (Pv (S0 N) (if phraseK x h i n then phraseE M x h i n else M) (phraseV M x h i n)) 0 0 76 [some (.inr 24), some (.inl x), some (.inl h), some (.inl i), some (.inl n)] [] (S0 N) (ph2 (ph1 M x)) := by
            refine z_ph_tail ok P2.1 P2.2 ?_
            exact pv_eq (by unfold phraseV; rw [if_pos q1, if_pos ok]) (by rw [if_pos ok]; rfl)
          have a0 := hP.1
          have mid : ∀ M1, M1 = ph1 M x → AJ 2 0 0 mM_phrase (Pv (S0 N) (if phraseK x h i n then phraseE M x h i n else M) (phraseV M x h i n)) 0 0 62 [some (.inr 24), some (.inl x), some (.inl h), some (.inl i), some (.inl n)] [] (S0 N) M1 := by
            intro M1 e
            have P1' : PhI M1 := by rw [e]; exact P1
            have a := P1'.1
            refine aM_phrase [76] 40 (fun hM => ?_)
            refine ⟨by omega, ite_i (fun q5 => ?_) (fun q5 => ?_)⟩
            · refine CL.vo (z_goes P1' (by omega) (by omega)) (Nat.le_of_ble_eq_true rfl) (fun hM2 => ?_)
              have e2 : gsE M1 0 = ph2 (ph1 M x) := by unfold ph2; rw [← e, if_pos q5]
              rw [e2]; exact tail
            · have e2 : M1 = ph2 (ph1 M x) := by unfold ph2; rw [← e, if_neg q5]
              rw [e2]; exact tail
          refine ⟨R32_1, CL.pu (z_phraseOf hx hP) (Nat.le_of_ble_eq_true rfl) ?_⟩
          refine ⟨by omega, ite_i (fun q5 => ?_) (fun q5 => ?_)⟩
          · have e : M = ph1 M x := by unfold ph1; rw [if_pos q5]
            exact mid M e
          · refine CL.pu (z_phraseOf hx hP) (Nat.le_of_ble_eq_true rfl) ?_
            refine CL.vo (z_goes hP (by omega) (by omega)) (Nat.le_of_ble_eq_true rfl) (fun hM2 => ?_)
            have e : gsE M (phV M x) = ph1 M x := by unfold ph1; rw [if_neg q5]
            exact mid _ e
        · exact ⟨R32_0, bad (fun z => q4 z.2.2.2)⟩
      · exact ⟨R32_0, bad (fun z => q3 z.2.2.1)⟩
    · exact ⟨R32_0, bad (fun z => q2 z.2.1)⟩
  · exact ⟨R32_0, pv_eq (by unfold phraseV; rw [if_neg q1]) (by rw [if_neg (fun z => q1 z.1)])⟩
/-- the phrases of hand h that want more than n notes go, of the first p -/
def prE (h n : Int) : Nat → Mm → Mm
  | 0, M => M
  | p + 1, M => prE h n p (if M 44 p = h ∧ n < M 45 p + M 46 p then gsE M p else M)
theorem prE_ok {n : Int} : ∀ (p : Nat) (M : Mm), PhI M → (p : Int) ≤ M 24 25 → PhI (prE h n p M) ∧ prE h n p M 24 25 ≤ M 24 25 := by
  intro p
  induction p with
  | zero => intro M hP h1; exact ⟨hP, Int.le_refl _⟩
  | succ p ih =>
    intro M hP h1
    unfold prE
    split
    · have := ih (gsE M p) (hP.gs (by omega) (by omega)) (by rw [gs_25]; omega)
      rw [gs_25] at this
      exact ⟨this.1, by omega⟩
    · exact ih M hP (by omega)
def pruneV (M : Mm) (h : Int) : Int := if isH h then M 24 25 - prE h (cnt (fK M h) 30) (M 24 25).toNat M 24 25 else -1
theorem z_prune (hr : R32 h) (hP : PhI M) : Ret 2 0 0 mM_prune [.inr 24, .inl h] (S0 N) M (Pv (S0 N) (if isH h then prE h (cnt (fK M h) 30) (M 24 25).toNat M else M) (pruneV M h)) := by
  have cr := cnt_rng (fK M h) 30
  have a := hP.1
  refine eM_prune [25] 40 (Nat.le_of_ble_eq_true rfl) (fun hM => ?_)
  refine CL.bl (z_isHand hr) (Nat.le_of_ble_eq_true rfl) (fun q => ?_) (fun q => ?_)
  · refine ⟨R32_1, CL.pu (z_notesOf q) (Nat.le_of_ble_eq_true rfl) ?_⟩
    generalize hn : cnt (fK M h) 30 = n at *
    have loop : ∀ (p : Nat) (M1 : Mm), PhI M1 → (p : Int) ≤ M1 24 25 → prE h n p M1 = prE h n (M 24 25).toNat M → AJ 2 0 0 mM_prune (Pv (S0 N) (if isH h then prE h n (M 24 25).toNat M else M) (pruneV M h)) 0 0 25 [some (.inr 24), some (.inl h), some (.inl (M 24 25)), some (.inl n), some (.inl ((p : Int) - 1))] [] (S0 N) M1 := by
      intro p
      induction p with
      | zero =>
        intro M1 P1 h1 e
        have e' : M1 = prE h n (M 24 25).toNat M := e
        have a1 := P1.1
        refine aM_prune [] 40 (fun hM => ?_)
        refine ⟨by decide, pv_eq ?_ ?_⟩
        · unfold pruneV; rw [if_pos q, hn, ← e']
        · rw [if_pos q]; exact e'
      | succ p ih =>
        intro M1 P1 h1 e
        have a1 := P1.1
        have b1 := P1.2 p (by omega) (by omega)
        have es : (((p + 1 : Nat) : Int) - 1) = p := by omega
        rw [es]
        have e : prE h n p (if M1 44 p = h ∧ n < M1 45 p + M1 46 p then gsE M1 p else M1) = prE h n (M 24 25).toNat M := e
        obtain ⟨pi, hp⟩ : ∃ pi : Int, pi = p := ⟨_, rfl⟩
        rw [← hp] at e b1 ⊢
        refine aM_prune [25] 40 (fun hM => ?_)
        refine ⟨by omega, ite_i (fun q => by omega) (fun q2 => ?_)⟩
        refine ⟨by omega, ⟨by omega, by omega⟩, ite_i (fun q3 => ?_) (fun q3 => ?_)⟩
        · refine ⟨by omega, by omega, ⟨by omega, by omega⟩, ite_i (fun q4 => ?_) (fun q4 => ?_)⟩
          · refine CL.vo (z_goes P1 (by omega) (by omega)) (Nat.le_of_ble_eq_true rfl) (fun hM2 => ?_)
            rw [if_pos ⟨q3, q4⟩] at e
            have ih' := ih _ (P1.gs (p := pi) (by omega) (by omega)) (by rw [gs_25]; omega) e
            rw [← hp] at ih'
            exact ih'
          · rw [if_neg (fun z => q4 z.2)] at e
            have ih' := ih _ P1 (by omega) e
            rw [← hp] at ih'
            exact ih'
        · rw [if_neg (fun z => q3 z.1)] at e
          have ih' := ih _ P1 (by omega) e
          rw [← hp] at ih'
          exact ih'
    have h2 := loop (M 24 25).toNat M hP (by omega) rfl
    rw [show (((M 24 25).toNat : Int)) = M 24 25 by omega] at h2
    exact h2
  · exact ⟨R32_0, pv_eq (by unfold pruneV; rw [if_neg q]) (by rw [if_neg q])⟩
end Ph2
end
section
/-! ===== the reference: echoes ===== -/
/-- notes j .. are notes i .. moved -/
abbrev ecP (K : Int → Int) (L i n j : Int) : Prop := i + n ≤ L ∧ j + n ≤ L ∧ ∀ k : Nat, k < n.toNat → K (j + k) - K (i + k) = K j - K i
theorem ecP_congr {K K' : Int → Int} {L i n j : Int} (hi : 0 ≤ i) (hj : 0 ≤ j) (hn : 0 < n) (h : ∀ k, 0 ≤ k → k < L → K k = K' k) : ecP K L i n j ↔ ecP K' L i n j := by
  constructor
  · rintro ⟨a, b, c⟩
    refine ⟨a, b, fun k hk => ?_⟩
    rw [← h (j + k) (by omega) (by omega), ← h (i + k) (by omega) (by omega), ← h j hj (by omega), ← h i hi (by omega)]; exact c k hk
  · rintro ⟨a, b, c⟩
    refine ⟨a, b, fun k hk => ?_⟩
    rw [h (j + k) (by omega) (by omega), h (i + k) (by omega) (by omega), h j hj (by omega), h i hi (by omega)]; exact c k hk
/-- the k-th of places j .. j + n - 1 where E holds -/
def eaV (E : Int → Prop) [DecidablePred E] : Nat → Int → Int → Int
  | 0, _, _ => -9
  | n + 1, j, k => if E j then (if k = 0 then j else eaV E n (j + 1) (k - 1)) else eaV E n (j + 1) k
theorem eaV_congr {E F : Int → Prop} [DecidablePred E] [DecidablePred F] : ∀ (n : Nat) (j k : Int), (∀ i, j ≤ i → i < j + n → (E i ↔ F i)) → eaV E n j k = eaV F n j k := by
  intro n
  induction n with
  | zero => intro j k _; rfl
  | succ n ih =>
    intro j k h
    have h0 := h j (by omega) (by omega)
    unfold eaV
    rw [ih (j + 1) (k - 1) (fun i q1 q2 => h i (by omega) (by omega)), ih (j + 1) k (fun i q1 q2 => h i (by omega) (by omega))]
    by_cases hE : E j
    · rw [if_pos hE, if_pos (h0.mp hE)]
    · rw [if_neg hE, if_neg (fun z => hE (h0.mpr z))]
theorem eaV_rng {E : Int → Prop} [DecidablePred E] : ∀ (n : Nat) (j k : Int), eaV E n j k = -9 ∨ (j ≤ eaV E n j k ∧ eaV E n j k < j + n ∧ E (eaV E n j k)) := by
  intro n
  induction n with
  | zero => intro j k; exact Or.inl rfl
  | succ n ih =>
    intro j k
    unfold eaV
    split
    · rename_i hE
      split
      · right; exact ⟨by omega, by omega, hE⟩
      · have := ih (j + 1) (k - 1)
        rcases this with q | ⟨q1, q2, q3⟩
        · exact Or.inl q
        · right; exact ⟨by omega, by omega, q3⟩
    · have := ih (j + 1) k
      rcases this with q | ⟨q1, q2, q3⟩
      · exact Or.inl q
      · right; exact ⟨by omega, by omega, q3⟩
theorem eaV_no {E : Int → Prop} [DecidablePred E] : ∀ (n : Nat) (j k : Int), (∀ i, j ≤ i → i < j + n → ¬ E i) → eaV E n j k = -9 := by
  intro n
  induction n with
  | zero => intro j k _; rfl
  | succ n ih =>
    intro j k h
    unfold eaV
    rw [if_neg (h j (by omega) (by omega))]
    exact ih _ _ (fun i q1 q2 => h i (by omega) (by omega))
/-- how many of n notes are alike black or white -/
def alk (K : Int → Int) (i j : Int) : Nat → Int
  | 0 => 0
  | n + 1 => alk K i j n + (if (blk (K (j + n)) ↔ blk (K (i + n))) then 1 else 0)
theorem alk_rng {K : Int → Int} {i j : Int} : ∀ n : Nat, 0 ≤ alk K i j n ∧ alk K i j n ≤ n := by
  intro n
  induction n with
  | zero => exact ⟨Int.le_refl _, Int.le_refl _⟩
  | succ n ih => unfold alk; split <;> omega
theorem alk_congr {K K' : Int → Int} {i j : Int} : ∀ n : Nat, (∀ k : Nat, k < n → K (j + k) = K' (j + k) ∧ K (i + k) = K' (i + k)) → alk K i j n = alk K' i j n := by
  intro n
  induction n with
  | zero => intro _; rfl
  | succ n ih =>
    intro h
    have h0 := h n (by omega)
    unfold alk
    rw [h0.1, h0.2, ih (fun k q => h k (by omega))]
section Ec
variable {N : Nat} {M : Mm} {p : Int}
/-- the keys laid out -/
def KOk (M : Mm) : Prop := 0 ≤ M 24 7 ∧ M 24 7 ≤ 30 ∧ ∀ k, 0 ≤ k → k < M 24 7 → 0 ≤ M 31 k ∧ M 31 k < 60
theorem z_isEcho {j : Int} (hP : PhI M) (hp0 : 0 ≤ p) (hp1 : p < M 24 25) (hK : KOk M) (hj0 : 0 ≤ j) (hj1 : j ≤ 30) : Ret 0 0 0 mM_isEcho [.inr 24, .inl p, .inl j] (S0 N) M (Pu (S0 N) M (bi (ecP (M 31) (M 24 7) (M 45 p) (M 46 p) j))) := by
  obtain ⟨a, b⟩ := hP
  obtain ⟨b1, b2, b3, b4⟩ := b p hp0 hp1
  obtain ⟨k1, k2, k3⟩ := hK
  have loop : ∀ (n i : Nat), 1 ≤ i → (i : Int) + n = M 46 p → M 45 p + M 46 p ≤ M 24 7 → j + M 46 p ≤ M 24 7 → (∀ k : Nat, k < i → M 31 (j + k) - M 31 (M 45 p + k) = M 31 j - M 31 (M 45 p)) → AJ 0 0 0 mM_isEcho (Pu (S0 N) M (bi (ecP (M 31) (M 24 7) (M 45 p) (M 46 p) j))) 0 0 59 [some (.inr 24), some (.inl p), some (.inl j), some (.inl (M 31 j - M 31 (M 45 p))), some (.inl i)] [] (S0 N) M := by
    intro n
    induction n with
    | zero =>
      intro i i1 hi c1 c2 hk
      refine aM_isEcho [] 40 (fun hM => ?_)
      refine ⟨by omega, by omega, ite_i (fun q => by omega) (fun q => ?_)⟩
      exact ⟨Or.inr rfl, pu_eq (bi_t ⟨c1, c2, fun k hk2 => hk k (by omega)⟩).symm⟩
    | succ n ih =>
      intro i i1 hi c1 c2 hk
      have r1 := k3 (j + i) (by omega) (by omega)
      have r2 := k3 (M 45 p + i) (by omega) (by omega)
      have r3 := k3 j (by omega) (by omega)
      have r4 := k3 (M 45 p) (by omega) (by omega)
      refine aM_isEcho [59] 40 (fun hM => ?_)
      refine ⟨by omega, by omega, ite_i (fun q => ?_) (fun q => by omega)⟩
      refine ⟨by omega, by omega, by omega, ⟨by omega, by omega⟩, ite_i (fun q2 => ?_) (fun q2 => ?_)⟩
      · have h2 := ih (i + 1) (by omega) (by omega) c1 c2 (fun k hk2 => by
          by_cases hki : k < i
          · exact hk k hki
          · have : k = i := by omega
            subst this
            exact q2)
        rw [show ((i + 1 : Nat) : Int) = (i : Int) + 1 by omega] at h2
        exact h2
      · exact ⟨Or.inl rfl, pu_eq (bi_f (fun z => q2 (z.2.2 i (by omega)))).symm⟩
  refine eM_isEcho [59] 40 (Nat.le_of_ble_eq_true rfl) (fun hM => ?_)
  refine ⟨by omega, by omega, ⟨by omega, by omega⟩, ite_i (fun q => ?_) (fun q => ?_)⟩
  · exact ⟨Or.inl rfl, pu_eq (bi_f (fun z => by have := z.1; omega)).symm⟩
  · refine ⟨by omega, ⟨by omega, by omega⟩, ite_i (fun q2 => ?_) (fun q2 => ?_)⟩
    · exact ⟨Or.inl rfl, pu_eq (bi_f (fun z => by have := z.2.1; omega)).symm⟩
    · refine ⟨by omega, by omega, by omega, ?_⟩
      have e : (1 : Int) + ((M 46 p - 1).toNat : Int) = M 46 p := by omega
      exact loop (M 46 p - 1).toNat 1 (by omega) (by omega) (by omega) (by omega) (fun k hk => by
        have : k = 0 := by omega
        subst this
        show M 31 (j + 0) - M 31 (M 45 p + 0) = _
        rw [Int.add_zero, Int.add_zero])
theorem z_likeness {j : Int} (hP : PhI M) (hp0 : 0 ≤ p) (hp1 : p < M 24 25) (hK : KOk M) (hj0 : 0 ≤ j) (hi1 : M 45 p + M 46 p ≤ M 24 7) (hj1 : j + M 46 p ≤ M 24 7) : Ret 1 0 0 mM_likeness [.inr 24, .inl p, .inl j] (S0 N) M (Pu (S0 N) M (alk (M 31) (M 45 p) j (M 46 p).toNat)) := by
  obtain ⟨a, b⟩ := hP
  obtain ⟨b1, b2, b3, b4⟩ := b p hp0 hp1
  obtain ⟨k1, k2, k3⟩ := hK
  have loop : ∀ (n i : Nat), (i : Int) + n = M 46 p → AJ 1 0 0 mM_likeness (Pu (S0 N) M (alk (M 31) (M 45 p) j (M 46 p).toNat)) 0 0 5 [some (.inr 24), some (.inl p), some (.inl j), some (.inl (alk (M 31) (M 45 p) j i)), some (.inl i)] [] (S0 N) M := by
    intro n
    induction n with
    | zero =>
      intro i hi
      have ar := alk_rng (K := M 31) (i := M 45 p) (j := j) i
      refine aM_likeness [] 40 (fun hM => ?_)
      refine ⟨by omega, by omega, ite_i (fun q => by omega) (fun q => ?_)⟩
      exact pu_eq (by rw [show (M 46 p).toNat = i by omega])
    | succ n ih =>
      intro i hi
      have ar := alk_rng (K := M 31) (i := M 45 p) (j := j) i
      have r1 := k3 (j + i) (by omega) (by omega)
      have r2 := k3 (M 45 p + i) (by omega) (by omega)
      have h2 := ih (i + 1) (by omega)
      rw [show ((i + 1 : Nat) : Int) = (i : Int) + 1 by omega] at h2
      have ea : alk (M 31) (M 45 p) j (i + 1) = alk (M 31) (M 45 p) j i + (if (blk (M 31 (j + i)) ↔ blk (M 31 (M 45 p + i))) then 1 else 0) := rfl
      rw [ea] at h2
      refine aM_likeness [5] 40 (fun hM => ?_)
      refine ⟨by omega, by omega, ite_i (fun q => ?_) (fun q => by omega)⟩
      refine ⟨by omega, ?_⟩
      refine CL.bl (z_isBlack (by omega) (by omega)) (Nat.le_of_ble_eq_true rfl) (fun q1 => ?_) (fun q1 => ?_)
      · refine ⟨by omega, by omega, CL.bl (z_isBlack (by omega) (by omega)) (Nat.le_of_ble_eq_true rfl) (fun q2 => ?_) (fun q2 => ?_)⟩
        · rw [if_pos (iff_of_true q1 q2)] at h2
          refine ⟨⟨R32_1, R32_1⟩, ?_⟩
          exact h2
        · rw [if_neg (fun z => q2 (z.mp q1))] at h2
          refine ⟨⟨R32_1, R32_0⟩, ?_⟩
          exact h2
      · refine ⟨by omega, by omega, CL.bl (z_isBlack (by omega) (by omega)) (Nat.le_of_ble_eq_true rfl) (fun q2 => ?_) (fun q2 => ?_)⟩
        · rw [if_neg (fun z => q1 (z.mpr q2))] at h2
          refine ⟨⟨R32_0, R32_1⟩, ?_⟩
          exact h2
        · rw [if_pos (iff_of_false q1 q2)] at h2
          refine ⟨⟨R32_0, R32_0⟩, ?_⟩
          exact h2
  refine eM_likeness [5] 40 (Nat.le_of_ble_eq_true rfl) (fun hM => ?_)
  exact loop (M 46 p).toNat 0 (by omega)
/-- the key of note k of hand h -/
abbrev kyF (M : Mm) (h : Int) : Int → Int := fun k => M 25 (30 * h + nmo (fK M h) k 30)
theorem laid_31 {M M1 : Mm} {h : Int} (hl : Laid M M1 h) {k : Int} (h0 : 0 ≤ k) (h1 : k < cnt (fK M h) 30) : M1 31 k = kyF M h k := by
  obtain ⟨m, a, b, c⟩ := nmo_ex h0 h1
  have h3 := hl.2.2.1 m a b
  rw [c] at h3
  show M1 31 k = M 25 (30 * h + nmo (fK M h) k 30)
  rw [nmo_is a b c]; exact h3.1
theorem laid_KOk {M M1 : Mm} {h : Int} (hh : isH h) (hK : KyI M) (hl : Laid M M1 h) : KOk M1 := by
  have cr := cnt_rng (fK M h) 30
  unfold KOk
  rw [hl.2.1]
  refine ⟨by omega, by omega, fun k z1 z2 => ?_⟩
  rw [laid_31 hl z1 z2]
  have no := nmo_ok z1 z2
  have ky := hK (30 * h + nmo (fK M h) k 30) (by omega) (by omega)
  have kne : M 25 (30 * h + nmo (fK M h) k 30) ≠ -9 := no.2.2.1
  show 0 ≤ M 25 (30 * h + nmo (fK M h) k 30) ∧ M 25 (30 * h + nmo (fK M h) k 30) < 60
  omega
/-- where the k-th echo of the phrase at p begins -/
def echS (M : Mm) (p k : Int) : Int := eaV (ecP (kyF M (M 44 p)) (cnt (fK M (M 44 p)) 30) (M 45 p) (M 46 p)) (cnt (fK M (M 44 p)) 30 - (M 45 p + M 46 p)).toNat (M 45 p + M 46 p) k
theorem z_echoAt {k : Int} (hP : PhI M) (hK : KyI M) (hp0 : 0 ≤ p) (hp1 : p < M 24 25) (hk0 : 0 ≤ k) (hk1 : k ≤ 29) : Ret 1 0 0 mM_echoAt [.inr 24, .inl p, .inl k] (S0 N) M (fun r S' M' => r = some (.inl (echS M p k)) ∧ S' = S0 N ∧ Laid M M' (M 44 p)) := by
  have a := hP.1
  have b := hP.2 p hp0 hp1
  have cr := cnt_rng (fK M (M 44 p)) 30
  refine eM_echoAt [27] 40 (Nat.le_of_ble_eq_true rfl) (fun hM => ?_)
  refine ⟨by omega, ⟨0, _, (Nat.le_of_ble_eq_true rfl), z_layNotes b.2.1 hK, ?_⟩⟩
  rintro r S' M1 ⟨rfl, rfl, hl⟩ hM1
  have f : ∀ c j, ¬ (c = 31 ∨ c = 32 ∨ (c = 24 ∧ (j = 6 ∨ j = 7))) → M1 c j = M c j := hl.2.2.2
  have e5 : M1 45 p = M 45 p := f _ _ (by omega)
  have e6 : M1 46 p = M 46 p := f _ _ (by omega)
  have e25 : M1 24 25 = M 24 25 := f _ _ (by omega)
  have e7 : M1 24 7 = cnt (fK M (M 44 p)) 30 := hl.2.1
  have hP1 : PhI M1 := by
    unfold PhI at *
    rw [e25]
    refine ⟨a, fun q z1 z2 => ?_⟩
    rw [f 43 _ (by omega), f 44 _ (by omega), f 45 _ (by omega), f 46 _ (by omega)]; exact hP.2 q z1 z2
  have hK1 := laid_KOk b.2.1 hK hl
  have loop : ∀ (n : Nat) (j kk : Int), M 45 p + M 46 p ≤ j → j + n = max (M1 24 7) (M 45 p + M 46 p) → 0 ≤ kk → kk ≤ 29 → AJ 1 0 0 mM_echoAt (fun r S' M' => r = some (.inl (eaV (ecP (M1 31) (M1 24 7) (M 45 p) (M 46 p)) n j kk)) ∧ S' = S0 N ∧ Laid M M' (M 44 p)) 0 0 27 [some (.inr 24), some (.inl p), some (.inl k), some (.inl kk), some (.inl j)] [] (S0 N) M1 := by
    intro n
    induction n with
    | zero =>
      intro j kk hj hn h0 h1
      refine aM_echoAt [] 40 (fun hM => ?_)
      exact ⟨by omega, ite_i (fun q => by omega) (fun q => ⟨rfl, rfl, hl⟩)⟩
    | succ n ih =>
      intro j kk hj hn h0 h1
      have E := z_isEcho (N := N) (j := j) hP1 hp0 (by omega) hK1 (by omega) (by omega)
      rw [e5, e6] at E
      refine aM_echoAt [27] 40 (fun hM => ?_)
      refine ⟨by omega, ite_i (fun q => ?_) (fun q => by omega)⟩
      refine CL.bl E (Nat.le_of_ble_eq_true rfl) (fun q1 => ?_) (fun q1 => ?_)
      · refine ⟨R32_1, by omega, ite_i (fun q2 => ?_) (fun q2 => ?_)⟩
        · refine ⟨?_, rfl, hl⟩
          unfold eaV; rw [if_pos q1, if_pos q2]
        · have h2 := ih (j + 1) (kk - 1) (by omega) (by omega) (by omega) (by omega)
          unfold eaV; rw [if_pos q1, if_neg q2]
          exact h2
      · have h2 := ih (j + 1) kk (by omega) (by omega) (by omega) (by omega)
        refine ⟨R32_0, ?_⟩
        unfold eaV; rw [if_neg q1]
        exact h2
  have h2 := loop (M1 24 7 - (M 45 p + M 46 p)).toNat (M 45 p + M 46 p) k (by omega) (by omega) hk0 hk1
  rw [← e5, ← e6] at h2
  have ev : eaV (ecP (M1 31) (M1 24 7) (M 45 p) (M 46 p)) (M1 24 7 - (M 45 p + M 46 p)).toNat (M 45 p + M 46 p) k = echS M p k := by
    unfold echS
    rw [← e7]
    exact eaV_congr _ _ _ (fun i z1 z2 => ecP_congr (by omega) (by omega) (by omega) (fun q y1 y2 => laid_31 hl y1 (by omega)))
  rw [e5, e6, ev] at h2
  refine ⟨by omega, by omega, ?_⟩
  rw [← e5, ← e6] at h2
  exact h2
end Ec
end
section
/-! ===== the reference: echo, tieEcho, two hands ===== -/
theorem Laid.fr {M M1 : Mm} {h : Int} (hl : Laid M M1 h) : FrM M M1 := fun c j z => hl.2.2.2 c j (by omega)
section Two
variable {N : Nat} {M : Mm}
def echoV (M : Mm) (x k w : Int) : Int := if phV M x = -9 then -1 else if (0 ≤ k ∧ k ≤ 29) ∧ 0 ≤ w ∧ w ≤ 1 then (if echS M (phV M x) k = -9 ∨ w = 0 then echS M (phV M x) k else alk (kyF M (M 44 (phV M x))) (M 45 (phV M x)) (echS M (phV M x) k) (M 46 (phV M x)).toNat) else -2
theorem echS_rng {p : Int} (hP : PhI M) (hp0 : 0 ≤ p) (hp1 : p < M 24 25) (k : Int) : echS M p k = -9 ∨ (M 45 p + M 46 p ≤ echS M p k ∧ echS M p k + M 46 p ≤ cnt (fK M (M 44 p)) 30 ∧ M 45 p + M 46 p ≤ cnt (fK M (M 44 p)) 30) := by
  have b := hP.2 p hp0 hp1
  have := eaV_rng (E := ecP (kyF M (M 44 p)) (cnt (fK M (M 44 p)) 30) (M 45 p) (M 46 p)) (cnt (fK M (M 44 p)) 30 - (M 45 p + M 46 p)).toNat (M 45 p + M 46 p) k
  unfold echS
  rcases this with q | ⟨q1, q2, q3⟩
  · exact Or.inl q
  · exact Or.inr ⟨q1, q3.2.1, q3.1⟩
theorem z_echo {x k w : Int} (hx : R32 x) (hk : R32 k) (hw : R32 w) (hP : PhI M) (hI : MI M) (hC : ChI M) : Ret 2 0 0 mM_echo [.inr 24, .inl x, .inl k, .inl w] (S0 N) M (fun r S' M' => r = some (.inl (echoV M x k w)) ∧ S' = S0 N ∧ Ak M M') := by
  have pr := phV_rng hP x
  have a := hP.1
  have rf : Ak M M := ⟨fun _ _ _ => rfl, hC⟩
  refine eM_echo [] 40 (Nat.le_of_ble_eq_true rfl) (fun hM => ?_)
  refine CL.pu (z_phraseOf hx hP) (Nat.le_of_ble_eq_true rfl) ?_
  refine ⟨by omega, ite_i (fun q => ?_) (fun q => ?_)⟩
  · exact ⟨by unfold echoV; rw [if_pos q], rfl, rf⟩
  · refine CL.bl (z_within hk R32_0 (by decide)) (Nat.le_of_ble_eq_true rfl) (fun q1 => ?_) (fun q1 => ?_)
    · refine ⟨R32_1, CL.bl (z_within hw R32_0 R32_1) (Nat.le_of_ble_eq_true rfl) (fun q2 => ?_) (fun q2 => ?_)⟩
      · have b := hP.2 (phV M x) (by omega) (by omega)
        have er := echS_rng hP (p := phV M x) (by omega) (by omega) k
        have cr := cnt_rng (fK M (M 44 (phV M x))) 30
        refine ⟨R32_1, ⟨1, _, (Nat.le_of_ble_eq_true rfl), z_echoAt hP hI.2.1 (by omega) (by omega) q1.1 q1.2, ?_⟩⟩
        rintro r S' M1 ⟨rfl, rfl, hl⟩ hM1
        have ak : Ak M M1 := ⟨hl.fr.a, hC.fr hI hl.fr⟩
        refine ⟨by omega, ite_i (fun q3 => ?_) (fun q3 => ?_)⟩
        · exact ⟨by unfold echoV; rw [if_neg q, if_pos ⟨q1, q2⟩, if_pos (Or.inl q3)], rfl, ak⟩
        · refine ⟨by omega, ite_i (fun q4 => ?_) (fun q4 => ?_)⟩
          · exact ⟨by unfold echoV; rw [if_neg q, if_pos ⟨q1, q2⟩, if_pos (Or.inr q4)], rfl, ak⟩
          · have f : ∀ c j, ¬ (c = 31 ∨ c = 32 ∨ (c = 24 ∧ (j = 6 ∨ j = 7))) → M1 c j = M c j := hl.2.2.2
            have e5 : M1 45 (phV M x) = M 45 (phV M x) := f _ _ (by omega)
            have e6 : M1 46 (phV M x) = M 46 (phV M x) := f _ _ (by omega)
            have e25 : M1 24 25 = M 24 25 := f _ _ (by omega)
            have e7 := hl.2.1
            have hP1 : PhI M1 := by
              unfold PhI at *
              rw [e25]
              refine ⟨a, fun q z1 z2 => ?_⟩
              rw [f 43 _ (by omega), f 44 _ (by omega), f 45 _ (by omega), f 46 _ (by omega)]; exact hP.2 q z1 z2
            refine CL.pu (z_likeness hP1 (by omega) (by omega) (laid_KOk b.2.1 hI.2.1 hl) (by omega) (by omega) (by omega)) (Nat.le_of_ble_eq_true rfl) ?_
            refine ⟨?_, rfl, ak⟩
            unfold echoV
            rw [if_neg q, if_pos ⟨q1, q2⟩, if_neg (by omega), e5, e6]
            rw [alk_congr (K' := kyF M (M 44 (phV M x))) _ (fun i hi => ⟨laid_31 hl (by omega) (by omega), laid_31 hl (by omega) (by omega)⟩)]
      · exact ⟨R32_0, by unfold echoV; rw [if_neg q, if_neg (fun z => q2 z.2)], rfl, rf⟩
    · exact ⟨R32_0, by unfold echoV; rw [if_neg q, if_neg (fun z => q1 z.1)], rfl, rf⟩
abbrev tieEchoK (M : Mm) (x k : Int) : Prop := phV M x ≠ -9 ∧ (0 ≤ k ∧ k ≤ 29) ∧ echS M (phV M x) k ≠ -9
def tieEchoV (M : Mm) (x k : Int) : Int := if phV M x = -9 then -1 else if 0 ≤ k ∧ k ≤ 29 then (if echS M (phV M x) k = -9 then -3 else 1) else -2
theorem z_tieEcho {x k : Int} (hx : R32 x) (hk : R32 k) (hP : PhI M) (hI : MI M) (hC : ChI M) : Ret 3 0 0 mM_tieEcho [.inr 24, .inl x, .inl k] (S0 N) M (fun r S' M' => r = some (.inl (tieEchoV M x k)) ∧ S' = S0 N ∧ (¬ tieEchoK M x k → Ak M M') ∧ (tieEchoK M x k → ∃ M1, FrM M M1 ∧ M' = chg (tieE M1 (M 44 (phV M x)) (M 45 (phV M x)) (echS M (phV M x) k) (M 46 (phV M x))))) := by
  have pr := phV_rng hP x
  have a := hP.1
  have rf : Ak M M := ⟨fun _ _ _ => rfl, hC⟩
  refine eM_tieEcho [] 40 (Nat.le_of_ble_eq_true rfl) (fun hM => ?_)
  refine CL.pu (z_phraseOf hx hP) (Nat.le_of_ble_eq_true rfl) ?_
  refine ⟨by omega, ite_i (fun q => ?_) (fun q => ?_)⟩
  · exact ⟨by unfold tieEchoV; rw [if_pos q], rfl, fun _ => rf, fun z => absurd q z.1⟩
  · refine CL.bl (z_within hk R32_0 (by decide)) (Nat.le_of_ble_eq_true rfl) (fun q1 => ?_) (fun q1 => ?_)
    · have b := hP.2 (phV M x) (by omega) (by omega)
      have er := echS_rng hP (p := phV M x) (by omega) (by omega) k
      have cr := cnt_rng (fK M (M 44 (phV M x))) 30
      refine ⟨R32_1, ⟨1, _, (Nat.le_of_ble_eq_true rfl), z_echoAt hP hI.2.1 (by omega) (by omega) q1.1 q1.2, ?_⟩⟩
      rintro r S' M1 ⟨rfl, rfl, hl⟩ hM1
      have ak : Ak M M1 := ⟨hl.fr.a, hC.fr hI hl.fr⟩
      refine ⟨by omega, ite_i (fun q3 => ?_) (fun q3 => ?_)⟩
      · exact ⟨by unfold tieEchoV; rw [if_neg q, if_pos q1, if_pos q3], rfl, fun _ => ak, fun z => absurd q3 z.2.2⟩
      · have f : ∀ c j, ¬ (c = 31 ∨ c = 32 ∨ (c = 24 ∧ (j = 6 ∨ j = 7))) → M1 c j = M c j := hl.2.2.2
        have e4 : M1 44 (phV M x) = M 44 (phV M x) := f _ _ (by omega)
        have e5 : M1 45 (phV M x) = M 45 (phV M x) := f _ _ (by omega)
        have e6 : M1 46 (phV M x) = M 46 (phV M x) := f _ _ (by omega)
        have ec : cnt (fK M1 (M 44 (phV M x))) 30 = cnt (fK M (M 44 (phV M x))) 30 := cnt_fr (fun j => f 25 j (by omega))
        have T := z_ties (N := N) (M := M1) (h := M 44 (phV M x)) (i := M 45 (phV M x)) (j := echS M (phV M x) k) (n := M 46 (phV M x)) b.2.1 (hI.fr hl.fr).2.2 (by omega) (by omega) (by omega) (by omega)
        rw [ec, bi_t (by omega)] at T
        refine ⟨by omega, by omega, by omega, ?_⟩
        rw [e4, e5, e6]
        refine ⟨2, _, (Nat.le_of_ble_eq_true rfl), T, ?_⟩
        rintro r S' M' ⟨rfl, rfl, rfl⟩ hM'
        exact ⟨by unfold tieEchoV; rw [if_neg q, if_pos q1, if_neg q3], rfl, fun z => absurd ⟨q, q1, q3⟩ z, fun _ => ⟨M1, hl.fr, rfl⟩⟩
    · exact ⟨R32_0, by unfold tieEchoV; rw [if_neg q, if_neg q1], rfl, fun _ => rf, fun z => absurd z.2.1 q1⟩
/-! moments of both hands -/
abbrev soP (a b w : Int) : Prop := (w = 0 ∧ a ≠ -9 ∧ b ≠ -9 ∧ a < b) ∨ (w = 1 ∧ a ≠ -9 ∧ b ≠ -9 ∧ a = b) ∨ (w = 2 ∧ ((a ≠ -9 ∧ b = -9) ∨ (a = -9 ∧ b ≠ -9))) ∨ (w ≠ 0 ∧ w ≠ 1 ∧ w ≠ 2 ∧ a = -9 ∧ b = -9)
abbrev soM (M : Mm) (w : Int) : Int → Prop := fun m => soP (M 25 m) (M 25 (30 + m)) w
theorem z_isSo {m w : Int} (h0 : 0 ≤ m) (h1 : m < 30) (hw : 0 ≤ w ∧ w ≤ 3) (hK : KyI M) : Ret 0 0 0 mM_isSo [.inr 24, .inl m, .inl w] (S0 N) M (Pu (S0 N) M (bi (soM M w m))) := by
  have a := hK m (by omega) (by omega)
  have b := hK (30 + m) (by omega) (by omega)
  refine eM_isSo [] 60 (Nat.le_of_ble_eq_true rfl) (fun hM => ?_)
  refine ⟨by omega, by omega, ?_⟩
  repeat' first
    | (exact ⟨Or.inr rfl, pu_eq (bi_t (by omega)).symm⟩)
    | (exact ⟨Or.inl rfl, pu_eq (bi_f (by omega)).symm⟩)
    | (exact hM _ _)
    | (refine ite_i (fun _ => ?_) (fun _ => ?_))
    | (intro _)
    | (exact trivial)
    | (omega)
    | (refine And.intro ?_ ?_)
end Two
end
section
/-! ===== the reference: moment, sum, swap, help, many ===== -/
def ctE (E : Int → Prop) [DecidablePred E] : Nat → Int
  | 0 => 0
  | n + 1 => ctE E n + (if E n then 1 else 0)
theorem ctE_rng {E : Int → Prop} [DecidablePred E] : ∀ n : Nat, 0 ≤ ctE E n ∧ ctE E n ≤ n := by
  intro n
  induction n with
  | zero => exact ⟨Int.le_refl _, Int.le_refl _⟩
  | succ n ih => unfold ctE; split <;> omega
theorem ctE_congr {E F : Int → Prop} [DecidablePred E] [DecidablePred F] : ∀ n : Nat, (∀ i : Int, 0 ≤ i → i < n → (E i ↔ F i)) → ctE E n = ctE F n := by
  intro n
  induction n with
  | zero => intro _; rfl
  | succ n ih =>
    intro h
    have h0 := h n (by omega) (by omega)
    unfold ctE
    rw [ih (fun i q1 q2 => h i q1 (by omega))]
    by_cases hE : E n
    · rw [if_pos hE, if_pos (h0.mp hE)]
    · rw [if_neg hE, if_neg (fun z => hE (h0.mpr z))]
/-- two costs together -/
def tgt (a b : Int) : Int := if a = -9 ∨ b = -9 then -9 else a + b
def sumV (M : Mm) : Int := tgt (bst M 0) (bst M 1)
/-- the hands' keys at m change places -/
def swE (M : Mm) (m : Int) : Mm := lay1 (lay1 M m (M 25 (30 + m))) (30 + m) (M 25 m)
def hpL (s : Int → Int) : Nat → Int → Int → Int → Int × Int
  | 0, _, f, b => (f, b)
  | n + 1, m, f, b => if s m ≠ -9 ∧ (b = -9 ∨ s m < b) then hpL s n (m + 1) m (s m) else hpL s n (m + 1) f b
section Help
variable {N : Nat} {M : Mm}
def momentV (M : Mm) (k w : Int) : Int := if (0 ≤ k ∧ k ≤ 29) ∧ 0 ≤ w ∧ w ≤ 3 then eaV (soM M w) 30 0 k else -2
theorem z_moment {k w : Int} (hk : R32 k) (hw : R32 w) (hK : KyI M) : Ret 1 0 0 mM_moment [.inr 24, .inl k, .inl w] (S0 N) M (Pu (S0 N) M (momentV M k w)) := by
  refine eM_moment [27] 40 (Nat.le_of_ble_eq_true rfl) (fun hM => ?_)
  refine CL.bl (z_within hk R32_0 (by decide)) (Nat.le_of_ble_eq_true rfl) (fun q1 => ?_) (fun q1 => ?_)
  · refine ⟨R32_1, CL.bl (z_within hw R32_0 (by decide)) (Nat.le_of_ble_eq_true rfl) (fun q2 => ?_) (fun q2 => ?_)⟩
    · have ev : momentV M k w = eaV (soM M w) 30 0 k := by unfold momentV; rw [if_pos ⟨q1, q2⟩]
      rw [ev]
      have loop : ∀ (n : Nat) (j kk : Int), 0 ≤ j → j + n = 30 → 0 ≤ kk → kk ≤ 29 → AJ 1 0 0 mM_moment (Pu (S0 N) M (eaV (soM M w) n j kk)) 0 0 27 [some (.inr 24), some (.inl k), some (.inl w), some (.inl kk), some (.inl j)] [] (S0 N) M := by
        intro n
        induction n with
        | zero =>
          intro j kk hj hn h0 h1
          refine aM_moment [] 40 (fun hM => ?_)
          exact ⟨by omega, ite_i (fun q => by omega) (fun q => pu_eq rfl)⟩
        | succ n ih =>
          intro j kk hj hn h0 h1
          refine aM_moment [27] 40 (fun hM => ?_)
          refine ⟨by omega, ite_i (fun q => ?_) (fun q => by omega)⟩
          refine CL.bl (z_isSo (by omega) (by omega) q2 hK) (Nat.le_of_ble_eq_true rfl) (fun q3 => ?_) (fun q3 => ?_)
          · refine ⟨R32_1, by omega, ite_i (fun q4 => ?_) (fun q4 => ?_)⟩
            · exact pu_eq (by unfold eaV; rw [if_pos q3, if_pos q4])
            · have h2 := ih (j + 1) (kk - 1) (by omega) (by omega) (by omega) (by omega)
              unfold eaV; rw [if_pos q3, if_neg q4]
              exact h2
          · have h2 := ih (j + 1) kk (by omega) (by omega) (by omega) (by omega)
            refine ⟨R32_0, ?_⟩
            unfold eaV; rw [if_neg q3]
            exact h2
      exact ⟨R32_1, loop 30 0 k (by omega) (by omega) q1.1 q1.2⟩
    · exact ⟨R32_0, pu_eq (by unfold momentV; rw [if_neg (fun z => q2 z.2)])⟩
  · exact ⟨R32_0, pu_eq (by unfold momentV; rw [if_neg (fun z => q1 z.1)])⟩
theorem z_manyMoments {w : Int} (hw : 0 ≤ w ∧ w ≤ 3) (hK : KyI M) : Ret 1 0 0 mM_manyMoments [.inr 24, .inl w] (S0 N) M (Pu (S0 N) M (ctE (soM M w) 30)) := by
  have loop : ∀ (n i : Nat), i + n = 30 → AJ 1 0 0 mM_manyMoments (Pu (S0 N) M (ctE (soM M w) 30)) 0 0 4 [some (.inr 24), some (.inl w), some (.inl (ctE (soM M w) i)), some (.inl i)] [] (S0 N) M := by
    intro n
    induction n with
    | zero =>
      intro i hi
      have : i = 30 := by omega
      subst this
      refine aM_manyMoments [] 40 (fun hM => ?_)
      exact ⟨by decide, pu_eq rfl⟩
    | succ n ih =>
      intro i hi
      have ar := ctE_rng (E := soM M w) i
      have h2 := ih (i + 1) (by omega)
      rw [show ((i + 1 : Nat) : Int) = (i : Int) + 1 by omega] at h2
      have ea : ctE (soM M w) (i + 1) = ctE (soM M w) i + (if soM M w i then 1 else 0) := rfl
      rw [ea] at h2
      refine aM_manyMoments [4] 40 (fun hM => ?_)
      refine ⟨by omega, ite_i (fun q => ?_) (fun q => by omega)⟩
      refine CL.bl (z_isSo (by omega) (by omega) hw hK) (Nat.le_of_ble_eq_true rfl) (fun q3 => ?_) (fun q3 => ?_)
      · rw [if_pos q3] at h2; exact ⟨R32_1, h2⟩
      · rw [if_neg q3] at h2; exact ⟨R32_0, h2⟩
  refine eM_manyMoments [4] 40 (Nat.le_of_ble_eq_true rfl) (fun hM => ?_)
  exact loop 30 0 (by omega)
theorem z_manyMarks : Ret 0 0 0 mM_manyMarks [.inr 24] (S0 N) M (Pu (S0 N) M (ctE (fun j => M 26 j ≠ -9) 60)) := by
  have loop : ∀ (n i : Nat), i + n = 60 → AJ 0 0 0 mM_manyMarks (Pu (S0 N) M (ctE (fun j => M 26 j ≠ -9) 60)) 0 0 4 [some (.inr 24), some (.inl (ctE (fun j => M 26 j ≠ -9) i)), some (.inl i)] [] (S0 N) M := by
    intro n
    induction n with
    | zero =>
      intro i hi
      have : i = 60 := by omega
      subst this
      refine aM_manyMarks [] 40 (fun hM => ?_)
      exact ⟨by decide, pu_eq rfl⟩
    | succ n ih =>
      intro i hi
      have ar := ctE_rng (E := fun j => M 26 j ≠ -9) i
      have h2 := ih (i + 1) (by omega)
      rw [show ((i + 1 : Nat) : Int) = (i : Int) + 1 by omega] at h2
      have ea : ctE (fun j => M 26 j ≠ -9) (i + 1) = ctE (fun j => M 26 j ≠ -9) i + (if M 26 i ≠ -9 then 1 else 0) := rfl
      rw [ea] at h2
      refine aM_manyMarks [4] 40 (fun hM => ?_)
      refine ⟨by omega, ite_i (fun q => ?_) (fun q => by omega)⟩
      refine ⟨by omega, ⟨hM _ _, by decide⟩, ite_i (fun q3 => ?_) (fun q3 => ?_)⟩
      · rw [if_neg (fun z => z q3)] at h2; exact h2
      · rw [if_pos q3] at h2; exact h2
  refine eM_manyMarks [4] 40 (Nat.le_of_ble_eq_true rfl) (fun hM => ?_)
  exact loop 60 0 (by omega)
theorem z_together {a b : Int} (ha : a = -9 ∨ (0 ≤ a ∧ a < 1000000)) (hb : b = -9 ∨ (0 ≤ b ∧ b < 1000000)) : Ret 0 0 0 mM_together [.inr 24, .inl a, .inl b] (S0 N) M (Pu (S0 N) M (tgt a b)) := by
  refine eM_together [] 30 (Nat.le_of_ble_eq_true rfl) (fun hM => ?_)
  refine ⟨by omega, ite_i (fun q => ?_) (fun q => ?_)⟩
  · exact pu_eq (by unfold tgt; rw [if_pos (Or.inl q)])
  · refine ⟨by omega, ite_i (fun q2 => ?_) (fun q2 => ?_)⟩
    · exact pu_eq (by unfold tgt; rw [if_pos (Or.inr q2)])
    · exact pu_eq (by unfold tgt; rw [if_neg (by omega)])
theorem z_sum (hI : MI M) (hC : ChI M) : Ret 11 0 0 mM_sum [.inr 24] (S0 N) M (fun r S' M' => r = some (.inl (sumV M)) ∧ S' = S0 N ∧ Ak M M') := by
  refine eM_sum [] 30 (Nat.le_of_ble_eq_true rfl) (fun hM => ?_)
  refine ⟨10, _, (Nat.le_of_ble_eq_true rfl), z_findHand (Or.inl rfl) hI hC, ?_⟩
  rintro r S' M1 ⟨rfl, rfl, hF1, hC1, k1, j1⟩ hM1
  have hI1 := hI.fra hF1
  refine ⟨10, _, (Nat.le_of_ble_eq_true rfl), z_findHand (Or.inr rfl) hI1 hC1, ?_⟩
  rintro r S' M2 ⟨rfl, rfl, hF2, hC2, k2, j2⟩ hM2
  have e0 : M2 38 0 = bst M 0 := by rw [j2 0 (by omega), k1.1, ce_bst hF1.ce (Or.inl rfl) hI]
  have e1 : M2 38 1 = bst M 1 := by rw [k2.1, ce_bst (hF1.trans hF2).ce (Or.inr rfl) hI]
  refine ⟨by omega, by omega, ?_⟩
  rw [e0, e1]
  refine CL.pu (z_together (bst_rng (Or.inl rfl) hI) (bst_rng (Or.inr rfl) hI)) (Nat.le_of_ble_eq_true rfl) ?_
  exact ⟨rfl, rfl, hF1.trans hF2, hC2⟩
section Sw
variable {m : Int}
theorem lay_25 {j key : Int} (i : Int) : lay1 M j key 25 i = if i = j then key else M 25 i := by
  unfold lay1
  split
  · unfold mset; simp
  · unfold mset; simp
theorem lay_26 {j key : Int} (i : Int) : lay1 M j key 26 i = if i = j ∧ M 25 j ≠ key then -9 else M 26 i := by
  unfold lay1
  split
  · rename_i q; rw [mset_ne (by omega), if_neg (fun z => z.2 q)]
  · rename_i q; rw [mset_ne (by omega)]; unfold mset; simp [q]
theorem lay_o {j key : Int} {c : Nat} (i : Int) (hc : c ≠ 25 ∧ c ≠ 26) : lay1 M j key c i = M c i := by
  unfold lay1
  split
  · exact mset_ne (by omega)
  · rw [mset_ne (by omega), mset_ne (by omega)]
theorem KyI.lay {j key : Int} (hK : KyI M) (hk : key = -9 ∨ isK key) : KyI (lay1 M j key) := by
  intro i i0 i1
  have := hK i i0 i1
  rw [lay_25, lay_26]
  by_cases hij : i = j
  · subst hij
    rw [if_pos rfl]
    by_cases q : M 25 i = key
    · rw [if_neg (fun z => z.2 q)]; subst q; exact this
    · rw [if_pos ⟨rfl, q⟩]; omega
  · rw [if_neg hij, if_neg (fun z => hij z.1)]; exact this
theorem KyI.key (hK : KyI M) {j : Int} (h0 : 0 ≤ j) (h1 : j < 60) : M 25 j = -9 ∨ isK (M 25 j) := (hK j h0 h1).1
theorem KyI.sw (hK : KyI M) (h0 : 0 ≤ m) (h1 : m < 30) : KyI (swE M m) := (hK.lay (hK.key (by omega) (by omega))).lay (hK.key (by omega) (by omega))
theorem sw_25 (h0 : 0 ≤ m) (j : Int) : swE M m 25 j = if j = 30 + m then M 25 m else if j = m then M 25 (30 + m) else M 25 j := by
  unfold swE; rw [lay_25, lay_25]
theorem sw_26 (j : Int) (h : j ≠ m ∧ j ≠ 30 + m) : swE M m 26 j = M 26 j := by
  unfold swE; rw [lay_26, if_neg (fun z => h.2 z.1), lay_26, if_neg (fun z => h.1 z.1)]
theorem sw_o {c : Nat} (j : Int) (hc : c ≠ 25 ∧ c ≠ 26) : swE M m c j = M c j := by
  unfold swE; rw [lay_o _ hc, lay_o _ hc]
theorem MI.sw (hI : MI M) (h0 : 0 ≤ m) (h1 : m < 30) : MI (swE M m) := by
  have f : ∀ c : Nat, c ≠ 25 ∧ c ≠ 26 → swE M m c = M c := fun c hc => by funext j; exact sw_o j hc
  obtain ⟨a, b, c⟩ := hI
  refine ⟨?_, b.sw h0 h1, ?_⟩
  · unfold RuI at *; rw [f 3 (by omega), f 4 (by omega), f 27 (by omega), f 28 (by omega), f 29 (by omega), f 30 (by omega)]; exact a
  · unfold TieI at *; rw [f 40 (by omega), f 41 (by omega), f 42 (by omega)]; exact c
theorem z_swaps (h0 : 0 ≤ m) (h1 : m < 30) : Ret 1 0 0 mM_swaps [.inr 24, .inl m] (S0 N) M (Vo (S0 N) (swE M m)) := by
  have z1 := fun (M : Mm) (key : Int) (hk : R32 key) => z_lays (N := N) (h := 0) (m := m) (key := key) (M := M) (Or.inl rfl) h0 h1 hk
  have z2 := fun (M : Mm) (key : Int) (hk : R32 key) => z_lays (N := N) (h := 1) (m := m) (key := key) (M := M) (Or.inr rfl) h0 h1 hk
  rw [show (30 : Int) * 0 + m = m by omega] at z1
  rw [show (30 : Int) * 1 + m = 30 + m by omega] at z2
  refine eM_swaps [] 30 (Nat.le_of_ble_eq_true rfl) (fun hM => ?_)
  refine ⟨by omega, by omega, ?_⟩
  refine CL.vo (z1 _ _ (hM _ _)) (Nat.le_of_ble_eq_true rfl) (fun hM2 => ?_)
  refine CL.vo (z2 _ _ (hM _ _)) (Nat.le_of_ble_eq_true rfl) (fun hM3 => ?_)
  exact vo_eq rfl
theorem ChI.chg (A : Mm) : ChI (chg A) := by
  refine ⟨Or.inl ?_, Or.inl ?_⟩
  · show mset (mset A 24 18 0) 24 19 0 24 18 = 0
    rw [mset_ne (by omega), mset_eq]
  · exact mset_eq ..
end Sw
end Help
end
section
/-! ===== the reference: swap, help, many ===== -/
theorem ce_lay {M M' : Mm} (h : CE M M') (j k : Int) : CE (lay1 M j k) (lay1 M' j k) := by
  obtain ⟨a1, a2, a3, a4, a5, a6, a7, a8, a9⟩ := h
  have o : ∀ c : Nat, c ≠ 25 ∧ c ≠ 26 → M' c = M c → lay1 M' j k c = lay1 M j k c := fun c hc e => by funext i; rw [lay_o _ hc, lay_o _ hc, e]
  refine ⟨?_, ?_, o _ (by omega) a3, o _ (by omega) a4, o _ (by omega) a5, o _ (by omega) a6, o _ (by omega) a7, o _ (by omega) a8, o _ (by omega) a9⟩
  · funext i; rw [lay_25, lay_25, a1]
  · funext i; rw [lay_26, lay_26, a1, a2]
theorem ce_sw {M M' : Mm} (h : CE M M') (m : Int) : CE (swE M m) (swE M' m) := by
  have := ce_lay (ce_lay h m (M 25 (30 + m))) (30 + m) (M 25 m)
  unfold swE
  rw [h.1]; exact this
theorem ce_sum {M M' : Mm} (h : CE M M') (hI : MI M) : sumV M' = sumV M := by
  unfold sumV; rw [ce_bst h (Or.inl rfl) hI, ce_bst h (Or.inr rfl) hI]
theorem ce_chg (M : Mm) : CE M (chg M) ∧ (chg M 3 = M 3 ∧ chg M 4 = M 4) := by
  have f : ∀ c : Nat, c ≠ 24 → chg M c = M c := fun c hc => by funext j; unfold chg; rw [mset_ne (by omega), mset_ne (by omega)]
  exact ⟨⟨f _ (by omega), f _ (by omega), f _ (by omega), f _ (by omega), f _ (by omega), f _ (by omega), f _ (by omega), f _ (by omega), f _ (by omega)⟩, f _ (by omega), f _ (by omega)⟩
section Hp
variable {N : Nat} {M : Mm} {m : Int}
def swapV (M : Mm) (m : Int) : Int := if isM m then sumV (swE M m) else -1
theorem z_swap (hm : R32 m) (hI : MI M) : Ret 12 0 0 mM_swap [.inr 24, .inl m] (S0 N) M (fun r S' M' => r = some (.inl (swapV M m)) ∧ S' = S0 N ∧ (isM m → Ak (chg (swE M m)) M') ∧ (¬ isM m → M' = M)) := by
  refine eM_swap [] 30 (Nat.le_of_ble_eq_true rfl) (fun hM => ?_)
  refine CL.bl (z_isMoment hm) (Nat.le_of_ble_eq_true rfl) (fun q => ?_) (fun q => ?_)
  · refine ⟨R32_1, CL.vo (z_swaps q.1 q.2) (Nat.le_of_ble_eq_true rfl) (fun hM2 => ?_)⟩
    refine CL.vo z_isChanged (Nat.le_of_ble_eq_true rfl) (fun hM3 => ?_)
    have hI1 := hI.sw q.1 q.2
    have cc := ce_chg (swE M m)
    have hI2 : MI (chg (swE M m)) := hI1.ce cc.1 cc.2
    refine ⟨11, _, (Nat.le_of_ble_eq_true rfl), z_sum (M := chg (swE M m)) hI2 (ChI.chg _), ?_⟩
    rintro r S' M' ⟨rfl, rfl, ak⟩ hM'
    refine ⟨?_, rfl, fun _ => ak, fun z => absurd q z⟩
    unfold swapV
    rw [if_pos q, ce_sum cc.1 hI1]
  · exact ⟨R32_0, by unfold swapV; rw [if_neg q], rfl, fun z => absurd z q, fun _ => rfl⟩
theorem z_sumBehind (h0 : 0 ≤ m) (h1 : m < 30) (hI : MI M) : Ret 10 0 0 mM_sumBehind [.inr 24, .inl m] (S0 N) M (fun r S' M' => r = some (.inl (sumV (swE M m))) ∧ S' = S0 N ∧ FrM M M') := by
  have hI1 := hI.sw h0 h1
  have r0 := hI.2.1 m (by omega) (by omega)
  have r1 := hI.2.1 (30 + m) (by omega) (by omega)
  have b0 := bst_rng (Or.inl rfl) hI1
  have b1 := bst_rng (Or.inr rfl) hI1
  refine eM_sumBehind [] 60 (Nat.le_of_ble_eq_true rfl) (fun hM => ?_)
  refine ⟨by omega, by omega, CL.vo (z_swaps h0 h1) (Nat.le_of_ble_eq_true rfl) (fun hM2 => ?_)⟩
  refine ⟨9, _, (Nat.le_of_ble_eq_true rfl), z_leastOfHand (Or.inl rfl) hI1, ?_⟩
  rintro r S' M2 ⟨rfl, rfl, hF2, _⟩ hM2'
  refine ⟨9, _, (Nat.le_of_ble_eq_true rfl), z_leastOfHand (Or.inr rfl) (hI1.fr hF2), ?_⟩
  rintro r S' M3 ⟨rfl, rfl, hF3, _⟩ hM3'
  have e1 : bst M2 1 = bst (swE M m) 1 := ce_bst hF2.ce (Or.inr rfl) hI1
  rw [e1]
  refine CL.pu (z_together b0 b1) (Nat.le_of_ble_eq_true rfl) ?_
  refine CL.vo (z_swaps h0 h1) (Nat.le_of_ble_eq_true rfl) (fun hM4 => ?_)
  refine ⟨⟨by decide, by omega, by omega, by omega, by omega⟩, ⟨by decide, by omega, by omega, by omega, by omega⟩, rfl, rfl, fun c j hs => ?_⟩
  have g : ∀ i, ¬ scM c i → M3 c i = (swE M m) c i := fun i z => by rw [hF3 c i z, hF2 c i z]
  by_cases c6 : c = 26
  · subst c6
    by_cases j1 : j = 30 + m
    · subst j1; exact mset_eq ..
    · rw [mset_ne (by omega)]
      by_cases j0 : j = m
      · subst j0; exact mset_eq ..
      · rw [mset_ne (by omega), sw_26 _ ⟨j0, j1⟩, g _ (by omega), sw_26 _ ⟨j0, j1⟩]
  · rw [mset_ne (by omega), mset_ne (by omega)]
    by_cases c5 : c = 25
    · subst c5
      rw [sw_25 h0, g m (by omega), g (30 + m) (by omega), g j (by omega), sw_25 h0, sw_25 h0, sw_25 h0]
      by_cases j1 : j = 30 + m
      · subst j1; rw [if_pos rfl, if_neg (by omega), if_pos rfl]
      · rw [if_neg j1]
        by_cases j0 : j = m
        · subst j0; rw [if_pos rfl, if_pos rfl]
        · rw [if_neg j0, if_neg j1, if_neg j0]
    · rw [sw_o _ ⟨c5, c6⟩, g _ hs, sw_o _ ⟨c5, c6⟩]
theorem sumV_rng (hI : MI M) : sumV M = -9 ∨ (0 ≤ sumV M ∧ sumV M < 2000000) := by
  have b0 := bst_rng (Or.inl rfl) hI
  have b1 := bst_rng (Or.inr rfl) hI
  unfold sumV tgt
  split <;> omega
def hpV (M : Mm) : Int × Int := hpL (fun m => sumV (swE M m)) 30 0 (-9) (sumV M)
def helpV (M : Mm) (w : Int) : Int := if 0 ≤ w ∧ w ≤ 1 then (if w = 0 ∨ (hpV M).1 = -9 then (hpV M).1 else (hpV M).2) else -2
theorem z_help {w : Int} (hw : R32 w) (hI : MI M) (hC : ChI M) : Ret 11 0 0 mM_help [.inr 24, .inl w] (S0 N) M (fun r S' M' => r = some (.inl (helpV M w)) ∧ S' = S0 N ∧ Ak M M') := by
  refine eM_help [36] 40 (Nat.le_of_ble_eq_true rfl) (fun hM => ?_)
  refine CL.bl (z_within hw R32_0 R32_1) (Nat.le_of_ble_eq_true rfl) (fun q => ?_) (fun q => ?_)
  · refine ⟨R32_1, ?_⟩
    refine ⟨9, _, (Nat.le_of_ble_eq_true rfl), z_leastOfHand (Or.inl rfl) hI, ?_⟩
    rintro r S' M2 ⟨rfl, rfl, hF2, _⟩ hM2'
    refine ⟨9, _, (Nat.le_of_ble_eq_true rfl), z_leastOfHand (Or.inr rfl) (hI.fr hF2), ?_⟩
    rintro r S' M3 ⟨rfl, rfl, hF3, _⟩ hM3'
    have e1 : bst M2 1 = bst M 1 := ce_bst hF2.ce (Or.inr rfl) hI
    rw [e1]
    refine CL.pu (z_together (bst_rng (Or.inl rfl) hI) (bst_rng (Or.inr rfl) hI)) (Nat.le_of_ble_eq_true rfl) ?_
    have loop : ∀ (n : Nat) (i f b now : Int) (L6 : Option Vl) (M4 : Mm), 0 ≤ i → i + n = 30 → FrM M M4 → (f = -9 ∨ (0 ≤ f ∧ f < 30)) → (b = -9 ∨ (0 ≤ b ∧ b < 2000000)) → hpL (fun m => sumV (swE M m)) n i f b = hpV M → AJ 11 0 0 mM_help (fun r S' M' => r = some (.inl (helpV M w)) ∧ S' = S0 N ∧ Ak M M') 0 0 36 [some (.inr 24), some (.inl w), some (.inl now), some (.inl f), some (.inl b), some (.inl i), L6] [] (S0 N) M4 := by
      intro n
      induction n with
      | zero =>
        intro i f b now L6 M4 i0 hi hF hf hb e
        have e' : (f, b) = hpV M := e
        have ef : (hpV M).1 = f := by rw [← e']
        have eb : (hpV M).2 = b := by rw [← e']
        have ak : Ak M M4 := ⟨hF.a, hC.fr hI hF⟩
        refine aM_help [] 40 (fun hM => ?_)
        refine ⟨by omega, ite_i (fun q => by omega) (fun _ => ?_)⟩
        refine ⟨by omega, ite_i (fun q2 => ?_) (fun q2 => ?_)⟩
        · exact ⟨by unfold helpV; rw [if_pos q, if_pos (Or.inl q2), ef], rfl, ak⟩
        · refine ⟨by omega, ite_i (fun q3 => ?_) (fun q3 => ?_)⟩
          · exact ⟨by unfold helpV; rw [if_pos q, if_pos (Or.inr (by rw [ef]; exact q3)), ef], rfl, ak⟩
          · exact ⟨by unfold helpV; rw [if_pos q, if_neg (by rw [ef]; omega), eb], rfl, ak⟩
      | succ n ih =>
        intro i f b now L6 M4 i0 hi hF hf hb e
        have e : (if sumV (swE M i) ≠ -9 ∧ (b = -9 ∨ sumV (swE M i) < b) then hpL (fun m => sumV (swE M m)) n (i + 1) i (sumV (swE M i)) else hpL (fun m => sumV (swE M m)) n (i + 1) f b) = hpV M := e
        have hIs := hI.sw i0 (show i < 30 by omega)
        have sr := sumV_rng hIs
        have es : sumV (swE M4 i) = sumV (swE M i) := ce_sum (ce_sw hF.ce i) hIs
        refine aM_help [36] 40 (fun hM => ?_)
        refine ⟨by omega, ite_i (fun _ => ?_) (fun q => by omega)⟩
        refine ⟨10, _, (Nat.le_of_ble_eq_true rfl), z_sumBehind i0 (by omega) (hI.fr hF), ?_⟩
        rintro r S' M5 ⟨rfl, rfl, hF5⟩ hM5
        rw [es]
        have hF' : FrM M M5 := fun c j z => (hF5 c j z).trans (hF c j z)
        refine ⟨by omega, ite_i (fun q2 => ?_) (fun q2 => ?_)⟩
        · rw [if_neg (fun z => z.1 q2)] at e
          exact ih _ _ _ _ _ M5 (by omega) (by omega) hF' hf hb e
        · refine ⟨by omega, ite_i (fun q3 => ?_) (fun q3 => ?_)⟩
          · rw [if_pos ⟨q2, Or.inl q3⟩] at e
            exact ih _ _ _ _ _ M5 (by omega) (by omega) hF' (by omega) (by omega) e
          · refine ⟨by omega, ite_i (fun q4 => ?_) (fun q4 => ?_)⟩
            · rw [if_pos ⟨q2, Or.inr q4⟩] at e
              exact ih _ _ _ _ _ M5 (by omega) (by omega) hF' (by omega) (by omega) e
            · rw [if_neg (by omega)] at e
              exact ih _ _ _ _ _ M5 (by omega) (by omega) hF' hf hb e
    exact AJ.wk (loop 30 0 (-9) (sumV M) (sumV M) none M3 (by omega) (by omega) (fun c j z => (hF3 c j z).trans (hF2 c j z)) (Or.inl rfl) (sumV_rng hI) rfl) ⟨rfl, rfl, rfl, rfl, rfl, rfl, trivial⟩
  · exact ⟨R32_0, by unfold helpV; rw [if_neg q], rfl, fun _ _ _ => rfl, hC⟩
def manyV (M : Mm) (w : Int) : Int := if w = 0 ∨ w = 1 then cnt (fK M w) 30 else if w = 2 then ctE (fun j => M 26 j ≠ -9) 60 else if w = 3 then M 24 25 else if w = 4 then bi (thd M 0) + bi (thd M 1) else if w = 5 ∨ w = 6 then ctE (soM M (w - 5)) 30 else -2
theorem z_many {w : Int} (hw : R32 w) (hI : MI M) : Ret 2 0 0 mM_many [.inr 24, .inl w] (S0 N) M (Pu (S0 N) M (manyV M w)) := by
  have cr := cnt_rng (fK M w) 30
  refine eM_many [] 40 (Nat.le_of_ble_eq_true rfl) (fun hM => ?_)
  refine ⟨by omega, fun q => ?_, fun q => ?_, fun q => ?_, fun q => ?_, fun q => ?_, fun q => ?_, fun q => ?_, fun q => ?_, trivial⟩
  · exact pu_eq (by unfold manyV; rw [if_neg (by omega), if_neg (by omega), if_neg (by omega), if_neg (by omega), if_neg (by omega)])
  · refine CL.pu (z_notesOf (Or.inl q)) (Nat.le_of_ble_eq_true rfl) (pu_eq (by unfold manyV; rw [if_pos (Or.inl q)]))
  · refine CL.pu (z_notesOf (Or.inr q)) (Nat.le_of_ble_eq_true rfl) (pu_eq (by unfold manyV; rw [if_pos (Or.inr q)]))
  · refine CL.pu z_manyMarks (Nat.le_of_ble_eq_true rfl) (pu_eq (by unfold manyV; rw [if_neg (by omega), if_pos (by omega)]))
  · exact pu_eq (by unfold manyV; rw [if_neg (by omega), if_neg (by omega), if_pos (by omega)])
  · refine CL.bl (z_doesTieHold (Or.inl rfl) hI.2.2) (Nat.le_of_ble_eq_true rfl) (fun q1 => ?_) (fun q1 => ?_)
    · refine ⟨R32_1, CL.bl (z_doesTieHold (Or.inr rfl) hI.2.2) (Nat.le_of_ble_eq_true rfl) (fun q2 => ?_) (fun q2 => ?_)⟩
      · exact ⟨R32_1, pu_eq (by unfold manyV; rw [if_neg (by omega), if_neg (by omega), if_neg (by omega), if_pos (by omega), bi_t q1, bi_t q2])⟩
      · exact ⟨R32_0, pu_eq (by unfold manyV; rw [if_neg (by omega), if_neg (by omega), if_neg (by omega), if_pos (by omega), bi_t q1, bi_f q2])⟩
    · refine ⟨R32_0, CL.bl (z_doesTieHold (Or.inr rfl) hI.2.2) (Nat.le_of_ble_eq_true rfl) (fun q2 => ?_) (fun q2 => ?_)⟩
      · exact ⟨R32_1, pu_eq (by unfold manyV; rw [if_neg (by omega), if_neg (by omega), if_neg (by omega), if_pos (by omega), bi_f q1, bi_t q2])⟩
      · exact ⟨R32_0, pu_eq (by unfold manyV; rw [if_neg (by omega), if_neg (by omega), if_neg (by omega), if_pos (by omega), bi_f q1, bi_f q2])⟩
  · refine CL.pu (z_manyMoments (by omega) hI.2.1) (Nat.le_of_ble_eq_true rfl) (pu_eq (by unfold manyV; rw [if_neg (by omega), if_neg (by omega), if_neg (by omega), if_neg (by omega), if_pos (by omega)]))
  · refine CL.pu (z_manyMoments (by omega) hI.2.1) (Nat.le_of_ble_eq_true rfl) (pu_eq (by unfold manyV; rw [if_neg (by omega), if_neg (by omega), if_neg (by omega), if_neg (by omega), if_pos (by omega)]))
end Hp
end
section
/-! ===== the class: a hand (cells b to b + 3; b is 5 or 9) ===== -/
section Hd
variable {N : Nat} {M : Mm} {b : Nat}
abbrev isB (b : Nat) : Prop := b = 5 ∨ b = 9
theorem t_keyAt {m : Int} (hb : isB b) (h0 : 0 ≤ m) (h1 : m < 30) : Ret 1 0 0 mH_keyAt [.inr b, .inl m] (S0 N) M (Pu (S0 N) M (M (b + 1) m)) := by
  rcases hb with rfl | rfl
  all_goals
    refine eH_keyAt [] 20 (Nat.le_of_ble_eq_true rfl) (fun hM => ?_)
    refine CL.pu (t_at (n := 30) rfl h0 h1 (Nat.le_of_ble_eq_true rfl)) (Nat.le_of_ble_eq_true rfl) ?_
    exact pu_eq rfl
theorem t_markAt {m : Int} (hb : isB b) (h0 : 0 ≤ m) (h1 : m < 30) : Ret 1 0 0 mH_markAt [.inr b, .inl m] (S0 N) M (Pu (S0 N) M (M (b + 2) m)) := by
  rcases hb with rfl | rfl
  all_goals
    refine eH_markAt [] 20 (Nat.le_of_ble_eq_true rfl) (fun hM => ?_)
    refine CL.pu (t_at (n := 30) rfl h0 h1 (Nat.le_of_ble_eq_true rfl)) (Nat.le_of_ble_eq_true rfl) ?_
    exact pu_eq rfl
theorem t_setMark {m f : Int} (hb : isB b) (h0 : 0 ≤ m) (h1 : m < 30) (hf : R32 f) : Ret 1 0 0 mH_setMark [.inr b, .inl m, .inl f] (S0 N) M (Vo (S0 N) (mset M (b + 2) m f)) := by
  rcases hb with rfl | rfl
  all_goals
    refine eH_setMark [] 20 (Nat.le_of_ble_eq_true rfl) (fun hM => ?_)
    refine CL.vo (t_store (n := 30) rfl (by decide) h0 h1 (Nat.le_of_ble_eq_true rfl) hf) (Nat.le_of_ble_eq_true rfl) (fun hM2 => ?_)
    exact vo_eq rfl
theorem t_side (hb : isB b) : Ret 0 0 0 mH_side [.inr b] (S0 N) M (Pu (S0 N) M (M b 0)) := by
  rcases hb with rfl | rfl
  all_goals
    refine eH_side [] 20 (Nat.le_of_ble_eq_true rfl) (fun hM => ?_)
    exact pu_eq rfl
theorem t_noteCount (hb : isB b) : Ret 0 0 0 mH_noteCount [.inr b] (S0 N) M (Pu (S0 N) M (M b 4)) := by
  rcases hb with rfl | rfl
  all_goals
    refine eH_noteCount [] 20 (Nat.le_of_ble_eq_true rfl) (fun hM => ?_)
    exact pu_eq rfl
theorem t_firstTied (hb : isB b) : Ret 0 0 0 mH_firstTied [.inr b] (S0 N) M (Pu (S0 N) M (M b 5)) := by
  rcases hb with rfl | rfl
  all_goals
    refine eH_firstTied [] 20 (Nat.le_of_ble_eq_true rfl) (fun hM => ?_)
    exact pu_eq rfl
theorem t_secondTied (hb : isB b) : Ret 0 0 0 mH_secondTied [.inr b] (S0 N) M (Pu (S0 N) M (M b 6)) := by
  rcases hb with rfl | rfl
  all_goals
    refine eH_secondTied [] 20 (Nat.le_of_ble_eq_true rfl) (fun hM => ?_)
    exact pu_eq rfl
theorem t_tiedLength (hb : isB b) : Ret 0 0 0 mH_tiedLength [.inr b] (S0 N) M (Pu (S0 N) M (M b 7)) := by
  rcases hb with rfl | rfl
  all_goals
    refine eH_tiedLength [] 20 (Nat.le_of_ble_eq_true rfl) (fun hM => ?_)
    exact pu_eq rfl
theorem t_momentOf {k : Int} (hb : isB b) (h0 : 0 ≤ k) (h1 : k < 30) : Ret 1 0 0 mH_momentOf [.inr b, .inl k] (S0 N) M (Pu (S0 N) M (M (b + 3) k)) := by
  rcases hb with rfl | rfl
  all_goals
    refine eH_momentOf [] 20 (Nat.le_of_ble_eq_true rfl) (fun hM => ?_)
    refine CL.pu (t_at (n := 30) rfl h0 h1 (Nat.le_of_ble_eq_true rfl)) (Nat.le_of_ble_eq_true rfl) ?_
    exact pu_eq rfl
theorem t_keyOf {k : Int} (hb : isB b) (h0 : 0 ≤ k) (h1 : k < 30) (h2 : 0 ≤ M (b + 3) k) (h3 : M (b + 3) k < 30) : Ret 1 0 0 mH_keyOf [.inr b, .inl k] (S0 N) M (Pu (S0 N) M (M (b + 1) (M (b + 3) k))) := by
  rcases hb with rfl | rfl
  all_goals
    refine eH_keyOf [] 20 (Nat.le_of_ble_eq_true rfl) (fun hM => ?_)
    refine CL.pu (t_at (n := 30) rfl h0 h1 (Nat.le_of_ble_eq_true rfl)) (Nat.le_of_ble_eq_true rfl) ?_
    refine CL.pu (t_at (n := 30) rfl h2 h3 (Nat.le_of_ble_eq_true rfl)) (Nat.le_of_ble_eq_true rfl) ?_
    exact pu_eq rfl
theorem t_markOf {k : Int} (hb : isB b) (h0 : 0 ≤ k) (h1 : k < 30) (h2 : 0 ≤ M (b + 3) k) (h3 : M (b + 3) k < 30) : Ret 1 0 0 mH_markOf [.inr b, .inl k] (S0 N) M (Pu (S0 N) M (M (b + 2) (M (b + 3) k))) := by
  rcases hb with rfl | rfl
  all_goals
    refine eH_markOf [] 20 (Nat.le_of_ble_eq_true rfl) (fun hM => ?_)
    refine CL.pu (t_at (n := 30) rfl h0 h1 (Nat.le_of_ble_eq_true rfl)) (Nat.le_of_ble_eq_true rfl) ?_
    refine CL.pu (t_at (n := 30) rfl h2 h3 (Nat.le_of_ble_eq_true rfl)) (Nat.le_of_ble_eq_true rfl) ?_
    exact pu_eq rfl
theorem t_setTie {i j n : Int} (hb : isB b) (hi : R32 i) (hj : R32 j) (hn : R32 n) : Ret 0 0 0 mH_setTie [.inr b, .inl i, .inl j, .inl n] (S0 N) M (Vo (S0 N) (mset (mset (mset M b 5 i) b 6 j) b 7 n)) := by
  rcases hb with rfl | rfl
  all_goals
    refine eH_setTie [] 20 (Nat.le_of_ble_eq_true rfl) (fun hM => ?_)
    exact ⟨⟨hi, trivial⟩, ⟨hj, trivial⟩, ⟨hn, trivial⟩, vo_eq rfl⟩
theorem t_dropTie (hb : isB b) : Ret 0 0 0 mH_dropTie [.inr b] (S0 N) M (Vo (S0 N) (mset M b 7 0)) := by
  rcases hb with rfl | rfl
  all_goals
    refine eH_dropTie [] 20 (Nat.le_of_ble_eq_true rfl) (fun hM => ?_)
    exact ⟨⟨by decide, trivial⟩, vo_eq rfl⟩
theorem t_hasTie (hb : isB b) : Ret 0 0 0 mH_hasTie [.inr b] (S0 N) M (Pu (S0 N) M (bi (0 < M b 7))) := by
  rcases hb with rfl | rfl
  all_goals
    refine eH_hasTie [] 20 (Nat.le_of_ble_eq_true rfl) (fun hM => ?_)
    refine ⟨hM _ _, ite_i (fun q => ?_) (fun q => ?_)⟩
    · first | exact ⟨Or.inr rfl, pu_eq (bi_t (by omega)).symm⟩ | exact ⟨Or.inl rfl, pu_eq (bi_f (by omega)).symm⟩
    · first | exact ⟨Or.inr rfl, pu_eq (bi_t (by omega)).symm⟩ | exact ⟨Or.inl rfl, pu_eq (bi_f (by omega)).symm⟩
theorem t_tieHolds (hb : isB b) (h6 : 0 < M b 7 → R32 (M b 6 + M b 7)) : Ret 0 0 0 mH_tieHolds [.inr b] (S0 N) M (Pu (S0 N) M (bi (0 < M b 7 ∧ M b 6 + M b 7 ≤ M b 4))) := by
  rcases hb with rfl | rfl
  all_goals
    refine eH_tieHolds [] 20 (Nat.le_of_ble_eq_true rfl) (fun hM => ?_)
    refine ⟨hM _ _, ite_i (fun q => ?_) (fun q => ?_)⟩
    · first | (have h7 := h6 q; refine ⟨⟨h7, hM _ _⟩, ite_i (fun q2 => ?_) (fun q2 => ?_)⟩ <;> first | exact ⟨Or.inr rfl, pu_eq (bi_t (by omega)).symm⟩ | exact ⟨Or.inl rfl, pu_eq (bi_f (by omega)).symm⟩) | exact ⟨Or.inl rfl, pu_eq (bi_f (by omega)).symm⟩
    · first | exact ⟨Or.inl rfl, pu_eq (bi_f (by omega)).symm⟩ | (have h7 := h6 (by omega); refine ⟨⟨h7, hM _ _⟩, ite_i (fun q2 => ?_) (fun q2 => ?_)⟩ <;> first | exact ⟨Or.inr rfl, pu_eq (bi_t (by omega)).symm⟩ | exact ⟨Or.inl rfl, pu_eq (bi_f (by omega)).symm⟩)
end Hd
end
section
/-! ===== the class: a hand's loops ===== -/
section Hd2
variable {N : Nat} {M : Mm} {b : Nat}
abbrev isC (b k w n : Nat) : Prop := (b = 5 ∧ k = 6 ∧ w = 7 ∧ n = 8) ∨ (b = 9 ∧ k = 10 ∧ w = 11 ∧ n = 12)
/-- the notes are counted anew -/
def Rn (b k n : Nat) (M M' : Mm) : Prop := M' b 4 = cnt (M k) 30 ∧ (∀ m : Nat, m < 30 → M k m ≠ -9 → M' n (cnt (M k) m) = m) ∧ ∀ c j, ¬ (c = n ∨ (c = b ∧ j = 4)) → M' c j = M c j
theorem t_renumber_loop {k w n : Nat} (hb : isC b k w n) : ∀ (l i : Nat), i + l = 30 → ∀ M1 : Mm, M1 b 4 = cnt (M k) i → (∀ m : Nat, m < i → M k m ≠ -9 → M1 n (cnt (M k) m) = m) → (∀ c j, ¬ (c = n ∨ (c = b ∧ j = 4)) → M1 c j = M c j) → AJ 1 0 0 mH_renumber (fun r S' M' => r = none ∧ S' = S0 N ∧ Rn b k n M M') 0 0 7 [some (.inr b), some (.inl i)] [] (S0 N) M1 := by
  intro l
  induction l with
  | zero =>
    intro i hi M1 e1 e2 e3
    have : i = 30 := by omega
    subst this
    rcases hb with ⟨rfl, rfl, rfl, rfl⟩ | ⟨rfl, rfl, rfl, rfl⟩
    all_goals
      refine aH_renumber [] 40 (fun hM => ?_)
      exact ⟨by decide, rfl, rfl, e1, e2, e3⟩
  | succ l ih =>
    intro i hi M1 e1 e2 e3
    have cr := cnt_rng (M k) i
    have ec : cnt (M k) (i + 1) = cnt (M k) i + (if M k i = -9 then 0 else 1) := rfl
    have ek : M1 k i = M k i := e3 k i (by omega)
    have ih' := ih (i + 1) (by omega)
    rw [show ((i + 1 : Nat) : Int) = (i : Int) + 1 by omega] at ih'
    have skip : M k i = -9 → AJ 1 0 0 mH_renumber (fun r S' M' => r = none ∧ S' = S0 N ∧ Rn b k n M M') 0 0 7 [some (.inr b), some (.inl ((i : Int) + 1))] [] (S0 N) M1 := fun q => by
      rw [if_pos q, Int.add_zero] at ec
      refine ih' M1 (by rw [ec]; exact e1) (fun m hm hne => ?_) e3
      by_cases hmi : m = i
      · subst hmi; exact absurd q hne
      · exact e2 m (by omega) hne
    have take : M k i ≠ -9 → AJ 1 0 0 mH_renumber (fun r S' M' => r = none ∧ S' = S0 N ∧ Rn b k n M M') 0 0 7 [some (.inr b), some (.inl ((i : Int) + 1))] [] (S0 N) (mset (mset M1 n (cnt (M k) i) i) b 4 (cnt (M k) i + 1)) := fun q => by
      rw [if_neg q] at ec
      refine ih' _ (by rw [ec]; exact mset_eq ..) (fun m hm hne => ?_) (fun c j hc => ?_)
      · rw [mset_ne (by omega)]
        by_cases hmi : m = i
        · subst hmi; exact mset_eq ..
        · have hlt := cnt_lt (M k) (show m < i by omega) hne
          rw [mset_ne (by omega)]; exact e2 m (by omega) hne
      · rw [mset_ne (by omega), mset_ne (by omega)]; exact e3 c j hc
    have e4 : (mset M1 n (cnt (M k) i) i) b 4 = cnt (M k) i := by rw [mset_ne (by omega)]; exact e1
    rcases hb with ⟨rfl, rfl, rfl, rfl⟩ | ⟨rfl, rfl, rfl, rfl⟩
    all_goals
      refine aH_renumber [7] 40 (fun hM => ?_)
      refine ⟨by omega, ite_i (fun q => ?_) (fun q => by omega)⟩
      refine CL.pu (t_at (n := 30) rfl (by omega) (by omega) (Nat.le_of_ble_eq_true rfl)) (Nat.le_of_ble_eq_true rfl) ?_
      refine ⟨⟨hM _ _, by decide⟩, ite_i (fun q2 => ?_) (fun q2 => ?_)⟩
      · exact skip (by rw [← ek]; exact q2)
      · refine CL.vo (t_store (n := 30) rfl (by decide) (by omega) (by omega) (Nat.le_of_ble_eq_true rfl) (by omega)) (Nat.le_of_ble_eq_true rfl) (fun hM2 => ?_)
        rw [e1]
        conv => whnf
        rw [e4]
        refine ⟨⟨by omega, trivial⟩, ?_⟩
        exact take (by rw [← ek]; exact q2)
theorem t_renumber {k w n : Nat} (hb : isC b k w n) : Ret 1 0 0 mH_renumber [.inr b] (S0 N) M (fun r S' M' => r = none ∧ S' = S0 N ∧ Rn b k n M M') := by
  have L := t_renumber_loop (N := N) (M := M) hb 30 0 (by omega) (mset M b 4 0) (mset_eq ..) (fun m hm => by omega) (fun c j hc => mset_ne (by omega))
  rcases hb with ⟨rfl, rfl, rfl, rfl⟩ | ⟨rfl, rfl, rfl, rfl⟩
  all_goals
    refine eH_renumber [7] 40 (Nat.le_of_ble_eq_true rfl) (fun hM => ?_)
    exact ⟨⟨by decide, trivial⟩, L⟩
/-- the hand gets a key -/
def Gv (b k w n : Nat) (m key : Int) (M M' : Mm) : Prop := (M k m = key → M' = M) ∧ (M k m ≠ key → Rn b k n (mset (mset M k m key) w m (-9)) M')
theorem t_give {k w n : Nat} {m key : Int} (hb : isC b k w n) (h0 : 0 ≤ m) (h1 : m < 30) (hk : R32 key) : Ret 2 0 0 mH_give [.inr b, .inl m, .inl key] (S0 N) M (fun r S' M' => r = none ∧ S' = S0 N ∧ Gv b k w n m key M M') := by
  have R := t_renumber (N := N) (M := mset (mset M k m key) w m (-9)) hb
  rcases hb with ⟨rfl, rfl, rfl, rfl⟩ | ⟨rfl, rfl, rfl, rfl⟩
  all_goals
    refine eH_give [] 40 (Nat.le_of_ble_eq_true rfl) (fun hM => ?_)
    refine CL.pu (t_keyAt (by omega) h0 h1) (Nat.le_of_ble_eq_true rfl) ?_
    refine ⟨⟨hM _ _, hk⟩, ite_i (fun q => ?_) (fun q => ?_)⟩
    · exact ⟨rfl, rfl, fun _ => rfl, fun z => absurd q z⟩
    · refine CL.vo (t_store (n := 30) rfl (by decide) h0 h1 (Nat.le_of_ble_eq_true rfl) hk) (Nat.le_of_ble_eq_true rfl) (fun hM2 => ?_)
      refine CL.vo (t_store (n := 30) rfl (by decide) h0 h1 (Nat.le_of_ble_eq_true rfl) (by decide)) (Nat.le_of_ble_eq_true rfl) (fun hM3 => ?_)
      refine ⟨1, _, (Nat.le_of_ble_eq_true rfl), R, ?_⟩
      rintro r S' M' ⟨rfl, rfl, hR⟩ hM'
      exact ⟨rfl, rfl, fun z => absurd z q, fun _ => hR⟩
/-- a row filled -/
def flM (c : Nat) (v : Int) (M : Mm) (i : Int) : Mm := fun c' j => if c' = c ∧ 0 ≤ j ∧ j < i then v else M c' j
theorem t_fill {c : Nat} {v : Int} (hs : shp (S0 N) c = some (.inl 30)) (hc : c ≠ 0) (hv : R32 v) : Ret 0 0 0 mJ_fill [.inr c, .inl v] (S0 N) M (Vo (S0 N) (flM c v M 30)) := by
  have loop : ∀ (n i : Nat), i + n = 30 → AJ 0 0 0 mJ_fill (Vo (S0 N) (flM c v M 30)) 0 0 5 [some (.inr c), some (.inl v), some (.inl i), some (.inl 30)] [] (S0 N) (flM c v M i) := by
    intro n
    induction n with
    | zero =>
      intro i hi
      have : i = 30 := by omega
      subst this
      refine aJ_fill [] 30 (fun hM => ?_)
      exact ⟨by decide, vo_eq rfl⟩
    | succ n ih =>
      intro i hi
      have h2 := ih (i + 1) (by omega)
      rw [show ((i + 1 : Nat) : Int) = (i : Int) + 1 by omega] at h2
      have e : mset (flM c v M i) c i v = flM c v M (i + 1) := by
        funext c' j
        unfold mset flM
        by_cases q : c' = c ∧ j = (i : Int)
        · rw [if_pos q, if_pos (by omega)]
        · rw [if_neg q]
          by_cases q2 : c' = c ∧ 0 ≤ j ∧ j < i
          · rw [if_pos q2, if_pos (by omega)]
          · rw [if_neg q2, if_neg (by omega)]
      refine aJ_fill [5] 30 (fun hM => ?_)
      refine ⟨by omega, ite_i (fun q => ?_) (fun q => by omega)⟩
      conv => whnf
      rw [hs]
      refine ⟨⟨hc, by omega, by omega, by omega, hv⟩, ?_⟩
      rw [e]
      exact h2
  refine eJ_fill [5] 30 (Nat.le_of_ble_eq_true rfl) (fun hM => ?_)
  conv => whnf
  rw [hs]
  have h2 := loop 30 0 (by omega)
  have e0 : flM c v M ((0 : Nat) : Int) = M := by funext c' j; unfold flM; rw [if_neg (by omega)]
  rw [e0] at h2
  exact h2
def raM (b k w : Nat) (M : Mm) : Mm := mset (mset (flM w (-9) (flM k (-9) M 30) 30) b 4 0) b 7 0
theorem t_restAlways {k w n : Nat} (hb : isC b k w n) : Ret 1 0 0 mH_restAlways [.inr b] (S0 N) M (Vo (S0 N) (raM b k w M)) := by
  rcases hb with ⟨rfl, rfl, rfl, rfl⟩ | ⟨rfl, rfl, rfl, rfl⟩
  all_goals
    refine eH_restAlways [] 40 (Nat.le_of_ble_eq_true rfl) (fun hM => ?_)
    refine CL.vo (t_fill rfl (by decide) (by decide)) (Nat.le_of_ble_eq_true rfl) (fun hM2 => ?_)
    refine CL.vo (t_fill rfl (by decide) (by decide)) (Nat.le_of_ble_eq_true rfl) (fun hM3 => ?_)
    refine ⟨⟨by decide, trivial⟩, ?_⟩
    refine CL.vo (t_dropTie (by omega)) (Nat.le_of_ble_eq_true rfl) (fun hM4 => ?_)
    exact vo_eq rfl
theorem t_markCount {k w n : Nat} (hb : isC b k w n) : Ret 1 0 0 mH_markCount [.inr b] (S0 N) M (Pu (S0 N) M (ctE (fun j => M w j ≠ -9) 30)) := by
  have loop : ∀ (l i : Nat), i + l = 30 → AJ 1 0 0 mH_markCount (Pu (S0 N) M (ctE (fun j => M w j ≠ -9) 30)) 0 0 4 [some (.inr b), some (.inl (ctE (fun j => M w j ≠ -9) i)), some (.inl i)] [] (S0 N) M := by
    intro l
    induction l with
    | zero =>
      intro i hi
      have : i = 30 := by omega
      subst this
      rcases hb with ⟨rfl, rfl, rfl, rfl⟩ | ⟨rfl, rfl, rfl, rfl⟩
      all_goals
        refine aH_markCount [] 30 (fun hM => ?_)
        exact ⟨by decide, pu_eq rfl⟩
    | succ l ih =>
      intro i hi
      have ar := ctE_rng (E := fun j => M w j ≠ -9) i
      have h2 := ih (i + 1) (by omega)
      rw [show ((i + 1 : Nat) : Int) = (i : Int) + 1 by omega] at h2
      have ea : ctE (fun j => M w j ≠ -9) (i + 1) = ctE (fun j => M w j ≠ -9) i + (if M w i ≠ -9 then 1 else 0) := rfl
      rw [ea] at h2
      rcases hb with ⟨rfl, rfl, rfl, rfl⟩ | ⟨rfl, rfl, rfl, rfl⟩
      all_goals
        refine aH_markCount [4] 40 (fun hM => ?_)
        refine ⟨by omega, ite_i (fun q => ?_) (fun q => by omega)⟩
        refine CL.pu (t_at (n := 30) rfl (by omega) (by omega) (Nat.le_of_ble_eq_true rfl)) (Nat.le_of_ble_eq_true rfl) ?_
        refine ⟨⟨hM _ _, by decide⟩, ite_i (fun q3 => ?_) (fun q3 => ?_)⟩
        · rw [if_neg (fun z => z q3), Int.add_zero] at h2; exact h2
        · rw [if_pos q3] at h2; exact h2
  have L := loop 30 0 (by omega)
  rcases hb with ⟨rfl, rfl, rfl, rfl⟩ | ⟨rfl, rfl, rfl, rfl⟩
  all_goals
    refine eH_markCount [4] 40 (Nat.le_of_ble_eq_true rfl) (fun hM => ?_)
    exact L
end Hd2
end
section
/-! ===== the class: a hand is the reference's hand ===== -/
abbrev isHC (h : Int) (b k w n : Nat) : Prop := (h = 0 ∧ b = 5 ∧ k = 6 ∧ w = 7 ∧ n = 8) ∨ (h = 1 ∧ b = 9 ∧ k = 10 ∧ w = 11 ∧ n = 12)
/-- the hand's rows are the reference's -/
def HnI (M : Mm) (h : Int) (b k w n : Nat) : Prop := (∀ m, 0 ≤ m → m < 30 → M k m = M 25 (30 * h + m) ∧ M w m = M 26 (30 * h + m)) ∧ M b 4 = cnt (fK M h) 30 ∧ (∀ j, 0 ≤ j → j < cnt (fK M h) 30 → M n j = nmo (fK M h) j 30) ∧ M b 0 = (if h = 0 then 1 else -1) ∧ ((M 40 h = -9 ∧ M b 7 = 0) ∨ (M 40 h ≠ -9 ∧ M b 5 = M 40 h ∧ M b 6 = M 41 h ∧ M b 7 = M 42 h))
section Hd3
variable {N : Nat} {M : Mm} {h : Int} {b k w n : Nat}
theorem hc_c (hb : isHC h b k w n) : isC b k w n := by
  rcases hb with ⟨_, rfl, rfl, rfl, rfl⟩ | ⟨_, rfl, rfl, rfl, rfl⟩
  · exact Or.inl ⟨rfl, rfl, rfl, rfl⟩
  · exact Or.inr ⟨rfl, rfl, rfl, rfl⟩
theorem hc_h (hb : isHC h b k w n) : isH h := by omega
theorem hc_b (hb : isHC h b k w n) : isB b := by omega
theorem kyF_rng (hh : isH h) (hK : KyI M) {j : Int} (h0 : 0 ≤ j) (h1 : j < cnt (fK M h) 30) : 0 ≤ kyF M h j ∧ kyF M h j < 60 ∧ 0 ≤ nmo (fK M h) j 30 ∧ nmo (fK M h) j 30 < 30 := by
  have no := nmo_ok h0 h1
  have ky := hK (30 * h + nmo (fK M h) j 30) (by omega) (by omega)
  have kne : M 25 (30 * h + nmo (fK M h) j 30) ≠ -9 := no.2.2.1
  show 0 ≤ M 25 (30 * h + nmo (fK M h) j 30) ∧ M 25 (30 * h + nmo (fK M h) j 30) < 60 ∧ _
  omega
theorem t_keyOf' (hb : isHC h b k w n) (hI : HnI M h b k w n) {j : Int} (h0 : 0 ≤ j) (h1 : j < cnt (fK M h) 30) : Ret 1 0 0 mH_keyOf [.inr b, .inl j] (S0 N) M (Pu (S0 N) M (kyF M h j)) := by
  obtain ⟨i1, i2, i3, i4, i5⟩ := hI
  have cr := cnt_rng (fK M h) 30
  have no := nmo_ok h0 h1
  have e := i3 j h0 h1
  have e2 := (i1 (nmo (fK M h) j 30) no.1 no.2.1).1
  have := t_keyOf (N := N) (M := M) (k := j) (b := b) (hc_b hb) h0 (by omega) (by rw [show b + 3 = n by omega, e]; exact no.1) (by rw [show b + 3 = n by omega, e]; exact no.2.1)
  rw [show b + 3 = n by omega, show b + 1 = k by omega, e, e2] at this
  exact this
theorem t_markOf' (hb : isHC h b k w n) (hI : HnI M h b k w n) {j : Int} (h0 : 0 ≤ j) (h1 : j < cnt (fK M h) 30) : Ret 1 0 0 mH_markOf [.inr b, .inl j] (S0 N) M (Pu (S0 N) M (M 26 (30 * h + nmo (fK M h) j 30))) := by
  obtain ⟨i1, i2, i3, i4, i5⟩ := hI
  have cr := cnt_rng (fK M h) 30
  have no := nmo_ok h0 h1
  have e := i3 j h0 h1
  have e2 := (i1 (nmo (fK M h) j 30) no.1 no.2.1).2
  have := t_markOf (N := N) (M := M) (k := j) (b := b) (hc_b hb) h0 (by omega) (by rw [show b + 3 = n by omega, e]; exact no.1) (by rw [show b + 3 = n by omega, e]; exact no.2.1)
  rw [show b + 3 = n by omega, show b + 2 = w by omega, e, e2] at this
  exact this
theorem t_momentOf' (hb : isHC h b k w n) (hI : HnI M h b k w n) {j : Int} (h0 : 0 ≤ j) (h1 : j < cnt (fK M h) 30) : Ret 1 0 0 mH_momentOf [.inr b, .inl j] (S0 N) M (Pu (S0 N) M (nmo (fK M h) j 30)) := by
  have cr := cnt_rng (fK M h) 30
  have := t_momentOf (N := N) (M := M) (k := j) (b := b) (hc_b hb) h0 (by omega)
  rw [show b + 3 = n by omega, hI.2.2.1 j h0 h1] at this
  exact this
theorem t_noteCount' (hb : isHC h b k w n) (hI : HnI M h b k w n) : Ret 0 0 0 mH_noteCount [.inr b] (S0 N) M (Pu (S0 N) M (cnt (fK M h) 30)) := by
  have := t_noteCount (N := N) (M := M) (b := b) (hc_b hb)
  rw [hI.2.1] at this
  exact this
theorem t_tieHolds' (hb : isHC h b k w n) (hI : HnI M h b k w n) (hT : TieI M) : Ret 0 0 0 mH_tieHolds [.inr b] (S0 N) M (Pu (S0 N) M (bi (thd M h))) := by
  have ht := hT h (hc_h hb)
  obtain ⟨i1, i2, i3, i4, i5⟩ := hI
  have := t_tieHolds (N := N) (M := M) (b := b) (hc_b hb) (fun q => by omega)
  refine this.up ?_
  unfold thd
  by_cases q : 0 < M b 7 ∧ M b 6 + M b 7 ≤ M b 4
  · rw [bi_t q, bi_t (by omega)]
  · rw [bi_f q, bi_f (by omega)]
theorem t_hasTie' (hb : isHC h b k w n) (hI : HnI M h b k w n) (hT : TieI M) : Ret 0 0 0 mH_hasTie [.inr b] (S0 N) M (Pu (S0 N) M (bi (M 40 h ≠ -9))) := by
  have ht := hT h (hc_h hb)
  obtain ⟨i1, i2, i3, i4, i5⟩ := hI
  have := t_hasTie (N := N) (M := M) (b := b) (hc_b hb)
  refine this.up ?_
  by_cases q : 0 < M b 7
  · rw [bi_t q, bi_t (by omega)]
  · rw [bi_f q, bi_f (by omega)]
theorem t_isEcho (hb : isHC h b k w n) (hI : HnI M h b k w n) (hK : KyI M) {i j l : Int} (hi : 0 ≤ i) (hj : 0 ≤ j) (hl : 1 ≤ l) (h1 : i + l ≤ cnt (fK M h) 30) (h2 : j + l ≤ cnt (fK M h) 30) : Ret 2 0 0 mH_isEcho [.inr b, .inl i, .inl j, .inl l] (S0 N) M (Pu (S0 N) M (bi (ecP (kyF M h) (cnt (fK M h) 30) i l j))) := by
  have cr := cnt_rng (fK M h) 30
  have hh := (hc_h hb)
  have r3 := kyF_rng hh hK hj (by omega)
  have r4 := kyF_rng hh hK hi (by omega)
  have kO := fun (j : Int) (h0 : 0 ≤ j) (h1 : j < cnt (fK M h) 30) => t_keyOf' (N := N) hb hI h0 h1
  have loop : ∀ (c x : Nat), 1 ≤ x → (x : Int) + c = l → (∀ y : Nat, y < x → kyF M h (j + y) - kyF M h (i + y) = kyF M h j - kyF M h i) → AJ 2 0 0 mH_isEcho (Pu (S0 N) M (bi (ecP (kyF M h) (cnt (fK M h) 30) i l j))) 0 0 16 [some (.inr b), some (.inl i), some (.inl j), some (.inl l), some (.inl (kyF M h j - kyF M h i)), some (.inl x)] [] (S0 N) M := by
    intro c
    induction c with
    | zero =>
      intro x x1 hx hy
      rcases hb with ⟨rfl, rfl, rfl, rfl, rfl⟩ | ⟨rfl, rfl, rfl, rfl, rfl⟩
      all_goals
        refine aH_isEcho [] 40 (fun hM => ?_)
        refine ⟨by omega, ite_i (fun q => by omega) (fun q => ?_)⟩
        exact ⟨Or.inr rfl, pu_eq (bi_t ⟨h1, h2, fun y hy2 => hy y (by omega)⟩).symm⟩
    | succ c ih =>
      intro x x1 hx hy
      have r1 := kyF_rng hh hK (show 0 ≤ j + x by omega) (by omega)
      have r2 := kyF_rng hh hK (show 0 ≤ i + x by omega) (by omega)
      have h3 := fun (q2 : kyF M h (j + x) - kyF M h (i + x) = kyF M h j - kyF M h i) => ih (x + 1) (by omega) (by omega) (fun y hy2 => by
        by_cases hyx : y < x
        · exact hy y hyx
        · have : y = x := by omega
          subst this
          exact q2)
      rw [show ((x + 1 : Nat) : Int) = (x : Int) + 1 by omega] at h3
      have k1 := kO (j + x) (by omega) (by omega)
      have k2 := kO (i + x) (by omega) (by omega)
      rcases hb with ⟨rfl, rfl, rfl, rfl, rfl⟩ | ⟨rfl, rfl, rfl, rfl, rfl⟩
      all_goals
        refine aH_isEcho [16] 40 (fun hM => ?_)
        refine ⟨by omega, ite_i (fun q => ?_) (fun q => by omega)⟩
        refine CL.pu k1 (Nat.le_of_ble_eq_true rfl) ?_
        refine CL.pu k2 (Nat.le_of_ble_eq_true rfl) ?_
        refine ⟨⟨by omega, by omega⟩, ite_i (fun q2 => ?_) (fun q2 => ?_)⟩
        · exact h3 q2
        · exact ⟨Or.inl rfl, pu_eq (bi_f (fun z => q2 (z.2.2 x (by omega)))).symm⟩
  have L := loop (l - 1).toNat 1 (by omega) (by omega) (fun y hy => by
    have : y = 0 := by omega
    subst this
    show kyF M h (j + 0) - kyF M h (i + 0) = _
    rw [Int.add_zero, Int.add_zero])
  have k1 := kO j hj (by omega)
  have k2 := kO i hi (by omega)
  rcases hb with ⟨rfl, rfl, rfl, rfl, rfl⟩ | ⟨rfl, rfl, rfl, rfl, rfl⟩
  all_goals
    refine eH_isEcho [16] 40 (Nat.le_of_ble_eq_true rfl) (fun hM => ?_)
    refine CL.pu k1 (Nat.le_of_ble_eq_true rfl) ?_
    refine CL.pu k2 (Nat.le_of_ble_eq_true rfl) ?_
    exact L
theorem t_likeness (hb : isHC h b k w n) (hI : HnI M h b k w n) (hK : KyI M) {i j l : Int} (hi : 0 ≤ i) (hj : 0 ≤ j) (hl : 1 ≤ l) (h1 : i + l ≤ cnt (fK M h) 30) (h2 : j + l ≤ cnt (fK M h) 30) : Ret 2 0 0 mH_likeness [.inr b, .inl i, .inl j, .inl l] (S0 N) M (Pu (S0 N) M (alk (kyF M h) i j l.toNat)) := by
  have cr := cnt_rng (fK M h) 30
  have hh := (hc_h hb)
  have kO := fun (j : Int) (h0 : 0 ≤ j) (h1 : j < cnt (fK M h) 30) => t_keyOf' (N := N) hb hI h0 h1
  have loop : ∀ (c x : Nat), (x : Int) + c = l → AJ 2 0 0 mH_likeness (Pu (S0 N) M (alk (kyF M h) i j l.toNat)) 0 0 6 [some (.inr b), some (.inl i), some (.inl j), some (.inl l), some (.inl (alk (kyF M h) i j x)), some (.inl x)] [] (S0 N) M := by
    intro c
    induction c with
    | zero =>
      intro x hx
      rcases hb with ⟨rfl, rfl, rfl, rfl, rfl⟩ | ⟨rfl, rfl, rfl, rfl, rfl⟩
      all_goals
        refine aH_likeness [] 40 (fun hM => ?_)
        refine ⟨by omega, ite_i (fun q => by omega) (fun q => ?_)⟩
        exact pu_eq (by rw [show l.toNat = x by omega])
    | succ c ih =>
      intro x hx
      have ar := alk_rng (K := kyF M h) (i := i) (j := j) x
      have r1 := kyF_rng hh hK (show 0 ≤ j + x by omega) (by omega)
      have r2 := kyF_rng hh hK (show 0 ≤ i + x by omega) (by omega)
      have h3 := ih (x + 1) (by omega)
      rw [show ((x + 1 : Nat) : Int) = (x : Int) + 1 by omega] at h3
      have ea : alk (kyF M h) i j (x + 1) = alk (kyF M h) i j x + (if (blk (kyF M h (j + x)) ↔ blk (kyF M h (i + x))) then 1 else 0) := rfl
      rw [ea] at h3
      have k1 := kO (j + x) (by omega) (by omega)
      have k2 := kO (i + x) (by omega) (by omega)
      rcases hb with ⟨rfl, rfl, rfl, rfl, rfl⟩ | ⟨rfl, rfl, rfl, rfl, rfl⟩
      all_goals
        refine aH_likeness [6] 40 (fun hM => ?_)
        refine ⟨by omega, ite_i (fun q => ?_) (fun q => by omega)⟩
        refine CL.pu k2 (Nat.le_of_ble_eq_true rfl) ?_
        refine CL.bl (t_isBlack r2.1 (by omega)) (Nat.le_of_ble_eq_true rfl) (fun q1 => ?_) (fun q1 => ?_)
        · refine CL.pu k1 (Nat.le_of_ble_eq_true rfl) (CL.bl (t_isBlack r1.1 (by omega)) (Nat.le_of_ble_eq_true rfl) (fun q2 => ?_) (fun q2 => ?_))
          · rw [if_pos (iff_of_true q2 q1)] at h3
            exact ⟨⟨R32_1, R32_1⟩, h3⟩
          · rw [if_neg (fun z => q2 (z.mpr q1)), Int.add_zero] at h3
            exact ⟨⟨R32_1, R32_0⟩, h3⟩
        · refine CL.pu k1 (Nat.le_of_ble_eq_true rfl) (CL.bl (t_isBlack r1.1 (by omega)) (Nat.le_of_ble_eq_true rfl) (fun q2 => ?_) (fun q2 => ?_))
          · rw [if_neg (fun z => q1 (z.mp q2)), Int.add_zero] at h3
            exact ⟨⟨R32_0, R32_1⟩, h3⟩
          · rw [if_pos (iff_of_false q2 q1)] at h3
            exact ⟨⟨R32_0, R32_0⟩, h3⟩
  have L := loop l.toNat 0 (by omega)
  rcases hb with ⟨rfl, rfl, rfl, rfl, rfl⟩ | ⟨rfl, rfl, rfl, rfl, rfl⟩
  all_goals
    refine eH_likeness [6] 40 (Nat.le_of_ble_eq_true rfl) (fun hM => ?_)
    exact L
end Hd3
end
section
/-! ===== the class: phrases (cells 19 to 23) ===== -/
/-- the class's phrases in B are the reference's in A -/
def PQ (A B : Mm) : Prop := B 19 4 = A 24 25 ∧ ∀ p, 0 ≤ p → p < A 24 25 → B 20 p = A 43 p ∧ B 21 p = A 44 p ∧ B 22 p = A 45 p ∧ B 23 p = A 46 p
def gsC (M : Mm) (p : Int) : Mm := mset (shd 20 23 M p (M 19 4 - 1)) 19 4 (M 19 4 - 1)
def phC (M : Mm) (x : Int) : Int := fi (M 20) x (M 19 4).toNat 0
section Pc
variable {N : Nat} {A M : Mm}
theorem gc_4 (p : Int) : gsC M p 19 4 = M 19 4 - 1 := mset_eq ..
theorem gc_fr {p : Int} {c : Nat} {j : Int} (hc : ¬ (20 ≤ c ∧ c ≤ 23)) (h2 : ¬ (c = 19 ∧ j = 4)) : gsC M p c j = M c j := by
  unfold gsC; rw [mset_ne (by omega), shd_out (by omega)]
theorem gc_in {p : Int} {c : Nat} {j : Int} (hc : 20 ≤ c ∧ c ≤ 23) : gsC M p c j = if p ≤ j ∧ j < M 19 4 - 1 then M c (j + 1) else M c j := by
  unfold gsC; rw [mset_ne (by omega)]
  by_cases q : p ≤ j ∧ j < M 19 4 - 1
  · rw [if_pos q, shd_in (by omega)]
  · rw [if_neg q, shd_out (by omega)]
theorem PQ.gs (h : PQ A M) {p : Int} (h0 : 0 ≤ p) : PQ (gsE A p) (gsC M p) := by
  obtain ⟨a, b⟩ := h
  unfold PQ
  rw [gs_25, gc_4, a]
  refine ⟨rfl, fun q q1 q2 => ?_⟩
  rw [gs_in (by omega), gs_in (by omega), gs_in (by omega), gs_in (by omega), gc_in (by omega), gc_in (by omega), gc_in (by omega), gc_in (by omega), a]
  by_cases hq : p ≤ q ∧ q < A 24 25 - 1
  · rw [if_pos hq, if_pos hq, if_pos hq, if_pos hq, if_pos hq, if_pos hq, if_pos hq, if_pos hq]; exact b (q + 1) (by omega) (by omega)
  · rw [if_neg hq, if_neg hq, if_neg hq, if_neg hq, if_neg hq, if_neg hq, if_neg hq, if_neg hq]; exact b q (by omega) (by omega)
theorem PQ.ph (h : PQ A M) (x : Int) : phC M x = phV A x := by
  unfold phC phV
  rw [h.1]
  exact fi_congr _ _ (fun j q1 q2 => (h.2 j q1 (by omega)).1)
theorem PQ.fr {B : Mm} (h : PQ A M) (hf : ∀ c j, 19 ≤ c → c ≤ 23 → B c j = M c j) : PQ A B := by
  unfold PQ
  rw [hf 19 4 (by omega) (by omega)]
  refine ⟨h.1, fun p q1 q2 => ?_⟩
  rw [hf 20 p (by omega) (by omega), hf 21 p (by omega) (by omega), hf 22 p (by omega) (by omega), hf 23 p (by omega) (by omega)]
  exact h.2 p q1 q2
theorem PQ.fl {B : Mm} (h : PQ A M) (h25 : B 24 25 = A 24 25) (hf : ∀ c j, 43 ≤ c → c ≤ 46 → B c j = A c j) : PQ B M := by
  unfold PQ
  rw [h25]
  refine ⟨h.1, fun p q1 q2 => ?_⟩
  rw [hf 43 p (by omega) (by omega), hf 44 p (by omega) (by omega), hf 45 p (by omega) (by omega), hf 46 p (by omega) (by omega)]
  exact h.2 p q1 q2
theorem t_size : Ret 0 0 0 mP_size [.inr 19] (S0 N) M (Pu (S0 N) M (M 19 4)) := by
  refine eP_size [] 20 (Nat.le_of_ble_eq_true rfl) (fun hM => ?_)
  exact pu_eq rfl
theorem t_handAt {p : Int} (h0 : 0 ≤ p) (h1 : p < 6) : Ret 1 0 0 mP_handAt [.inr 19, .inl p] (S0 N) M (Pu (S0 N) M (M 21 p)) := by
  refine eP_handAt [] 20 (Nat.le_of_ble_eq_true rfl) (fun hM => ?_)
  refine CL.pu (t_at (n := 6) rfl h0 h1 (Nat.le_of_ble_eq_true rfl)) (Nat.le_of_ble_eq_true rfl) ?_
  exact pu_eq rfl
theorem t_startAt {p : Int} (h0 : 0 ≤ p) (h1 : p < 6) : Ret 1 0 0 mP_startAt [.inr 19, .inl p] (S0 N) M (Pu (S0 N) M (M 22 p)) := by
  refine eP_startAt [] 20 (Nat.le_of_ble_eq_true rfl) (fun hM => ?_)
  refine CL.pu (t_at (n := 6) rfl h0 h1 (Nat.le_of_ble_eq_true rfl)) (Nat.le_of_ble_eq_true rfl) ?_
  exact pu_eq rfl
theorem t_lengthAt {p : Int} (h0 : 0 ≤ p) (h1 : p < 6) : Ret 1 0 0 mP_lengthAt [.inr 19, .inl p] (S0 N) M (Pu (S0 N) M (M 23 p)) := by
  refine eP_lengthAt [] 20 (Nat.le_of_ble_eq_true rfl) (fun hM => ?_)
  refine CL.pu (t_at (n := 6) rfl h0 h1 (Nat.le_of_ble_eq_true rfl)) (Nat.le_of_ble_eq_true rfl) ?_
  exact pu_eq rfl
theorem t_nameAt {p : Int} (h0 : 0 ≤ p) (h1 : p < 6) : Ret 1 0 0 mP_nameAt [.inr 19, .inl p] (S0 N) M (Pu (S0 N) M (if p < M 19 4 then M 20 p else -9)) := by
  refine eP_nameAt [] 20 (Nat.le_of_ble_eq_true rfl) (fun hM => ?_)
  refine ⟨⟨by omega, hM _ _⟩, ite_i (fun q => ?_) (fun q => ?_)⟩
  · refine CL.pu (t_at (n := 6) rfl h0 h1 (Nat.le_of_ble_eq_true rfl)) (Nat.le_of_ble_eq_true rfl) ?_
    exact pu_eq (by rw [if_pos q])
  · exact pu_eq (by rw [if_neg q])
theorem t_placeOf {x : Int} (hx : R32 x) (h0 : 0 ≤ M 19 4) (h6 : M 19 4 ≤ 6) : Ret 1 0 0 mP_placeOf [.inr 19, .inl x] (S0 N) M (Pu (S0 N) M (phC M x)) := by
  have loop : ∀ (n : Nat) (i : Int), 0 ≤ i → i + n = M 19 4 → AJ 1 0 0 mP_placeOf (Pu (S0 N) M (fi (M 20) x n i)) 0 0 2 [some (.inr 19), some (.inl x), some (.inl i)] [] (S0 N) M := by
    intro n
    induction n with
    | zero =>
      intro i h0 hi
      refine aP_placeOf [] 30 (fun hM => ?_)
      exact ⟨by omega, ite_i (fun q => by omega) (fun q => pu_eq rfl)⟩
    | succ n ih =>
      intro i h0 hi
      refine aP_placeOf [2] 30 (fun hM => ?_)
      refine ⟨by omega, ite_i (fun q => ?_) (fun q => by omega)⟩
      refine CL.pu (t_at (n := 6) rfl (by omega) (by omega) (Nat.le_of_ble_eq_true rfl)) (Nat.le_of_ble_eq_true rfl) ?_
      refine ⟨⟨hM _ _, hx⟩, ite_i (fun q => ?_) (fun q => ?_)⟩
      · exact pu_eq (by unfold fi; rw [if_pos q])
      · have h2 := ih (i + 1) (by omega) (by omega)
        unfold fi; rw [if_neg q]; exact h2
  refine eP_placeOf [2] 30 (Nat.le_of_ble_eq_true rfl) (fun hM => ?_)
  exact loop _ 0 (by omega) (by omega)
theorem t_drop {p : Int} (h6 : M 19 4 ≤ 6) (h0 : 0 ≤ p) (h1 : p < M 19 4) : Ret 1 0 0 mP_drop [.inr 19, .inl p] (S0 N) M (Vo (S0 N) (gsC M p)) := by
  have loop : ∀ (n : Nat) (i : Int), p ≤ i → i + n = M 19 4 - 1 → AJ 1 0 0 mP_drop (Vo (S0 N) (gsC M p)) 0 0 2 [some (.inr 19), some (.inl p), some (.inl i)] [] (S0 N) (shd 20 23 M p i) := by
    intro n
    induction n with
    | zero =>
      intro i h2 hi
      have e : shd 20 23 M p i 19 4 = M 19 4 := shd_out (by omega)
      refine aP_drop [] 40 (fun hM => ?_)
      refine ⟨by omega, ite_i (fun q => by omega) (fun q => ?_)⟩
      refine ⟨⟨by omega, trivial⟩, vo_eq ?_⟩
      have : i = M 19 4 - 1 := by omega
      rw [e, this]; rfl
    | succ n ih =>
      intro i h2 hi
      have e : shd 20 23 M p i 19 4 = M 19 4 := shd_out (by omega)
      have h3 := ih (i + 1) (by omega) (by omega)
      have e3 : shd 20 23 M p i 20 (i + 1) = M 20 (i + 1) := shd_out (by omega)
      have e4 : shd 20 23 M p i 21 (i + 1) = M 21 (i + 1) := shd_out (by omega)
      have e5 : shd 20 23 M p i 22 (i + 1) = M 22 (i + 1) := shd_out (by omega)
      have e6 : shd 20 23 M p i 23 (i + 1) = M 23 (i + 1) := shd_out (by omega)
      refine aP_drop [2] 60 (fun hM => ?_)
      refine ⟨by omega, ite_i (fun q => ?_) (fun q => by omega)⟩
      refine CL.pu (t_at (n := 6) rfl (by omega) (by omega) (Nat.le_of_ble_eq_true rfl)) (Nat.le_of_ble_eq_true rfl) ?_
      rw [e3]
      refine CL.vo (t_store (n := 6) rfl (by decide) (by omega) (by omega) (Nat.le_of_ble_eq_true rfl) (by rw [← e3]; exact hM _ _)) (Nat.le_of_ble_eq_true rfl) (fun hM2 => ?_)
      refine CL.pu (t_at (n := 6) rfl (by omega) (by omega) (Nat.le_of_ble_eq_true rfl)) (Nat.le_of_ble_eq_true rfl) ?_
      rw [mset_ne (by omega), e4]
      refine CL.vo (t_store (n := 6) rfl (by decide) (by omega) (by omega) (Nat.le_of_ble_eq_true rfl) (by rw [← e4]; exact hM _ _)) (Nat.le_of_ble_eq_true rfl) (fun hM2 => ?_)
      refine CL.pu (t_at (n := 6) rfl (by omega) (by omega) (Nat.le_of_ble_eq_true rfl)) (Nat.le_of_ble_eq_true rfl) ?_
      rw [mset_ne (by omega), mset_ne (by omega), e5]
      refine CL.vo (t_store (n := 6) rfl (by decide) (by omega) (by omega) (Nat.le_of_ble_eq_true rfl) (by rw [← e5]; exact hM _ _)) (Nat.le_of_ble_eq_true rfl) (fun hM2 => ?_)
      refine CL.pu (t_at (n := 6) rfl (by omega) (by omega) (Nat.le_of_ble_eq_true rfl)) (Nat.le_of_ble_eq_true rfl) ?_
      rw [mset_ne (by omega), mset_ne (by omega), mset_ne (by omega), e6]
      refine CL.vo (t_store (n := 6) rfl (by decide) (by omega) (by omega) (Nat.le_of_ble_eq_true rfl) (by rw [← e6]; exact hM _ _)) (Nat.le_of_ble_eq_true rfl) (fun hM2 => ?_)
      have st := shd_step (a := 20) (M := M) h2
      rw [st]
      exact h3
  refine eP_drop [2] 30 (Nat.le_of_ble_eq_true rfl) (fun hM => ?_)
  have h2 := loop (M 19 4 - 1 - p).toNat p (by omega) (by omega)
  rw [shd_0] at h2
  exact h2
/-- room for one more, one more -/
def pc1 (M : Mm) (x : Int) : Mm := if phC M x ≠ -9 then gsC M (phC M x) else if M 19 4 = 6 then gsC M 0 else M
def pcA (M : Mm) (x h i n : Int) : Mm := mset (mset (mset (mset (mset M 20 (M 19 4) x) 21 (M 19 4) h) 22 (M 19 4) i) 23 (M 19 4) n) 19 4 (M 19 4 + 1)
theorem PQ.p1 (h : PQ A M) (hP : PhI A) (x : Int) : PQ (ph2 (ph1 A x)) (pc1 M x) := by
  have pr := phV_rng hP x
  have a := hP.1
  unfold pc1 ph1
  rw [h.ph]
  by_cases q : phV A x = -9
  · rw [if_pos q, if_neg (fun z => z q)]
    unfold ph2
    rw [h.1]
    by_cases q6 : A 24 25 = 6
    · rw [if_pos q6, if_pos q6]; exact h.gs (by omega)
    · rw [if_neg q6, if_neg q6]; exact h
  · rw [if_neg q, if_pos q]
    unfold ph2
    rw [gs_25, if_neg (by omega)]
    exact h.gs (by omega)
theorem PQ.pA (h : PQ A M) (x hd i n : Int) : PQ (phA A x hd i n) (pcA M x hd i n) := by
  obtain ⟨a, b⟩ := h
  have e1 : phA A x hd i n 24 25 = A 24 25 + 1 := mset_eq ..
  have e2 : pcA M x hd i n 19 4 = M 19 4 + 1 := mset_eq ..
  unfold PQ
  rw [e1, e2, a]
  refine ⟨rfl, fun p p0 p1 => ?_⟩
  unfold pcA phA
  rw [a]
  by_cases q : p = A 24 25
  · subst q
    refine ⟨?_, ?_, ?_, ?_⟩
    · rw [mset_ne (by omega), mset_ne (by omega), mset_ne (by omega), mset_ne (by omega), mset_eq, mset_ne (by omega), mset_ne (by omega), mset_ne (by omega), mset_ne (by omega), mset_eq]
    · rw [mset_ne (by omega), mset_ne (by omega), mset_ne (by omega), mset_eq, mset_ne (by omega), mset_ne (by omega), mset_ne (by omega), mset_eq]
    · rw [mset_ne (by omega), mset_ne (by omega), mset_eq, mset_ne (by omega), mset_ne (by omega), mset_eq]
    · rw [mset_ne (by omega), mset_eq, mset_ne (by omega), mset_eq]
  · have f1 : ∀ c, 20 ≤ c → c ≤ 23 → (mset (mset (mset (mset (mset M 20 (A 24 25) x) 21 (A 24 25) hd) 22 (A 24 25) i) 23 (A 24 25) n) 19 4 (A 24 25 + 1)) c p = M c p := fun c c0 c1 => by
      rw [mset_ne (by omega), mset_ne (by omega), mset_ne (by omega), mset_ne (by omega), mset_ne (by omega)]
    have f2 : ∀ c, 43 ≤ c → c ≤ 46 → (mset (mset (mset (mset (mset A 43 (A 24 25) x) 44 (A 24 25) hd) 45 (A 24 25) i) 46 (A 24 25) n) 24 25 (A 24 25 + 1)) c p = A c p := fun c c0 c1 => by
      rw [mset_ne (by omega), mset_ne (by omega), mset_ne (by omega), mset_ne (by omega), mset_ne (by omega)]
    rw [f1 20 (by omega) (by omega), f1 21 (by omega) (by omega), f1 22 (by omega) (by omega), f1 23 (by omega) (by omega), f2 43 (by omega) (by omega), f2 44 (by omega) (by omega), f2 45 (by omega) (by omega), f2 46 (by omega) (by omega)]
    exact b p p0 (by omega)
end Pc
end
section
/-! ===== the class: a phrase comes, long ones go ===== -/
/-- long phrases of hand h go, of the first p -/
def prC (h n : Int) : Nat → Mm → Mm
  | 0, M => M
  | p + 1, M => prC h n p (if M 21 p = h ∧ n < M 22 p + M 23 p then gsC M p else M)
section Pc2
variable {N : Nat} {A M : Mm}
theorem t_come_tail {x h i n : Int} (hx : R32 x) (hh : R32 h) (hi : R32 i) (hn : R32 n) (c0 : 0 ≤ M 19 4) (c5 : M 19 4 ≤ 5) (L5 : Option Vl) : AJ 2 0 0 mP_come (Vo (S0 N) (pcA M x h i n)) 0 0 37 [some (.inr 19), some (.inl x), some (.inl h), some (.inl i), some (.inl n), L5] [] (S0 N) M := by
  have e1 : ∀ v, (mset M 20 (M 19 4) v) 19 4 = M 19 4 := fun v => mset_ne (by omega)
  have e2 : ∀ v w, (mset (mset M 20 (M 19 4) v) 21 (M 19 4) w) 19 4 = M 19 4 := fun v w => by rw [mset_ne (by omega), e1]
  have e3 : ∀ v w u, (mset (mset (mset M 20 (M 19 4) v) 21 (M 19 4) w) 22 (M 19 4) u) 19 4 = M 19 4 := fun v w u => by rw [mset_ne (by omega), e2]
  have e4 : ∀ v w u t, (mset (mset (mset (mset M 20 (M 19 4) v) 21 (M 19 4) w) 22 (M 19 4) u) 23 (M 19 4) t) 19 4 = M 19 4 := fun v w u t => by rw [mset_ne (by omega), e3]
  refine aP_come [] 60 (fun hM => ?_)
  refine CL.vo (t_store (n := 6) rfl (by decide) (by omega) (by omega) (Nat.le_of_ble_eq_true rfl) hx) (Nat.le_of_ble_eq_true rfl) (fun hM2 => ?_)
  conv => whnf
  rw [e1]
  refine CL.vo (t_store (n := 6) rfl (by decide) (by omega) (by omega) (Nat.le_of_ble_eq_true rfl) hh) (Nat.le_of_ble_eq_true rfl) (fun hM2 => ?_)
  conv => whnf
  rw [e2]
  refine CL.vo (t_store (n := 6) rfl (by decide) (by omega) (by omega) (Nat.le_of_ble_eq_true rfl) hi) (Nat.le_of_ble_eq_true rfl) (fun hM2 => ?_)
  conv => whnf
  rw [e3]
  refine CL.vo (t_store (n := 6) rfl (by decide) (by omega) (by omega) (Nat.le_of_ble_eq_true rfl) hn) (Nat.le_of_ble_eq_true rfl) (fun hM2 => ?_)
  conv => whnf
  rw [e4]
  exact ⟨⟨by omega, trivial⟩, vo_eq rfl⟩
theorem t_come {x h i n : Int} (hx : R32 x) (hh : R32 h) (hi : R32 i) (hn : R32 n) (hq : PQ A M) (hP : PhI A) : Ret 2 0 0 mP_come [.inr 19, .inl x, .inl h, .inl i, .inl n] (S0 N) M (Vo (S0 N) (pcA (pc1 M x) x h i n)) := by
  have a := hP.1
  have c := hq.1
  have pr := phV_rng hP x
  rw [← hq.ph] at pr
  have q1 := hq.p1 hP x
  have P2 := (hP.p1 x).p2
  have c1 := q1.1
  have p2a := P2.1.1
  have T := fun L5 => t_come_tail (N := N) (M := pc1 M x) hx hh hi hn (by omega) (by omega) L5
  refine eP_come [37] 40 (Nat.le_of_ble_eq_true rfl) (fun hM => ?_)
  refine CL.pu (t_placeOf hx (by omega) (by omega)) (Nat.le_of_ble_eq_true rfl) ?_
  refine ⟨by omega, ite_i (fun q => ?_) (fun q => ?_)⟩
  · refine ⟨by omega, ite_i (fun q6 => ?_) (fun q6 => ?_)⟩
    · refine CL.vo (t_drop (by omega) (by omega) (by omega)) (Nat.le_of_ble_eq_true rfl) (fun hM2 => ?_)
      have e : gsC M 0 = pc1 M x := by unfold pc1; rw [if_neg (fun z => z q), if_pos q6]
      rw [e]
      exact T _
    · have e : M = pc1 M x := by unfold pc1; rw [if_neg (fun z => z q), if_neg q6]
      have T' := T (some (.inl (phC M x)))
      rw [← e] at T'
      exact e ▸ T _
  · refine CL.vo (t_drop (by omega) (by omega) (by omega)) (Nat.le_of_ble_eq_true rfl) (fun hM2 => ?_)
    have e : gsC M (phC M x) = pc1 M x := by unfold pc1; rw [if_pos q]
    rw [e]
    exact T _
theorem PQ.pr {h n : Int} : ∀ (p : Nat) (A M : Mm), PQ A M → (p : Int) ≤ A 24 25 → PQ (prE h n p A) (prC h n p M) := by
  intro p
  induction p with
  | zero => intro A M hq _; exact hq
  | succ p ih =>
    intro A M hq hp
    have b := hq.2 p (by omega) (by omega)
    unfold prE prC
    rw [b.2.1, b.2.2.1, b.2.2.2]
    by_cases c : A 44 p = h ∧ n < A 45 p + A 46 p
    · rw [if_pos c, if_pos c]; exact ih _ _ (hq.gs (by omega)) (by rw [gs_25]; omega)
    · rw [if_neg c, if_neg c]; exact ih _ _ hq (by omega)
theorem t_dropLonger {h n : Int} (hh : isH h) (hn : 0 ≤ n ∧ n ≤ 30) (hq : PQ A M) (hP : PhI A) : Ret 2 0 0 mP_dropLonger [.inr 19, .inl h, .inl n] (S0 N) M (Pv (S0 N) (prC h n (M 19 4).toNat M) (M 19 4 - prC h n (M 19 4).toNat M 19 4)) := by
  have a := hP.1
  have c := hq.1
  have loop : ∀ (p : Nat) (d : Int) (A1 M1 : Mm), PQ A1 M1 → PhI A1 → (p : Int) ≤ A1 24 25 → d + A1 24 25 = M 19 4 → prC h n p M1 = prC h n (M 19 4).toNat M → AJ 2 0 0 mP_dropLonger (Pv (S0 N) (prC h n (M 19 4).toNat M) (M 19 4 - prC h n (M 19 4).toNat M 19 4)) 0 0 10 [some (.inr 19), some (.inl h), some (.inl n), some (.inl d), some (.inl ((p : Int) - 1))] [] (S0 N) M1 := by
    intro p
    induction p with
    | zero =>
      intro d A1 M1 Q1 P1 h1 hd e
      have e' : M1 = prC h n (M 19 4).toNat M := e
      have c1 := Q1.1
      refine aP_dropLonger [] 40 (fun hM => ?_)
      refine ⟨by decide, pv_eq ?_ e'⟩
      rw [← e']; omega
    | succ p ih =>
      intro d A1 M1 Q1 P1 h1 hd e
      have a1 := P1.1
      have c1 := Q1.1
      have b1 := P1.2 p (by omega) (by omega)
      have q1 := Q1.2 p (by omega) (by omega)
      have es : (((p + 1 : Nat) : Int) - 1) = p := by omega
      rw [es]
      have e : prC h n p (if M1 21 p = h ∧ n < M1 22 p + M1 23 p then gsC M1 p else M1) = prC h n (M 19 4).toNat M := e
      obtain ⟨pi, hp⟩ : ∃ pi : Int, pi = p := ⟨_, rfl⟩
      rw [← hp] at e b1 q1 ⊢
      refine aP_dropLonger [10] 40 (fun hM => ?_)
      refine ⟨by omega, ite_i (fun q => by omega) (fun q2 => ?_)⟩
      refine CL.pu (t_at (n := 6) rfl (by omega) (by omega) (Nat.le_of_ble_eq_true rfl)) (Nat.le_of_ble_eq_true rfl) ?_
      refine ⟨⟨hM _ _, by omega⟩, ite_i (fun q3 => ?_) (fun q3 => ?_)⟩
      · refine CL.pu (t_at (n := 6) rfl (by omega) (by omega) (Nat.le_of_ble_eq_true rfl)) (Nat.le_of_ble_eq_true rfl) ?_
        refine CL.pu (t_at (n := 6) rfl (by omega) (by omega) (Nat.le_of_ble_eq_true rfl)) (Nat.le_of_ble_eq_true rfl) ?_
        refine ⟨⟨by omega, by omega⟩, ite_i (fun q4 => ?_) (fun q4 => ?_)⟩
        · refine CL.vo (t_drop (by omega) (by omega) (by omega)) (Nat.le_of_ble_eq_true rfl) (fun hM2 => ?_)
          rw [if_pos ⟨q3, q4⟩] at e
          have ih' := ih (d + 1) _ _ (Q1.gs (p := pi) (by omega)) (P1.gs (p := pi) (by omega) (by omega)) (by rw [gs_25]; omega) (by rw [gs_25]; omega) e
          rw [← hp] at ih'
          exact ih'
        · rw [if_neg (fun z => q4 z.2)] at e
          have ih' := ih d _ _ Q1 P1 (by omega) hd e
          rw [← hp] at ih'
          exact ih'
      · rw [if_neg (fun z => q3 z.1)] at e
        have ih' := ih d _ _ Q1 P1 (by omega) hd e
        rw [← hp] at ih'
        exact ih'
  refine eP_dropLonger [10] 30 (Nat.le_of_ble_eq_true rfl) (fun hM => ?_)
  have h2 := loop (M 19 4).toNat 0 A M hq hP (by omega) (by omega) rfl
  rw [show (((M 19 4).toNat : Int)) = M 19 4 by omega] at h2
  exact h2
end Pc2
end
section
/-! ===== the class: public calls that set or tell ===== -/
/-- both hands are the reference's -/
def HI2 (M : Mm) : Prop := ∀ h b k w n, isHC h b k w n → HnI M h b k w n
section Kp
variable {N : Nat} {M : Mm} {h : Int}
theorem hc_of (q : isH h) : ∃ b k w n, isHC h b k w n := by
  rcases q with rfl | rfl
  · exact ⟨5, 6, 7, 8, Or.inl ⟨rfl, rfl, rfl, rfl, rfl⟩⟩
  · exact ⟨9, 10, 11, 12, Or.inr ⟨rfl, rfl, rfl, rfl, rfl⟩⟩
theorem t_playerOf {b k w n : Nat} (hb : isHC h b k w n) : Ret 0 0 0 mK_playerOf [.inr 1, .inl h] (S0 N) M (Pa (S0 N) M b) := by
  rcases hb with ⟨rfl, rfl, rfl, rfl, rfl⟩ | ⟨rfl, rfl, rfl, rfl, rfl⟩
  all_goals
    refine eK_playerOf [] 20 (Nat.le_of_ble_eq_true rfl) (fun hM => ?_)
    exact ⟨by decide, rfl, rfl, rfl⟩
theorem t_isNote {k : Int} (hr : R32 h) (hk : R32 k) (hH : HI2 M) : Ret 1 0 0 mK_isNote [.inr 1, .inl h, .inl k] (S0 N) M (Pu (S0 N) M (bi (isH h ∧ 0 ≤ k ∧ k < cnt (fK M h) 30))) := by
  have cr := cnt_rng (fK M h) 30
  refine eK_isNote [] 30 (Nat.le_of_ble_eq_true rfl) (fun hM => ?_)
  refine CL.bl (t_isHand hr) (Nat.le_of_ble_eq_true rfl) (fun q1 => ?_) (fun q1 => ?_)
  · obtain ⟨b, kk, w, n, hb⟩ := hc_of q1
    have P := t_playerOf (N := N) (M := M) hb
    have C := t_noteCount' (N := N) hb (hH _ _ _ _ _ hb)
    refine ⟨R32_1, hk, ite_i (fun q2 => ?_) (fun q2 => ?_)⟩
    · exact ⟨Or.inl rfl, pu_eq (bi_f (fun z => by have := z.2.1; omega)).symm⟩
    · rcases hb with ⟨rfl, rfl, rfl, rfl, rfl⟩ | ⟨rfl, rfl, rfl, rfl, rfl⟩
      all_goals
        refine CL.pa P (Nat.le_of_ble_eq_true rfl) (CL.pu C (Nat.le_of_ble_eq_true rfl) ?_)
        refine ⟨⟨hk, by omega⟩, ite_i (fun q3 => ?_) (fun q3 => ?_)⟩
        · exact ⟨Or.inr rfl, pu_eq (bi_t ⟨by omega, by omega, q3⟩).symm⟩
        · exact ⟨Or.inl rfl, pu_eq (bi_f (fun z => q3 z.2.2)).symm⟩
  · exact ⟨R32_0, Or.inl rfl, pu_eq (bi_f (fun z => q1 z.1)).symm⟩
theorem k_put {m key : Int} (hr : R32 h) (hm : R32 m) (hk : R32 key) (hH : HI2 M) : Ret 3 0 0 mK_put [.inr 1, .inl h, .inl m, .inl key] (S0 N) M (fun r S' M' => r = some (.inl (putV M h m key)) ∧ S' = S0 N ∧ (putK h m key → ∀ b k w n, isHC h b k w n → Gv b k w n m key M M') ∧ (¬ putK h m key → M' = M)) := by
  have go : isH h → isM m → (key = -9 ∨ isK key) → AJ 3 0 0 mK_put (fun r S' M' => r = some (.inl (putV M h m key)) ∧ S' = S0 N ∧ (putK h m key → ∀ b k w n, isHC h b k w n → Gv b k w n m key M M') ∧ (¬ putK h m key → M' = M)) 0 0 32 [some (.inr 1), some (.inl h), some (.inl m), some (.inl key)] [] (S0 N) M := by
    intro q1 q2 q3
    obtain ⟨b, k, w, n, hb⟩ := hc_of q1
    have P := t_playerOf (N := N) (M := M) hb
    have K := t_keyAt (N := N) (M := M) (b := b) (hc_b hb) q2.1 q2.2
    have G := t_give (N := N) (M := M) (m := m) (key := key) (hc_c hb) q2.1 q2.2 hk
    have e : M (b + 1) m = putV M h m key := by
      unfold putV
      rw [if_pos ⟨q1, q2⟩, if_pos q3, show b + 1 = k by omega]
      exact ((hH _ _ _ _ _ hb).1 m q2.1 q2.2).1
    rw [e] at K
    have fin : ∀ M', Gv b k w n m key M M' → (fun (r : Option Vl) (S' : Ly) (M' : Mm) => r = some (.inl (putV M h m key)) ∧ S' = S0 N ∧ (putK h m key → ∀ b k w n, isHC h b k w n → Gv b k w n m key M M') ∧ (¬ putK h m key → M' = M)) (some (.inl (putV M h m key))) (S0 N) M' := fun M' hG => ⟨rfl, rfl, fun _ b' k' w' n' hb' => by
      have e1 : b' = b := by omega
      have e2 : k' = k := by omega
      have e3 : w' = w := by omega
      have e4 : n' = n := by omega
      subst e1; subst e2; subst e3; subst e4
      exact hG, fun z => absurd ⟨⟨q1, q2⟩, q3⟩ z⟩
    rcases hb with ⟨rfl, rfl, rfl, rfl, rfl⟩ | ⟨rfl, rfl, rfl, rfl, rfl⟩
    all_goals
      refine aK_put [] 40 (fun hM => ?_)
      refine CL.pa P (Nat.le_of_ble_eq_true rfl) (CL.pu K (Nat.le_of_ble_eq_true rfl) ?_)
      refine ⟨2, _, (Nat.le_of_ble_eq_true rfl), G, ?_⟩
      rintro r S' M' ⟨rfl, rfl, hG⟩ hM'
      exact fin M' hG
  refine eK_put [32] 40 (Nat.le_of_ble_eq_true rfl) (fun hM => ?_)
  refine CL.bl (t_isHand hr) (Nat.le_of_ble_eq_true rfl) (fun q1 => ?_) (fun q1 => ?_)
  · refine ⟨R32_1, CL.bl (t_isMoment hm) (Nat.le_of_ble_eq_true rfl) (fun q2 => ?_) (fun q2 => ?_)⟩
    · refine ⟨R32_1, by omega, ite_i (fun q3 => ?_) (fun q3 => ?_)⟩
      · exact go q1 q2 (Or.inl q3)
      · refine CL.bl (t_isKey hk) (Nat.le_of_ble_eq_true rfl) (fun q4 => ?_) (fun q4 => ?_)
        · exact ⟨R32_1, go q1 q2 (Or.inr q4)⟩
        · exact ⟨R32_0, by unfold putV; rw [if_pos ⟨q1, q2⟩, if_neg (by omega)], rfl, fun z => absurd z.2 (by omega), fun _ => rfl⟩
    · exact ⟨R32_0, by unfold putV; rw [if_neg (fun z => q2 z.2)], rfl, fun z => absurd z.1.2 q2, fun _ => rfl⟩
  · exact ⟨R32_0, by unfold putV; rw [if_neg (fun z => q1 z.1)], rfl, fun z => absurd z.1.1 q1, fun _ => rfl⟩
end Kp
end
section
/-! ===== the class: more public calls ===== -/
section Kq
variable {N : Nat} {M : Mm} {h : Int}
/-- of the hand that h is -/
abbrev oH (h : Int) (P : Nat → Nat → Nat → Nat → Prop) : Prop := ∀ b k w n, isHC h b k w n → P b k w n
theorem oH_of {P : Nat → Nat → Nat → Nat → Prop} {b k w n : Nat} (hb : isHC h b k w n) (hp : P b k w n) : oH h P := fun b' k' w' n' hb' => by
  have e1 : b' = b := by omega
  have e2 : k' = k := by omega
  have e3 : w' = w := by omega
  have e4 : n' = n := by omega
  subst e1; subst e2; subst e3; subst e4
  exact hp
theorem k_mark {m f : Int} (hr : R32 h) (hm : R32 m) (hf : R32 f) (hH : HI2 M) : Ret 3 0 0 mK_mark [.inr 1, .inl h, .inl m, .inl f] (S0 N) M (fun r S' M' => r = some (.inl (markV M h m f)) ∧ S' = S0 N ∧ (markK M h m f → oH h (fun b k w n => M' = mset M w m f)) ∧ (¬ markK M h m f → M' = M)) := by
  have go : isH h → isM m → (f = -9 ∨ isF f) → AJ 3 0 0 mK_mark (fun r S' M' => r = some (.inl (markV M h m f)) ∧ S' = S0 N ∧ (markK M h m f → oH h (fun b k w n => M' = mset M w m f)) ∧ (¬ markK M h m f → M' = M)) 0 0 32 [some (.inr 1), some (.inl h), some (.inl m), some (.inl f)] [] (S0 N) M := by
    intro q1 q2 q3
    obtain ⟨b, k, w, n, hb⟩ := hc_of q1
    have P := t_playerOf (N := N) (M := M) hb
    have hk := (hH _ _ _ _ _ hb).1 m q2.1 q2.2
    have K := t_keyAt (N := N) (M := M) (b := b) (hc_b hb) q2.1 q2.2
    have W := t_markAt (N := N) (M := M) (b := b) (hc_b hb) q2.1 q2.2
    have G := t_setMark (N := N) (M := M) (b := b) (hc_b hb) q2.1 q2.2 hf
    rw [show b + 1 = k by omega, hk.1] at K
    rw [show b + 2 = w by omega, hk.2] at W
    rw [show b + 2 = w by omega] at G
    have hb0 := hb
    rcases hb with ⟨rfl, rfl, rfl, rfl, rfl⟩ | ⟨rfl, rfl, rfl, rfl, rfl⟩
    all_goals
      refine aK_mark [] 40 (fun hM => ?_)
      refine CL.pa P (Nat.le_of_ble_eq_true rfl) (CL.pu K (Nat.le_of_ble_eq_true rfl) ?_)
      refine ⟨⟨hM _ _, by decide⟩, ite_i (fun q4 => ?_) (fun q4 => ?_)⟩
      · exact ⟨by unfold markV; rw [if_pos ⟨q1, q2⟩, if_pos q3, if_pos q4], rfl, fun z => absurd q4 z.2.2, fun _ => rfl⟩
      · refine CL.pu W (Nat.le_of_ble_eq_true rfl) (CL.vo G (Nat.le_of_ble_eq_true rfl) (fun hM2 => ?_))
        exact ⟨by unfold markV; rw [if_pos ⟨q1, q2⟩, if_pos q3, if_neg q4], rfl, fun _ => oH_of hb0 rfl, fun z => absurd ⟨⟨q1, q2⟩, q3, q4⟩ z⟩
  refine eK_mark [32] 40 (Nat.le_of_ble_eq_true rfl) (fun hM => ?_)
  refine CL.bl (t_isHand hr) (Nat.le_of_ble_eq_true rfl) (fun q1 => ?_) (fun q1 => ?_)
  · refine ⟨R32_1, CL.bl (t_isMoment hm) (Nat.le_of_ble_eq_true rfl) (fun q2 => ?_) (fun q2 => ?_)⟩
    · refine ⟨R32_1, by omega, ite_i (fun q3 => ?_) (fun q3 => ?_)⟩
      · exact go q1 q2 (Or.inl q3)
      · refine CL.bl (t_isFinger hf) (Nat.le_of_ble_eq_true rfl) (fun q4 => ?_) (fun q4 => ?_)
        · exact ⟨R32_1, go q1 q2 (Or.inr q4)⟩
        · exact ⟨R32_0, by unfold markV; rw [if_pos ⟨q1, q2⟩, if_neg (by omega)], rfl, fun z => absurd z.2.1 (by omega), fun _ => rfl⟩
    · exact ⟨R32_0, by unfold markV; rw [if_neg (fun z => q2 z.2)], rfl, fun z => absurd z.1.2 q2, fun _ => rfl⟩
  · exact ⟨R32_0, by unfold markV; rw [if_neg (fun z => q1 z.1)], rfl, fun z => absurd z.1.1 q1, fun _ => rfl⟩
theorem k_price {k v : Int} (hk : R32 k) (hv : R32 v) (hI : RuI M) : Ret 2 0 0 mK_price [.inr 1, .inl k, .inl v] (S0 N) M (Pv (S0 N) (if priceK k v then mset M 3 k v else M) (priceV M k v)) := by
  refine eK_price [] 40 (Nat.le_of_ble_eq_true rfl) (fun hM => ?_)
  have bad : ¬ priceK k v → Pv (S0 N) (if priceK k v then mset M 3 k v else M) (priceV M k v) (some (.inl (-2))) (S0 N) M := fun q => pv_eq (by unfold priceV; rw [if_neg q]) (by rw [if_neg q])
  refine CL.bl (t_isBelow hk (by decide)) (Nat.le_of_ble_eq_true rfl) (fun q1 => ?_) (fun q1 => ?_)
  · refine ⟨R32_1, hv, ite_i (fun q2 => ?_) (fun q2 => ?_)⟩
    · exact bad (by omega)
    · refine ⟨by omega, ite_i (fun q3 => ?_) (fun q3 => ?_)⟩
      · exact bad (by omega)
      · have ok : priceK k v := ⟨by omega, by omega, by omega⟩
        refine CL.pu (t_priceOf (by omega) (by omega)) (Nat.le_of_ble_eq_true rfl) ?_
        refine CL.vo (t_setPrice (by omega) (by omega) hv) (Nat.le_of_ble_eq_true rfl) (fun hM2 => ?_)
        exact pv_eq (by unfold priceV; rw [if_pos ok]; exact (hI.1 k (by omega) (by omega)).1) (by rw [if_pos ok])
  · exact ⟨R32_0, bad (by omega)⟩
theorem k_clear (hr : R32 h) (hH : HI2 M) : Ret 2 0 0 mK_clear [.inr 1, .inl h] (S0 N) M (fun r S' M' => r = some (.inl (clearV M h)) ∧ S' = S0 N ∧ (isH h → oH h (fun b k w n => M' = raM b k w M)) ∧ (¬ isH h → M' = M)) := by
  refine eK_clear [] 40 (Nat.le_of_ble_eq_true rfl) (fun hM => ?_)
  refine CL.bl (t_isHand hr) (Nat.le_of_ble_eq_true rfl) (fun q1 => ?_) (fun q1 => ?_)
  · obtain ⟨b, k, w, n, hb⟩ := hc_of q1
    have P := t_playerOf (N := N) (M := M) hb
    have C := t_noteCount' (N := N) hb (hH _ _ _ _ _ hb)
    have G := t_restAlways (N := N) (M := M) (hc_c hb)
    have hb0 := hb
    rcases hb with ⟨rfl, rfl, rfl, rfl, rfl⟩ | ⟨rfl, rfl, rfl, rfl, rfl⟩
    all_goals
      refine ⟨R32_1, CL.pa P (Nat.le_of_ble_eq_true rfl) (CL.pu C (Nat.le_of_ble_eq_true rfl) (CL.vo G (Nat.le_of_ble_eq_true rfl) (fun hM2 => ?_)))⟩
      exact ⟨by unfold clearV; rw [if_pos q1], rfl, fun _ => oH_of hb0 rfl, fun z => absurd q1 z⟩
  · exact ⟨R32_0, by unfold clearV; rw [if_neg q1], rfl, fun z => absurd z q1, fun _ => rfl⟩
theorem k_note {k v : Int} (hr : R32 h) (hk : R32 k) (hv : R32 v) (hH : HI2 M) (hK : KyI M) : Ret 2 0 0 mK_note [.inr 1, .inl h, .inl k, .inl v] (S0 N) M (Pu (S0 N) M (noteV M h k v)) := by
  refine eK_note [] 40 (Nat.le_of_ble_eq_true rfl) (fun hM => ?_)
  refine CL.bl (t_isNote hr hk hH) (Nat.le_of_ble_eq_true rfl) (fun q => ?_) (fun q => ?_)
  · obtain ⟨q1, q2⟩ := id q
    obtain ⟨b, kk, w, n, hb⟩ := hc_of q1
    have P := t_playerOf (N := N) (M := M) hb
    have K1 := t_momentOf' (N := N) hb (hH _ _ _ _ _ hb) q2.1 q2.2
    have K2 := t_keyOf' (N := N) hb (hH _ _ _ _ _ hb) q2.1 q2.2
    have K3 := t_markOf' (N := N) hb (hH _ _ _ _ _ hb) q2.1 q2.2
    have kr := kyF_rng q1 hK q2.1 q2.2
    rcases hb with ⟨rfl, rfl, rfl, rfl, rfl⟩ | ⟨rfl, rfl, rfl, rfl, rfl⟩
    all_goals
      refine ⟨R32_1, CL.pa P (Nat.le_of_ble_eq_true rfl) ?_⟩
      refine ⟨hv, fun q3 => ?_, fun q3 => ?_, fun q3 => ?_, fun q3 => ?_, fun q3 => ?_, trivial⟩
      · exact pu_eq (by unfold noteV; rw [if_pos q, if_neg (by omega), if_neg (by omega), if_neg (by omega), if_neg (by omega)])
      · exact CL.pu K1 (Nat.le_of_ble_eq_true rfl) (pu_eq (by unfold noteV; rw [if_pos q, if_pos (by omega)]))
      · exact CL.pu K2 (Nat.le_of_ble_eq_true rfl) (pu_eq (by unfold noteV; rw [if_pos q, if_neg (by omega), if_pos (by omega)]))
      · exact CL.pu K3 (Nat.le_of_ble_eq_true rfl) (pu_eq (by unfold noteV; rw [if_pos q, if_neg (by omega), if_neg (by omega), if_pos (by omega)]))
      · refine CL.pu K2 (Nat.le_of_ble_eq_true rfl) (CL.bl (t_isBlack kr.1 (by omega)) (Nat.le_of_ble_eq_true rfl) (fun q4 => ?_) (fun q4 => ?_))
        · exact ⟨R32_1, pu_eq (by unfold noteV; rw [if_pos q, if_neg (by omega), if_neg (by omega), if_neg (by omega), if_pos (by omega)]; exact (bi_t q4).symm)⟩
        · exact ⟨R32_0, pu_eq (by unfold noteV; rw [if_pos q, if_neg (by omega), if_neg (by omega), if_neg (by omega), if_pos (by omega)]; exact (bi_f q4).symm)⟩
  · exact ⟨R32_0, pu_eq (by unfold noteV; rw [if_neg q])⟩
theorem k_costs {k f : Int} (hf : R32 f) (hk : R32 k) (hI : RuI M) : Ret 2 0 0 mK_costs [.inr 1, .inl k, .inl f] (S0 N) M (Pu (S0 N) M (costsV M k f)) := by
  refine eK_costs [] 60 (Nat.le_of_ble_eq_true rfl) (fun hM => ?_)
  refine CL.bl (t_isFinger hf) (Nat.le_of_ble_eq_true rfl) (fun q1 => ?_) (fun q1 => ?_)
  · refine ⟨R32_1, CL.bl (t_isKey hk) (Nat.le_of_ble_eq_true rfl) (fun q2 => ?_) (fun q2 => ?_)⟩
    · refine ⟨R32_1, CL.pu (t_noteCost hI q2.1 (by omega) hf) (Nat.le_of_ble_eq_true rfl) ?_⟩
      exact pu_eq (by unfold costsV; rw [if_pos q1, if_pos q2])
    · exact ⟨R32_0, pu_eq (by unfold costsV; rw [if_pos q1, if_neg q2])⟩
  · exact ⟨R32_0, pu_eq (by unfold costsV; rw [if_neg q1])⟩
theorem k_step {a f b g : Int} (hr : R32 h) (ha : R32 a) (hf : R32 f) (hb : R32 b) (hg : R32 g) (hI : RuI M) (hH : HI2 M) : Ret 3 0 0 mK_step [.inr 1, .inl h, .inl a, .inl f, .inl b, .inl g] (S0 N) M (Pu (S0 N) M (stepV M h a f b g)) := by
  refine eK_step [] 60 (Nat.le_of_ble_eq_true rfl) (fun hM => ?_)
  refine CL.bl (t_isHand hr) (Nat.le_of_ble_eq_true rfl) (fun q0 => ?_) (fun q0 => ?_)
  · refine ⟨R32_1, CL.bl (t_isFinger hf) (Nat.le_of_ble_eq_true rfl) (fun q1 => ?_) (fun q1 => ?_)⟩
    · refine ⟨R32_1, CL.bl (t_isFinger hg) (Nat.le_of_ble_eq_true rfl) (fun q2 => ?_) (fun q2 => ?_)⟩
      · refine ⟨R32_1, CL.bl (t_isKey ha) (Nat.le_of_ble_eq_true rfl) (fun q3 => ?_) (fun q3 => ?_)⟩
        · refine ⟨R32_1, CL.bl (t_isKey hb) (Nat.le_of_ble_eq_true rfl) (fun q4 => ?_) (fun q4 => ?_)⟩
          · have sr := stv_rng hI (hand := h) (a := a) (b := b) q1.1 q1.2 q2.1 q2.2
            obtain ⟨bb, kk, w, n, hc⟩ := hc_of q0
            have P := t_playerOf (N := N) (M := M) hc
            have Sd := t_side (N := N) (M := M) (b := bb) (hc_b hc)
            have e0 := (hH _ _ _ _ _ hc).2.2.2.1
            rw [e0] at Sd
            have C := t_stepCost (N := N) (sd := if h = 0 then 1 else -1) (hand := h) (a := a) (f := f) (b := b) (g := g) hI (by rcases q0 with rfl | rfl <;> simp) q3.1 q3.2 q4.1 q4.2 q1.1 q1.2 q2.1 q2.2
            have ev : (if stv (M 30) (M 27) (M 28) (M 29) h a f b g = 1000000 then -9 else stv (M 30) (M 27) (M 28) (M 29) h a f b g) = stepV M h a f b g := by
              have e1 : stepV M h a f b g = if stv (M 30) (M 27) (M 28) (M 29) h a f b g < 1000000 then stv (M 30) (M 27) (M 28) (M 29) h a f b g else -9 := by unfold stepV; rw [if_pos ⟨q0, q1, q2⟩, if_pos ⟨q3, q4⟩]
              rw [e1]
              split <;> split <;> omega
            rw [ev] at C
            rcases hc with ⟨rfl, rfl, rfl, rfl, rfl⟩ | ⟨rfl, rfl, rfl, rfl, rfl⟩
            all_goals
              refine ⟨R32_1, CL.pa P (Nat.le_of_ble_eq_true rfl) (CL.pu Sd (Nat.le_of_ble_eq_true rfl) (CL.pu C (Nat.le_of_ble_eq_true rfl) ?_))⟩
              exact pu_eq rfl
          · exact ⟨R32_0, pu_eq (by unfold stepV; rw [if_pos ⟨q0, q1, q2⟩, if_neg (fun z => q4 z.2)])⟩
        · exact ⟨R32_0, pu_eq (by unfold stepV; rw [if_pos ⟨q0, q1, q2⟩, if_neg (fun z => q3 z.1)])⟩
      · exact ⟨R32_0, pu_eq (by unfold stepV; rw [if_neg (fun z => q2 z.2.2)])⟩
    · exact ⟨R32_0, pu_eq (by unfold stepV; rw [if_neg (fun z => q1 z.2.1)])⟩
  · exact ⟨R32_0, pu_eq (by unfold stepV; rw [if_neg (fun z => q0 z.1)])⟩
theorem k_untie (hr : R32 h) (hH : HI2 M) (hT : TieI M) : Ret 2 0 0 mK_untie [.inr 1, .inl h] (S0 N) M (fun r S' M' => r = some (.inl (untieV M h)) ∧ S' = S0 N ∧ (isH h → oH h (fun b k w n => M' = mset M b 7 0)) ∧ (¬ isH h → M' = M)) := by
  refine eK_untie [] 40 (Nat.le_of_ble_eq_true rfl) (fun hM => ?_)
  refine CL.bl (t_isHand hr) (Nat.le_of_ble_eq_true rfl) (fun q1 => ?_) (fun q1 => ?_)
  · obtain ⟨b, k, w, n, hb⟩ := hc_of q1
    have P := t_playerOf (N := N) (M := M) hb
    have C := t_hasTie' (N := N) hb (hH _ _ _ _ _ hb) hT
    have G := t_dropTie (N := N) (M := M) (hc_b hb)
    have hb0 := hb
    rcases hb with ⟨rfl, rfl, rfl, rfl, rfl⟩ | ⟨rfl, rfl, rfl, rfl, rfl⟩
    all_goals
      refine ⟨R32_1, CL.pa P (Nat.le_of_ble_eq_true rfl) (CL.bl C (Nat.le_of_ble_eq_true rfl) (fun q2 => ?_) (fun q2 => ?_))⟩
      · refine ⟨R32_1, CL.vo G (Nat.le_of_ble_eq_true rfl) (fun hM2 => ?_)⟩
        exact ⟨by unfold untieV; rw [if_pos q1, bi_t q2], rfl, fun _ => oH_of hb0 rfl, fun z => absurd q1 z⟩
      · refine ⟨R32_0, CL.vo G (Nat.le_of_ble_eq_true rfl) (fun hM2 => ?_)⟩
        exact ⟨by unfold untieV; rw [if_pos q1, bi_f q2], rfl, fun _ => oH_of hb0 rfl, fun z => absurd q1 z⟩
  · exact ⟨R32_0, by unfold untieV; rw [if_neg q1], rfl, fun z => absurd z q1, fun _ => rfl⟩
theorem k_reach {f g l e o : Int} (hf : R32 f) (hg : R32 g) (hl : R32 l) (he : R32 e) (ho : R32 o) : Ret 2 0 0 mK_reach [.inr 1, .inl f, .inl g, .inl l, .inl e, .inl o] (S0 N) M (Pv (S0 N) (if reachK f g l e o then mset (mset (mset M 4 (rp f g) l) 4 (rp f g + 1) e) 4 (rp f g + 2) o else M) (reachV f g l e o)) := by
  refine eK_reach [] 60 (Nat.le_of_ble_eq_true rfl) (fun hM => ?_)
  refine CL.bl (t_isFinger hf) (Nat.le_of_ble_eq_true rfl) (fun q1 => ?_) (fun q1 => ?_)
  · refine ⟨R32_1, CL.bl (t_isFinger hg) (Nat.le_of_ble_eq_true rfl) (fun q2 => ?_) (fun q2 => ?_)⟩
    · have bad : ¬ ((0 ≤ l ∧ l ≤ 24) ∧ (l ≤ e ∧ e ≤ 24) ∧ e ≤ o ∧ o ≤ 24) → Pv (S0 N) (if reachK f g l e o then mset (mset (mset M 4 (rp f g) l) 4 (rp f g + 1) e) 4 (rp f g + 2) o else M) (reachV f g l e o) (some (.inl (-2))) (S0 N) M := fun q => pv_eq (by unfold reachV; rw [if_pos ⟨q1, q2⟩, if_neg q]) (by rw [if_neg (fun z => q z.2.1)])
      refine ⟨R32_1, hl, ite_i (fun q3 => ?_) (fun q3 => ?_)⟩
      · exact bad (by omega)
      · refine ⟨⟨he, hl⟩, ite_i (fun q4 => ?_) (fun q4 => ?_)⟩
        · exact bad (by omega)
        · refine ⟨⟨ho, he⟩, ite_i (fun q5 => ?_) (fun q5 => ?_)⟩
          · exact bad (by omega)
          · refine ⟨⟨ho, by decide⟩, ite_i (fun q6 => ?_) (fun q6 => ?_)⟩
            · exact bad (by omega)
            · have ok : (0 ≤ l ∧ l ≤ 24) ∧ (l ≤ e ∧ e ≤ 24) ∧ e ≤ o ∧ o ≤ 24 := by omega
              refine ⟨⟨hf, hg⟩, ite_i (fun q7 => ?_) (fun q7 => ?_)⟩
              · refine CL.vo (t_setReach q1.1 q7 q2.2 hl he ho) (Nat.le_of_ble_eq_true rfl) (fun hM2 => ?_)
                exact pv_eq (by unfold reachV; rw [if_pos ⟨q1, q2⟩, if_pos ok, if_pos q7]) (by rw [if_pos ⟨⟨q1, q2⟩, ok, q7⟩])
              · exact pv_eq (by unfold reachV; rw [if_pos ⟨q1, q2⟩, if_pos ok, if_neg q7]) (by rw [if_neg (fun z => q7 z.2.2)])
    · exact ⟨R32_0, pv_eq (by unfold reachV; rw [if_neg (fun z => q2 z.2)]) (by rw [if_neg (fun z => q2 z.1.2)])⟩
  · exact ⟨R32_0, pv_eq (by unfold reachV; rw [if_neg (fun z => q1 z.1)]) (by rw [if_neg (fun z => q1 z.1.1)])⟩
theorem k_reachOf {f g v : Int} (hf : R32 f) (hg : R32 g) (hv : R32 v) (hI : RuI M) : Ret 2 0 0 mK_reachOf [.inr 1, .inl f, .inl g, .inl v] (S0 N) M (Pu (S0 N) M (reachOfV M f g v)) := by
  refine eK_reachOf [] 60 (Nat.le_of_ble_eq_true rfl) (fun hM => ?_)
  refine CL.bl (t_isFinger hf) (Nat.le_of_ble_eq_true rfl) (fun q1 => ?_) (fun q1 => ?_)
  · refine ⟨R32_1, CL.bl (t_isFinger hg) (Nat.le_of_ble_eq_true rfl) (fun q2 => ?_) (fun q2 => ?_)⟩
    · refine ⟨R32_1, CL.bl (t_isBelow hv (by decide)) (Nat.le_of_ble_eq_true rfl) (fun q3 => ?_) (fun q3 => ?_)⟩
      · refine ⟨R32_1, ⟨hf, hg⟩, ite_i (fun q4 => ?_) (fun q4 => ?_)⟩
        · have r := hI.2 f g q1.1 q4 q2.2
          refine CL.pu (t_reachPart q1.1 q4 q2.2 q3.1 q3.2) (Nat.le_of_ble_eq_true rfl) (pu_eq ?_)
          unfold reachOfV
          rw [if_pos ⟨q1, q2⟩, if_pos (by omega), if_pos q4]
          by_cases v0 : v = 0
          · rw [if_pos v0, v0, Int.add_zero]; exact r.1
          · rw [if_neg v0]
            by_cases v1 : v = 1
            · rw [if_pos v1, v1]; exact r.2.1
            · rw [if_neg v1, show v = 2 by omega]; exact r.2.2.1
        · exact pu_eq (by unfold reachOfV; rw [if_pos ⟨q1, q2⟩, if_pos (by omega), if_neg q4])
      · exact ⟨R32_0, pu_eq (by unfold reachOfV; rw [if_pos ⟨q1, q2⟩, if_neg (by omega)])⟩
    · exact ⟨R32_0, pu_eq (by unfold reachOfV; rw [if_neg (fun z => q2 z.2)])⟩
  · exact ⟨R32_0, pu_eq (by unfold reachOfV; rw [if_neg (fun z => q1 z.1)])⟩
end Kq
end
