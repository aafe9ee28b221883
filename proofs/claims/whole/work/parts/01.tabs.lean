-- ===== PART A: goes FIRST, ahead of the names: the tables' words, and 'selects' of the private methods out of them =====
/-- a private method of a class that the tables say can be made, by its rows of tables_1 -/
def lw_okq (q : MethodName × Nat) : Prop := (q.1.cls ≠ "java/lang/invoke/MethodHandle" ∧ q.1.cls ≠ "java/lang/invoke/VarHandle") ∧ Cond.instantiable q.1.cls q.2 ∈ tables_1 ∧ Cond.privateMethod q.1 ∈ tables_1 ∧ Cond.instanceMethod q.1 ∈ tables_1
theorem lw_p0 : lw_okq (⟨"KeyFingers", "playerOf", "(I)LKeyFingers$Hand;"⟩, 5) := ⟨⟨by decide +kernel, by decide +kernel⟩, List.mem_of_getElem? (i := 10) (by decide +kernel), List.mem_of_getElem? (i := 165) (by decide +kernel), List.mem_of_getElem? (i := 166) (by decide +kernel)⟩
theorem lw_p1 : lw_okq (⟨"KeyFingers$Hand", "renumber", "()V"⟩, 8) := ⟨⟨by decide +kernel, by decide +kernel⟩, List.mem_of_getElem? (i := 43) (by decide +kernel), List.mem_of_getElem? (i := 184) (by decide +kernel), List.mem_of_getElem? (i := 185) (by decide +kernel)⟩
theorem lw_p2 : lw_okq (⟨"KeyFingers", "isNote", "(II)Z"⟩, 5) := ⟨⟨by decide +kernel, by decide +kernel⟩, List.mem_of_getElem? (i := 10) (by decide +kernel), List.mem_of_getElem? (i := 259) (by decide +kernel), List.mem_of_getElem? (i := 260) (by decide +kernel)⟩
theorem lw_p3 : lw_okq (⟨"KeyFingers$Rules", "reachCost", "(II)I"⟩, 2) := ⟨⟨by decide +kernel, by decide +kernel⟩, List.mem_of_getElem? (i := 18) (by decide +kernel), List.mem_of_getElem? (i := 308) (by decide +kernel), List.mem_of_getElem? (i := 309) (by decide +kernel)⟩
theorem lw_p4 : lw_okq (⟨"KeyFingers$Rows", "load", "(LKeyFingers$Hand;II)V"⟩, 10) := ⟨⟨by decide +kernel, by decide +kernel⟩, List.mem_of_getElem? (i := 77) (by decide +kernel), List.mem_of_getElem? (i := 320) (by decide +kernel), List.mem_of_getElem? (i := 321) (by decide +kernel)⟩
theorem lw_p5 : lw_okq (⟨"KeyFingers$Rows", "loadNote", "(III)V"⟩, 10) := ⟨⟨by decide +kernel, by decide +kernel⟩, List.mem_of_getElem? (i := 77) (by decide +kernel), List.mem_of_getElem? (i := 339) (by decide +kernel), List.mem_of_getElem? (i := 340) (by decide +kernel)⟩
theorem lw_p6 : lw_okq (⟨"KeyFingers$Rows", "loadSteps", "(IIII)V"⟩, 10) := ⟨⟨by decide +kernel, by decide +kernel⟩, List.mem_of_getElem? (i := 77) (by decide +kernel), List.mem_of_getElem? (i := 347) (by decide +kernel), List.mem_of_getElem? (i := 348) (by decide +kernel)⟩
theorem lw_p7 : lw_okq (⟨"KeyFingers$Rows", "sweep", "(II)V"⟩, 10) := ⟨⟨by decide +kernel, by decide +kernel⟩, List.mem_of_getElem? (i := 77) (by decide +kernel), List.mem_of_getElem? (i := 356) (by decide +kernel), List.mem_of_getElem? (i := 357) (by decide +kernel)⟩
theorem lw_p8 : lw_okq (⟨"KeyFingers$Rows", "costBehind", "(II)I"⟩, 10) := ⟨⟨by decide +kernel, by decide +kernel⟩, List.mem_of_getElem? (i := 77) (by decide +kernel), List.mem_of_getElem? (i := 361) (by decide +kernel), List.mem_of_getElem? (i := 362) (by decide +kernel)⟩
theorem lw_p9 : lw_okq (⟨"KeyFingers$Rows", "answerOfTable", "()I"⟩, 10) := ⟨⟨by decide +kernel, by decide +kernel⟩, List.mem_of_getElem? (i := 77) (by decide +kernel), List.mem_of_getElem? (i := 366) (by decide +kernel), List.mem_of_getElem? (i := 367) (by decide +kernel)⟩
theorem lw_p10 : lw_okq (⟨"KeyFingers$Rows", "fold", "()V"⟩, 10) := ⟨⟨by decide +kernel, by decide +kernel⟩, List.mem_of_getElem? (i := 77) (by decide +kernel), List.mem_of_getElem? (i := 370) (by decide +kernel), List.mem_of_getElem? (i := 371) (by decide +kernel)⟩
theorem lw_p11 : lw_okq (⟨"KeyFingers$Rows", "leadTo", "(I)V"⟩, 10) := ⟨⟨by decide +kernel, by decide +kernel⟩, List.mem_of_getElem? (i := 77) (by decide +kernel), List.mem_of_getElem? (i := 377) (by decide +kernel), List.mem_of_getElem? (i := 378) (by decide +kernel)⟩
theorem lw_p12 : lw_okq (⟨"KeyFingers$Rows", "follow", "(II)V"⟩, 10) := ⟨⟨by decide +kernel, by decide +kernel⟩, List.mem_of_getElem? (i := 77) (by decide +kernel), List.mem_of_getElem? (i := 390) (by decide +kernel), List.mem_of_getElem? (i := 391) (by decide +kernel)⟩
theorem lw_p13 : lw_okq (⟨"KeyFingers", "echoStart", "(II)I"⟩, 5) := ⟨⟨by decide +kernel, by decide +kernel⟩, List.mem_of_getElem? (i := 10) (by decide +kernel), List.mem_of_getElem? (i := 480) (by decide +kernel), List.mem_of_getElem? (i := 481) (by decide +kernel)⟩
theorem lw_p14 : lw_okq (⟨"KeyFingers", "kindOf", "(I)I"⟩, 5) := ⟨⟨by decide +kernel, by decide +kernel⟩, List.mem_of_getElem? (i := 10) (by decide +kernel), List.mem_of_getElem? (i := 514) (by decide +kernel), List.mem_of_getElem? (i := 515) (by decide +kernel)⟩
theorem lw_p15 : lw_okq (⟨"KeyFingers", "exchange", "(I)V"⟩, 5) := ⟨⟨by decide +kernel, by decide +kernel⟩, List.mem_of_getElem? (i := 10) (by decide +kernel), List.mem_of_getElem? (i := 526) (by decide +kernel), List.mem_of_getElem? (i := 527) (by decide +kernel)⟩
def lw_privs_1 : List (MethodName × Nat) := [(⟨"KeyFingers", "playerOf", "(I)LKeyFingers$Hand;"⟩, 5), (⟨"KeyFingers$Hand", "renumber", "()V"⟩, 8), (⟨"KeyFingers", "isNote", "(II)Z"⟩, 5), (⟨"KeyFingers$Rules", "reachCost", "(II)I"⟩, 2), (⟨"KeyFingers$Rows", "load", "(LKeyFingers$Hand;II)V"⟩, 10), (⟨"KeyFingers$Rows", "loadNote", "(III)V"⟩, 10), (⟨"KeyFingers$Rows", "loadSteps", "(IIII)V"⟩, 10), (⟨"KeyFingers$Rows", "sweep", "(II)V"⟩, 10), (⟨"KeyFingers$Rows", "costBehind", "(II)I"⟩, 10), (⟨"KeyFingers$Rows", "answerOfTable", "()I"⟩, 10), (⟨"KeyFingers$Rows", "fold", "()V"⟩, 10), (⟨"KeyFingers$Rows", "leadTo", "(I)V"⟩, 10), (⟨"KeyFingers$Rows", "follow", "(II)V"⟩, 10), (⟨"KeyFingers", "echoStart", "(II)I"⟩, 5), (⟨"KeyFingers", "kindOf", "(I)I"⟩, 5), (⟨"KeyFingers", "exchange", "(I)V"⟩, 5)]
theorem lw_r1 : ∀ q ∈ lw_privs_1, lw_okq q := List.forall_mem_cons.mpr ⟨lw_p0, List.forall_mem_cons.mpr ⟨lw_p1, List.forall_mem_cons.mpr ⟨lw_p2, List.forall_mem_cons.mpr ⟨lw_p3, List.forall_mem_cons.mpr ⟨lw_p4, List.forall_mem_cons.mpr ⟨lw_p5, List.forall_mem_cons.mpr ⟨lw_p6, List.forall_mem_cons.mpr ⟨lw_p7, List.forall_mem_cons.mpr ⟨lw_p8, List.forall_mem_cons.mpr ⟨lw_p9, List.forall_mem_cons.mpr ⟨lw_p10, List.forall_mem_cons.mpr ⟨lw_p11, List.forall_mem_cons.mpr ⟨lw_p12, List.forall_mem_cons.mpr ⟨lw_p13, List.forall_mem_cons.mpr ⟨lw_p14, List.forall_mem_cons.mpr ⟨lw_p15, fun _ h => absurd h List.not_mem_nil⟩⟩⟩⟩⟩⟩⟩⟩⟩⟩⟩⟩⟩⟩⟩⟩
theorem lw_p16 : lw_okq (⟨"KeyFingers", "countOf", "(I)I"⟩, 5) := ⟨⟨by decide +kernel, by decide +kernel⟩, List.mem_of_getElem? (i := 10) (by decide +kernel), List.mem_of_getElem? (i := 544) (by decide +kernel), List.mem_of_getElem? (i := 545) (by decide +kernel)⟩
theorem lw_p17 : lw_okq (⟨"KeyFingersModel", "lays", "(III)V"⟩, 30) := ⟨⟨by decide +kernel, by decide +kernel⟩, List.mem_of_getElem? (i := 548) (by decide +kernel), List.mem_of_getElem? (i := 661) (by decide +kernel), List.mem_of_getElem? (i := 662) (by decide +kernel)⟩
theorem lw_p18 : lw_okq (⟨"KeyFingersModel", "isChanged", "()V"⟩, 30) := ⟨⟨by decide +kernel, by decide +kernel⟩, List.mem_of_getElem? (i := 548) (by decide +kernel), List.mem_of_getElem? (i := 665) (by decide +kernel), List.mem_of_getElem? (i := 666) (by decide +kernel)⟩
theorem lw_p19 : lw_okq (⟨"KeyFingersModel", "notesOf", "(I)I"⟩, 30) := ⟨⟨by decide +kernel, by decide +kernel⟩, List.mem_of_getElem? (i := 548) (by decide +kernel), List.mem_of_getElem? (i := 692) (by decide +kernel), List.mem_of_getElem? (i := 693) (by decide +kernel)⟩
theorem lw_p20 : lw_okq (⟨"KeyFingersModel", "isNote", "(II)Z"⟩, 30) := ⟨⟨by decide +kernel, by decide +kernel⟩, List.mem_of_getElem? (i := 548) (by decide +kernel), List.mem_of_getElem? (i := 700) (by decide +kernel), List.mem_of_getElem? (i := 701) (by decide +kernel)⟩
theorem lw_p21 : lw_okq (⟨"KeyFingersModel", "placeOf", "(II)I"⟩, 30) := ⟨⟨by decide +kernel, by decide +kernel⟩, List.mem_of_getElem? (i := 548) (by decide +kernel), List.mem_of_getElem? (i := 704) (by decide +kernel), List.mem_of_getElem? (i := 705) (by decide +kernel)⟩
theorem lw_p22 : lw_okq (⟨"KeyFingersModel", "noteCost", "(II)I"⟩, 30) := ⟨⟨by decide +kernel, by decide +kernel⟩, List.mem_of_getElem? (i := 548) (by decide +kernel), List.mem_of_getElem? (i := 715) (by decide +kernel), List.mem_of_getElem? (i := 716) (by decide +kernel)⟩
theorem lw_p23 : lw_okq (⟨"KeyFingersModel", "stepCost", "(IIIII)I"⟩, 30) := ⟨⟨by decide +kernel, by decide +kernel⟩, List.mem_of_getElem? (i := 548) (by decide +kernel), List.mem_of_getElem? (i := 723) (by decide +kernel), List.mem_of_getElem? (i := 724) (by decide +kernel)⟩
theorem lw_p24 : lw_okq (⟨"KeyFingersModel", "byReach", "(III)I"⟩, 30) := ⟨⟨by decide +kernel, by decide +kernel⟩, List.mem_of_getElem? (i := 548) (by decide +kernel), List.mem_of_getElem? (i := 727) (by decide +kernel), List.mem_of_getElem? (i := 728) (by decide +kernel)⟩
theorem lw_p25 : lw_okq (⟨"KeyFingersModel", "findHand", "(I)V"⟩, 30) := ⟨⟨by decide +kernel, by decide +kernel⟩, List.mem_of_getElem? (i := 548) (by decide +kernel), List.mem_of_getElem? (i := 736) (by decide +kernel), List.mem_of_getElem? (i := 737) (by decide +kernel)⟩
theorem lw_p26 : lw_okq (⟨"KeyFingersModel", "leastOfHand", "(I)I"⟩, 30) := ⟨⟨by decide +kernel, by decide +kernel⟩, List.mem_of_getElem? (i := 548) (by decide +kernel), List.mem_of_getElem? (i := 740) (by decide +kernel), List.mem_of_getElem? (i := 741) (by decide +kernel)⟩
theorem lw_p27 : lw_okq (⟨"KeyFingersModel", "layNotes", "(I)V"⟩, 30) := ⟨⟨by decide +kernel, by decide +kernel⟩, List.mem_of_getElem? (i := 548) (by decide +kernel), List.mem_of_getElem? (i := 744) (by decide +kernel), List.mem_of_getElem? (i := 745) (by decide +kernel)⟩
theorem lw_p28 : lw_okq (⟨"KeyFingersModel", "layTie", "(I)V"⟩, 30) := ⟨⟨by decide +kernel, by decide +kernel⟩, List.mem_of_getElem? (i := 548) (by decide +kernel), List.mem_of_getElem? (i := 748) (by decide +kernel), List.mem_of_getElem? (i := 749) (by decide +kernel)⟩
theorem lw_p29 : lw_okq (⟨"KeyFingersModel", "doesTieHold", "(I)Z"⟩, 30) := ⟨⟨by decide +kernel, by decide +kernel⟩, List.mem_of_getElem? (i := 548) (by decide +kernel), List.mem_of_getElem? (i := 752) (by decide +kernel), List.mem_of_getElem? (i := 753) (by decide +kernel)⟩
theorem lw_p30 : lw_okq (⟨"KeyFingersModel", "leastRow", "()I"⟩, 30) := ⟨⟨by decide +kernel, by decide +kernel⟩, List.mem_of_getElem? (i := 548) (by decide +kernel), List.mem_of_getElem? (i := 756) (by decide +kernel), List.mem_of_getElem? (i := 757) (by decide +kernel)⟩
theorem lw_p31 : lw_okq (⟨"KeyFingersModel", "findTie", "()V"⟩, 30) := ⟨⟨by decide +kernel, by decide +kernel⟩, List.mem_of_getElem? (i := 548) (by decide +kernel), List.mem_of_getElem? (i := 760) (by decide +kernel), List.mem_of_getElem? (i := 761) (by decide +kernel)⟩
def lw_privs_2 : List (MethodName × Nat) := [(⟨"KeyFingers", "countOf", "(I)I"⟩, 5), (⟨"KeyFingersModel", "lays", "(III)V"⟩, 30), (⟨"KeyFingersModel", "isChanged", "()V"⟩, 30), (⟨"KeyFingersModel", "notesOf", "(I)I"⟩, 30), (⟨"KeyFingersModel", "isNote", "(II)Z"⟩, 30), (⟨"KeyFingersModel", "placeOf", "(II)I"⟩, 30), (⟨"KeyFingersModel", "noteCost", "(II)I"⟩, 30), (⟨"KeyFingersModel", "stepCost", "(IIIII)I"⟩, 30), (⟨"KeyFingersModel", "byReach", "(III)I"⟩, 30), (⟨"KeyFingersModel", "findHand", "(I)V"⟩, 30), (⟨"KeyFingersModel", "leastOfHand", "(I)I"⟩, 30), (⟨"KeyFingersModel", "layNotes", "(I)V"⟩, 30), (⟨"KeyFingersModel", "layTie", "(I)V"⟩, 30), (⟨"KeyFingersModel", "doesTieHold", "(I)Z"⟩, 30), (⟨"KeyFingersModel", "leastRow", "()I"⟩, 30), (⟨"KeyFingersModel", "findTie", "()V"⟩, 30)]
theorem lw_r2 : ∀ q ∈ lw_privs_2, lw_okq q := List.forall_mem_cons.mpr ⟨lw_p16, List.forall_mem_cons.mpr ⟨lw_p17, List.forall_mem_cons.mpr ⟨lw_p18, List.forall_mem_cons.mpr ⟨lw_p19, List.forall_mem_cons.mpr ⟨lw_p20, List.forall_mem_cons.mpr ⟨lw_p21, List.forall_mem_cons.mpr ⟨lw_p22, List.forall_mem_cons.mpr ⟨lw_p23, List.forall_mem_cons.mpr ⟨lw_p24, List.forall_mem_cons.mpr ⟨lw_p25, List.forall_mem_cons.mpr ⟨lw_p26, List.forall_mem_cons.mpr ⟨lw_p27, List.forall_mem_cons.mpr ⟨lw_p28, List.forall_mem_cons.mpr ⟨lw_p29, List.forall_mem_cons.mpr ⟨lw_p30, List.forall_mem_cons.mpr ⟨lw_p31, fun _ h => absurd h List.not_mem_nil⟩⟩⟩⟩⟩⟩⟩⟩⟩⟩⟩⟩⟩⟩⟩⟩
theorem lw_p32 : lw_okq (⟨"KeyFingersModel", "back", "(I)V"⟩, 30) := ⟨⟨by decide +kernel, by decide +kernel⟩, List.mem_of_getElem? (i := 548) (by decide +kernel), List.mem_of_getElem? (i := 764) (by decide +kernel), List.mem_of_getElem? (i := 765) (by decide +kernel)⟩
theorem lw_p33 : lw_okq (⟨"KeyFingersModel", "goingOn", "(III)I"⟩, 30) := ⟨⟨by decide +kernel, by decide +kernel⟩, List.mem_of_getElem? (i := 548) (by decide +kernel), List.mem_of_getElem? (i := 768) (by decide +kernel), List.mem_of_getElem? (i := 769) (by decide +kernel)⟩
theorem lw_p34 : lw_okq (⟨"KeyFingersModel", "isOf", "(II)Z"⟩, 30) := ⟨⟨by decide +kernel, by decide +kernel⟩, List.mem_of_getElem? (i := 548) (by decide +kernel), List.mem_of_getElem? (i := 772) (by decide +kernel), List.mem_of_getElem? (i := 773) (by decide +kernel)⟩
theorem lw_p35 : lw_okq (⟨"KeyFingersModel", "stepAt", "(III)I"⟩, 30) := ⟨⟨by decide +kernel, by decide +kernel⟩, List.mem_of_getElem? (i := 548) (by decide +kernel), List.mem_of_getElem? (i := 776) (by decide +kernel), List.mem_of_getElem? (i := 777) (by decide +kernel)⟩
theorem lw_p36 : lw_okq (⟨"KeyFingersModel", "after", "(II)I"⟩, 30) := ⟨⟨by decide +kernel, by decide +kernel⟩, List.mem_of_getElem? (i := 548) (by decide +kernel), List.mem_of_getElem? (i := 780) (by decide +kernel), List.mem_of_getElem? (i := 781) (by decide +kernel)⟩
theorem lw_p37 : lw_okq (⟨"KeyFingersModel", "findWith", "(I)V"⟩, 30) := ⟨⟨by decide +kernel, by decide +kernel⟩, List.mem_of_getElem? (i := 548) (by decide +kernel), List.mem_of_getElem? (i := 784) (by decide +kernel), List.mem_of_getElem? (i := 785) (by decide +kernel)⟩
theorem lw_p38 : lw_okq (⟨"KeyFingersModel", "findJoint", "(I)V"⟩, 30) := ⟨⟨by decide +kernel, by decide +kernel⟩, List.mem_of_getElem? (i := 548) (by decide +kernel), List.mem_of_getElem? (i := 788) (by decide +kernel), List.mem_of_getElem? (i := 789) (by decide +kernel)⟩
theorem lw_p39 : lw_okq (⟨"KeyFingersModel", "jointStep", "(III)I"⟩, 30) := ⟨⟨by decide +kernel, by decide +kernel⟩, List.mem_of_getElem? (i := 548) (by decide +kernel), List.mem_of_getElem? (i := 792) (by decide +kernel), List.mem_of_getElem? (i := 793) (by decide +kernel)⟩
theorem lw_p40 : lw_okq (⟨"KeyFingersModel", "isOfBoth", "(II)Z"⟩, 30) := ⟨⟨by decide +kernel, by decide +kernel⟩, List.mem_of_getElem? (i := 548) (by decide +kernel), List.mem_of_getElem? (i := 796) (by decide +kernel), List.mem_of_getElem? (i := 797) (by decide +kernel)⟩
theorem lw_p41 : lw_okq (⟨"KeyFingersModel", "leastStart", "()I"⟩, 30) := ⟨⟨by decide +kernel, by decide +kernel⟩, List.mem_of_getElem? (i := 548) (by decide +kernel), List.mem_of_getElem? (i := 800) (by decide +kernel), List.mem_of_getElem? (i := 801) (by decide +kernel)⟩
theorem lw_p42 : lw_okq (⟨"KeyFingersModel", "startCost", "(I)I"⟩, 30) := ⟨⟨by decide +kernel, by decide +kernel⟩, List.mem_of_getElem? (i := 548) (by decide +kernel), List.mem_of_getElem? (i := 804) (by decide +kernel), List.mem_of_getElem? (i := 805) (by decide +kernel)⟩
theorem lw_p43 : lw_okq (⟨"KeyFingersModel", "findFingers", "(I)V"⟩, 30) := ⟨⟨by decide +kernel, by decide +kernel⟩, List.mem_of_getElem? (i := 548) (by decide +kernel), List.mem_of_getElem? (i := 808) (by decide +kernel), List.mem_of_getElem? (i := 809) (by decide +kernel)⟩
theorem lw_p44 : lw_okq (⟨"KeyFingersModel", "fingerBehind", "(II)I"⟩, 30) := ⟨⟨by decide +kernel, by decide +kernel⟩, List.mem_of_getElem? (i := 548) (by decide +kernel), List.mem_of_getElem? (i := 812) (by decide +kernel), List.mem_of_getElem? (i := 813) (by decide +kernel)⟩
theorem lw_p45 : lw_okq (⟨"KeyFingersModel", "findTied", "(I)V"⟩, 30) := ⟨⟨by decide +kernel, by decide +kernel⟩, List.mem_of_getElem? (i := 548) (by decide +kernel), List.mem_of_getElem? (i := 816) (by decide +kernel), List.mem_of_getElem? (i := 817) (by decide +kernel)⟩
theorem lw_p46 : lw_okq (⟨"KeyFingersModel", "jointBehind", "(II)I"⟩, 30) := ⟨⟨by decide +kernel, by decide +kernel⟩, List.mem_of_getElem? (i := 548) (by decide +kernel), List.mem_of_getElem? (i := 820) (by decide +kernel), List.mem_of_getElem? (i := 821) (by decide +kernel)⟩
theorem lw_p47 : lw_okq (⟨"KeyFingersModel", "ties", "(IIII)I"⟩, 30) := ⟨⟨by decide +kernel, by decide +kernel⟩, List.mem_of_getElem? (i := 548) (by decide +kernel), List.mem_of_getElem? (i := 836) (by decide +kernel), List.mem_of_getElem? (i := 837) (by decide +kernel)⟩
def lw_privs_3 : List (MethodName × Nat) := [(⟨"KeyFingersModel", "back", "(I)V"⟩, 30), (⟨"KeyFingersModel", "goingOn", "(III)I"⟩, 30), (⟨"KeyFingersModel", "isOf", "(II)Z"⟩, 30), (⟨"KeyFingersModel", "stepAt", "(III)I"⟩, 30), (⟨"KeyFingersModel", "after", "(II)I"⟩, 30), (⟨"KeyFingersModel", "findWith", "(I)V"⟩, 30), (⟨"KeyFingersModel", "findJoint", "(I)V"⟩, 30), (⟨"KeyFingersModel", "jointStep", "(III)I"⟩, 30), (⟨"KeyFingersModel", "isOfBoth", "(II)Z"⟩, 30), (⟨"KeyFingersModel", "leastStart", "()I"⟩, 30), (⟨"KeyFingersModel", "startCost", "(I)I"⟩, 30), (⟨"KeyFingersModel", "findFingers", "(I)V"⟩, 30), (⟨"KeyFingersModel", "fingerBehind", "(II)I"⟩, 30), (⟨"KeyFingersModel", "findTied", "(I)V"⟩, 30), (⟨"KeyFingersModel", "jointBehind", "(II)I"⟩, 30), (⟨"KeyFingersModel", "ties", "(IIII)I"⟩, 30)]
theorem lw_r3 : ∀ q ∈ lw_privs_3, lw_okq q := List.forall_mem_cons.mpr ⟨lw_p32, List.forall_mem_cons.mpr ⟨lw_p33, List.forall_mem_cons.mpr ⟨lw_p34, List.forall_mem_cons.mpr ⟨lw_p35, List.forall_mem_cons.mpr ⟨lw_p36, List.forall_mem_cons.mpr ⟨lw_p37, List.forall_mem_cons.mpr ⟨lw_p38, List.forall_mem_cons.mpr ⟨lw_p39, List.forall_mem_cons.mpr ⟨lw_p40, List.forall_mem_cons.mpr ⟨lw_p41, List.forall_mem_cons.mpr ⟨lw_p42, List.forall_mem_cons.mpr ⟨lw_p43, List.forall_mem_cons.mpr ⟨lw_p44, List.forall_mem_cons.mpr ⟨lw_p45, List.forall_mem_cons.mpr ⟨lw_p46, List.forall_mem_cons.mpr ⟨lw_p47, fun _ h => absurd h List.not_mem_nil⟩⟩⟩⟩⟩⟩⟩⟩⟩⟩⟩⟩⟩⟩⟩⟩
theorem lw_p48 : lw_okq (⟨"KeyFingersModel", "plainTo", "(I)I"⟩, 30) := ⟨⟨by decide +kernel, by decide +kernel⟩, List.mem_of_getElem? (i := 548) (by decide +kernel), List.mem_of_getElem? (i := 852) (by decide +kernel), List.mem_of_getElem? (i := 853) (by decide +kernel)⟩
theorem lw_p49 : lw_okq (⟨"KeyFingersModel", "begin", "()V"⟩, 30) := ⟨⟨by decide +kernel, by decide +kernel⟩, List.mem_of_getElem? (i := 548) (by decide +kernel), List.mem_of_getElem? (i := 856) (by decide +kernel), List.mem_of_getElem? (i := 857) (by decide +kernel)⟩
theorem lw_p50 : lw_okq (⟨"KeyFingersModel", "goesOn", "(IZ)V"⟩, 30) := ⟨⟨by decide +kernel, by decide +kernel⟩, List.mem_of_getElem? (i := 548) (by decide +kernel), List.mem_of_getElem? (i := 860) (by decide +kernel), List.mem_of_getElem? (i := 861) (by decide +kernel)⟩
theorem lw_p51 : lw_okq (⟨"KeyFingersModel", "leastUp", "()I"⟩, 30) := ⟨⟨by decide +kernel, by decide +kernel⟩, List.mem_of_getElem? (i := 548) (by decide +kernel), List.mem_of_getElem? (i := 864) (by decide +kernel), List.mem_of_getElem? (i := 865) (by decide +kernel)⟩
theorem lw_p52 : lw_okq (⟨"KeyFingersModel", "phraseOf", "(I)I"⟩, 30) := ⟨⟨by decide +kernel, by decide +kernel⟩, List.mem_of_getElem? (i := 548) (by decide +kernel), List.mem_of_getElem? (i := 872) (by decide +kernel), List.mem_of_getElem? (i := 873) (by decide +kernel)⟩
theorem lw_p53 : lw_okq (⟨"KeyFingersModel", "goes", "(I)V"⟩, 30) := ⟨⟨by decide +kernel, by decide +kernel⟩, List.mem_of_getElem? (i := 548) (by decide +kernel), List.mem_of_getElem? (i := 876) (by decide +kernel), List.mem_of_getElem? (i := 877) (by decide +kernel)⟩
theorem lw_p54 : lw_okq (⟨"KeyFingersModel", "echoAt", "(II)I"⟩, 30) := ⟨⟨by decide +kernel, by decide +kernel⟩, List.mem_of_getElem? (i := 548) (by decide +kernel), List.mem_of_getElem? (i := 896) (by decide +kernel), List.mem_of_getElem? (i := 897) (by decide +kernel)⟩
theorem lw_p55 : lw_okq (⟨"KeyFingersModel", "isEcho", "(II)Z"⟩, 30) := ⟨⟨by decide +kernel, by decide +kernel⟩, List.mem_of_getElem? (i := 548) (by decide +kernel), List.mem_of_getElem? (i := 900) (by decide +kernel), List.mem_of_getElem? (i := 901) (by decide +kernel)⟩
theorem lw_p56 : lw_okq (⟨"KeyFingersModel", "likeness", "(II)I"⟩, 30) := ⟨⟨by decide +kernel, by decide +kernel⟩, List.mem_of_getElem? (i := 548) (by decide +kernel), List.mem_of_getElem? (i := 904) (by decide +kernel), List.mem_of_getElem? (i := 905) (by decide +kernel)⟩
theorem lw_p57 : lw_okq (⟨"KeyFingersModel", "isSo", "(II)Z"⟩, 30) := ⟨⟨by decide +kernel, by decide +kernel⟩, List.mem_of_getElem? (i := 548) (by decide +kernel), List.mem_of_getElem? (i := 916) (by decide +kernel), List.mem_of_getElem? (i := 917) (by decide +kernel)⟩
theorem lw_p58 : lw_okq (⟨"KeyFingersModel", "together", "(II)I"⟩, 30) := ⟨⟨by decide +kernel, by decide +kernel⟩, List.mem_of_getElem? (i := 548) (by decide +kernel), List.mem_of_getElem? (i := 924) (by decide +kernel), List.mem_of_getElem? (i := 925) (by decide +kernel)⟩
theorem lw_p59 : lw_okq (⟨"KeyFingersModel", "swaps", "(I)V"⟩, 30) := ⟨⟨by decide +kernel, by decide +kernel⟩, List.mem_of_getElem? (i := 548) (by decide +kernel), List.mem_of_getElem? (i := 932) (by decide +kernel), List.mem_of_getElem? (i := 933) (by decide +kernel)⟩
theorem lw_p60 : lw_okq (⟨"KeyFingersModel", "sumBehind", "(I)I"⟩, 30) := ⟨⟨by decide +kernel, by decide +kernel⟩, List.mem_of_getElem? (i := 548) (by decide +kernel), List.mem_of_getElem? (i := 941) (by decide +kernel), List.mem_of_getElem? (i := 942) (by decide +kernel)⟩
theorem lw_p61 : lw_okq (⟨"KeyFingersModel", "manyMarks", "()I"⟩, 30) := ⟨⟨by decide +kernel, by decide +kernel⟩, List.mem_of_getElem? (i := 548) (by decide +kernel), List.mem_of_getElem? (i := 949) (by decide +kernel), List.mem_of_getElem? (i := 950) (by decide +kernel)⟩
theorem lw_p62 : lw_okq (⟨"KeyFingersModel", "manyMoments", "(I)I"⟩, 30) := ⟨⟨by decide +kernel, by decide +kernel⟩, List.mem_of_getElem? (i := 548) (by decide +kernel), List.mem_of_getElem? (i := 953) (by decide +kernel), List.mem_of_getElem? (i := 954) (by decide +kernel)⟩
def lw_privs_4 : List (MethodName × Nat) := [(⟨"KeyFingersModel", "plainTo", "(I)I"⟩, 30), (⟨"KeyFingersModel", "begin", "()V"⟩, 30), (⟨"KeyFingersModel", "goesOn", "(IZ)V"⟩, 30), (⟨"KeyFingersModel", "leastUp", "()I"⟩, 30), (⟨"KeyFingersModel", "phraseOf", "(I)I"⟩, 30), (⟨"KeyFingersModel", "goes", "(I)V"⟩, 30), (⟨"KeyFingersModel", "echoAt", "(II)I"⟩, 30), (⟨"KeyFingersModel", "isEcho", "(II)Z"⟩, 30), (⟨"KeyFingersModel", "likeness", "(II)I"⟩, 30), (⟨"KeyFingersModel", "isSo", "(II)Z"⟩, 30), (⟨"KeyFingersModel", "together", "(II)I"⟩, 30), (⟨"KeyFingersModel", "swaps", "(I)V"⟩, 30), (⟨"KeyFingersModel", "sumBehind", "(I)I"⟩, 30), (⟨"KeyFingersModel", "manyMarks", "()I"⟩, 30), (⟨"KeyFingersModel", "manyMoments", "(I)I"⟩, 30)]
theorem lw_r4 : ∀ q ∈ lw_privs_4, lw_okq q := List.forall_mem_cons.mpr ⟨lw_p48, List.forall_mem_cons.mpr ⟨lw_p49, List.forall_mem_cons.mpr ⟨lw_p50, List.forall_mem_cons.mpr ⟨lw_p51, List.forall_mem_cons.mpr ⟨lw_p52, List.forall_mem_cons.mpr ⟨lw_p53, List.forall_mem_cons.mpr ⟨lw_p54, List.forall_mem_cons.mpr ⟨lw_p55, List.forall_mem_cons.mpr ⟨lw_p56, List.forall_mem_cons.mpr ⟨lw_p57, List.forall_mem_cons.mpr ⟨lw_p58, List.forall_mem_cons.mpr ⟨lw_p59, List.forall_mem_cons.mpr ⟨lw_p60, List.forall_mem_cons.mpr ⟨lw_p61, List.forall_mem_cons.mpr ⟨lw_p62, fun _ h => absurd h List.not_mem_nil⟩⟩⟩⟩⟩⟩⟩⟩⟩⟩⟩⟩⟩⟩⟩
def lw_privs : List (MethodName × Nat) := lw_privs_1 ++ (lw_privs_2 ++ (lw_privs_3 ++ (lw_privs_4)))
def lw_tbl : List Cond := k2_sels lw_privs ++ tables_1
theorem lw_privs_ok : ∀ q ∈ lw_privs, lw_okq q := by
  show ∀ q ∈ lw_privs_1 ++ (lw_privs_2 ++ (lw_privs_3 ++ (lw_privs_4))), lw_okq q
  exact List.forall_mem_append.mpr ⟨lw_r1, List.forall_mem_append.mpr ⟨lw_r2, List.forall_mem_append.mpr ⟨lw_r3, lw_r4⟩⟩⟩

theorem goodIn_r {big : List Cond} (ws : List Cond) (ps : List Nat) (hp : ws = ps.filterMap (fun i => big[i]?)) (h : ws.all goodWord = true) : GoodIn big ws := by
  intro w hw
  have h1 := List.all_eq_true.mp h w hw
  rw [hp] at hw
  obtain ⟨i, -, hi⟩ := List.mem_filterMap.mp hw
  exact ⟨List.mem_of_getElem? hi, good_of_word h1⟩
theorem goodIn_app {big a b : List Cond} (ha : GoodIn big a) (hb : GoodIn big b) : GoodIn big (a ++ b) := fun w h => (List.mem_append.mp h).elim (ha w) (hb w)
def RX0 : String := "KeyFingers$Hand"
def TX0 : u_T := fun k => match k with
  | 0 => ("KeyFingers$Hand", "side", "I", true)
  | 1 => ("KeyFingers$Hand", "keys", "[I", true)
  | 2 => ("KeyFingers$Hand", "marks", "[I", true)
  | 3 => ("KeyFingers$Hand", "noteMoments", "[I", true)
  | 4 => ("KeyFingers$Hand", "notes", "I", false)
  | 5 => ("KeyFingers$Hand", "tieFirst", "I", false)
  | 6 => ("KeyFingers$Hand", "tieSecond", "I", false)
  | _ => ("KeyFingers$Hand", "tieLength", "I", false)
def tyX0 : Nat → FieldType := fun k => match k with
  | 0 => .int
  | 1 => .array .int
  | 2 => .array .int
  | 3 => .array .int
  | 4 => .int
  | 5 => .int
  | 6 => .int
  | _ => .int
abbrev wsX00 : List Cond := u_ws RX0 TX0 8
theorem nmX0 : ∀ a, a < 8 → ∀ b, b < 8 → a ≠ b → (TX0 a).2.1 ≠ (TX0 b).2.1 := by decide +kernel
theorem tyX0_ok : ∀ k, k < 8 → parseFieldDescriptor (TX0 k).2.2.1 = some (tyX0 k) := by decide +kernel
def RX1 : String := "KeyFingers$Phrases"
def TX1 : u_T := fun k => match k with
  | 0 => ("KeyFingers$Phrases", "names", "[I", true)
  | 1 => ("KeyFingers$Phrases", "hands", "[I", true)
  | 2 => ("KeyFingers$Phrases", "starts", "[I", true)
  | 3 => ("KeyFingers$Phrases", "lengths", "[I", true)
  | _ => ("KeyFingers$Phrases", "count", "I", false)
def tyX1 : Nat → FieldType := fun k => match k with
  | 0 => .array .int
  | 1 => .array .int
  | 2 => .array .int
  | 3 => .array .int
  | _ => .int
abbrev wsX10 : List Cond := u_ws RX1 TX1 5
theorem nmX1 : ∀ a, a < 5 → ∀ b, b < 5 → a ≠ b → (TX1 a).2.1 ≠ (TX1 b).2.1 := by decide +kernel
theorem tyX1_ok : ∀ k, k < 5 → parseFieldDescriptor (TX1 k).2.2.1 = some (tyX1 k) := by decide +kernel
def RX2 : String := "KeyFingers$Rows"
def TX2 : u_T := fun k => match k with
  | 0 => ("KeyFingers$Rows", "rules", "LKeyFingers$Rules;", true)
  | 1 => ("KeyFingers$Rows", "noteCosts", "[I", true)
  | 2 => ("KeyFingers$Rows", "stepCosts", "[I", true)
  | 3 => ("KeyFingers$Rows", "table", "[I", true)
  | 4 => ("KeyFingers$Rows", "heads", "[I", true)
  | 5 => ("KeyFingers$Rows", "row", "[I", true)
  | 6 => ("KeyFingers$Rows", "notes", "I", false)
  | 7 => ("KeyFingers$Rows", "first", "I", false)
  | 8 => ("KeyFingers$Rows", "second", "I", false)
  | _ => ("KeyFingers$Rows", "length", "I", false)
def tyX2 : Nat → FieldType := fun k => match k with
  | 0 => .object "KeyFingers$Rules"
  | 1 => .array .int
  | 2 => .array .int
  | 3 => .array .int
  | 4 => .array .int
  | 5 => .array .int
  | 6 => .int
  | 7 => .int
  | 8 => .int
  | _ => .int
abbrev wsX20 : List Cond := u_ws RX2 TX2 10
theorem nmX2 : ∀ a, a < 10 → ∀ b, b < 10 → a ≠ b → (TX2 a).2.1 ≠ (TX2 b).2.1 := by decide +kernel
theorem tyX2_ok : ∀ k, k < 10 → parseFieldDescriptor (TX2 k).2.2.1 = some (tyX2 k) := by decide +kernel
def RX3 : String := "KeyFingers$Rules"
def TX3 : u_T := fun k => match k with
  | 0 => ("KeyFingers$Rules", "prices", "[I", true)
  | _ => ("KeyFingers$Rules", "reaches", "[I", true)
def tyX3 : Nat → FieldType := fun k => match k with
  | 0 => .array .int
  | _ => .array .int
abbrev wsX30 : List Cond := u_ws RX3 TX3 2
theorem nmX3 : ∀ a, a < 2 → ∀ b, b < 2 → a ≠ b → (TX3 a).2.1 ≠ (TX3 b).2.1 := by decide +kernel
theorem tyX3_ok : ∀ k, k < 2 → parseFieldDescriptor (TX3 k).2.2.1 = some (tyX3 k) := by decide +kernel
def RX4 : String := "KeyFingers"
def TX4 : u_T := fun k => match k with
  | 0 => ("KeyFingers", "rules", "LKeyFingers$Rules;", true)
  | 1 => ("KeyFingers", "right", "LKeyFingers$Hand;", true)
  | 2 => ("KeyFingers", "left", "LKeyFingers$Hand;", true)
  | 3 => ("KeyFingers", "rows", "LKeyFingers$Rows;", true)
  | _ => ("KeyFingers", "phrases", "LKeyFingers$Phrases;", true)
def tyX4 : Nat → FieldType := fun k => match k with
  | 0 => .object "KeyFingers$Rules"
  | 1 => .object "KeyFingers$Hand"
  | 2 => .object "KeyFingers$Hand"
  | 3 => .object "KeyFingers$Rows"
  | _ => .object "KeyFingers$Phrases"
abbrev wsX40 : List Cond := u_ws RX4 TX4 5
theorem nmX4 : ∀ a, a < 5 → ∀ b, b < 5 → a ≠ b → (TX4 a).2.1 ≠ (TX4 b).2.1 := by decide +kernel
theorem tyX4_ok : ∀ k, k < 5 → parseFieldDescriptor (TX4 k).2.2.1 = some (tyX4 k) := by decide +kernel
def RX5 : String := "KeyFingersModel"
def TX5 : u_T := fun k => match k with
  | 0 => ("KeyFingersModel", "keyAt", "[I", true)
  | 1 => ("KeyFingersModel", "markAt", "[I", true)
  | 2 => ("KeyFingersModel", "leastOf", "[I", true)
  | 3 => ("KeyFingersModel", "easyOf", "[I", true)
  | 4 => ("KeyFingersModel", "mostOf", "[I", true)
  | 5 => ("KeyFingersModel", "priceOf", "[I", true)
  | 6 => ("KeyFingersModel", "laidHand", "I", false)
  | 7 => ("KeyFingersModel", "laid", "I", false)
  | 8 => ("KeyFingersModel", "laidKey", "[I", true)
  | 9 => ("KeyFingersModel", "may", "[I", true)
  | 10 => ("KeyFingersModel", "tieFrom", "I", false)
  | 11 => ("KeyFingersModel", "tieTo", "I", false)
  | 12 => ("KeyFingersModel", "tieMany", "I", false)
  | 13 => ("KeyFingersModel", "upTo", "[I", true)
  | 14 => ("KeyFingersModel", "next", "[I", true)
  | 15 => ("KeyFingersModel", "rest", "[I", true)
  | 16 => ("KeyFingersModel", "joint", "[I", true)
  | 17 => ("KeyFingersModel", "with", "[I", true)
  | 18 => ("KeyFingersModel", "isFoundRight", "Z", false)
  | 19 => ("KeyFingersModel", "isFoundLeft", "Z", false)
  | 20 => ("KeyFingersModel", "costOf", "[I", true)
  | 21 => ("KeyFingersModel", "fingerOf", "[I", true)
  | 22 => ("KeyFingersModel", "tieAt", "[I", true)
  | 23 => ("KeyFingersModel", "tieBeside", "[I", true)
  | 24 => ("KeyFingersModel", "tieLength", "[I", true)
  | 25 => ("KeyFingersModel", "phrases", "I", false)
  | 26 => ("KeyFingersModel", "nameOf", "[I", true)
  | 27 => ("KeyFingersModel", "handOf", "[I", true)
  | 28 => ("KeyFingersModel", "from", "[I", true)
  | _ => ("KeyFingersModel", "manyOf", "[I", true)
def tyX5 : Nat → FieldType := fun k => match k with
  | 0 => .array .int
  | 1 => .array .int
  | 2 => .array .int
  | 3 => .array .int
  | 4 => .array .int
  | 5 => .array .int
  | 6 => .int
  | 7 => .int
  | 8 => .array .int
  | 9 => .array .int
  | 10 => .int
  | 11 => .int
  | 12 => .int
  | 13 => .array .int
  | 14 => .array .int
  | 15 => .array .int
  | 16 => .array .int
  | 17 => .array .int
  | 18 => .boolean
  | 19 => .boolean
  | 20 => .array .int
  | 21 => .array .int
  | 22 => .array .int
  | 23 => .array .int
  | 24 => .array .int
  | 25 => .int
  | 26 => .array .int
  | 27 => .array .int
  | 28 => .array .int
  | _ => .array .int
abbrev wsX50 : List Cond := u_ws RX5 TX5 30
theorem nmX5 : ∀ a, a < 30 → ∀ b, b < 30 → a ≠ b → (TX5 a).2.1 ≠ (TX5 b).2.1 := by decide +kernel
theorem tyX5_ok : ∀ k, k < 30 → parseFieldDescriptor (TX5 k).2.2.1 = some (tyX5 k) := by decide +kernel
abbrev vwCl : List vw_C := [(RX0, TX0, 8), (RX1, TX1, 5), (RX2, TX2, 10), (RX3, TX3, 2), (RX4, TX4, 5), (RX5, TX5, 30)]
/-- class numbers: those of the worlds, the JDK's two, the law -/
def cnm : Nat → String := fun o => match o with
  | 0 => RX0
  | 1 => RX1
  | 2 => RX2
  | 3 => RX3
  | 4 => RX4
  | 5 => RX5
  | 6 => "java/lang/Math"
  | 7 => "java/util/Arrays"
  | _ => "KeyFingersLaw"
abbrev MRec : Type := MethodName × ByteArray × Nat × Option FieldType × Bool × Nat
/-- the methods: name, code, locals, answer, static, class -/
abbrev mJ_fill : Nat := 0
def rJ_fill : MRec := (⟨"java/util/Arrays", "fill", "([II)V"⟩, prog_10_method_103_code, 4, none, true, 7)
abbrev mM_init : Nat := 1
def rM_init : MRec := (⟨RX5, "<init>", "()V"⟩, prog_7_method_1_code, 2, none, false, 5)
abbrev mM_put : Nat := 2
def rM_put : MRec := (⟨RX5, "put", "(III)I"⟩, prog_7_method_10_code, 5, (some .int), false, 5)
abbrev mM_isHand : Nat := 3
def rM_isHand : MRec := (⟨RX5, "isHand", "(I)Z"⟩, prog_7_method_3_code, 1, (some .boolean), true, 5)
abbrev mM_within : Nat := 4
def rM_within : MRec := (⟨RX5, "within", "(III)Z"⟩, prog_7_method_2_code, 3, (some .boolean), true, 5)
abbrev mM_isMoment : Nat := 5
def rM_isMoment : MRec := (⟨RX5, "isMoment", "(I)Z"⟩, prog_7_method_4_code, 1, (some .boolean), true, 5)
abbrev mM_isKey : Nat := 6
def rM_isKey : MRec := (⟨RX5, "isKey", "(I)Z"⟩, prog_7_method_6_code, 1, (some .boolean), true, 5)
abbrev mM_lays : Nat := 7
def rM_lays : MRec := (⟨RX5, "lays", "(III)V"⟩, prog_7_method_9_code, 5, none, false, 5)
abbrev mM_isChanged : Nat := 8
def rM_isChanged : MRec := (⟨RX5, "isChanged", "()V"⟩, prog_7_method_8_code, 1, none, false, 5)
abbrev mM_mark : Nat := 9
def rM_mark : MRec := (⟨RX5, "mark", "(III)I"⟩, prog_7_method_11_code, 6, (some .int), false, 5)
abbrev mM_isFinger : Nat := 10
def rM_isFinger : MRec := (⟨RX5, "isFinger", "(I)Z"⟩, prog_7_method_5_code, 1, (some .boolean), true, 5)
abbrev mM_reach : Nat := 11
def rM_reach : MRec := (⟨RX5, "reach", "(IIIII)I"⟩, prog_7_method_12_code, 6, (some .int), false, 5)
abbrev mM_reachOf : Nat := 12
def rM_reachOf : MRec := (⟨RX5, "reachOf", "(III)I"⟩, prog_7_method_13_code, 4, (some .int), false, 5)
abbrev mM_price : Nat := 13
def rM_price : MRec := (⟨RX5, "price", "(II)I"⟩, prog_7_method_14_code, 4, (some .int), false, 5)
abbrev mM_clear : Nat := 14
def rM_clear : MRec := (⟨RX5, "clear", "(I)I"⟩, prog_7_method_15_code, 4, (some .int), false, 5)
abbrev mM_notesOf : Nat := 15
def rM_notesOf : MRec := (⟨RX5, "notesOf", "(I)I"⟩, prog_7_method_16_code, 4, (some .int), false, 5)
abbrev mM_note : Nat := 16
def rM_note : MRec := (⟨RX5, "note", "(III)I"⟩, prog_7_method_19_code, 5, (some .int), false, 5)
abbrev mM_isNote : Nat := 17
def rM_isNote : MRec := (⟨RX5, "isNote", "(II)Z"⟩, prog_7_method_17_code, 3, (some .boolean), false, 5)
abbrev mM_placeOf : Nat := 18
def rM_placeOf : MRec := (⟨RX5, "placeOf", "(II)I"⟩, prog_7_method_18_code, 5, (some .int), false, 5)
abbrev mM_isBlack : Nat := 19
def rM_isBlack : MRec := (⟨RX5, "isBlack", "(I)Z"⟩, prog_7_method_7_code, 2, (some .boolean), true, 5)
abbrev mM_costs : Nat := 20
def rM_costs : MRec := (⟨RX5, "costs", "(II)I"⟩, prog_7_method_21_code, 3, (some .int), false, 5)
abbrev mM_noteCost : Nat := 21
def rM_noteCost : MRec := (⟨RX5, "noteCost", "(II)I"⟩, prog_7_method_20_code, 4, (some .int), false, 5)
abbrev mM_step : Nat := 22
def rM_step : MRec := (⟨RX5, "step", "(IIIII)I"⟩, prog_7_method_24_code, 7, (some .int), false, 5)
abbrev mM_stepCost : Nat := 23
def rM_stepCost : MRec := (⟨RX5, "stepCost", "(IIIII)I"⟩, prog_7_method_23_code, 10, (some .int), false, 5)
abbrev mM_byReach : Nat := 24
def rM_byReach : MRec := (⟨RX5, "byReach", "(III)I"⟩, prog_7_method_22_code, 5, (some .int), false, 5)
abbrev mM_best : Nat := 25
def rM_best : MRec := (⟨RX5, "best", "(I)I"⟩, prog_7_method_50_code, 2, (some .int), false, 5)
abbrev mM_findHand : Nat := 26
def rM_findHand : MRec := (⟨RX5, "findHand", "(I)V"⟩, prog_7_method_49_code, 2, none, false, 5)
abbrev mM_leastOfHand : Nat := 27
def rM_leastOfHand : MRec := (⟨RX5, "leastOfHand", "(I)I"⟩, prog_7_method_43_code, 2, (some .int), false, 5)
abbrev mM_layNotes : Nat := 28
def rM_layNotes : MRec := (⟨RX5, "layNotes", "(I)V"⟩, prog_7_method_25_code, 4, none, false, 5)
abbrev mM_layTie : Nat := 29
def rM_layTie : MRec := (⟨RX5, "layTie", "(I)V"⟩, prog_7_method_26_code, 2, none, false, 5)
abbrev mM_doesTieHold : Nat := 30
def rM_doesTieHold : MRec := (⟨RX5, "doesTieHold", "(I)Z"⟩, prog_7_method_53_code, 2, (some .boolean), false, 5)
abbrev mM_leastRow : Nat := 31
def rM_leastRow : MRec := (⟨RX5, "leastRow", "()I"⟩, prog_7_method_42_code, 2, (some .int), false, 5)
abbrev mM_findTie : Nat := 32
def rM_findTie : MRec := (⟨RX5, "findTie", "()V"⟩, prog_7_method_40_code, 2, none, false, 5)
abbrev mM_back : Nat := 33
def rM_back : MRec := (⟨RX5, "back", "(I)V"⟩, prog_7_method_35_code, 6, none, false, 5)
abbrev mM_goingOn : Nat := 34
def rM_goingOn : MRec := (⟨RX5, "goingOn", "(III)I"⟩, prog_7_method_33_code, 4, (some .int), false, 5)
abbrev mM_isOf : Nat := 35
def rM_isOf : MRec := (⟨RX5, "isOf", "(II)Z"⟩, prog_7_method_27_code, 3, (some .boolean), false, 5)
abbrev mM_stepAt : Nat := 36
def rM_stepAt : MRec := (⟨RX5, "stepAt", "(III)I"⟩, prog_7_method_28_code, 4, (some .int), false, 5)
abbrev mM_after : Nat := 37
def rM_after : MRec := (⟨RX5, "after", "(II)I"⟩, prog_7_method_34_code, 3, (some .int), false, 5)
abbrev mM_findWith : Nat := 38
def rM_findWith : MRec := (⟨RX5, "findWith", "(I)V"⟩, prog_7_method_39_code, 4, none, false, 5)
abbrev mM_findJoint : Nat := 39
def rM_findJoint : MRec := (⟨RX5, "findJoint", "(I)V"⟩, prog_7_method_38_code, 7, none, false, 5)
abbrev mM_jointStep : Nat := 40
def rM_jointStep : MRec := (⟨RX5, "jointStep", "(III)I"⟩, prog_7_method_37_code, 4, (some .int), false, 5)
abbrev mM_isOfBoth : Nat := 41
def rM_isOfBoth : MRec := (⟨RX5, "isOfBoth", "(II)Z"⟩, prog_7_method_36_code, 3, (some .boolean), false, 5)
abbrev mM_leastStart : Nat := 42
def rM_leastStart : MRec := (⟨RX5, "leastStart", "()I"⟩, prog_7_method_47_code, 3, (some .int), false, 5)
abbrev mM_startCost : Nat := 43
def rM_startCost : MRec := (⟨RX5, "startCost", "(I)I"⟩, prog_7_method_41_code, 2, (some .int), false, 5)
abbrev mM_findFingers : Nat := 44
def rM_findFingers : MRec := (⟨RX5, "findFingers", "(I)V"⟩, prog_7_method_46_code, 5, none, false, 5)
abbrev mM_fingerBehind : Nat := 45
def rM_fingerBehind : MRec := (⟨RX5, "fingerBehind", "(II)I"⟩, prog_7_method_44_code, 4, (some .int), false, 5)
abbrev mM_findTied : Nat := 46
def rM_findTied : MRec := (⟨RX5, "findTied", "(I)V"⟩, prog_7_method_48_code, 5, none, false, 5)
abbrev mM_jointBehind : Nat := 47
def rM_jointBehind : MRec := (⟨RX5, "jointBehind", "(II)I"⟩, prog_7_method_45_code, 4, (some .int), false, 5)
abbrev mM_finger : Nat := 48
def rM_finger : MRec := (⟨RX5, "finger", "(II)I"⟩, prog_7_method_51_code, 3, (some .int), false, 5)
abbrev mM_would : Nat := 49
def rM_would : MRec := (⟨RX5, "would", "(III)I"⟩, prog_7_method_52_code, 4, (some .int), false, 5)
abbrev mM_tie : Nat := 50
def rM_tie : MRec := (⟨RX5, "tie", "(IIII)I"⟩, prog_7_method_55_code, 5, (some .int), false, 5)
abbrev mM_ties : Nat := 51
def rM_ties : MRec := (⟨RX5, "ties", "(IIII)I"⟩, prog_7_method_54_code, 5, (some .int), false, 5)
abbrev mM_untie : Nat := 52
def rM_untie : MRec := (⟨RX5, "untie", "(I)I"⟩, prog_7_method_56_code, 3, (some .int), false, 5)
abbrev mM_tied : Nat := 53
def rM_tied : MRec := (⟨RX5, "tied", "(I)I"⟩, prog_7_method_57_code, 4, (some .int), false, 5)
abbrev mM_stuck : Nat := 54
def rM_stuck : MRec := (⟨RX5, "stuck", "(I)I"⟩, prog_7_method_58_code, 3, (some .int), false, 5)
abbrev mM_plainTo : Nat := 55
def rM_plainTo : MRec := (⟨RX5, "plainTo", "(I)I"⟩, prog_7_method_32_code, 3, (some .int), false, 5)
abbrev mM_begin : Nat := 56
def rM_begin : MRec := (⟨RX5, "begin", "()V"⟩, prog_7_method_31_code, 2, none, false, 5)
abbrev mM_goesOn : Nat := 57
def rM_goesOn : MRec := (⟨RX5, "goesOn", "(IZ)V"⟩, prog_7_method_29_code, 7, none, false, 5)
abbrev mM_leastUp : Nat := 58
def rM_leastUp : MRec := (⟨RX5, "leastUp", "()I"⟩, prog_7_method_30_code, 3, (some .int), false, 5)
abbrev mM_phrase : Nat := 59
def rM_phrase : MRec := (⟨RX5, "phrase", "(IIII)I"⟩, prog_7_method_61_code, 5, (some .int), false, 5)
abbrev mM_phraseOf : Nat := 60
def rM_phraseOf : MRec := (⟨RX5, "phraseOf", "(I)I"⟩, prog_7_method_59_code, 3, (some .int), false, 5)
abbrev mM_goes : Nat := 61
def rM_goes : MRec := (⟨RX5, "goes", "(I)V"⟩, prog_7_method_60_code, 3, none, false, 5)
abbrev mM_forget : Nat := 62
def rM_forget : MRec := (⟨RX5, "forget", "(I)I"⟩, prog_7_method_62_code, 3, (some .int), false, 5)
abbrev mM_prune : Nat := 63
def rM_prune : MRec := (⟨RX5, "prune", "(I)I"⟩, prog_7_method_63_code, 5, (some .int), false, 5)
abbrev mM_name : Nat := 64
def rM_name : MRec := (⟨RX5, "name", "(I)I"⟩, prog_7_method_64_code, 2, (some .int), false, 5)
abbrev mM_echo : Nat := 65
def rM_echo : MRec := (⟨RX5, "echo", "(III)I"⟩, prog_7_method_68_code, 6, (some .int), false, 5)
abbrev mM_echoAt : Nat := 66
def rM_echoAt : MRec := (⟨RX5, "echoAt", "(II)I"⟩, prog_7_method_66_code, 5, (some .int), false, 5)
abbrev mM_isEcho : Nat := 67
def rM_isEcho : MRec := (⟨RX5, "isEcho", "(II)Z"⟩, prog_7_method_65_code, 5, (some .boolean), false, 5)
abbrev mM_likeness : Nat := 68
def rM_likeness : MRec := (⟨RX5, "likeness", "(II)I"⟩, prog_7_method_67_code, 5, (some .int), false, 5)
abbrev mM_tieEcho : Nat := 69
def rM_tieEcho : MRec := (⟨RX5, "tieEcho", "(II)I"⟩, prog_7_method_69_code, 5, (some .int), false, 5)
abbrev mM_moment : Nat := 70
def rM_moment : MRec := (⟨RX5, "moment", "(II)I"⟩, prog_7_method_71_code, 5, (some .int), false, 5)
abbrev mM_isSo : Nat := 71
def rM_isSo : MRec := (⟨RX5, "isSo", "(II)Z"⟩, prog_7_method_70_code, 6, (some .boolean), false, 5)
abbrev mM_sum : Nat := 72
def rM_sum : MRec := (⟨RX5, "sum", "()I"⟩, prog_7_method_73_code, 1, (some .int), false, 5)
abbrev mM_together : Nat := 73
def rM_together : MRec := (⟨RX5, "together", "(II)I"⟩, prog_7_method_72_code, 3, (some .int), false, 5)
abbrev mM_swap : Nat := 74
def rM_swap : MRec := (⟨RX5, "swap", "(I)I"⟩, prog_7_method_75_code, 2, (some .int), false, 5)
abbrev mM_swaps : Nat := 75
def rM_swaps : MRec := (⟨RX5, "swaps", "(I)V"⟩, prog_7_method_74_code, 4, none, false, 5)
abbrev mM_help : Nat := 76
def rM_help : MRec := (⟨RX5, "help", "(I)I"⟩, prog_7_method_77_code, 7, (some .int), false, 5)
abbrev mM_sumBehind : Nat := 77
def rM_sumBehind : MRec := (⟨RX5, "sumBehind", "(I)I"⟩, prog_7_method_76_code, 5, (some .int), false, 5)
abbrev mM_many : Nat := 78
def rM_many : MRec := (⟨RX5, "many", "(I)I"⟩, prog_7_method_80_code, 2, (some .int), false, 5)
abbrev mM_manyMarks : Nat := 79
def rM_manyMarks : MRec := (⟨RX5, "manyMarks", "()I"⟩, prog_7_method_78_code, 3, (some .int), false, 5)
abbrev mM_manyMoments : Nat := 80
def rM_manyMoments : MRec := (⟨RX5, "manyMoments", "(I)I"⟩, prog_7_method_79_code, 4, (some .int), false, 5)
abbrev mK_init : Nat := 81
def rK_init : MRec := (⟨RX4, "<init>", "()V"⟩, prog_1_method_1_code, 1, none, false, 4)
abbrev mU_init : Nat := 82
def rU_init : MRec := (⟨RX3, "<init>", "()V"⟩, prog_5_method_1_code, 1, none, false, 3)
abbrev mH_init : Nat := 83
def rH_init : MRec := (⟨RX0, "<init>", "(I)V"⟩, prog_2_method_1_code, 2, none, false, 0)
abbrev mR_init : Nat := 84
def rR_init : MRec := (⟨RX2, "<init>", "(LKeyFingers$Rules;)V"⟩, prog_4_method_1_code, 2, none, false, 2)
abbrev mP_init : Nat := 85
def rP_init : MRec := (⟨RX1, "<init>", "()V"⟩, prog_3_method_1_code, 1, none, false, 1)
abbrev mK_put : Nat := 86
def rK_put : MRec := (⟨RX4, "put", "(III)I"⟩, prog_1_method_2_code, 6, (some .int), false, 4)
abbrev mK_isHand : Nat := 87
def rK_isHand : MRec := (⟨RX4, "isHand", "(I)Z"⟩, prog_1_method_30_code, 1, (some .boolean), true, 4)
abbrev mK_isMoment : Nat := 88
def rK_isMoment : MRec := (⟨RX4, "isMoment", "(I)Z"⟩, prog_1_method_31_code, 1, (some .boolean), true, 4)
abbrev mK_isKey : Nat := 89
def rK_isKey : MRec := (⟨RX4, "isKey", "(I)Z"⟩, prog_1_method_32_code, 1, (some .boolean), true, 4)
abbrev mK_playerOf : Nat := 90
def rK_playerOf : MRec := (⟨RX4, "playerOf", "(I)LKeyFingers$Hand;"⟩, prog_1_method_36_code, 2, (some (.object "KeyFingers$Hand")), false, 4)
abbrev mH_keyAt : Nat := 91
def rH_keyAt : MRec := (⟨RX0, "keyAt", "(I)I"⟩, prog_2_method_3_code, 2, (some .int), false, 0)
abbrev mK_at : Nat := 92
def rK_at : MRec := (⟨RX4, "at", "([II)I"⟩, prog_1_method_37_code, 2, (some .int), true, 4)
abbrev mH_give : Nat := 93
def rH_give : MRec := (⟨RX0, "give", "(II)V"⟩, prog_2_method_6_code, 3, none, false, 0)
abbrev mK_store : Nat := 94
def rK_store : MRec := (⟨RX4, "store", "([III)V"⟩, prog_1_method_38_code, 3, none, true, 4)
abbrev mH_renumber : Nat := 95
def rH_renumber : MRec := (⟨RX0, "renumber", "()V"⟩, prog_2_method_8_code, 2, none, false, 0)
abbrev mK_mark : Nat := 96
def rK_mark : MRec := (⟨RX4, "mark", "(III)I"⟩, prog_1_method_3_code, 6, (some .int), false, 4)
abbrev mK_isFinger : Nat := 97
def rK_isFinger : MRec := (⟨RX4, "isFinger", "(I)Z"⟩, prog_1_method_33_code, 1, (some .boolean), true, 4)
abbrev mH_markAt : Nat := 98
def rH_markAt : MRec := (⟨RX0, "markAt", "(I)I"⟩, prog_2_method_4_code, 2, (some .int), false, 0)
abbrev mH_setMark : Nat := 99
def rH_setMark : MRec := (⟨RX0, "setMark", "(II)V"⟩, prog_2_method_5_code, 3, none, false, 0)
abbrev mK_reach : Nat := 100
def rK_reach : MRec := (⟨RX4, "reach", "(IIIII)I"⟩, prog_1_method_4_code, 6, (some .int), false, 4)
abbrev mU_setReach : Nat := 101
def rU_setReach : MRec := (⟨RX3, "setReach", "(IIIII)V"⟩, prog_5_method_6_code, 7, none, false, 3)
abbrev mU_reachPlace : Nat := 102
def rU_reachPlace : MRec := (⟨RX3, "reachPlace", "(II)I"⟩, prog_5_method_4_code, 3, (some .int), true, 3)
abbrev mK_reachOf : Nat := 103
def rK_reachOf : MRec := (⟨RX4, "reachOf", "(III)I"⟩, prog_1_method_5_code, 4, (some .int), false, 4)
abbrev mK_isBelow : Nat := 104
def rK_isBelow : MRec := (⟨RX4, "isBelow", "(II)Z"⟩, prog_1_method_29_code, 2, (some .boolean), true, 4)
abbrev mU_reachPart : Nat := 105
def rU_reachPart : MRec := (⟨RX3, "reachPart", "(III)I"⟩, prog_5_method_5_code, 4, (some .int), false, 3)
abbrev mK_price : Nat := 106
def rK_price : MRec := (⟨RX4, "price", "(II)I"⟩, prog_1_method_6_code, 4, (some .int), false, 4)
abbrev mU_priceOf : Nat := 107
def rU_priceOf : MRec := (⟨RX3, "priceOf", "(I)I"⟩, prog_5_method_2_code, 2, (some .int), false, 3)
abbrev mU_setPrice : Nat := 108
def rU_setPrice : MRec := (⟨RX3, "setPrice", "(II)V"⟩, prog_5_method_3_code, 3, none, false, 3)
abbrev mK_clear : Nat := 109
def rK_clear : MRec := (⟨RX4, "clear", "(I)I"⟩, prog_1_method_7_code, 4, (some .int), false, 4)
abbrev mH_noteCount : Nat := 110
def rH_noteCount : MRec := (⟨RX0, "noteCount", "()I"⟩, prog_2_method_9_code, 1, (some .int), false, 0)
abbrev mH_restAlways : Nat := 111
def rH_restAlways : MRec := (⟨RX0, "restAlways", "()V"⟩, prog_2_method_7_code, 1, none, false, 0)
abbrev mH_dropTie : Nat := 112
def rH_dropTie : MRec := (⟨RX0, "dropTie", "()V"⟩, prog_2_method_15_code, 1, none, false, 0)
abbrev mK_note : Nat := 113
def rK_note : MRec := (⟨RX4, "note", "(III)I"⟩, prog_1_method_8_code, 5, (some .int), false, 4)
abbrev mK_isNote : Nat := 114
def rK_isNote : MRec := (⟨RX4, "isNote", "(II)Z"⟩, prog_1_method_35_code, 3, (some .boolean), false, 4)
abbrev mH_momentOf : Nat := 115
def rH_momentOf : MRec := (⟨RX0, "momentOf", "(I)I"⟩, prog_2_method_10_code, 2, (some .int), false, 0)
abbrev mH_keyOf : Nat := 116
def rH_keyOf : MRec := (⟨RX0, "keyOf", "(I)I"⟩, prog_2_method_11_code, 2, (some .int), false, 0)
abbrev mH_markOf : Nat := 117
def rH_markOf : MRec := (⟨RX0, "markOf", "(I)I"⟩, prog_2_method_12_code, 2, (some .int), false, 0)
abbrev mK_isBlack : Nat := 118
def rK_isBlack : MRec := (⟨RX4, "isBlack", "(I)Z"⟩, prog_1_method_34_code, 1, (some .boolean), true, 4)
abbrev mK_costs : Nat := 119
def rK_costs : MRec := (⟨RX4, "costs", "(II)I"⟩, prog_1_method_9_code, 3, (some .int), false, 4)
abbrev mU_noteCost : Nat := 120
def rU_noteCost : MRec := (⟨RX3, "noteCost", "(II)I"⟩, prog_5_method_7_code, 3, (some .int), false, 3)
abbrev mK_step : Nat := 121
def rK_step : MRec := (⟨RX4, "step", "(IIIII)I"⟩, prog_1_method_10_code, 6, (some .int), false, 4)
abbrev mH_side : Nat := 122
def rH_side : MRec := (⟨RX0, "side", "()I"⟩, prog_2_method_2_code, 1, (some .int), false, 0)
abbrev mU_stepCost : Nat := 123
def rU_stepCost : MRec := (⟨RX3, "stepCost", "(IIIII)I"⟩, prog_5_method_8_code, 11, (some .int), false, 3)
abbrev mU_reachCost : Nat := 124
def rU_reachCost : MRec := (⟨RX3, "reachCost", "(II)I"⟩, prog_5_method_9_code, 4, (some .int), false, 3)
abbrev mK_best : Nat := 125
def rK_best : MRec := (⟨RX4, "best", "(I)I"⟩, prog_1_method_11_code, 2, (some .int), false, 4)
abbrev mR_leastCost : Nat := 126
def rR_leastCost : MRec := (⟨RX2, "leastCost", "(LKeyFingers$Hand;II)I"⟩, prog_4_method_2_code, 5, (some .int), false, 2)
abbrev mR_load : Nat := 127
def rR_load : MRec := (⟨RX2, "load", "(LKeyFingers$Hand;II)V"⟩, prog_4_method_6_code, 5, none, false, 2)
abbrev mH_firstTied : Nat := 128
def rH_firstTied : MRec := (⟨RX0, "firstTied", "()I"⟩, prog_2_method_18_code, 1, (some .int), false, 0)
abbrev mH_secondTied : Nat := 129
def rH_secondTied : MRec := (⟨RX0, "secondTied", "()I"⟩, prog_2_method_19_code, 1, (some .int), false, 0)
abbrev mH_tiedLength : Nat := 130
def rH_tiedLength : MRec := (⟨RX0, "tiedLength", "()I"⟩, prog_2_method_20_code, 1, (some .int), false, 0)
abbrev mR_loadNote : Nat := 131
def rR_loadNote : MRec := (⟨RX2, "loadNote", "(III)V"⟩, prog_4_method_7_code, 6, none, false, 2)
abbrev mR_loadSteps : Nat := 132
def rR_loadSteps : MRec := (⟨RX2, "loadSteps", "(IIII)V"⟩, prog_4_method_8_code, 8, none, false, 2)
abbrev mH_tieHolds : Nat := 133
def rH_tieHolds : MRec := (⟨RX0, "tieHolds", "()Z"⟩, prog_2_method_17_code, 1, (some .boolean), false, 0)
abbrev mR_sweep : Nat := 134
def rR_sweep : MRec := (⟨RX2, "sweep", "(II)V"⟩, prog_4_method_9_code, 6, none, false, 2)
abbrev mR_costBehind : Nat := 135
def rR_costBehind : MRec := (⟨RX2, "costBehind", "(II)I"⟩, prog_4_method_10_code, 7, (some .int), false, 2)
abbrev mR_answerOfTable : Nat := 136
def rR_answerOfTable : MRec := (⟨RX2, "answerOfTable", "()I"⟩, prog_4_method_14_code, 3, (some .int), false, 2)
abbrev mR_fold : Nat := 137
def rR_fold : MRec := (⟨RX2, "fold", "()V"⟩, prog_4_method_11_code, 3, none, false, 2)
abbrev mR_addFrom : Nat := 138
def rR_addFrom : MRec := (⟨RX2, "addFrom", "([IIII)V"⟩, prog_4_method_12_code, 5, none, true, 2)
abbrev mR_leadTo : Nat := 139
def rR_leadTo : MRec := (⟨RX2, "leadTo", "(I)V"⟩, prog_4_method_13_code, 3, none, false, 2)
abbrev mK_finger : Nat := 140
def rK_finger : MRec := (⟨RX4, "finger", "(II)I"⟩, prog_1_method_12_code, 3, (some .int), false, 4)
abbrev mR_bestFinger : Nat := 141
def rR_bestFinger : MRec := (⟨RX2, "bestFinger", "(LKeyFingers$Hand;I)I"⟩, prog_4_method_4_code, 4, (some .int), false, 2)
abbrev mR_follow : Nat := 142
def rR_follow : MRec := (⟨RX2, "follow", "(II)V"⟩, prog_4_method_15_code, 9, none, false, 2)
abbrev mK_would : Nat := 143
def rK_would : MRec := (⟨RX4, "would", "(III)I"⟩, prog_1_method_13_code, 4, (some .int), false, 4)
abbrev mK_tie : Nat := 144
def rK_tie : MRec := (⟨RX4, "tie", "(IIII)I"⟩, prog_1_method_14_code, 6, (some .int), false, 4)
abbrev mH_setTie : Nat := 145
def rH_setTie : MRec := (⟨RX0, "setTie", "(III)V"⟩, prog_2_method_14_code, 4, none, false, 0)
abbrev mK_untie : Nat := 146
def rK_untie : MRec := (⟨RX4, "untie", "(I)I"⟩, prog_1_method_15_code, 4, (some .int), false, 4)
abbrev mH_hasTie : Nat := 147
def rH_hasTie : MRec := (⟨RX0, "hasTie", "()Z"⟩, prog_2_method_16_code, 1, (some .boolean), false, 0)
abbrev mK_tied : Nat := 148
def rK_tied : MRec := (⟨RX4, "tied", "(I)I"⟩, prog_1_method_16_code, 4, (some .int), false, 4)
abbrev mR_untiedCost : Nat := 149
def rR_untiedCost : MRec := (⟨RX2, "untiedCost", "(LKeyFingers$Hand;)I"⟩, prog_4_method_3_code, 2, (some .int), false, 2)
abbrev mK_stuck : Nat := 150
def rK_stuck : MRec := (⟨RX4, "stuck", "(I)I"⟩, prog_1_method_17_code, 3, (some .int), false, 4)
abbrev mR_firstBlocked : Nat := 151
def rR_firstBlocked : MRec := (⟨RX2, "firstBlocked", "(LKeyFingers$Hand;)I"⟩, prog_4_method_5_code, 4, (some .int), false, 2)
abbrev mK_phrase : Nat := 152
def rK_phrase : MRec := (⟨RX4, "phrase", "(IIII)I"⟩, prog_1_method_18_code, 5, (some .int), false, 4)
abbrev mP_come : Nat := 153
def rP_come : MRec := (⟨RX1, "come", "(IIII)V"⟩, prog_3_method_8_code, 6, none, false, 1)
abbrev mP_placeOf : Nat := 154
def rP_placeOf : MRec := (⟨RX1, "placeOf", "(I)I"⟩, prog_3_method_7_code, 3, (some .int), false, 1)
abbrev mP_drop : Nat := 155
def rP_drop : MRec := (⟨RX1, "drop", "(I)V"⟩, prog_3_method_9_code, 3, none, false, 1)
abbrev mP_size : Nat := 156
def rP_size : MRec := (⟨RX1, "size", "()I"⟩, prog_3_method_2_code, 1, (some .int), false, 1)
abbrev mK_forget : Nat := 157
def rK_forget : MRec := (⟨RX4, "forget", "(I)I"⟩, prog_1_method_19_code, 3, (some .int), false, 4)
abbrev mK_prune : Nat := 158
def rK_prune : MRec := (⟨RX4, "prune", "(I)I"⟩, prog_1_method_20_code, 2, (some .int), false, 4)
abbrev mP_dropLonger : Nat := 159
def rP_dropLonger : MRec := (⟨RX1, "dropLonger", "(II)I"⟩, prog_3_method_10_code, 5, (some .int), false, 1)
abbrev mK_name : Nat := 160
def rK_name : MRec := (⟨RX4, "name", "(I)I"⟩, prog_1_method_21_code, 2, (some .int), false, 4)
abbrev mP_nameAt : Nat := 161
def rP_nameAt : MRec := (⟨RX1, "nameAt", "(I)I"⟩, prog_3_method_3_code, 2, (some .int), false, 1)
abbrev mK_echo : Nat := 162
def rK_echo : MRec := (⟨RX4, "echo", "(III)I"⟩, prog_1_method_22_code, 6, (some .int), false, 4)
abbrev mK_echoStart : Nat := 163
def rK_echoStart : MRec := (⟨RX4, "echoStart", "(II)I"⟩, prog_1_method_42_code, 8, (some .int), false, 4)
abbrev mP_handAt : Nat := 164
def rP_handAt : MRec := (⟨RX1, "handAt", "(I)I"⟩, prog_3_method_4_code, 2, (some .int), false, 1)
abbrev mP_startAt : Nat := 165
def rP_startAt : MRec := (⟨RX1, "startAt", "(I)I"⟩, prog_3_method_5_code, 2, (some .int), false, 1)
abbrev mP_lengthAt : Nat := 166
def rP_lengthAt : MRec := (⟨RX1, "lengthAt", "(I)I"⟩, prog_3_method_6_code, 2, (some .int), false, 1)
abbrev mH_isEcho : Nat := 167
def rH_isEcho : MRec := (⟨RX0, "isEcho", "(III)Z"⟩, prog_2_method_21_code, 6, (some .boolean), false, 0)
abbrev mH_likeness : Nat := 168
def rH_likeness : MRec := (⟨RX0, "likeness", "(III)I"⟩, prog_2_method_22_code, 6, (some .int), false, 0)
abbrev mK_tieEcho : Nat := 169
def rK_tieEcho : MRec := (⟨RX4, "tieEcho", "(II)I"⟩, prog_1_method_23_code, 5, (some .int), false, 4)
abbrev mK_moment : Nat := 170
def rK_moment : MRec := (⟨RX4, "moment", "(II)I"⟩, prog_1_method_24_code, 5, (some .int), false, 4)
abbrev mK_kindOf : Nat := 171
def rK_kindOf : MRec := (⟨RX4, "kindOf", "(I)I"⟩, prog_1_method_39_code, 4, (some .int), false, 4)
abbrev mK_sum : Nat := 172
def rK_sum : MRec := (⟨RX4, "sum", "()I"⟩, prog_1_method_25_code, 3, (some .int), false, 4)
abbrev mK_swap : Nat := 173
def rK_swap : MRec := (⟨RX4, "swap", "(I)I"⟩, prog_1_method_26_code, 2, (some .int), false, 4)
abbrev mK_exchange : Nat := 174
def rK_exchange : MRec := (⟨RX4, "exchange", "(I)V"⟩, prog_1_method_41_code, 4, none, false, 4)
abbrev mK_help : Nat := 175
def rK_help : MRec := (⟨RX4, "help", "(I)I"⟩, prog_1_method_27_code, 9, (some .int), false, 4)
abbrev mK_many : Nat := 176
def rK_many : MRec := (⟨RX4, "many", "(I)I"⟩, prog_1_method_28_code, 2, (some .int), false, 4)
abbrev mH_markCount : Nat := 177
def rH_markCount : MRec := (⟨RX0, "markCount", "()I"⟩, prog_2_method_13_code, 3, (some .int), false, 0)
abbrev mK_countOf : Nat := 178
def rK_countOf : MRec := (⟨RX4, "countOf", "(I)I"⟩, prog_1_method_40_code, 4, (some .int), false, 4)
abbrev mL_law : Nat := 179
def rL_law : MRec := (x, code, maxLocals, ret, true, 8)
def mtb_0 : List MRec := [rJ_fill, rM_init, rM_put, rM_isHand, rM_within, rM_isMoment, rM_isKey, rM_lays, rM_isChanged, rM_mark, rM_isFinger, rM_reach]
def mtb_1 : List MRec := [rM_reachOf, rM_price, rM_clear, rM_notesOf, rM_note, rM_isNote, rM_placeOf, rM_isBlack, rM_costs, rM_noteCost, rM_step, rM_stepCost]
def mtb_2 : List MRec := [rM_byReach, rM_best, rM_findHand, rM_leastOfHand, rM_layNotes, rM_layTie, rM_doesTieHold, rM_leastRow, rM_findTie, rM_back, rM_goingOn, rM_isOf]
def mtb_3 : List MRec := [rM_stepAt, rM_after, rM_findWith, rM_findJoint, rM_jointStep, rM_isOfBoth, rM_leastStart, rM_startCost, rM_findFingers, rM_fingerBehind, rM_findTied, rM_jointBehind]
def mtb_4 : List MRec := [rM_finger, rM_would, rM_tie, rM_ties, rM_untie, rM_tied, rM_stuck, rM_plainTo, rM_begin, rM_goesOn, rM_leastUp, rM_phrase]
def mtb_5 : List MRec := [rM_phraseOf, rM_goes, rM_forget, rM_prune, rM_name, rM_echo, rM_echoAt, rM_isEcho, rM_likeness, rM_tieEcho, rM_moment, rM_isSo]
def mtb_6 : List MRec := [rM_sum, rM_together, rM_swap, rM_swaps, rM_help, rM_sumBehind, rM_many, rM_manyMarks, rM_manyMoments, rK_init, rU_init, rH_init]
def mtb_7 : List MRec := [rR_init, rP_init, rK_put, rK_isHand, rK_isMoment, rK_isKey, rK_playerOf, rH_keyAt, rK_at, rH_give, rK_store, rH_renumber]
def mtb_8 : List MRec := [rK_mark, rK_isFinger, rH_markAt, rH_setMark, rK_reach, rU_setReach, rU_reachPlace, rK_reachOf, rK_isBelow, rU_reachPart, rK_price, rU_priceOf]
def mtb_9 : List MRec := [rU_setPrice, rK_clear, rH_noteCount, rH_restAlways, rH_dropTie, rK_note, rK_isNote, rH_momentOf, rH_keyOf, rH_markOf, rK_isBlack, rK_costs]
def mtb_10 : List MRec := [rU_noteCost, rK_step, rH_side, rU_stepCost, rU_reachCost, rK_best, rR_leastCost, rR_load, rH_firstTied, rH_secondTied, rH_tiedLength, rR_loadNote]
def mtb_11 : List MRec := [rR_loadSteps, rH_tieHolds, rR_sweep, rR_costBehind, rR_answerOfTable, rR_fold, rR_addFrom, rR_leadTo, rK_finger, rR_bestFinger, rR_follow, rK_would]
def mtb_12 : List MRec := [rK_tie, rH_setTie, rK_untie, rH_hasTie, rK_tied, rR_untiedCost, rK_stuck, rR_firstBlocked, rK_phrase, rP_come, rP_placeOf, rP_drop]
def mtb_13 : List MRec := [rP_size, rK_forget, rK_prune, rP_dropLonger, rK_name, rP_nameAt, rK_echo, rK_echoStart, rP_handAt, rP_startAt, rP_lengthAt, rH_isEcho]
def mtb_14 : List MRec := [rH_likeness, rK_tieEcho, rK_moment, rK_kindOf, rK_sum, rK_swap, rK_exchange, rK_help, rK_many, rH_markCount, rK_countOf]
def mtb0 : List MRec := mtb_0 ++ (mtb_1 ++ (mtb_2 ++ (mtb_3 ++ (mtb_4 ++ (mtb_5 ++ (mtb_6 ++ (mtb_7 ++ (mtb_8 ++ (mtb_9 ++ (mtb_10 ++ (mtb_11 ++ (mtb_12 ++ (mtb_13 ++ (mtb_14))))))))))))))
def mtb : List MRec := mtb0 ++ [rL_law]
def flds : Nat → List (Nat × Nat × Nat × Int × Bool × Nat) := fun o => match o with
  | 0 => [(21, 0, 0, 0, true, 0), (9, 0, 1, 1, true, 2), (15, 0, 2, 2, true, 2), (18, 0, 3, 3, true, 2), (46, 0, 4, 4, false, 0), (52, 0, 5, 5, false, 0), (55, 0, 6, 6, false, 0), (58, 0, 7, 7, false, 0)]
  | 1 => [(9, 1, 0, 0, true, 2), (15, 1, 1, 1, true, 2), (18, 1, 2, 2, true, 2), (21, 1, 3, 3, true, 2), (24, 1, 4, 4, false, 0)]
  | 2 => [(27, 2, 0, 0, true, 2), (9, 2, 1, 1, true, 2), (15, 2, 2, 2, true, 2), (18, 2, 3, 3, true, 2), (21, 2, 4, 4, true, 2), (24, 2, 5, 5, true, 2), (41, 2, 6, 6, false, 0), (66, 2, 7, 7, false, 0), (53, 2, 8, 8, false, 0), (56, 2, 9, 9, false, 0)]
  | 3 => [(18, 3, 0, 0, true, 2), (26, 3, 1, 1, true, 2)]
  | 4 => [(10, 4, 0, 0, true, 2), (21, 4, 1, 1, true, 2), (25, 4, 2, 2, true, 2), (33, 4, 3, 3, true, 2), (40, 4, 4, 4, true, 2)]
  | 5 => [(7, 5, 0, 0, true, 2), (13, 5, 1, 1, true, 2), (16, 5, 2, 2, true, 2), (19, 5, 3, 3, true, 2), (22, 5, 4, 4, true, 2), (25, 5, 5, 5, true, 2), (134, 5, 6, 6, false, 0), (138, 5, 7, 7, false, 0), (28, 5, 8, 8, true, 2), (31, 5, 9, 9, true, 2), (141, 5, 10, 10, false, 0), (144, 5, 11, 11, false, 0), (150, 5, 12, 12, false, 0), (34, 5, 13, 13, true, 2), (37, 5, 14, 14, true, 2), (40, 5, 15, 15, true, 2), (43, 5, 16, 16, true, 2), (46, 5, 17, 17, true, 2), (80, 5, 18, 18, false, 1), (84, 5, 19, 19, false, 1), (49, 5, 20, 20, true, 2), (52, 5, 21, 21, true, 2), (55, 5, 22, 22, true, 2), (58, 5, 23, 23, true, 2), (61, 5, 24, 24, true, 2), (235, 5, 25, 25, false, 0), (64, 5, 26, 26, true, 2), (67, 5, 27, 27, true, 2), (70, 5, 28, 28, true, 2), (73, 5, 29, 29, true, 2)]
  | _ => []
def calls : Nat → List (Nat × Nat × Nat × Bool × Bool × Bool × Nat) := fun o => match o with
  | 0 => [(25, 0, 2, true, false, false, 7), (31, 92, 2, true, true, false, 4), (39, 91, 2, false, false, false, 0), (35, 94, 3, true, true, false, 4), (43, 95, 1, false, false, false, 0), (49, 112, 1, false, false, false, 0), (61, 116, 2, false, false, false, 0), (64, 118, 1, true, true, false, 4)]
  | 1 => [(32, 154, 2, false, false, false, 1), (28, 92, 2, true, true, false, 4), (36, 155, 2, false, false, false, 1), (40, 94, 3, true, true, false, 4)]
  | 2 => [(31, 127, 4, false, false, false, 2), (84, 110, 1, false, false, false, 0), (87, 128, 1, false, false, false, 0), (90, 129, 1, false, false, false, 0), (93, 130, 1, false, false, false, 0), (96, 116, 2, false, false, false, 0), (100, 117, 2, false, false, false, 0), (103, 131, 4, false, false, false, 2), (114, 120, 3, false, false, false, 3), (73, 94, 3, true, true, false, 4), (107, 122, 1, false, false, false, 0), (110, 132, 5, false, false, false, 2), (121, 123, 6, false, false, false, 3), (35, 133, 1, false, false, false, 0), (45, 134, 3, false, false, false, 2), (69, 92, 2, true, true, false, 4), (125, 135, 3, false, false, false, 2), (49, 136, 1, false, false, false, 2), (59, 137, 1, false, false, false, 2), (133, 138, 4, true, false, false, 2), (62, 139, 2, false, false, false, 2), (77, 126, 4, false, false, false, 2), (81, 142, 3, false, false, false, 2)]
  | 3 => [(37, 102, 2, true, false, false, 3), (33, 94, 3, true, true, false, 4), (29, 92, 2, true, true, false, 4), (41, 118, 1, true, true, false, 4), (57, 124, 3, false, false, false, 3)]
  | 4 => [(9, 82, 1, false, true, true, 3), (18, 83, 2, false, false, true, 0), (30, 84, 2, false, false, true, 2), (39, 85, 1, false, true, true, 1), (44, 87, 1, true, false, false, 4), (48, 88, 1, true, false, false, 4), (51, 89, 1, true, false, false, 4), (54, 90, 2, false, false, false, 4), (58, 91, 2, false, false, false, 0), (62, 93, 3, false, false, false, 0), (66, 97, 1, true, false, false, 4), (69, 98, 2, false, false, false, 0), (72, 99, 3, false, false, false, 0), (75, 101, 6, false, false, false, 3), (79, 104, 2, true, false, false, 4), (83, 105, 4, false, false, false, 3), (87, 107, 2, false, false, false, 3), (90, 108, 3, false, false, false, 3), (93, 110, 1, false, false, false, 0), (97, 111, 1, false, false, false, 0), (100, 114, 3, false, false, false, 4), (103, 115, 2, false, false, false, 0), (106, 116, 2, false, false, false, 0), (109, 117, 2, false, false, false, 0), (112, 118, 1, true, false, false, 4), (115, 120, 3, false, false, false, 3), (119, 122, 1, false, false, false, 0), (122, 123, 6, false, false, false, 3), (126, 126, 4, false, false, false, 2), (130, 141, 3, false, false, false, 2), (134, 145, 4, false, false, false, 0), (138, 133, 1, false, false, false, 0), (142, 147, 1, false, false, false, 0), (145, 112, 1, false, false, false, 0), (148, 149, 2, false, false, false, 2), (152, 151, 2, false, false, false, 2), (155, 153, 5, false, false, false, 1), (159, 156, 1, false, false, false, 1), (162, 154, 2, false, false, false, 1), (165, 155, 2, false, false, false, 1), (168, 159, 3, false, false, false, 1), (171, 161, 2, false, false, false, 1), (174, 163, 3, false, false, false, 4), (177, 164, 2, false, false, false, 1), (180, 165, 2, false, false, false, 1), (183, 166, 2, false, false, false, 1), (205, 167, 4, false, false, false, 0), (186, 168, 4, false, false, false, 0), (189, 171, 2, false, false, false, 4), (192, 174, 2, false, false, false, 4), (195, 172, 1, false, false, false, 4), (199, 177, 1, false, false, false, 0), (202, 178, 2, false, false, false, 4)]
  | 5 => [(87, 3, 1, true, false, false, 5), (76, 4, 3, true, false, false, 5), (91, 5, 1, true, false, false, 5), (94, 6, 1, true, false, false, 5), (97, 7, 4, false, false, false, 5), (101, 8, 1, false, false, false, 5), (104, 10, 1, true, false, false, 5), (107, 15, 2, false, false, false, 5), (111, 17, 3, false, false, false, 5), (115, 18, 3, false, false, false, 5), (119, 19, 1, true, false, false, 5), (122, 21, 3, false, false, false, 5), (130, 23, 6, false, false, false, 5), (126, 24, 4, false, false, false, 5), (225, 26, 2, false, false, false, 5), (219, 27, 2, false, false, false, 5), (198, 28, 2, false, false, false, 5), (201, 29, 2, false, false, false, 5), (147, 30, 2, false, false, false, 5), (204, 31, 1, false, false, false, 5), (192, 32, 1, false, false, false, 5), (182, 33, 2, false, false, false, 5), (170, 34, 4, false, false, false, 5), (156, 35, 3, false, false, false, 5), (153, 36, 4, false, false, false, 5), (173, 37, 3, false, false, false, 5), (189, 38, 2, false, false, false, 5), (186, 39, 2, false, false, false, 5), (179, 40, 4, false, false, false, 5), (176, 41, 3, false, false, false, 5), (195, 42, 1, false, false, false, 5), (207, 43, 2, false, false, false, 5), (222, 44, 2, false, false, false, 5), (210, 45, 3, false, false, false, 5), (213, 46, 2, false, false, false, 5), (216, 47, 3, false, false, false, 5), (228, 51, 5, false, false, false, 5), (232, 55, 2, false, false, false, 5), (159, 56, 1, false, false, false, 5), (162, 57, 3, false, false, false, 5), (166, 58, 1, false, false, false, 5), (238, 60, 2, false, false, false, 5), (241, 61, 2, false, false, false, 5), (247, 66, 3, false, false, false, 5), (244, 67, 3, false, false, false, 5), (250, 68, 3, false, false, false, 5), (253, 71, 3, false, false, false, 5), (256, 73, 3, false, false, false, 5), (259, 75, 2, false, false, false, 5), (262, 72, 1, false, false, false, 5), (265, 77, 2, false, false, false, 5), (268, 79, 1, false, false, false, 5), (271, 80, 2, false, false, false, 5)]
  | 8 => [(9, 81, 1, false, false, true, 4), (13, 86, 4, false, false, false, 4), (18, 96, 4, false, false, false, 4), (22, 100, 6, false, false, false, 4), (27, 103, 4, false, false, false, 4), (31, 106, 3, false, false, false, 4), (36, 109, 2, false, false, false, 4), (41, 113, 4, false, false, false, 4), (45, 119, 3, false, false, false, 4), (49, 121, 6, false, false, false, 4), (53, 125, 2, false, false, false, 4), (57, 140, 3, false, false, false, 4), (61, 143, 4, false, false, false, 4), (65, 144, 5, false, false, false, 4), (70, 146, 2, false, false, false, 4), (74, 148, 2, false, false, false, 4), (78, 150, 2, false, false, false, 4), (82, 152, 5, false, false, false, 4), (86, 157, 2, false, false, false, 4), (90, 158, 2, false, false, false, 4), (94, 160, 2, false, false, false, 4), (98, 162, 4, false, false, false, 4), (102, 169, 3, false, false, false, 4), (106, 170, 3, false, false, false, 4), (110, 172, 1, false, false, false, 4), (115, 173, 2, false, false, false, 4), (119, 175, 2, false, false, false, 4), (123, 176, 2, false, false, false, 4), (12, 1, 1, false, false, true, 5), (17, 2, 4, false, false, false, 5), (21, 9, 4, false, false, false, 5), (26, 11, 6, false, false, false, 5), (30, 12, 4, false, false, false, 5), (35, 13, 3, false, false, false, 5), (40, 14, 2, false, false, false, 5), (44, 16, 4, false, false, false, 5), (48, 20, 3, false, false, false, 5), (52, 22, 6, false, false, false, 5), (56, 25, 2, false, false, false, 5), (60, 48, 3, false, false, false, 5), (64, 49, 4, false, false, false, 5), (69, 50, 5, false, false, false, 5), (73, 52, 2, false, false, false, 5), (77, 53, 2, false, false, false, 5), (81, 54, 2, false, false, false, 5), (85, 59, 5, false, false, false, 5), (89, 62, 2, false, false, false, 5), (93, 63, 2, false, false, false, 5), (97, 64, 2, false, false, false, 5), (101, 65, 4, false, false, false, 5), (105, 69, 3, false, false, false, 5), (109, 70, 3, false, false, false, 5), (114, 72, 1, false, false, false, 5), (118, 74, 2, false, false, false, 5), (122, 76, 2, false, false, false, 5), (126, 78, 2, false, false, false, 5)]
  | _ => []
def consts : Nat → List (Nat × Int) := fun o => match o with
  | 2 => [(120, 100000)]
  | 4 => [(198, 100000)]
  | 5 => [(125, 1000000)]
  | _ => []
def news : Nat → List (Nat × Nat) := fun o => match o with
  | 4 => [(7, 3), (16, 0), (28, 2), (37, 1)]
  | 8 => [(7, 4), (10, 5)]
  | _ => []
def objs : Nat → List (Nat) := fun o => match o with
  | 0 => [3]
  | 1 => [3]
  | 2 => [3]
  | 3 => [3]
  | 4 => [1]
  | 5 => [1]
  | _ => []
def maths : Nat → List (Nat × Nat) := fun o => match o with
  | 2 => [(128, 1)]
  | 3 => [(45, 0), (51, 1), (54, 2)]
  | _ => []
def nests : List (String × Nat × MethodName × String) := [("KeyFingers", 9, ⟨"KeyFingers$Rules", "<init>", "()V"⟩, "KeyFingers"), ("KeyFingers", 39, ⟨"KeyFingers$Phrases", "<init>", "()V"⟩, "KeyFingers"), ("KeyFingers$Hand", 31, ⟨"KeyFingers", "at", "([II)I"⟩, "KeyFingers"), ("KeyFingers$Hand", 35, ⟨"KeyFingers", "store", "([III)V"⟩, "KeyFingers"), ("KeyFingers$Rules", 33, ⟨"KeyFingers", "store", "([III)V"⟩, "KeyFingers"), ("KeyFingers$Rules", 29, ⟨"KeyFingers", "at", "([II)I"⟩, "KeyFingers"), ("KeyFingers$Rules", 41, ⟨"KeyFingers", "isBlack", "(I)Z"⟩, "KeyFingers"), ("KeyFingers$Rows", 73, ⟨"KeyFingers", "store", "([III)V"⟩, "KeyFingers"), ("KeyFingers$Rows", 69, ⟨"KeyFingers", "at", "([II)I"⟩, "KeyFingers"), ("KeyFingers$Phrases", 28, ⟨"KeyFingers", "at", "([II)I"⟩, "KeyFingers"), ("KeyFingers$Phrases", 40, ⟨"KeyFingers", "store", "([III)V"⟩, "KeyFingers"), ("KeyFingers$Hand", 64, ⟨"KeyFingers", "isBlack", "(I)Z"⟩, "KeyFingers")]
/-- a method's words -/
def wMc (r : MRec) : Cond := .code r.1 r.2.1 r.2.2.1 r.2.2.2.1
def wM (r : MRec) : List Cond := .initialized r.1.cls :: (if r.2.2.2.2.1 then [.static r.1] else .instanceMethod r.1 :: (if r.1.name = "<init>" then [] else [.selects r.1.cls r.1 r.1]))
def wF (o : Nat) (e : Nat × Nat × Nat × Int × Bool × Nat) : List Cond := match vwCl[e.2.1]? with
  | some (C, Tt, N) => [.fieldLink (cnm o) e.1 (Tt e.2.2.1).1 (Tt e.2.2.1).2.1 (Tt e.2.2.1).2.2.1]
  | none => []
def wC (o : Nat) (e : Nat × Nat × Nat × Bool × Bool × Bool × Nat) : List Cond := match mtb[e.2.1]? with
  | some r => if e.2.2.2.2.1 then [] else [.methodLink (cnm o) e.1 r.1]
  | none => []
def wK (o : Nat) (e : Nat × Int) : List Cond := [.constant (cnm o) e.1 (Int32.ofInt e.2)]
def wN (o : Nat) (e : Nat × Nat) : List Cond := match vwCl[e.2]? with
  | some (C, Tt, N) => [.classLink (cnm o) e.1 C, .instantiable C N, .initialized C]
  | none => []
def wO (o : Nat) (e : Nat) : List Cond := [.methodLink (cnm o) e objectInit]
def mjn : Nat → MethodName := fun k => match k with
  | 0 => Lib.Math.abs.name
  | 1 => Lib.Math.min.name
  | _ => Lib.Math.max.name
def wJ (o : Nat) (e : Nat × Nat) : List Cond := [.methodLink (cnm o) e.1 (mjn e.2), .static (mjn e.2)]
def wU (q : vw_C) : List Cond := u_ws q.1 q.2.1 q.2.2
def nCl : Nat := 9
def MW0 : List Cond := mtb0.map wMc
def MW1 : List Cond := mtb0.flatMap wM
def MW2 : List Cond := (List.range nCl).flatMap (fun o => (flds o).flatMap (wF o))
def MW3 : List Cond := (List.range nCl).flatMap (fun o => (calls o).flatMap (wC o))
def MW5 : List Cond := (List.range nCl).flatMap (fun o => (maths o).flatMap (wJ o)) ++ [.initialized "java/lang/Math", .code Lib.Math.abs.name Lib.Math.abs.code 1 (some .int), .code Lib.Math.min.name Lib.Math.min.code 2 (some .int), .code Lib.Math.max.name Lib.Math.max.code 2 (some .int)]
def MW4 : List Cond := (List.range nCl).flatMap (fun o => (consts o).flatMap (wK o)) ++ (List.range nCl).flatMap (fun o => (news o).flatMap (wN o)) ++ (List.range nCl).flatMap (fun o => (objs o).flatMap (wO o)) ++ vwCl.flatMap wU ++ MW5 ++ [.instanceMethod objectInit, .code objectInit ⟨#[0xb1]⟩ 1 none, .arrayClass .int, .methodLink "KeyFingers$Rules" 13 ⟨"[I", "clone", "()Ljava/lang/Object;"⟩, .sameMethod "[I" "java/lang/Object" "clone" "()Ljava/lang/Object;", .native ⟨"java/lang/Object", "clone", "()Ljava/lang/Object;"⟩, .instanceMethod ⟨"java/lang/Object", "clone", "()Ljava/lang/Object;"⟩, .selects "[I" ⟨"[I", "clone", "()Ljava/lang/Object;"⟩ ⟨"java/lang/Object", "clone", "()Ljava/lang/Object;"⟩, .classLink "KeyFingers$Rules" 14 "[I"]
def MW : List Cond := MW0 ++ (MW1 ++ (MW2 ++ (MW3 ++ MW4)))
theorem goodIn_cons {big ws : List Cond} {r : MRec} (h : wMc r ∈ big) (k : GoodIn big ws) : GoodIn big (wMc r :: ws) := fun w hw => (List.mem_cons.mp hw).elim (fun e => e ▸ ⟨h, Or.inl rfl⟩) (k w)
theorem goodIn_nil {big : List Cond} : GoodIn big [] := fun _ h => absurd h List.not_mem_nil
theorem tb_1 {w : Cond} (h : w ∈ tables_1_1) : w ∈ lw_tbl := List.mem_append_right _ (List.mem_append_left _ h)
theorem tb_2 {w : Cond} (h : w ∈ tables_1_2) : w ∈ lw_tbl := List.mem_append_right _ (List.mem_append_right _ (List.mem_append_left _ h))
theorem tb_3 {w : Cond} (h : w ∈ tables_1_3) : w ∈ lw_tbl := List.mem_append_right _ (List.mem_append_right _ (List.mem_append_right _ (List.mem_append_left _ h)))
theorem tb_4 {w : Cond} (h : w ∈ tables_1_4) : w ∈ lw_tbl := List.mem_append_right _ (List.mem_append_right _ (List.mem_append_right _ (List.mem_append_right _ h)))
set_option maxRecDepth 100000 in
theorem cwM_reach : wMc rM_reach ∈ lw_tbl := tb_3 (List.mem_of_getElem? (i := 198) rfl)
set_option maxRecDepth 100000 in
theorem cwM_isFinger : wMc rM_isFinger ∈ lw_tbl := tb_3 (List.mem_of_getElem? (i := 194) rfl)
set_option maxRecDepth 100000 in
theorem cwM_mark : wMc rM_mark ∈ lw_tbl := tb_3 (List.mem_of_getElem? (i := 191) rfl)
set_option maxRecDepth 100000 in
theorem cwM_isChanged : wMc rM_isChanged ∈ lw_tbl := tb_3 (List.mem_of_getElem? (i := 187) rfl)
set_option maxRecDepth 100000 in
theorem cwM_lays : wMc rM_lays ∈ lw_tbl := tb_3 (List.mem_of_getElem? (i := 183) rfl)
set_option maxRecDepth 100000 in
theorem cwM_isKey : wMc rM_isKey ∈ lw_tbl := tb_3 (List.mem_of_getElem? (i := 179) rfl)
set_option maxRecDepth 100000 in
theorem cwM_isMoment : wMc rM_isMoment ∈ lw_tbl := tb_3 (List.mem_of_getElem? (i := 176) rfl)
set_option maxRecDepth 100000 in
theorem cwM_within : wMc rM_within ∈ lw_tbl := tb_3 (List.mem_of_getElem? (i := 173) rfl)
set_option maxRecDepth 100000 in
theorem cwM_isHand : wMc rM_isHand ∈ lw_tbl := tb_3 (List.mem_of_getElem? (i := 170) rfl)
set_option maxRecDepth 100000 in
theorem cwM_put : wMc rM_put ∈ lw_tbl := tb_3 (List.mem_of_getElem? (i := 167) rfl)
set_option maxRecDepth 100000 in
theorem cwM_init : wMc rM_init ∈ lw_tbl := tb_3 (List.mem_of_getElem? (i := 71) rfl)
set_option maxRecDepth 100000 in
theorem cwJ_fill : wMc rJ_fill ∈ lw_tbl := tb_1 (List.mem_of_getElem? (i := 50) rfl)
theorem MW0_0 : GoodIn lw_tbl (mtb_0.map wMc) := (goodIn_cons cwJ_fill (goodIn_cons cwM_init (goodIn_cons cwM_put (goodIn_cons cwM_isHand (goodIn_cons cwM_within (goodIn_cons cwM_isMoment (goodIn_cons cwM_isKey (goodIn_cons cwM_lays (goodIn_cons cwM_isChanged (goodIn_cons cwM_mark (goodIn_cons cwM_isFinger (goodIn_cons cwM_reach goodIn_nil))))))))))))
set_option maxRecDepth 100000 in
theorem cwM_stepCost : wMc rM_stepCost ∈ lw_tbl := tb_4 (List.mem_of_getElem? (i := 5) rfl)
set_option maxRecDepth 100000 in
theorem cwM_step : wMc rM_step ∈ lw_tbl := tb_4 (List.mem_of_getElem? (i := 1) rfl)
set_option maxRecDepth 100000 in
theorem cwM_noteCost : wMc rM_noteCost ∈ lw_tbl := tb_3 (List.mem_of_getElem? (i := 237) rfl)
set_option maxRecDepth 100000 in
theorem cwM_costs : wMc rM_costs ∈ lw_tbl := tb_3 (List.mem_of_getElem? (i := 233) rfl)
set_option maxRecDepth 100000 in
theorem cwM_isBlack : wMc rM_isBlack ∈ lw_tbl := tb_3 (List.mem_of_getElem? (i := 229) rfl)
set_option maxRecDepth 100000 in
theorem cwM_placeOf : wMc rM_placeOf ∈ lw_tbl := tb_3 (List.mem_of_getElem? (i := 226) rfl)
set_option maxRecDepth 100000 in
theorem cwM_isNote : wMc rM_isNote ∈ lw_tbl := tb_3 (List.mem_of_getElem? (i := 222) rfl)
set_option maxRecDepth 100000 in
theorem cwM_note : wMc rM_note ∈ lw_tbl := tb_3 (List.mem_of_getElem? (i := 218) rfl)
set_option maxRecDepth 100000 in
theorem cwM_notesOf : wMc rM_notesOf ∈ lw_tbl := tb_3 (List.mem_of_getElem? (i := 214) rfl)
set_option maxRecDepth 100000 in
theorem cwM_clear : wMc rM_clear ∈ lw_tbl := tb_3 (List.mem_of_getElem? (i := 210) rfl)
set_option maxRecDepth 100000 in
theorem cwM_price : wMc rM_price ∈ lw_tbl := tb_3 (List.mem_of_getElem? (i := 206) rfl)
set_option maxRecDepth 100000 in
theorem cwM_reachOf : wMc rM_reachOf ∈ lw_tbl := tb_3 (List.mem_of_getElem? (i := 202) rfl)
theorem MW0_1 : GoodIn lw_tbl (mtb_1.map wMc) := (goodIn_cons cwM_reachOf (goodIn_cons cwM_price (goodIn_cons cwM_clear (goodIn_cons cwM_notesOf (goodIn_cons cwM_note (goodIn_cons cwM_isNote (goodIn_cons cwM_placeOf (goodIn_cons cwM_isBlack (goodIn_cons cwM_costs (goodIn_cons cwM_noteCost (goodIn_cons cwM_step (goodIn_cons cwM_stepCost goodIn_nil))))))))))))
set_option maxRecDepth 100000 in
theorem cwM_isOf : wMc rM_isOf ∈ lw_tbl := tb_4 (List.mem_of_getElem? (i := 54) rfl)
set_option maxRecDepth 100000 in
theorem cwM_goingOn : wMc rM_goingOn ∈ lw_tbl := tb_4 (List.mem_of_getElem? (i := 50) rfl)
set_option maxRecDepth 100000 in
theorem cwM_back : wMc rM_back ∈ lw_tbl := tb_4 (List.mem_of_getElem? (i := 46) rfl)
set_option maxRecDepth 100000 in
theorem cwM_findTie : wMc rM_findTie ∈ lw_tbl := tb_4 (List.mem_of_getElem? (i := 42) rfl)
set_option maxRecDepth 100000 in
theorem cwM_leastRow : wMc rM_leastRow ∈ lw_tbl := tb_4 (List.mem_of_getElem? (i := 38) rfl)
set_option maxRecDepth 100000 in
theorem cwM_doesTieHold : wMc rM_doesTieHold ∈ lw_tbl := tb_4 (List.mem_of_getElem? (i := 34) rfl)
set_option maxRecDepth 100000 in
theorem cwM_layTie : wMc rM_layTie ∈ lw_tbl := tb_4 (List.mem_of_getElem? (i := 30) rfl)
set_option maxRecDepth 100000 in
theorem cwM_layNotes : wMc rM_layNotes ∈ lw_tbl := tb_4 (List.mem_of_getElem? (i := 26) rfl)
set_option maxRecDepth 100000 in
theorem cwM_leastOfHand : wMc rM_leastOfHand ∈ lw_tbl := tb_4 (List.mem_of_getElem? (i := 22) rfl)
set_option maxRecDepth 100000 in
theorem cwM_findHand : wMc rM_findHand ∈ lw_tbl := tb_4 (List.mem_of_getElem? (i := 18) rfl)
set_option maxRecDepth 100000 in
theorem cwM_best : wMc rM_best ∈ lw_tbl := tb_4 (List.mem_of_getElem? (i := 14) rfl)
set_option maxRecDepth 100000 in
theorem cwM_byReach : wMc rM_byReach ∈ lw_tbl := tb_4 (List.mem_of_getElem? (i := 9) rfl)
theorem MW0_2 : GoodIn lw_tbl (mtb_2.map wMc) := (goodIn_cons cwM_byReach (goodIn_cons cwM_best (goodIn_cons cwM_findHand (goodIn_cons cwM_leastOfHand (goodIn_cons cwM_layNotes (goodIn_cons cwM_layTie (goodIn_cons cwM_doesTieHold (goodIn_cons cwM_leastRow (goodIn_cons cwM_findTie (goodIn_cons cwM_back (goodIn_cons cwM_goingOn (goodIn_cons cwM_isOf goodIn_nil))))))))))))
set_option maxRecDepth 100000 in
theorem cwM_jointBehind : wMc rM_jointBehind ∈ lw_tbl := tb_4 (List.mem_of_getElem? (i := 102) rfl)
set_option maxRecDepth 100000 in
theorem cwM_findTied : wMc rM_findTied ∈ lw_tbl := tb_4 (List.mem_of_getElem? (i := 98) rfl)
set_option maxRecDepth 100000 in
theorem cwM_fingerBehind : wMc rM_fingerBehind ∈ lw_tbl := tb_4 (List.mem_of_getElem? (i := 94) rfl)
set_option maxRecDepth 100000 in
theorem cwM_findFingers : wMc rM_findFingers ∈ lw_tbl := tb_4 (List.mem_of_getElem? (i := 90) rfl)
set_option maxRecDepth 100000 in
theorem cwM_startCost : wMc rM_startCost ∈ lw_tbl := tb_4 (List.mem_of_getElem? (i := 86) rfl)
set_option maxRecDepth 100000 in
theorem cwM_leastStart : wMc rM_leastStart ∈ lw_tbl := tb_4 (List.mem_of_getElem? (i := 82) rfl)
set_option maxRecDepth 100000 in
theorem cwM_isOfBoth : wMc rM_isOfBoth ∈ lw_tbl := tb_4 (List.mem_of_getElem? (i := 78) rfl)
set_option maxRecDepth 100000 in
theorem cwM_jointStep : wMc rM_jointStep ∈ lw_tbl := tb_4 (List.mem_of_getElem? (i := 74) rfl)
set_option maxRecDepth 100000 in
theorem cwM_findJoint : wMc rM_findJoint ∈ lw_tbl := tb_4 (List.mem_of_getElem? (i := 70) rfl)
set_option maxRecDepth 100000 in
theorem cwM_findWith : wMc rM_findWith ∈ lw_tbl := tb_4 (List.mem_of_getElem? (i := 66) rfl)
set_option maxRecDepth 100000 in
theorem cwM_after : wMc rM_after ∈ lw_tbl := tb_4 (List.mem_of_getElem? (i := 62) rfl)
set_option maxRecDepth 100000 in
theorem cwM_stepAt : wMc rM_stepAt ∈ lw_tbl := tb_4 (List.mem_of_getElem? (i := 58) rfl)
theorem MW0_3 : GoodIn lw_tbl (mtb_3.map wMc) := (goodIn_cons cwM_stepAt (goodIn_cons cwM_after (goodIn_cons cwM_findWith (goodIn_cons cwM_findJoint (goodIn_cons cwM_jointStep (goodIn_cons cwM_isOfBoth (goodIn_cons cwM_leastStart (goodIn_cons cwM_startCost (goodIn_cons cwM_findFingers (goodIn_cons cwM_fingerBehind (goodIn_cons cwM_findTied (goodIn_cons cwM_jointBehind goodIn_nil))))))))))))
set_option maxRecDepth 100000 in
theorem cwM_phrase : wMc rM_phrase ∈ lw_tbl := tb_4 (List.mem_of_getElem? (i := 150) rfl)
set_option maxRecDepth 100000 in
theorem cwM_leastUp : wMc rM_leastUp ∈ lw_tbl := tb_4 (List.mem_of_getElem? (i := 146) rfl)
set_option maxRecDepth 100000 in
theorem cwM_goesOn : wMc rM_goesOn ∈ lw_tbl := tb_4 (List.mem_of_getElem? (i := 142) rfl)
set_option maxRecDepth 100000 in
theorem cwM_begin : wMc rM_begin ∈ lw_tbl := tb_4 (List.mem_of_getElem? (i := 138) rfl)
set_option maxRecDepth 100000 in
theorem cwM_plainTo : wMc rM_plainTo ∈ lw_tbl := tb_4 (List.mem_of_getElem? (i := 134) rfl)
set_option maxRecDepth 100000 in
theorem cwM_stuck : wMc rM_stuck ∈ lw_tbl := tb_4 (List.mem_of_getElem? (i := 130) rfl)
set_option maxRecDepth 100000 in
theorem cwM_tied : wMc rM_tied ∈ lw_tbl := tb_4 (List.mem_of_getElem? (i := 126) rfl)
set_option maxRecDepth 100000 in
theorem cwM_untie : wMc rM_untie ∈ lw_tbl := tb_4 (List.mem_of_getElem? (i := 122) rfl)
set_option maxRecDepth 100000 in
theorem cwM_ties : wMc rM_ties ∈ lw_tbl := tb_4 (List.mem_of_getElem? (i := 118) rfl)
set_option maxRecDepth 100000 in
theorem cwM_tie : wMc rM_tie ∈ lw_tbl := tb_4 (List.mem_of_getElem? (i := 114) rfl)
set_option maxRecDepth 100000 in
theorem cwM_would : wMc rM_would ∈ lw_tbl := tb_4 (List.mem_of_getElem? (i := 110) rfl)
set_option maxRecDepth 100000 in
theorem cwM_finger : wMc rM_finger ∈ lw_tbl := tb_4 (List.mem_of_getElem? (i := 106) rfl)
theorem MW0_4 : GoodIn lw_tbl (mtb_4.map wMc) := (goodIn_cons cwM_finger (goodIn_cons cwM_would (goodIn_cons cwM_tie (goodIn_cons cwM_ties (goodIn_cons cwM_untie (goodIn_cons cwM_tied (goodIn_cons cwM_stuck (goodIn_cons cwM_plainTo (goodIn_cons cwM_begin (goodIn_cons cwM_goesOn (goodIn_cons cwM_leastUp (goodIn_cons cwM_phrase goodIn_nil))))))))))))
set_option maxRecDepth 100000 in
theorem cwM_isSo : wMc rM_isSo ∈ lw_tbl := tb_4 (List.mem_of_getElem? (i := 198) rfl)
set_option maxRecDepth 100000 in
theorem cwM_moment : wMc rM_moment ∈ lw_tbl := tb_4 (List.mem_of_getElem? (i := 194) rfl)
set_option maxRecDepth 100000 in
theorem cwM_tieEcho : wMc rM_tieEcho ∈ lw_tbl := tb_4 (List.mem_of_getElem? (i := 190) rfl)
set_option maxRecDepth 100000 in
theorem cwM_likeness : wMc rM_likeness ∈ lw_tbl := tb_4 (List.mem_of_getElem? (i := 186) rfl)
set_option maxRecDepth 100000 in
theorem cwM_isEcho : wMc rM_isEcho ∈ lw_tbl := tb_4 (List.mem_of_getElem? (i := 182) rfl)
set_option maxRecDepth 100000 in
theorem cwM_echoAt : wMc rM_echoAt ∈ lw_tbl := tb_4 (List.mem_of_getElem? (i := 178) rfl)
set_option maxRecDepth 100000 in
theorem cwM_echo : wMc rM_echo ∈ lw_tbl := tb_4 (List.mem_of_getElem? (i := 174) rfl)
set_option maxRecDepth 100000 in
theorem cwM_name : wMc rM_name ∈ lw_tbl := tb_4 (List.mem_of_getElem? (i := 170) rfl)
set_option maxRecDepth 100000 in
theorem cwM_prune : wMc rM_prune ∈ lw_tbl := tb_4 (List.mem_of_getElem? (i := 166) rfl)
set_option maxRecDepth 100000 in
theorem cwM_forget : wMc rM_forget ∈ lw_tbl := tb_4 (List.mem_of_getElem? (i := 162) rfl)
set_option maxRecDepth 100000 in
theorem cwM_goes : wMc rM_goes ∈ lw_tbl := tb_4 (List.mem_of_getElem? (i := 158) rfl)
set_option maxRecDepth 100000 in
theorem cwM_phraseOf : wMc rM_phraseOf ∈ lw_tbl := tb_4 (List.mem_of_getElem? (i := 154) rfl)
theorem MW0_5 : GoodIn lw_tbl (mtb_5.map wMc) := (goodIn_cons cwM_phraseOf (goodIn_cons cwM_goes (goodIn_cons cwM_forget (goodIn_cons cwM_prune (goodIn_cons cwM_name (goodIn_cons cwM_echo (goodIn_cons cwM_echoAt (goodIn_cons cwM_isEcho (goodIn_cons cwM_likeness (goodIn_cons cwM_tieEcho (goodIn_cons cwM_moment (goodIn_cons cwM_isSo goodIn_nil))))))))))))
set_option maxRecDepth 100000 in
theorem cwH_init : wMc rH_init ∈ lw_tbl := tb_1 (List.mem_of_getElem? (i := 46) rfl)
set_option maxRecDepth 100000 in
theorem cwU_init : wMc rU_init ∈ lw_tbl := tb_1 (List.mem_of_getElem? (i := 21) rfl)
set_option maxRecDepth 100000 in
theorem cwK_init : wMc rK_init ∈ lw_tbl := tb_1 (List.mem_of_getElem? (i := 13) rfl)
set_option maxRecDepth 100000 in
theorem cwM_manyMoments : wMc rM_manyMoments ∈ lw_tbl := tb_4 (List.mem_of_getElem? (i := 235) rfl)
set_option maxRecDepth 100000 in
theorem cwM_manyMarks : wMc rM_manyMarks ∈ lw_tbl := tb_4 (List.mem_of_getElem? (i := 231) rfl)
set_option maxRecDepth 100000 in
theorem cwM_many : wMc rM_many ∈ lw_tbl := tb_4 (List.mem_of_getElem? (i := 227) rfl)
set_option maxRecDepth 100000 in
theorem cwM_sumBehind : wMc rM_sumBehind ∈ lw_tbl := tb_4 (List.mem_of_getElem? (i := 223) rfl)
set_option maxRecDepth 100000 in
theorem cwM_help : wMc rM_help ∈ lw_tbl := tb_4 (List.mem_of_getElem? (i := 219) rfl)
set_option maxRecDepth 100000 in
theorem cwM_swaps : wMc rM_swaps ∈ lw_tbl := tb_4 (List.mem_of_getElem? (i := 214) rfl)
set_option maxRecDepth 100000 in
theorem cwM_swap : wMc rM_swap ∈ lw_tbl := tb_4 (List.mem_of_getElem? (i := 210) rfl)
set_option maxRecDepth 100000 in
theorem cwM_together : wMc rM_together ∈ lw_tbl := tb_4 (List.mem_of_getElem? (i := 206) rfl)
set_option maxRecDepth 100000 in
theorem cwM_sum : wMc rM_sum ∈ lw_tbl := tb_4 (List.mem_of_getElem? (i := 202) rfl)
theorem MW0_6 : GoodIn lw_tbl (mtb_6.map wMc) := (goodIn_cons cwM_sum (goodIn_cons cwM_together (goodIn_cons cwM_swap (goodIn_cons cwM_swaps (goodIn_cons cwM_help (goodIn_cons cwM_sumBehind (goodIn_cons cwM_many (goodIn_cons cwM_manyMarks (goodIn_cons cwM_manyMoments (goodIn_cons cwK_init (goodIn_cons cwU_init (goodIn_cons cwH_init goodIn_nil))))))))))))
set_option maxRecDepth 100000 in
theorem cwH_renumber : wMc rH_renumber ∈ lw_tbl := tb_1 (List.mem_of_getElem? (i := 186) rfl)
set_option maxRecDepth 100000 in
theorem cwK_store : wMc rK_store ∈ lw_tbl := tb_1 (List.mem_of_getElem? (i := 182) rfl)
set_option maxRecDepth 100000 in
theorem cwH_give : wMc rH_give ∈ lw_tbl := tb_1 (List.mem_of_getElem? (i := 178) rfl)
set_option maxRecDepth 100000 in
theorem cwK_at : wMc rK_at ∈ lw_tbl := tb_1 (List.mem_of_getElem? (i := 174) rfl)
set_option maxRecDepth 100000 in
theorem cwH_keyAt : wMc rH_keyAt ∈ lw_tbl := tb_1 (List.mem_of_getElem? (i := 171) rfl)
set_option maxRecDepth 100000 in
theorem cwK_playerOf : wMc rK_playerOf ∈ lw_tbl := tb_1 (List.mem_of_getElem? (i := 167) rfl)
set_option maxRecDepth 100000 in
theorem cwK_isKey : wMc rK_isKey ∈ lw_tbl := tb_1 (List.mem_of_getElem? (i := 163) rfl)
set_option maxRecDepth 100000 in
theorem cwK_isMoment : wMc rK_isMoment ∈ lw_tbl := tb_1 (List.mem_of_getElem? (i := 160) rfl)
set_option maxRecDepth 100000 in
theorem cwK_isHand : wMc rK_isHand ∈ lw_tbl := tb_1 (List.mem_of_getElem? (i := 157) rfl)
set_option maxRecDepth 100000 in
theorem cwK_put : wMc rK_put ∈ lw_tbl := tb_1 (List.mem_of_getElem? (i := 154) rfl)
set_option maxRecDepth 100000 in
theorem cwP_init : wMc rP_init ∈ lw_tbl := tb_1 (List.mem_of_getElem? (i := 117) rfl)
set_option maxRecDepth 100000 in
theorem cwR_init : wMc rR_init ∈ lw_tbl := tb_1 (List.mem_of_getElem? (i := 80) rfl)
theorem MW0_7 : GoodIn lw_tbl (mtb_7.map wMc) := (goodIn_cons cwR_init (goodIn_cons cwP_init (goodIn_cons cwK_put (goodIn_cons cwK_isHand (goodIn_cons cwK_isMoment (goodIn_cons cwK_isKey (goodIn_cons cwK_playerOf (goodIn_cons cwH_keyAt (goodIn_cons cwK_at (goodIn_cons cwH_give (goodIn_cons cwK_store (goodIn_cons cwH_renumber goodIn_nil))))))))))))
set_option maxRecDepth 100000 in
theorem cwU_priceOf : wMc rU_priceOf ∈ lw_tbl := tb_1 (List.mem_of_getElem? (i := 233) rfl)
set_option maxRecDepth 100000 in
theorem cwK_price : wMc rK_price ∈ lw_tbl := tb_1 (List.mem_of_getElem? (i := 229) rfl)
set_option maxRecDepth 100000 in
theorem cwU_reachPart : wMc rU_reachPart ∈ lw_tbl := tb_1 (List.mem_of_getElem? (i := 224) rfl)
set_option maxRecDepth 100000 in
theorem cwK_isBelow : wMc rK_isBelow ∈ lw_tbl := tb_1 (List.mem_of_getElem? (i := 220) rfl)
set_option maxRecDepth 100000 in
theorem cwK_reachOf : wMc rK_reachOf ∈ lw_tbl := tb_1 (List.mem_of_getElem? (i := 217) rfl)
set_option maxRecDepth 100000 in
theorem cwU_reachPlace : wMc rU_reachPlace ∈ lw_tbl := tb_1 (List.mem_of_getElem? (i := 212) rfl)
set_option maxRecDepth 100000 in
theorem cwU_setReach : wMc rU_setReach ∈ lw_tbl := tb_1 (List.mem_of_getElem? (i := 209) rfl)
set_option maxRecDepth 100000 in
theorem cwK_reach : wMc rK_reach ∈ lw_tbl := tb_1 (List.mem_of_getElem? (i := 205) rfl)
set_option maxRecDepth 100000 in
theorem cwH_setMark : wMc rH_setMark ∈ lw_tbl := tb_1 (List.mem_of_getElem? (i := 201) rfl)
set_option maxRecDepth 100000 in
theorem cwH_markAt : wMc rH_markAt ∈ lw_tbl := tb_1 (List.mem_of_getElem? (i := 197) rfl)
set_option maxRecDepth 100000 in
theorem cwK_isFinger : wMc rK_isFinger ∈ lw_tbl := tb_1 (List.mem_of_getElem? (i := 193) rfl)
set_option maxRecDepth 100000 in
theorem cwK_mark : wMc rK_mark ∈ lw_tbl := tb_1 (List.mem_of_getElem? (i := 190) rfl)
theorem MW0_8 : GoodIn lw_tbl (mtb_8.map wMc) := (goodIn_cons cwK_mark (goodIn_cons cwK_isFinger (goodIn_cons cwH_markAt (goodIn_cons cwH_setMark (goodIn_cons cwK_reach (goodIn_cons cwU_setReach (goodIn_cons cwU_reachPlace (goodIn_cons cwK_reachOf (goodIn_cons cwK_isBelow (goodIn_cons cwU_reachPart (goodIn_cons cwK_price (goodIn_cons cwU_priceOf goodIn_nil))))))))))))
set_option maxRecDepth 100000 in
theorem cwK_costs : wMc rK_costs ∈ lw_tbl := tb_2 (List.mem_of_getElem? (i := 40) rfl)
set_option maxRecDepth 100000 in
theorem cwK_isBlack : wMc rK_isBlack ∈ lw_tbl := tb_2 (List.mem_of_getElem? (i := 36) rfl)
set_option maxRecDepth 100000 in
theorem cwH_markOf : wMc rH_markOf ∈ lw_tbl := tb_2 (List.mem_of_getElem? (i := 33) rfl)
set_option maxRecDepth 100000 in
theorem cwH_keyOf : wMc rH_keyOf ∈ lw_tbl := tb_2 (List.mem_of_getElem? (i := 29) rfl)
set_option maxRecDepth 100000 in
theorem cwH_momentOf : wMc rH_momentOf ∈ lw_tbl := tb_2 (List.mem_of_getElem? (i := 25) rfl)
set_option maxRecDepth 100000 in
theorem cwK_isNote : wMc rK_isNote ∈ lw_tbl := tb_2 (List.mem_of_getElem? (i := 21) rfl)
set_option maxRecDepth 100000 in
theorem cwK_note : wMc rK_note ∈ lw_tbl := tb_2 (List.mem_of_getElem? (i := 17) rfl)
set_option maxRecDepth 100000 in
theorem cwH_dropTie : wMc rH_dropTie ∈ lw_tbl := tb_2 (List.mem_of_getElem? (i := 13) rfl)
set_option maxRecDepth 100000 in
theorem cwH_restAlways : wMc rH_restAlways ∈ lw_tbl := tb_2 (List.mem_of_getElem? (i := 9) rfl)
set_option maxRecDepth 100000 in
theorem cwH_noteCount : wMc rH_noteCount ∈ lw_tbl := tb_2 (List.mem_of_getElem? (i := 5) rfl)
set_option maxRecDepth 100000 in
theorem cwK_clear : wMc rK_clear ∈ lw_tbl := tb_2 (List.mem_of_getElem? (i := 1) rfl)
set_option maxRecDepth 100000 in
theorem cwU_setPrice : wMc rU_setPrice ∈ lw_tbl := tb_1 (List.mem_of_getElem? (i := 237) rfl)
theorem MW0_9 : GoodIn lw_tbl (mtb_9.map wMc) := (goodIn_cons cwU_setPrice (goodIn_cons cwK_clear (goodIn_cons cwH_noteCount (goodIn_cons cwH_restAlways (goodIn_cons cwH_dropTie (goodIn_cons cwK_note (goodIn_cons cwK_isNote (goodIn_cons cwH_momentOf (goodIn_cons cwH_keyOf (goodIn_cons cwH_markOf (goodIn_cons cwK_isBlack (goodIn_cons cwK_costs goodIn_nil))))))))))))
set_option maxRecDepth 100000 in
theorem cwR_loadNote : wMc rR_loadNote ∈ lw_tbl := tb_2 (List.mem_of_getElem? (i := 101) rfl)
set_option maxRecDepth 100000 in
theorem cwH_tiedLength : wMc rH_tiedLength ∈ lw_tbl := tb_2 (List.mem_of_getElem? (i := 95) rfl)
set_option maxRecDepth 100000 in
theorem cwH_secondTied : wMc rH_secondTied ∈ lw_tbl := tb_2 (List.mem_of_getElem? (i := 91) rfl)
set_option maxRecDepth 100000 in
theorem cwH_firstTied : wMc rH_firstTied ∈ lw_tbl := tb_2 (List.mem_of_getElem? (i := 87) rfl)
set_option maxRecDepth 100000 in
theorem cwR_load : wMc rR_load ∈ lw_tbl := tb_2 (List.mem_of_getElem? (i := 82) rfl)
set_option maxRecDepth 100000 in
theorem cwR_leastCost : wMc rR_leastCost ∈ lw_tbl := tb_2 (List.mem_of_getElem? (i := 78) rfl)
set_option maxRecDepth 100000 in
theorem cwK_best : wMc rK_best ∈ lw_tbl := tb_2 (List.mem_of_getElem? (i := 74) rfl)
set_option maxRecDepth 100000 in
theorem cwU_reachCost : wMc rU_reachCost ∈ lw_tbl := tb_2 (List.mem_of_getElem? (i := 70) rfl)
set_option maxRecDepth 100000 in
theorem cwU_stepCost : wMc rU_stepCost ∈ lw_tbl := tb_2 (List.mem_of_getElem? (i := 57) rfl)
set_option maxRecDepth 100000 in
theorem cwH_side : wMc rH_side ∈ lw_tbl := tb_2 (List.mem_of_getElem? (i := 53) rfl)
set_option maxRecDepth 100000 in
theorem cwK_step : wMc rK_step ∈ lw_tbl := tb_2 (List.mem_of_getElem? (i := 49) rfl)
set_option maxRecDepth 100000 in
theorem cwU_noteCost : wMc rU_noteCost ∈ lw_tbl := tb_2 (List.mem_of_getElem? (i := 44) rfl)
theorem MW0_10 : GoodIn lw_tbl (mtb_10.map wMc) := (goodIn_cons cwU_noteCost (goodIn_cons cwK_step (goodIn_cons cwH_side (goodIn_cons cwU_stepCost (goodIn_cons cwU_reachCost (goodIn_cons cwK_best (goodIn_cons cwR_leastCost (goodIn_cons cwR_load (goodIn_cons cwH_firstTied (goodIn_cons cwH_secondTied (goodIn_cons cwH_tiedLength (goodIn_cons cwR_loadNote goodIn_nil))))))))))))
set_option maxRecDepth 100000 in
theorem cwK_would : wMc rK_would ∈ lw_tbl := tb_2 (List.mem_of_getElem? (i := 156) rfl)
set_option maxRecDepth 100000 in
theorem cwR_follow : wMc rR_follow ∈ lw_tbl := tb_2 (List.mem_of_getElem? (i := 152) rfl)
set_option maxRecDepth 100000 in
theorem cwR_bestFinger : wMc rR_bestFinger ∈ lw_tbl := tb_2 (List.mem_of_getElem? (i := 147) rfl)
set_option maxRecDepth 100000 in
theorem cwK_finger : wMc rK_finger ∈ lw_tbl := tb_2 (List.mem_of_getElem? (i := 143) rfl)
set_option maxRecDepth 100000 in
theorem cwR_leadTo : wMc rR_leadTo ∈ lw_tbl := tb_2 (List.mem_of_getElem? (i := 139) rfl)
set_option maxRecDepth 100000 in
theorem cwR_addFrom : wMc rR_addFrom ∈ lw_tbl := tb_2 (List.mem_of_getElem? (i := 135) rfl)
set_option maxRecDepth 100000 in
theorem cwR_fold : wMc rR_fold ∈ lw_tbl := tb_2 (List.mem_of_getElem? (i := 132) rfl)
set_option maxRecDepth 100000 in
theorem cwR_answerOfTable : wMc rR_answerOfTable ∈ lw_tbl := tb_2 (List.mem_of_getElem? (i := 128) rfl)
set_option maxRecDepth 100000 in
theorem cwR_costBehind : wMc rR_costBehind ∈ lw_tbl := tb_2 (List.mem_of_getElem? (i := 123) rfl)
set_option maxRecDepth 100000 in
theorem cwR_sweep : wMc rR_sweep ∈ lw_tbl := tb_2 (List.mem_of_getElem? (i := 118) rfl)
set_option maxRecDepth 100000 in
theorem cwH_tieHolds : wMc rH_tieHolds ∈ lw_tbl := tb_2 (List.mem_of_getElem? (i := 114) rfl)
set_option maxRecDepth 100000 in
theorem cwR_loadSteps : wMc rR_loadSteps ∈ lw_tbl := tb_2 (List.mem_of_getElem? (i := 109) rfl)
theorem MW0_11 : GoodIn lw_tbl (mtb_11.map wMc) := (goodIn_cons cwR_loadSteps (goodIn_cons cwH_tieHolds (goodIn_cons cwR_sweep (goodIn_cons cwR_costBehind (goodIn_cons cwR_answerOfTable (goodIn_cons cwR_fold (goodIn_cons cwR_addFrom (goodIn_cons cwR_leadTo (goodIn_cons cwK_finger (goodIn_cons cwR_bestFinger (goodIn_cons cwR_follow (goodIn_cons cwK_would goodIn_nil))))))))))))
set_option maxRecDepth 100000 in
theorem cwP_drop : wMc rP_drop ∈ lw_tbl := tb_2 (List.mem_of_getElem? (i := 207) rfl)
set_option maxRecDepth 100000 in
theorem cwP_placeOf : wMc rP_placeOf ∈ lw_tbl := tb_2 (List.mem_of_getElem? (i := 202) rfl)
set_option maxRecDepth 100000 in
theorem cwP_come : wMc rP_come ∈ lw_tbl := tb_2 (List.mem_of_getElem? (i := 198) rfl)
set_option maxRecDepth 100000 in
theorem cwK_phrase : wMc rK_phrase ∈ lw_tbl := tb_2 (List.mem_of_getElem? (i := 194) rfl)
set_option maxRecDepth 100000 in
theorem cwR_firstBlocked : wMc rR_firstBlocked ∈ lw_tbl := tb_2 (List.mem_of_getElem? (i := 190) rfl)
set_option maxRecDepth 100000 in
theorem cwK_stuck : wMc rK_stuck ∈ lw_tbl := tb_2 (List.mem_of_getElem? (i := 186) rfl)
set_option maxRecDepth 100000 in
theorem cwR_untiedCost : wMc rR_untiedCost ∈ lw_tbl := tb_2 (List.mem_of_getElem? (i := 182) rfl)
set_option maxRecDepth 100000 in
theorem cwK_tied : wMc rK_tied ∈ lw_tbl := tb_2 (List.mem_of_getElem? (i := 178) rfl)
set_option maxRecDepth 100000 in
theorem cwH_hasTie : wMc rH_hasTie ∈ lw_tbl := tb_2 (List.mem_of_getElem? (i := 173) rfl)
set_option maxRecDepth 100000 in
theorem cwK_untie : wMc rK_untie ∈ lw_tbl := tb_2 (List.mem_of_getElem? (i := 169) rfl)
set_option maxRecDepth 100000 in
theorem cwH_setTie : wMc rH_setTie ∈ lw_tbl := tb_2 (List.mem_of_getElem? (i := 164) rfl)
set_option maxRecDepth 100000 in
theorem cwK_tie : wMc rK_tie ∈ lw_tbl := tb_2 (List.mem_of_getElem? (i := 160) rfl)
theorem MW0_12 : GoodIn lw_tbl (mtb_12.map wMc) := (goodIn_cons cwK_tie (goodIn_cons cwH_setTie (goodIn_cons cwK_untie (goodIn_cons cwH_hasTie (goodIn_cons cwK_tied (goodIn_cons cwR_untiedCost (goodIn_cons cwK_stuck (goodIn_cons cwR_firstBlocked (goodIn_cons cwK_phrase (goodIn_cons cwP_come (goodIn_cons cwP_placeOf (goodIn_cons cwP_drop goodIn_nil))))))))))))
set_option maxRecDepth 100000 in
theorem cwH_isEcho : wMc rH_isEcho ∈ lw_tbl := tb_3 (List.mem_of_getElem? (i := 18) rfl)
set_option maxRecDepth 100000 in
theorem cwP_lengthAt : wMc rP_lengthAt ∈ lw_tbl := tb_3 (List.mem_of_getElem? (i := 14) rfl)
set_option maxRecDepth 100000 in
theorem cwP_startAt : wMc rP_startAt ∈ lw_tbl := tb_3 (List.mem_of_getElem? (i := 10) rfl)
set_option maxRecDepth 100000 in
theorem cwP_handAt : wMc rP_handAt ∈ lw_tbl := tb_3 (List.mem_of_getElem? (i := 6) rfl)
set_option maxRecDepth 100000 in
theorem cwK_echoStart : wMc rK_echoStart ∈ lw_tbl := tb_3 (List.mem_of_getElem? (i := 2) rfl)
set_option maxRecDepth 100000 in
theorem cwK_echo : wMc rK_echo ∈ lw_tbl := tb_2 (List.mem_of_getElem? (i := 238) rfl)
set_option maxRecDepth 100000 in
theorem cwP_nameAt : wMc rP_nameAt ∈ lw_tbl := tb_2 (List.mem_of_getElem? (i := 234) rfl)
set_option maxRecDepth 100000 in
theorem cwK_name : wMc rK_name ∈ lw_tbl := tb_2 (List.mem_of_getElem? (i := 230) rfl)
set_option maxRecDepth 100000 in
theorem cwP_dropLonger : wMc rP_dropLonger ∈ lw_tbl := tb_2 (List.mem_of_getElem? (i := 226) rfl)
set_option maxRecDepth 100000 in
theorem cwK_prune : wMc rK_prune ∈ lw_tbl := tb_2 (List.mem_of_getElem? (i := 222) rfl)
set_option maxRecDepth 100000 in
theorem cwK_forget : wMc rK_forget ∈ lw_tbl := tb_2 (List.mem_of_getElem? (i := 216) rfl)
set_option maxRecDepth 100000 in
theorem cwP_size : wMc rP_size ∈ lw_tbl := tb_2 (List.mem_of_getElem? (i := 212) rfl)
theorem MW0_13 : GoodIn lw_tbl (mtb_13.map wMc) := (goodIn_cons cwP_size (goodIn_cons cwK_forget (goodIn_cons cwK_prune (goodIn_cons cwP_dropLonger (goodIn_cons cwK_name (goodIn_cons cwP_nameAt (goodIn_cons cwK_echo (goodIn_cons cwK_echoStart (goodIn_cons cwP_handAt (goodIn_cons cwP_startAt (goodIn_cons cwP_lengthAt (goodIn_cons cwH_isEcho goodIn_nil))))))))))))
set_option maxRecDepth 100000 in
theorem cwK_countOf : wMc rK_countOf ∈ lw_tbl := tb_3 (List.mem_of_getElem? (i := 66) rfl)
set_option maxRecDepth 100000 in
theorem cwH_markCount : wMc rH_markCount ∈ lw_tbl := tb_3 (List.mem_of_getElem? (i := 62) rfl)
set_option maxRecDepth 100000 in
theorem cwK_many : wMc rK_many ∈ lw_tbl := tb_3 (List.mem_of_getElem? (i := 58) rfl)
set_option maxRecDepth 100000 in
theorem cwK_help : wMc rK_help ∈ lw_tbl := tb_3 (List.mem_of_getElem? (i := 53) rfl)
set_option maxRecDepth 100000 in
theorem cwK_exchange : wMc rK_exchange ∈ lw_tbl := tb_3 (List.mem_of_getElem? (i := 48) rfl)
set_option maxRecDepth 100000 in
theorem cwK_swap : wMc rK_swap ∈ lw_tbl := tb_3 (List.mem_of_getElem? (i := 44) rfl)
set_option maxRecDepth 100000 in
theorem cwK_sum : wMc rK_sum ∈ lw_tbl := tb_3 (List.mem_of_getElem? (i := 40) rfl)
set_option maxRecDepth 100000 in
theorem cwK_kindOf : wMc rK_kindOf ∈ lw_tbl := tb_3 (List.mem_of_getElem? (i := 36) rfl)
set_option maxRecDepth 100000 in
theorem cwK_moment : wMc rK_moment ∈ lw_tbl := tb_3 (List.mem_of_getElem? (i := 32) rfl)
set_option maxRecDepth 100000 in
theorem cwK_tieEcho : wMc rK_tieEcho ∈ lw_tbl := tb_3 (List.mem_of_getElem? (i := 28) rfl)
set_option maxRecDepth 100000 in
theorem cwH_likeness : wMc rH_likeness ∈ lw_tbl := tb_3 (List.mem_of_getElem? (i := 23) rfl)
theorem MW0_14 : GoodIn lw_tbl (mtb_14.map wMc) := (goodIn_cons cwH_likeness (goodIn_cons cwK_tieEcho (goodIn_cons cwK_moment (goodIn_cons cwK_kindOf (goodIn_cons cwK_sum (goodIn_cons cwK_swap (goodIn_cons cwK_exchange (goodIn_cons cwK_help (goodIn_cons cwK_many (goodIn_cons cwH_markCount (goodIn_cons cwK_countOf goodIn_nil)))))))))))
theorem MW0_in : GoodIn lw_tbl MW0 := by
  unfold MW0 mtb0
  simp only [List.map_append]
  exact goodIn_app MW0_0 (goodIn_app MW0_1 (goodIn_app MW0_2 (goodIn_app MW0_3 (goodIn_app MW0_4 (goodIn_app MW0_5 (goodIn_app MW0_6 (goodIn_app MW0_7 (goodIn_app MW0_8 (goodIn_app MW0_9 (goodIn_app MW0_10 (goodIn_app MW0_11 (goodIn_app MW0_12 (goodIn_app MW0_13 MW0_14)))))))))))))
set_option maxRecDepth 100000 in
theorem MW1_0 : GoodIn lw_tbl (mtb_0.flatMap wM) := goodIn_r _ [67, 112, 70, 613, 70, 708, 709, 70, 712, 70, 715, 70, 718, 70, 721, 70, 725, 17, 70, 729, 18, 70, 732, 733, 70, 736, 70, 739, 740] (by decide +kernel) (by decide +kernel)
set_option maxRecDepth 100000 in
theorem MW1_1 : GoodIn lw_tbl (mtb_1.flatMap wM) := goodIn_r _ [70, 743, 744, 70, 747, 748, 70, 751, 752, 70, 756, 19, 70, 759, 760, 70, 764, 20, 70, 768, 21, 70, 771, 70, 774, 775, 70, 779, 22, 70, 782, 783, 70, 787, 23] (by decide +kernel) (by decide +kernel)
set_option maxRecDepth 100000 in
theorem MW1_2 : GoodIn lw_tbl (mtb_2.flatMap wM) := goodIn_r _ [70, 791, 24, 70, 795, 796, 70, 800, 25, 70, 804, 26, 70, 808, 27, 70, 812, 28, 70, 816, 29, 70, 820, 30, 70, 824, 31, 70, 828, 32, 70, 832, 33, 70, 836, 34] (by decide +kernel) (by decide +kernel)
set_option maxRecDepth 100000 in
theorem MW1_3 : GoodIn lw_tbl (mtb_3.flatMap wM) := goodIn_r _ [70, 840, 35, 70, 844, 36, 70, 848, 37, 70, 852, 38, 70, 856, 39, 70, 860, 40, 70, 864, 41, 70, 868, 42, 70, 872, 43, 70, 876, 44, 70, 880, 45, 70, 884, 46] (by decide +kernel) (by decide +kernel)
set_option maxRecDepth 100000 in
theorem MW1_4 : GoodIn lw_tbl (mtb_4.flatMap wM) := goodIn_r _ [70, 887, 888, 70, 891, 892, 70, 895, 896, 70, 900, 47, 70, 903, 904, 70, 907, 908, 70, 911, 912, 70, 916, 48, 70, 920, 49, 70, 924, 50, 70, 928, 51, 70, 931, 932] (by decide +kernel) (by decide +kernel)
set_option maxRecDepth 100000 in
theorem MW1_5 : GoodIn lw_tbl (mtb_5.flatMap wM) := goodIn_r _ [70, 936, 52, 70, 940, 53, 70, 943, 944, 70, 947, 948, 70, 951, 952, 70, 955, 956, 70, 960, 54, 70, 964, 55, 70, 968, 56, 70, 971, 972, 70, 975, 976, 70, 980, 57] (by decide +kernel) (by decide +kernel)
set_option maxRecDepth 100000 in
theorem MW1_6 : GoodIn lw_tbl (mtb_6.flatMap wM) := goodIn_r _ [70, 983, 984, 70, 988, 58, 70, 991, 992, 70, 996, 59, 70, 1000, 1001, 70, 1005, 60, 70, 1008, 1009, 70, 1013, 61, 70, 1017, 62, 64, 75, 65, 83, 66, 108] (by decide +kernel) (by decide +kernel)
set_option maxRecDepth 100000 in
theorem MW1_7 : GoodIn lw_tbl (mtb_7.flatMap wM) := goodIn_r _ [68, 142, 69, 179, 64, 215, 216, 64, 219, 64, 222, 64, 225, 64, 229, 0, 66, 232, 233, 64, 236, 66, 239, 240, 64, 244, 66, 248, 1] (by decide +kernel) (by decide +kernel)
set_option maxRecDepth 100000 in
theorem MW1_8 : GoodIn lw_tbl (mtb_8.flatMap wM) := goodIn_r _ [64, 251, 252, 64, 255, 66, 258, 259, 66, 262, 263, 64, 266, 267, 65, 270, 271, 65, 274, 64, 278, 279, 64, 282, 65, 285, 286, 64, 290, 291, 65, 294, 295] (by decide +kernel) (by decide +kernel)
set_option maxRecDepth 100000 in
theorem MW1_9 : GoodIn lw_tbl (mtb_9.flatMap wM) := goodIn_r _ [65, 298, 299, 64, 302, 303, 66, 306, 307, 66, 310, 311, 66, 314, 315, 64, 318, 319, 64, 323, 2, 66, 326, 327, 66, 330, 331, 66, 334, 335, 64, 338, 64, 341, 342] (by decide +kernel) (by decide +kernel)
set_option maxRecDepth 100000 in
theorem MW1_10 : GoodIn lw_tbl (mtb_10.flatMap wM) := goodIn_r _ [65, 345, 346, 64, 350, 351, 66, 354, 355, 65, 358, 359, 65, 372, 3, 64, 375, 376, 68, 379, 380, 68, 384, 4, 66, 388, 389, 66, 392, 393, 66, 396, 397, 68, 403, 5] (by decide +kernel) (by decide +kernel)
set_option maxRecDepth 100000 in
theorem MW1_11 : GoodIn lw_tbl (mtb_11.flatMap wM) := goodIn_r _ [68, 411, 6, 66, 415, 416, 68, 420, 7, 68, 425, 8, 68, 430, 9, 68, 434, 10, 68, 437, 68, 441, 11, 64, 444, 445, 68, 448, 449, 68, 454, 12, 64, 457, 458] (by decide +kernel) (by decide +kernel)
set_option maxRecDepth 100000 in
theorem MW1_12 : GoodIn lw_tbl (mtb_12.flatMap wM) := goodIn_r _ [64, 461, 462, 66, 465, 466, 64, 470, 471, 66, 474, 475, 64, 479, 480, 68, 483, 484, 64, 487, 488, 68, 491, 492, 64, 495, 496, 69, 499, 500, 69, 503, 504, 69, 508, 509] (by decide +kernel) (by decide +kernel)
set_option maxRecDepth 100000 in
theorem MW1_13 : GoodIn lw_tbl (mtb_13.flatMap wM) := goodIn_r _ [69, 513, 514, 64, 517, 518, 64, 523, 524, 69, 527, 528, 64, 531, 532, 69, 535, 536, 64, 539, 540, 64, 544, 13, 69, 547, 548, 69, 551, 552, 69, 555, 556, 66, 559, 560] (by decide +kernel) (by decide +kernel)
set_option maxRecDepth 100000 in
theorem MW1_14 : GoodIn lw_tbl (mtb_14.flatMap wM) := goodIn_r _ [66, 564, 565, 64, 569, 570, 64, 573, 574, 64, 578, 14, 64, 581, 582, 64, 585, 586, 64, 590, 15, 64, 594, 595, 64, 599, 600, 66, 603, 604, 64, 608, 16] (by decide +kernel) (by decide +kernel)
theorem MW1_in : GoodIn lw_tbl MW1 := by
  unfold MW1 mtb0
  simp only [List.flatMap_append]
  exact goodIn_app MW1_0 (goodIn_app MW1_1 (goodIn_app MW1_2 (goodIn_app MW1_3 (goodIn_app MW1_4 (goodIn_app MW1_5 (goodIn_app MW1_6 (goodIn_app MW1_7 (goodIn_app MW1_8 (goodIn_app MW1_9 (goodIn_app MW1_10 (goodIn_app MW1_11 (goodIn_app MW1_12 (goodIn_app MW1_13 MW1_14)))))))))))))
set_option maxRecDepth 100000 in
theorem MW2_0 : GoodIn lw_tbl ((flds 0).flatMap (wF 0)) := goodIn_r _ [114, 115, 116, 117, 118, 119, 120, 121] (by decide +kernel) (by decide +kernel)
set_option maxRecDepth 100000 in
theorem MW2_1 : GoodIn lw_tbl ((flds 1).flatMap (wF 1)) := goodIn_r _ [182, 183, 184, 185, 186] (by decide +kernel) (by decide +kernel)
set_option maxRecDepth 100000 in
theorem MW2_2 : GoodIn lw_tbl ((flds 2).flatMap (wF 2)) := goodIn_r _ [145, 146, 147, 148, 149, 150, 151, 152, 153, 154] (by decide +kernel) (by decide +kernel)
set_option maxRecDepth 100000 in
theorem MW2_3 : GoodIn lw_tbl ((flds 3).flatMap (wF 3)) := goodIn_r _ [97, 98] (by decide +kernel) (by decide +kernel)
set_option maxRecDepth 100000 in
theorem MW2_4 : GoodIn lw_tbl ((flds 4).flatMap (wF 4)) := goodIn_r _ [198, 199, 200, 201, 202] (by decide +kernel) (by decide +kernel)
set_option maxRecDepth 100000 in
theorem MW2_5 : GoodIn lw_tbl ((flds 5).flatMap (wF 5)) := goodIn_r _ [616, 617, 618, 619, 620, 621, 622, 623, 624, 625, 626, 627, 628, 629, 630, 631, 632, 633, 634, 635, 636, 637, 638, 639, 640, 641, 642, 643, 644, 645] (by decide +kernel) (by decide +kernel)
set_option maxRecDepth 100000 in
theorem MW2_6 : GoodIn lw_tbl ((flds 6).flatMap (wF 6)) := goodIn_r _ [] (by decide +kernel) (by decide +kernel)
set_option maxRecDepth 100000 in
theorem MW2_7 : GoodIn lw_tbl ((flds 7).flatMap (wF 7)) := goodIn_r _ [] (by decide +kernel) (by decide +kernel)
set_option maxRecDepth 100000 in
theorem MW2_8 : GoodIn lw_tbl ((flds 8).flatMap (wF 8)) := goodIn_r _ [] (by decide +kernel) (by decide +kernel)
theorem MW2_in : GoodIn lw_tbl ((List.range nCl).flatMap (fun o => (flds o).flatMap (wF o))) := by
  intro w hw
  obtain ⟨o, ho, h⟩ := List.mem_flatMap.mp hw
  have ho : o < 9 := List.mem_range.mp ho
  match o, ho, h with
  | 0, _, h => exact MW2_0 w h
  | 1, _, h => exact MW2_1 w h
  | 2, _, h => exact MW2_2 w h
  | 3, _, h => exact MW2_3 w h
  | 4, _, h => exact MW2_4 w h
  | 5, _, h => exact MW2_5 w h
  | 6, _, h => exact MW2_6 w h
  | 7, _, h => exact MW2_7 w h
  | 8, _, h => exact MW2_8 w h
set_option maxRecDepth 100000 in
theorem MW3_0 : GoodIn lw_tbl ((calls 0).flatMap (wC 0)) := goodIn_r _ [111, 242, 246, 313, 562] (by decide +kernel) (by decide +kernel)
set_option maxRecDepth 100000 in
theorem MW3_1 : GoodIn lw_tbl ((calls 1).flatMap (wC 1)) := goodIn_r _ [502, 507] (by decide +kernel) (by decide +kernel)
set_option maxRecDepth 100000 in
theorem MW3_2 : GoodIn lw_tbl ((calls 2).flatMap (wC 2)) := goodIn_r _ [382, 386, 387, 391, 395, 399, 400, 401, 405, 408, 409, 413, 414, 418, 423, 428, 432, 436, 439, 451, 452] (by decide +kernel) (by decide +kernel)
set_option maxRecDepth 100000 in
theorem MW3_3 : GoodIn lw_tbl ((calls 3).flatMap (wC 3)) := goodIn_r _ [273, 370] (by decide +kernel) (by decide +kernel)
set_option maxRecDepth 100000 in
theorem MW3_4 : GoodIn lw_tbl ((calls 4).flatMap (wC 4)) := goodIn_r _ [107, 141, 218, 221, 224, 227, 231, 238, 254, 257, 261, 269, 281, 284, 293, 297, 305, 309, 321, 325, 329, 333, 337, 344, 353, 357, 378, 447, 464, 468, 473, 477, 482, 490, 498, 512, 520, 521, 526, 534, 542, 546, 550, 554, 558, 563, 576, 588, 592, 602, 606] (by decide +kernel) (by decide +kernel)
set_option maxRecDepth 100000 in
theorem MW3_5 : GoodIn lw_tbl ((calls 5).flatMap (wC 5)) := goodIn_r _ [711, 714, 717, 720, 723, 727, 735, 754, 762, 766, 770, 777, 785, 789, 798, 802, 806, 810, 814, 818, 822, 826, 830, 834, 838, 842, 846, 850, 854, 858, 862, 866, 870, 874, 878, 882, 898, 914, 918, 922, 926, 934, 938, 958, 962, 966, 978, 986, 994, 998, 1003, 1011, 1015] (by decide +kernel) (by decide +kernel)
set_option maxRecDepth 100000 in
theorem MW3_6 : GoodIn lw_tbl ((calls 6).flatMap (wC 6)) := goodIn_r _ [] (by decide +kernel) (by decide +kernel)
set_option maxRecDepth 100000 in
theorem MW3_7 : GoodIn lw_tbl ((calls 7).flatMap (wC 7)) := goodIn_r _ [] (by decide +kernel) (by decide +kernel)
set_option maxRecDepth 100000 in
theorem MW3_8 : GoodIn lw_tbl ((calls 8).flatMap (wC 8)) := goodIn_r _ [74, 214, 250, 265, 277, 289, 301, 317, 340, 349, 374, 443, 456, 460, 469, 478, 486, 494, 516, 522, 530, 538, 568, 572, 580, 584, 593, 598, 612, 707, 731, 738, 742, 746, 750, 758, 773, 781, 794, 886, 890, 894, 902, 906, 910, 930, 942, 946, 950, 954, 970, 974, 982, 990, 999, 1007] (by decide +kernel) (by decide +kernel)
theorem MW3_in : GoodIn lw_tbl ((List.range nCl).flatMap (fun o => (calls o).flatMap (wC o))) := by
  intro w hw
  obtain ⟨o, ho, h⟩ := List.mem_flatMap.mp hw
  have ho : o < 9 := List.mem_range.mp ho
  match o, ho, h with
  | 0, _, h => exact MW3_0 w h
  | 1, _, h => exact MW3_1 w h
  | 2, _, h => exact MW3_2 w h
  | 3, _, h => exact MW3_3 w h
  | 4, _, h => exact MW3_4 w h
  | 5, _, h => exact MW3_5 w h
  | 6, _, h => exact MW3_6 w h
  | 7, _, h => exact MW3_7 w h
  | 8, _, h => exact MW3_8 w h
set_option maxRecDepth 100000 in
theorem MWk_0 : GoodIn lw_tbl ((consts 0).flatMap (wK 0)) := goodIn_r _ [] (by decide +kernel) (by decide +kernel)
set_option maxRecDepth 100000 in
theorem MWk_1 : GoodIn lw_tbl ((consts 1).flatMap (wK 1)) := goodIn_r _ [] (by decide +kernel) (by decide +kernel)
set_option maxRecDepth 100000 in
theorem MWk_2 : GoodIn lw_tbl ((consts 2).flatMap (wK 2)) := goodIn_r _ [406] (by decide +kernel) (by decide +kernel)
set_option maxRecDepth 100000 in
theorem MWk_3 : GoodIn lw_tbl ((consts 3).flatMap (wK 3)) := goodIn_r _ [] (by decide +kernel) (by decide +kernel)
set_option maxRecDepth 100000 in
theorem MWk_4 : GoodIn lw_tbl ((consts 4).flatMap (wK 4)) := goodIn_r _ [597] (by decide +kernel) (by decide +kernel)
set_option maxRecDepth 100000 in
theorem MWk_5 : GoodIn lw_tbl ((consts 5).flatMap (wK 5)) := goodIn_r _ [793] (by decide +kernel) (by decide +kernel)
set_option maxRecDepth 100000 in
theorem MWk_6 : GoodIn lw_tbl ((consts 6).flatMap (wK 6)) := goodIn_r _ [] (by decide +kernel) (by decide +kernel)
set_option maxRecDepth 100000 in
theorem MWk_7 : GoodIn lw_tbl ((consts 7).flatMap (wK 7)) := goodIn_r _ [] (by decide +kernel) (by decide +kernel)
set_option maxRecDepth 100000 in
theorem MWk_8 : GoodIn lw_tbl ((consts 8).flatMap (wK 8)) := goodIn_r _ [] (by decide +kernel) (by decide +kernel)
theorem MWk_in : GoodIn lw_tbl ((List.range nCl).flatMap (fun o => (consts o).flatMap (wK o))) := by
  intro w hw
  obtain ⟨o, ho, h⟩ := List.mem_flatMap.mp hw
  have ho : o < 9 := List.mem_range.mp ho
  match o, ho, h with
  | 0, _, h => exact MWk_0 w h
  | 1, _, h => exact MWk_1 w h
  | 2, _, h => exact MWk_2 w h
  | 3, _, h => exact MWk_3 w h
  | 4, _, h => exact MWk_4 w h
  | 5, _, h => exact MWk_5 w h
  | 6, _, h => exact MWk_6 w h
  | 7, _, h => exact MWk_7 w h
  | 8, _, h => exact MWk_8 w h
set_option maxRecDepth 100000 in
theorem MWn_0 : GoodIn lw_tbl ((news 0).flatMap (wN 0)) := goodIn_r _ [] (by decide +kernel) (by decide +kernel)
set_option maxRecDepth 100000 in
theorem MWn_1 : GoodIn lw_tbl ((news 1).flatMap (wN 1)) := goodIn_r _ [] (by decide +kernel) (by decide +kernel)
set_option maxRecDepth 100000 in
theorem MWn_2 : GoodIn lw_tbl ((news 2).flatMap (wN 2)) := goodIn_r _ [] (by decide +kernel) (by decide +kernel)
set_option maxRecDepth 100000 in
theorem MWn_3 : GoodIn lw_tbl ((news 3).flatMap (wN 3)) := goodIn_r _ [] (by decide +kernel) (by decide +kernel)
set_option maxRecDepth 100000 in
theorem MWn_4 : GoodIn lw_tbl ((news 4).flatMap (wN 4)) := goodIn_r _ [80, 81, 65, 105, 106, 66, 139, 140, 68, 176, 177, 69] (by decide +kernel) (by decide +kernel)
set_option maxRecDepth 100000 in
theorem MWn_5 : GoodIn lw_tbl ((news 5).flatMap (wN 5)) := goodIn_r _ [] (by decide +kernel) (by decide +kernel)
set_option maxRecDepth 100000 in
theorem MWn_6 : GoodIn lw_tbl ((news 6).flatMap (wN 6)) := goodIn_r _ [] (by decide +kernel) (by decide +kernel)
set_option maxRecDepth 100000 in
theorem MWn_7 : GoodIn lw_tbl ((news 7).flatMap (wN 7)) := goodIn_r _ [] (by decide +kernel) (by decide +kernel)
set_option maxRecDepth 100000 in
theorem MWn_8 : GoodIn lw_tbl ((news 8).flatMap (wN 8)) := goodIn_r _ [72, 73, 64, 610, 611, 70] (by decide +kernel) (by decide +kernel)
theorem MWn_in : GoodIn lw_tbl ((List.range nCl).flatMap (fun o => (news o).flatMap (wN o))) := by
  intro w hw
  obtain ⟨o, ho, h⟩ := List.mem_flatMap.mp hw
  have ho : o < 9 := List.mem_range.mp ho
  match o, ho, h with
  | 0, _, h => exact MWn_0 w h
  | 1, _, h => exact MWn_1 w h
  | 2, _, h => exact MWn_2 w h
  | 3, _, h => exact MWn_3 w h
  | 4, _, h => exact MWn_4 w h
  | 5, _, h => exact MWn_5 w h
  | 6, _, h => exact MWn_6 w h
  | 7, _, h => exact MWn_7 w h
  | 8, _, h => exact MWn_8 w h
set_option maxRecDepth 100000 in
theorem MWo_0 : GoodIn lw_tbl ((objs 0).flatMap (wO 0)) := goodIn_r _ [110] (by decide +kernel) (by decide +kernel)
set_option maxRecDepth 100000 in
theorem MWo_1 : GoodIn lw_tbl ((objs 1).flatMap (wO 1)) := goodIn_r _ [181] (by decide +kernel) (by decide +kernel)
set_option maxRecDepth 100000 in
theorem MWo_2 : GoodIn lw_tbl ((objs 2).flatMap (wO 2)) := goodIn_r _ [144] (by decide +kernel) (by decide +kernel)
set_option maxRecDepth 100000 in
theorem MWo_3 : GoodIn lw_tbl ((objs 3).flatMap (wO 3)) := goodIn_r _ [85] (by decide +kernel) (by decide +kernel)
set_option maxRecDepth 100000 in
theorem MWo_4 : GoodIn lw_tbl ((objs 4).flatMap (wO 4)) := goodIn_r _ [77] (by decide +kernel) (by decide +kernel)
set_option maxRecDepth 100000 in
theorem MWo_5 : GoodIn lw_tbl ((objs 5).flatMap (wO 5)) := goodIn_r _ [615] (by decide +kernel) (by decide +kernel)
set_option maxRecDepth 100000 in
theorem MWo_6 : GoodIn lw_tbl ((objs 6).flatMap (wO 6)) := goodIn_r _ [] (by decide +kernel) (by decide +kernel)
set_option maxRecDepth 100000 in
theorem MWo_7 : GoodIn lw_tbl ((objs 7).flatMap (wO 7)) := goodIn_r _ [] (by decide +kernel) (by decide +kernel)
set_option maxRecDepth 100000 in
theorem MWo_8 : GoodIn lw_tbl ((objs 8).flatMap (wO 8)) := goodIn_r _ [] (by decide +kernel) (by decide +kernel)
theorem MWo_in : GoodIn lw_tbl ((List.range nCl).flatMap (fun o => (objs o).flatMap (wO o))) := by
  intro w hw
  obtain ⟨o, ho, h⟩ := List.mem_flatMap.mp hw
  have ho : o < 9 := List.mem_range.mp ho
  match o, ho, h with
  | 0, _, h => exact MWo_0 w h
  | 1, _, h => exact MWo_1 w h
  | 2, _, h => exact MWo_2 w h
  | 3, _, h => exact MWo_3 w h
  | 4, _, h => exact MWo_4 w h
  | 5, _, h => exact MWo_5 w h
  | 6, _, h => exact MWo_6 w h
  | 7, _, h => exact MWo_7 w h
  | 8, _, h => exact MWo_8 w h
set_option maxRecDepth 100000 in
theorem MWu_in : GoodIn lw_tbl (vwCl.flatMap wU) := goodIn_r _ [122, 124, 126, 128, 130, 132, 134, 136, 187, 189, 191, 193, 195, 155, 157, 159, 161, 163, 165, 167, 169, 171, 173, 99, 101, 203, 205, 207, 209, 211, 646, 648, 650, 652, 654, 656, 658, 660, 662, 664, 666, 668, 670, 672, 674, 676, 678, 680, 682, 684, 686, 688, 690, 692, 694, 696, 698, 700, 702, 704] (by decide +kernel) (by decide +kernel)
set_option maxRecDepth 100000 in
theorem MWj_0 : GoodIn lw_tbl ((maths 0).flatMap (wJ 0)) := goodIn_r _ [] (by decide +kernel) (by decide +kernel)
set_option maxRecDepth 100000 in
theorem MWj_1 : GoodIn lw_tbl ((maths 1).flatMap (wJ 1)) := goodIn_r _ [] (by decide +kernel) (by decide +kernel)
set_option maxRecDepth 100000 in
theorem MWj_2 : GoodIn lw_tbl ((maths 2).flatMap (wJ 2)) := goodIn_r _ [427, 365] (by decide +kernel) (by decide +kernel)
set_option maxRecDepth 100000 in
theorem MWj_3 : GoodIn lw_tbl ((maths 3).flatMap (wJ 3)) := goodIn_r _ [361, 362, 364, 365, 367, 368] (by decide +kernel) (by decide +kernel)
set_option maxRecDepth 100000 in
theorem MWj_4 : GoodIn lw_tbl ((maths 4).flatMap (wJ 4)) := goodIn_r _ [] (by decide +kernel) (by decide +kernel)
set_option maxRecDepth 100000 in
theorem MWj_5 : GoodIn lw_tbl ((maths 5).flatMap (wJ 5)) := goodIn_r _ [] (by decide +kernel) (by decide +kernel)
set_option maxRecDepth 100000 in
theorem MWj_6 : GoodIn lw_tbl ((maths 6).flatMap (wJ 6)) := goodIn_r _ [] (by decide +kernel) (by decide +kernel)
set_option maxRecDepth 100000 in
theorem MWj_7 : GoodIn lw_tbl ((maths 7).flatMap (wJ 7)) := goodIn_r _ [] (by decide +kernel) (by decide +kernel)
set_option maxRecDepth 100000 in
theorem MWj_8 : GoodIn lw_tbl ((maths 8).flatMap (wJ 8)) := goodIn_r _ [] (by decide +kernel) (by decide +kernel)
theorem MWj_in : GoodIn lw_tbl ((List.range nCl).flatMap (fun o => (maths o).flatMap (wJ o))) := by
  intro w hw
  obtain ⟨o, ho, h⟩ := List.mem_flatMap.mp hw
  have ho : o < 9 := List.mem_range.mp ho
  match o, ho, h with
  | 0, _, h => exact MWj_0 w h
  | 1, _, h => exact MWj_1 w h
  | 2, _, h => exact MWj_2 w h
  | 3, _, h => exact MWj_3 w h
  | 4, _, h => exact MWj_4 w h
  | 5, _, h => exact MWj_5 w h
  | 6, _, h => exact MWj_6 w h
  | 7, _, h => exact MWj_7 w h
  | 8, _, h => exact MWj_8 w h
set_option maxRecDepth 100000 in
theorem MWj0 : GoodIn lw_tbl ([.initialized "java/lang/Math"]) := goodIn_r _ [71] (by decide +kernel) (by decide +kernel)
set_option maxRecDepth 100000 in
theorem cwJ_abs : Cond.code Lib.Math.abs.name Lib.Math.abs.code 1 (some .int) ∈ lw_tbl := tb_2 (List.mem_of_getElem? (i := 60) rfl)
set_option maxRecDepth 100000 in
theorem cwJ_min : Cond.code Lib.Math.min.name Lib.Math.min.code 2 (some .int) ∈ lw_tbl := tb_2 (List.mem_of_getElem? (i := 63) rfl)
set_option maxRecDepth 100000 in
theorem cwJ_max : Cond.code Lib.Math.max.name Lib.Math.max.code 2 (some .int) ∈ lw_tbl := tb_2 (List.mem_of_getElem? (i := 66) rfl)
theorem MWj1 : GoodIn lw_tbl [.code Lib.Math.abs.name Lib.Math.abs.code 1 (some .int), .code Lib.Math.min.name Lib.Math.min.code 2 (some .int), .code Lib.Math.max.name Lib.Math.max.code 2 (some .int)] := by
  intro w hw
  simp only [List.mem_cons, List.not_mem_nil, or_false] at hw
  rcases hw with rfl | rfl | rfl
  · exact ⟨cwJ_abs, Or.inl rfl⟩
  · exact ⟨cwJ_min, Or.inl rfl⟩
  · exact ⟨cwJ_max, Or.inl rfl⟩
theorem MW5_in : GoodIn lw_tbl MW5 := goodIn_app MWj_in (goodIn_app MWj0 MWj1)
set_option maxRecDepth 100000 in
theorem MWx_in : GoodIn lw_tbl ([.instanceMethod objectInit, .code objectInit ⟨#[0xb1]⟩ 1 none, .arrayClass .int, .methodLink "KeyFingers$Rules" 13 ⟨"[I", "clone", "()Ljava/lang/Object;"⟩, .sameMethod "[I" "java/lang/Object" "clone" "()Ljava/lang/Object;", .native ⟨"java/lang/Object", "clone", "()Ljava/lang/Object;"⟩, .instanceMethod ⟨"java/lang/Object", "clone", "()Ljava/lang/Object;"⟩, .selects "[I" ⟨"[I", "clone", "()Ljava/lang/Object;"⟩ ⟨"java/lang/Object", "clone", "()Ljava/lang/Object;"⟩, .classLink "KeyFingers$Rules" 14 "[I"]) := goodIn_r _ [78, 79, 104, 88, 89, 90, 91, 92, 94] (by decide +kernel) (by decide +kernel)
theorem MW_in : GoodIn lw_tbl MW := goodIn_app MW0_in (goodIn_app MW1_in (goodIn_app MW2_in (goodIn_app MW3_in (goodIn_app (goodIn_app (goodIn_app (goodIn_app (goodIn_app MWk_in MWn_in) MWo_in) MWu_in) MW5_in) MWx_in))))
/-! checks of the tables -/
def okR (r : MRec) : Bool := plainName r.1.cls && (r.1.cls != "java/lang/invoke/MethodHandle") && (r.1.cls != "java/lang/invoke/VarHandle") && Nat.ble r.2.2.1 21 && (cnm r.2.2.2.2.2 == r.1.cls)
def kdf : FieldType → Nat
  | .int => 0
  | .boolean => 1
  | .object _ => 2
  | .array _ => 2
  | _ => 3
def okF (e : Nat × Nat × Nat × Int × Bool × Nat) : Bool := match vwCl[e.2.1]? with
  | some (C, Tt, N) => decide (e.2.2.1 < N) && ((Tt e.2.2.1).2.2.2 == e.2.2.2.2.1) && decide ((parseFieldDescriptor (Tt e.2.2.1).2.2.1).map kdf = some e.2.2.2.2.2) && ((Tt e.2.2.1).1 == C) && decide (e.2.2.2.1 = (e.2.2.1 : Int))
  | none => false
def okC (o : Nat) (e : Nat × Nat × Nat × Bool × Bool × Bool × Nat) : Bool := match mtb[e.2.1]? with
  | some r => decide (e.2.1 < mtb0.length) && (r.2.2.2.2.1 == e.2.2.2.1) && decide ((parseMethodDescriptor r.1.desc).map (fun d => d.parameters.length + (if e.2.2.2.1 then 0 else 1)) = some e.2.2.1) && (e.2.2.2.2.2.1 == (r.1.name == "<init>")) && (r.2.2.2.2.2 == e.2.2.2.2.2.2) && (!e.2.2.2.2.1 || nests.any (fun q => q.1 == cnm o && q.2.1 == e.1 && decide (q.2.2.1 = r.1)))
  | none => false
set_option maxRecDepth 100000 in
theorem okR_0 : mtb_0.all okR = true := by decide +kernel
set_option maxRecDepth 100000 in
theorem okR_1 : mtb_1.all okR = true := by decide +kernel
set_option maxRecDepth 100000 in
theorem okR_2 : mtb_2.all okR = true := by decide +kernel
set_option maxRecDepth 100000 in
theorem okR_3 : mtb_3.all okR = true := by decide +kernel
set_option maxRecDepth 100000 in
theorem okR_4 : mtb_4.all okR = true := by decide +kernel
set_option maxRecDepth 100000 in
theorem okR_5 : mtb_5.all okR = true := by decide +kernel
set_option maxRecDepth 100000 in
theorem okR_6 : mtb_6.all okR = true := by decide +kernel
set_option maxRecDepth 100000 in
theorem okR_7 : mtb_7.all okR = true := by decide +kernel
set_option maxRecDepth 100000 in
theorem okR_8 : mtb_8.all okR = true := by decide +kernel
set_option maxRecDepth 100000 in
theorem okR_9 : mtb_9.all okR = true := by decide +kernel
set_option maxRecDepth 100000 in
theorem okR_10 : mtb_10.all okR = true := by decide +kernel
set_option maxRecDepth 100000 in
theorem okR_11 : mtb_11.all okR = true := by decide +kernel
set_option maxRecDepth 100000 in
theorem okR_12 : mtb_12.all okR = true := by decide +kernel
set_option maxRecDepth 100000 in
theorem okR_13 : mtb_13.all okR = true := by decide +kernel
set_option maxRecDepth 100000 in
theorem okR_14 : mtb_14.all okR = true := by decide +kernel
theorem okR_all : ∀ r ∈ mtb0, okR r = true := by
  unfold mtb0
  simp only [List.forall_mem_append]
  exact ⟨List.all_eq_true.mp okR_0, ⟨List.all_eq_true.mp okR_1, ⟨List.all_eq_true.mp okR_2, ⟨List.all_eq_true.mp okR_3, ⟨List.all_eq_true.mp okR_4, ⟨List.all_eq_true.mp okR_5, ⟨List.all_eq_true.mp okR_6, ⟨List.all_eq_true.mp okR_7, ⟨List.all_eq_true.mp okR_8, ⟨List.all_eq_true.mp okR_9, ⟨List.all_eq_true.mp okR_10, ⟨List.all_eq_true.mp okR_11, ⟨List.all_eq_true.mp okR_12, ⟨List.all_eq_true.mp okR_13, List.all_eq_true.mp okR_14⟩⟩⟩⟩⟩⟩⟩⟩⟩⟩⟩⟩⟩⟩
set_option maxRecDepth 100000 in
theorem okF_0 : ((flds 0).all okF) = true := by decide +kernel
set_option maxRecDepth 100000 in
theorem okF_1 : ((flds 1).all okF) = true := by decide +kernel
set_option maxRecDepth 100000 in
theorem okF_2 : ((flds 2).all okF) = true := by decide +kernel
set_option maxRecDepth 100000 in
theorem okF_3 : ((flds 3).all okF) = true := by decide +kernel
set_option maxRecDepth 100000 in
theorem okF_4 : ((flds 4).all okF) = true := by decide +kernel
set_option maxRecDepth 100000 in
theorem okF_5 : ((flds 5).all okF) = true := by decide +kernel
set_option maxRecDepth 100000 in
theorem okF_6 : ((flds 6).all okF) = true := by decide +kernel
set_option maxRecDepth 100000 in
theorem okF_7 : ((flds 7).all okF) = true := by decide +kernel
set_option maxRecDepth 100000 in
theorem okF_8 : ((flds 8).all okF) = true := by decide +kernel
set_option maxRecDepth 100000 in
theorem okC_0 : ((calls 0).all (okC 0)) = true := by decide +kernel
set_option maxRecDepth 100000 in
theorem okC_1 : ((calls 1).all (okC 1)) = true := by decide +kernel
set_option maxRecDepth 100000 in
theorem okC_2 : ((calls 2).all (okC 2)) = true := by decide +kernel
set_option maxRecDepth 100000 in
theorem okC_3 : ((calls 3).all (okC 3)) = true := by decide +kernel
set_option maxRecDepth 100000 in
theorem okC_4 : ((calls 4).all (okC 4)) = true := by decide +kernel
set_option maxRecDepth 100000 in
theorem okC_5 : ((calls 5).all (okC 5)) = true := by decide +kernel
set_option maxRecDepth 100000 in
theorem okC_6 : ((calls 6).all (okC 6)) = true := by decide +kernel
set_option maxRecDepth 100000 in
theorem okC_7 : ((calls 7).all (okC 7)) = true := by decide +kernel
set_option maxRecDepth 100000 in
theorem okC_8 : ((calls 8).all (okC 8)) = true := by decide +kernel
theorem okF_all (o : Nat) : ∀ e ∈ flds o, okF e = true := by
  match o with
  | 0 => exact List.all_eq_true.mp okF_0
  | 1 => exact List.all_eq_true.mp okF_1
  | 2 => exact List.all_eq_true.mp okF_2
  | 3 => exact List.all_eq_true.mp okF_3
  | 4 => exact List.all_eq_true.mp okF_4
  | 5 => exact List.all_eq_true.mp okF_5
  | 6 => exact List.all_eq_true.mp okF_6
  | 7 => exact List.all_eq_true.mp okF_7
  | 8 => exact List.all_eq_true.mp okF_8
  | n + 9 => exact fun e h => absurd h List.not_mem_nil
theorem okC_all (o : Nat) : ∀ e ∈ calls o, okC o e = true := by
  match o with
  | 0 => exact List.all_eq_true.mp okC_0
  | 1 => exact List.all_eq_true.mp okC_1
  | 2 => exact List.all_eq_true.mp okC_2
  | 3 => exact List.all_eq_true.mp okC_3
  | 4 => exact List.all_eq_true.mp okC_4
  | 5 => exact List.all_eq_true.mp okC_5
  | 6 => exact List.all_eq_true.mp okC_6
  | 7 => exact List.all_eq_true.mp okC_7
  | 8 => exact List.all_eq_true.mp okC_8
  | n + 9 => exact fun e h => absurd h List.not_mem_nil
theorem MW_r {r : MRec} (h : r ∈ mtb0) : wMc r ∈ MW ∧ ∀ w ∈ wM r, w ∈ MW := ⟨List.mem_append_left _ (List.mem_map.mpr ⟨r, h, rfl⟩), fun w hw => List.mem_append_right _ (List.mem_append_left _ (List.mem_flatMap.mpr ⟨r, h, hw⟩))⟩
theorem MW_F {o : Nat} (ho : o < nCl) {e : Nat × Nat × Nat × Int × Bool × Nat} (h : e ∈ flds o) : ∀ w ∈ wF o e, w ∈ MW := fun w hw => List.mem_append_right _ (List.mem_append_right _ (List.mem_append_left _ (List.mem_flatMap.mpr ⟨o, List.mem_range.mpr ho, List.mem_flatMap.mpr ⟨e, h, hw⟩⟩)))
theorem MW_C {o : Nat} (ho : o < nCl) {e : Nat × Nat × Nat × Bool × Bool × Bool × Nat} (h : e ∈ calls o) : ∀ w ∈ wC o e, w ∈ MW := fun w hw => List.mem_append_right _ (List.mem_append_right _ (List.mem_append_right _ (List.mem_append_left _ (List.mem_flatMap.mpr ⟨o, List.mem_range.mpr ho, List.mem_flatMap.mpr ⟨e, h, hw⟩⟩))))
theorem MW_4 {w : Cond} (h : w ∈ MW4) : w ∈ MW := List.mem_append_right _ (List.mem_append_right _ (List.mem_append_right _ (List.mem_append_right _ h)))
theorem MW_K {o : Nat} (ho : o < nCl) {e : Nat × Int} (h : e ∈ consts o) : ∀ w ∈ wK o e, w ∈ MW := fun w hw => MW_4 (List.mem_append_left _ (List.mem_append_left _ (List.mem_append_left _ (List.mem_append_left _ (List.mem_append_left _ (List.mem_flatMap.mpr ⟨o, List.mem_range.mpr ho, List.mem_flatMap.mpr ⟨e, h, hw⟩⟩))))))
theorem MW_N {o : Nat} (ho : o < nCl) {e : Nat × Nat} (h : e ∈ news o) : ∀ w ∈ wN o e, w ∈ MW := fun w hw => MW_4 (List.mem_append_left _ (List.mem_append_left _ (List.mem_append_left _ (List.mem_append_left _ (List.mem_append_right _ (List.mem_flatMap.mpr ⟨o, List.mem_range.mpr ho, List.mem_flatMap.mpr ⟨e, h, hw⟩⟩))))))
theorem MW_O {o : Nat} (ho : o < nCl) {e : Nat} (h : e ∈ objs o) : ∀ w ∈ wO o e, w ∈ MW := fun w hw => MW_4 (List.mem_append_left _ (List.mem_append_left _ (List.mem_append_left _ (List.mem_append_right _ (List.mem_flatMap.mpr ⟨o, List.mem_range.mpr ho, List.mem_flatMap.mpr ⟨e, h, hw⟩⟩)))))
theorem MW_U {q : vw_C} (h : q ∈ vwCl) : ∀ w ∈ u_ws q.1 q.2.1 q.2.2, w ∈ MW := fun w hw => MW_4 (List.mem_append_left _ (List.mem_append_left _ (List.mem_append_right _ (List.mem_flatMap.mpr ⟨q, h, hw⟩))))
theorem MW_J {o : Nat} (ho : o < nCl) {e : Nat × Nat} (h : e ∈ maths o) : ∀ w ∈ wJ o e, w ∈ MW := fun w hw => MW_4 (List.mem_append_left _ (List.mem_append_right _ (List.mem_append_left _ (List.mem_flatMap.mpr ⟨o, List.mem_range.mpr ho, List.mem_flatMap.mpr ⟨e, h, hw⟩⟩))))
theorem MW_J5 {w : Cond} (h : w ∈ ([.initialized "java/lang/Math", .code Lib.Math.abs.name Lib.Math.abs.code 1 (some .int), .code Lib.Math.min.name Lib.Math.min.code 2 (some .int), .code Lib.Math.max.name Lib.Math.max.code 2 (some .int)] : List Cond)) : w ∈ MW := MW_4 (List.mem_append_left _ (List.mem_append_right _ (List.mem_append_right _ h)))
theorem MW_X {w : Cond} (h : w ∈ ([.instanceMethod objectInit, .code objectInit ⟨#[0xb1]⟩ 1 none, .arrayClass .int, .methodLink "KeyFingers$Rules" 13 ⟨"[I", "clone", "()Ljava/lang/Object;"⟩, .sameMethod "[I" "java/lang/Object" "clone" "()Ljava/lang/Object;", .native ⟨"java/lang/Object", "clone", "()Ljava/lang/Object;"⟩, .instanceMethod ⟨"java/lang/Object", "clone", "()Ljava/lang/Object;"⟩, .selects "[I" ⟨"[I", "clone", "()Ljava/lang/Object;"⟩ ⟨"java/lang/Object", "clone", "()Ljava/lang/Object;"⟩, .classLink "KeyFingers$Rules" 14 "[I"] : List Cond)) : w ∈ MW := MW_4 (List.mem_append_right _ h)
theorem MW_good {ws : List Cond} (h : ∀ w ∈ ws, w ∈ MW) : GoodIn MW ws := fun w hw => ⟨h w hw, (MW_in w (h w hw)).2⟩
theorem cls_ok : ∀ (ci : Nat) (q : vw_C), vwCl[ci]? = some q → ∃ ty0 : Nat → FieldType, (∀ k, k < q.2.2 → parseFieldDescriptor (q.2.1 k).2.2.1 = some (ty0 k)) ∧ (∀ a, a < q.2.2 → ∀ b, b < q.2.2 → a ≠ b → (q.2.1 a).2.1 ≠ (q.2.1 b).2.1) := by
  intro ci q h
  match ci, h with
  | 0, h => cases h; exact ⟨tyX0, tyX0_ok, nmX0⟩
  | 1, h => cases h; exact ⟨tyX1, tyX1_ok, nmX1⟩
  | 2, h => cases h; exact ⟨tyX2, tyX2_ok, nmX2⟩
  | 3, h => cases h; exact ⟨tyX3, tyX3_ok, nmX3⟩
  | 4, h => cases h; exact ⟨tyX4, tyX4_ok, nmX4⟩
  | 5, h => cases h; exact ⟨tyX5, tyX5_ok, nmX5⟩
  | n + 6, h => simp [vwCl] at h
theorem cnm_ok : ∀ (ci : Nat) (q : vw_C), vwCl[ci]? = some q → cnm ci = q.1 := by
  intro ci q h
  match ci, h with
  | 0, h => cases h; rfl
  | 1, h => cases h; rfl
  | 2, h => cases h; rfl
  | 3, h => cases h; rfl
  | 4, h => cases h; rfl
  | 5, h => cases h; rfl
  | n + 6, h => simp [vwCl] at h
