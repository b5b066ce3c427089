section
-- ===== PART A: goes FIRST, ahead of the names: the tables' words, and 'selects' of the private methods out of them =====
/-- a private method of a class that the tables say can be made, by its rows of tables_1 -/
def lw_okq (q : MethodName × Nat) : Prop := (q.1.cls ≠ "java/lang/invoke/MethodHandle" ∧ q.1.cls ≠ "java/lang/invoke/VarHandle") ∧ Cond.instantiable q.1.cls q.2 ∈ tables_1 ∧ Cond.privateMethod q.1 ∈ tables_1 ∧ Cond.instanceMethod q.1 ∈ tables_1
theorem lw_p0 : lw_okq (⟨"NumbersCalled$Tape", "step", "()V"⟩, 9) := ⟨⟨by decide +kernel, by decide +kernel⟩, List.mem_of_getElem? (i := 95) (by decide +kernel), List.mem_of_getElem? (i := 327) (by decide +kernel), List.mem_of_getElem? (i := 328) (by decide +kernel)⟩
theorem lw_p1 : lw_okq (⟨"NumbersCalled$Tape", "passAll", "(II)V"⟩, 9) := ⟨⟨by decide +kernel, by decide +kernel⟩, List.mem_of_getElem? (i := 95) (by decide +kernel), List.mem_of_getElem? (i := 334) (by decide +kernel), List.mem_of_getElem? (i := 335) (by decide +kernel)⟩
theorem lw_p2 : lw_okq (⟨"NumbersCalled$Tape", "wordToken", "()I"⟩, 9) := ⟨⟨by decide +kernel, by decide +kernel⟩, List.mem_of_getElem? (i := 95) (by decide +kernel), List.mem_of_getElem? (i := 338) (by decide +kernel), List.mem_of_getElem? (i := 339) (by decide +kernel)⟩
theorem lw_p3 : lw_okq (⟨"NumbersCalled$Tape", "isWord", "(I)Z"⟩, 9) := ⟨⟨by decide +kernel, by decide +kernel⟩, List.mem_of_getElem? (i := 95) (by decide +kernel), List.mem_of_getElem? (i := 342) (by decide +kernel), List.mem_of_getElem? (i := 343) (by decide +kernel)⟩
theorem lw_p4 : lw_okq (⟨"NumbersCalled$Tape", "numberToken", "()I"⟩, 9) := ⟨⟨by decide +kernel, by decide +kernel⟩, List.mem_of_getElem? (i := 95) (by decide +kernel), List.mem_of_getElem? (i := 348) (by decide +kernel), List.mem_of_getElem? (i := 349) (by decide +kernel)⟩
theorem lw_p5 : lw_okq (⟨"NumbersCalled$Tape", "skip", "(I)Z"⟩, 9) := ⟨⟨by decide +kernel, by decide +kernel⟩, List.mem_of_getElem? (i := 95) (by decide +kernel), List.mem_of_getElem? (i := 355) (by decide +kernel), List.mem_of_getElem? (i := 356) (by decide +kernel)⟩
theorem lw_p6 : lw_okq (⟨"NumbersCalled$Tape", "readEither", "(I)Z"⟩, 9) := ⟨⟨by decide +kernel, by decide +kernel⟩, List.mem_of_getElem? (i := 95) (by decide +kernel), List.mem_of_getElem? (i := 359) (by decide +kernel), List.mem_of_getElem? (i := 360) (by decide +kernel)⟩
theorem lw_p7 : lw_okq (⟨"NumbersCalled$Tape", "readBoth", "(I)Z"⟩, 9) := ⟨⟨by decide +kernel, by decide +kernel⟩, List.mem_of_getElem? (i := 95) (by decide +kernel), List.mem_of_getElem? (i := 363) (by decide +kernel), List.mem_of_getElem? (i := 364) (by decide +kernel)⟩
theorem lw_p8 : lw_okq (⟨"NumbersCalled$Tape", "readNot", "(I)Z"⟩, 9) := ⟨⟨by decide +kernel, by decide +kernel⟩, List.mem_of_getElem? (i := 95) (by decide +kernel), List.mem_of_getElem? (i := 367) (by decide +kernel), List.mem_of_getElem? (i := 368) (by decide +kernel)⟩
theorem lw_p9 : lw_okq (⟨"NumbersCalled$Tape", "readBehind", "(II)Z"⟩, 9) := ⟨⟨by decide +kernel, by decide +kernel⟩, List.mem_of_getElem? (i := 95) (by decide +kernel), List.mem_of_getElem? (i := 371) (by decide +kernel), List.mem_of_getElem? (i := 372) (by decide +kernel)⟩
theorem lw_p10 : lw_okq (⟨"NumbersCalled$Tape", "readOne", "(I)Z"⟩, 9) := ⟨⟨by decide +kernel, by decide +kernel⟩, List.mem_of_getElem? (i := 95) (by decide +kernel), List.mem_of_getElem? (i := 375) (by decide +kernel), List.mem_of_getElem? (i := 376) (by decide +kernel)⟩
theorem lw_p11 : lw_okq (⟨"NumbersCalled$Tape", "tell", "(I)V"⟩, 9) := ⟨⟨by decide +kernel, by decide +kernel⟩, List.mem_of_getElem? (i := 95) (by decide +kernel), List.mem_of_getElem? (i := 379) (by decide +kernel), List.mem_of_getElem? (i := 380) (by decide +kernel)⟩
theorem lw_p12 : lw_okq (⟨"NumbersCalled$Tape", "readSum", "(I)Z"⟩, 9) := ⟨⟨by decide +kernel, by decide +kernel⟩, List.mem_of_getElem? (i := 95) (by decide +kernel), List.mem_of_getElem? (i := 383) (by decide +kernel), List.mem_of_getElem? (i := 384) (by decide +kernel)⟩
theorem lw_p13 : lw_okq (⟨"NumbersCalled$Tape", "readTerm", "(I)Z"⟩, 9) := ⟨⟨by decide +kernel, by decide +kernel⟩, List.mem_of_getElem? (i := 95) (by decide +kernel), List.mem_of_getElem? (i := 387) (by decide +kernel), List.mem_of_getElem? (i := 388) (by decide +kernel)⟩
theorem lw_p14 : lw_okq (⟨"NumbersCalled", "isCounter", "(I)Z"⟩, 11) := ⟨⟨by decide +kernel, by decide +kernel⟩, List.mem_of_getElem? (i := 17) (by decide +kernel), List.mem_of_getElem? (i := 439) (by decide +kernel), List.mem_of_getElem? (i := 440) (by decide +kernel)⟩
theorem lw_p15 : lw_okq (⟨"NumbersCalled", "ofCounter", "(II)I"⟩, 11) := ⟨⟨by decide +kernel, by decide +kernel⟩, List.mem_of_getElem? (i := 17) (by decide +kernel), List.mem_of_getElem? (i := 446) (by decide +kernel), List.mem_of_getElem? (i := 447) (by decide +kernel)⟩
def lw_privs_1 : List (MethodName × Nat) := [(⟨"NumbersCalled$Tape", "step", "()V"⟩, 9), (⟨"NumbersCalled$Tape", "passAll", "(II)V"⟩, 9), (⟨"NumbersCalled$Tape", "wordToken", "()I"⟩, 9), (⟨"NumbersCalled$Tape", "isWord", "(I)Z"⟩, 9), (⟨"NumbersCalled$Tape", "numberToken", "()I"⟩, 9), (⟨"NumbersCalled$Tape", "skip", "(I)Z"⟩, 9), (⟨"NumbersCalled$Tape", "readEither", "(I)Z"⟩, 9), (⟨"NumbersCalled$Tape", "readBoth", "(I)Z"⟩, 9), (⟨"NumbersCalled$Tape", "readNot", "(I)Z"⟩, 9), (⟨"NumbersCalled$Tape", "readBehind", "(II)Z"⟩, 9), (⟨"NumbersCalled$Tape", "readOne", "(I)Z"⟩, 9), (⟨"NumbersCalled$Tape", "tell", "(I)V"⟩, 9), (⟨"NumbersCalled$Tape", "readSum", "(I)Z"⟩, 9), (⟨"NumbersCalled$Tape", "readTerm", "(I)Z"⟩, 9), (⟨"NumbersCalled", "isCounter", "(I)Z"⟩, 11), (⟨"NumbersCalled", "ofCounter", "(II)I"⟩, 11)]
theorem lw_r1 : ∀ q ∈ lw_privs_1, lw_okq q := List.forall_mem_cons.mpr ⟨lw_p0, List.forall_mem_cons.mpr ⟨lw_p1, List.forall_mem_cons.mpr ⟨lw_p2, List.forall_mem_cons.mpr ⟨lw_p3, List.forall_mem_cons.mpr ⟨lw_p4, List.forall_mem_cons.mpr ⟨lw_p5, List.forall_mem_cons.mpr ⟨lw_p6, List.forall_mem_cons.mpr ⟨lw_p7, List.forall_mem_cons.mpr ⟨lw_p8, List.forall_mem_cons.mpr ⟨lw_p9, List.forall_mem_cons.mpr ⟨lw_p10, List.forall_mem_cons.mpr ⟨lw_p11, List.forall_mem_cons.mpr ⟨lw_p12, List.forall_mem_cons.mpr ⟨lw_p13, List.forall_mem_cons.mpr ⟨lw_p14, List.forall_mem_cons.mpr ⟨lw_p15, fun _ h => absurd h List.not_mem_nil⟩⟩⟩⟩⟩⟩⟩⟩⟩⟩⟩⟩⟩⟩⟩⟩
theorem lw_p16 : lw_okq (⟨"NumbersCalled", "ofHall", "(I)I"⟩, 11) := ⟨⟨by decide +kernel, by decide +kernel⟩, List.mem_of_getElem? (i := 17) (by decide +kernel), List.mem_of_getElem? (i := 461) (by decide +kernel), List.mem_of_getElem? (i := 462) (by decide +kernel)⟩
theorem lw_p17 : lw_okq (⟨"NumbersCalled", "isAsker", "(I)Z"⟩, 11) := ⟨⟨by decide +kernel, by decide +kernel⟩, List.mem_of_getElem? (i := 17) (by decide +kernel), List.mem_of_getElem? (i := 496) (by decide +kernel), List.mem_of_getElem? (i := 497) (by decide +kernel)⟩
theorem lw_p18 : lw_okq (⟨"NumbersCalled", "minded", "(LNumbersCalled$Asker;II)I"⟩, 11) := ⟨⟨by decide +kernel, by decide +kernel⟩, List.mem_of_getElem? (i := 17) (by decide +kernel), List.mem_of_getElem? (i := 537) (by decide +kernel), List.mem_of_getElem? (i := 538) (by decide +kernel)⟩
theorem lw_p19 : lw_okq (⟨"NumbersCalled", "liveAsItIs", "()V"⟩, 11) := ⟨⟨by decide +kernel, by decide +kernel⟩, List.mem_of_getElem? (i := 17) (by decide +kernel), List.mem_of_getElem? (i := 546) (by decide +kernel), List.mem_of_getElem? (i := 547) (by decide +kernel)⟩
theorem lw_p20 : lw_okq (⟨"NumbersCalled", "planAsItIs", "()V"⟩, 11) := ⟨⟨by decide +kernel, by decide +kernel⟩, List.mem_of_getElem? (i := 17) (by decide +kernel), List.mem_of_getElem? (i := 550) (by decide +kernel), List.mem_of_getElem? (i := 551) (by decide +kernel)⟩
theorem lw_p21 : lw_okq (⟨"NumbersCalled", "live", "()V"⟩, 11) := ⟨⟨by decide +kernel, by decide +kernel⟩, List.mem_of_getElem? (i := 17) (by decide +kernel), List.mem_of_getElem? (i := 558) (by decide +kernel), List.mem_of_getElem? (i := 559) (by decide +kernel)⟩
theorem lw_p22 : lw_okq (⟨"NumbersCalled$Day", "begin", "([LNumbersCalled$Asker;)V"⟩, 12) := ⟨⟨by decide +kernel, by decide +kernel⟩, List.mem_of_getElem? (i := 134) (by decide +kernel), List.mem_of_getElem? (i := 566) (by decide +kernel), List.mem_of_getElem? (i := 567) (by decide +kernel)⟩
theorem lw_p23 : lw_okq (⟨"NumbersCalled$Day", "rank", "(LNumbersCalled$Asker;)I"⟩, 12) := ⟨⟨by decide +kernel, by decide +kernel⟩, List.mem_of_getElem? (i := 134) (by decide +kernel), List.mem_of_getElem? (i := 571) (by decide +kernel), List.mem_of_getElem? (i := 572) (by decide +kernel)⟩
theorem lw_p24 : lw_okq (⟨"NumbersCalled$Day", "lineUp", "(II)V"⟩, 12) := ⟨⟨by decide +kernel, by decide +kernel⟩, List.mem_of_getElem? (i := 134) (by decide +kernel), List.mem_of_getElem? (i := 583) (by decide +kernel), List.mem_of_getElem? (i := 584) (by decide +kernel)⟩
theorem lw_p25 : lw_okq (⟨"NumbersCalled$Day", "letIn", "(I)V"⟩, 12) := ⟨⟨by decide +kernel, by decide +kernel⟩, List.mem_of_getElem? (i := 134) (by decide +kernel), List.mem_of_getElem? (i := 587) (by decide +kernel), List.mem_of_getElem? (i := 588) (by decide +kernel)⟩
theorem lw_p26 : lw_okq (⟨"NumbersCalled$Day", "lookAround", "()V"⟩, 12) := ⟨⟨by decide +kernel, by decide +kernel⟩, List.mem_of_getElem? (i := 134) (by decide +kernel), List.mem_of_getElem? (i := 591) (by decide +kernel), List.mem_of_getElem? (i := 592) (by decide +kernel)⟩
theorem lw_p27 : lw_okq (⟨"NumbersCalled$Day", "firstFor", "(I)I"⟩, 12) := ⟨⟨by decide +kernel, by decide +kernel⟩, List.mem_of_getElem? (i := 134) (by decide +kernel), List.mem_of_getElem? (i := 600) (by decide +kernel), List.mem_of_getElem? (i := 601) (by decide +kernel)⟩
theorem lw_p28 : lw_okq (⟨"NumbersCalled$Day", "beckon", "(LNumbersCalled$Asker;LNumbersCalled$Text;III)V"⟩, 12) := ⟨⟨by decide +kernel, by decide +kernel⟩, List.mem_of_getElem? (i := 134) (by decide +kernel), List.mem_of_getElem? (i := 604) (by decide +kernel), List.mem_of_getElem? (i := 605) (by decide +kernel)⟩
theorem lw_p29 : lw_okq (⟨"NumbersCalled", "isTrained", "(III)Z"⟩, 11) := ⟨⟨by decide +kernel, by decide +kernel⟩, List.mem_of_getElem? (i := 17) (by decide +kernel), List.mem_of_getElem? (i := 677) (by decide +kernel), List.mem_of_getElem? (i := 678) (by decide +kernel)⟩
theorem lw_p30 : lw_okq (⟨"NumbersCalled", "someoneComes", "(I)Z"⟩, 11) := ⟨⟨by decide +kernel, by decide +kernel⟩, List.mem_of_getElem? (i := 17) (by decide +kernel), List.mem_of_getElem? (i := 698) (by decide +kernel), List.mem_of_getElem? (i := 699) (by decide +kernel)⟩
theorem lw_p31 : lw_okq (⟨"NumbersCalled", "waitsOfOthers", "(I)I"⟩, 11) := ⟨⟨by decide +kernel, by decide +kernel⟩, List.mem_of_getElem? (i := 17) (by decide +kernel), List.mem_of_getElem? (i := 714) (by decide +kernel), List.mem_of_getElem? (i := 715) (by decide +kernel)⟩
def lw_privs_2 : List (MethodName × Nat) := [(⟨"NumbersCalled", "ofHall", "(I)I"⟩, 11), (⟨"NumbersCalled", "isAsker", "(I)Z"⟩, 11), (⟨"NumbersCalled", "minded", "(LNumbersCalled$Asker;II)I"⟩, 11), (⟨"NumbersCalled", "liveAsItIs", "()V"⟩, 11), (⟨"NumbersCalled", "planAsItIs", "()V"⟩, 11), (⟨"NumbersCalled", "live", "()V"⟩, 11), (⟨"NumbersCalled$Day", "begin", "([LNumbersCalled$Asker;)V"⟩, 12), (⟨"NumbersCalled$Day", "rank", "(LNumbersCalled$Asker;)I"⟩, 12), (⟨"NumbersCalled$Day", "lineUp", "(II)V"⟩, 12), (⟨"NumbersCalled$Day", "letIn", "(I)V"⟩, 12), (⟨"NumbersCalled$Day", "lookAround", "()V"⟩, 12), (⟨"NumbersCalled$Day", "firstFor", "(I)I"⟩, 12), (⟨"NumbersCalled$Day", "beckon", "(LNumbersCalled$Asker;LNumbersCalled$Text;III)V"⟩, 12), (⟨"NumbersCalled", "isTrained", "(III)Z"⟩, 11), (⟨"NumbersCalled", "someoneComes", "(I)Z"⟩, 11), (⟨"NumbersCalled", "waitsOfOthers", "(I)I"⟩, 11)]
theorem lw_r2 : ∀ q ∈ lw_privs_2, lw_okq q := List.forall_mem_cons.mpr ⟨lw_p16, List.forall_mem_cons.mpr ⟨lw_p17, List.forall_mem_cons.mpr ⟨lw_p18, List.forall_mem_cons.mpr ⟨lw_p19, List.forall_mem_cons.mpr ⟨lw_p20, List.forall_mem_cons.mpr ⟨lw_p21, List.forall_mem_cons.mpr ⟨lw_p22, List.forall_mem_cons.mpr ⟨lw_p23, List.forall_mem_cons.mpr ⟨lw_p24, List.forall_mem_cons.mpr ⟨lw_p25, List.forall_mem_cons.mpr ⟨lw_p26, List.forall_mem_cons.mpr ⟨lw_p27, List.forall_mem_cons.mpr ⟨lw_p28, List.forall_mem_cons.mpr ⟨lw_p29, List.forall_mem_cons.mpr ⟨lw_p30, List.forall_mem_cons.mpr ⟨lw_p31, fun _ h => absurd h List.not_mem_nil⟩⟩⟩⟩⟩⟩⟩⟩⟩⟩⟩⟩⟩⟩⟩⟩
theorem lw_p32 : lw_okq (⟨"NumbersCalled", "seekBest", "(I)V"⟩, 11) := ⟨⟨by decide +kernel, by decide +kernel⟩, List.mem_of_getElem? (i := 17) (by decide +kernel), List.mem_of_getElem? (i := 732) (by decide +kernel), List.mem_of_getElem? (i := 733) (by decide +kernel)⟩
theorem lw_p33 : lw_okq (⟨"NumbersCalled", "wouldMove", "(I)Z"⟩, 11) := ⟨⟨by decide +kernel, by decide +kernel⟩, List.mem_of_getElem? (i := 17) (by decide +kernel), List.mem_of_getElem? (i := 744) (by decide +kernel), List.mem_of_getElem? (i := 745) (by decide +kernel)⟩
theorem lw_p34 : lw_okq (⟨"NumbersCalled", "startParts", "()V"⟩, 11) := ⟨⟨by decide +kernel, by decide +kernel⟩, List.mem_of_getElem? (i := 17) (by decide +kernel), List.mem_of_getElem? (i := 761) (by decide +kernel), List.mem_of_getElem? (i := 762) (by decide +kernel)⟩
theorem lw_p35 : lw_okq (⟨"NumbersCalled", "giveOneMore", "(II)V"⟩, 11) := ⟨⟨by decide +kernel, by decide +kernel⟩, List.mem_of_getElem? (i := 17) (by decide +kernel), List.mem_of_getElem? (i := 766) (by decide +kernel), List.mem_of_getElem? (i := 767) (by decide +kernel)⟩
theorem lw_p36 : lw_okq (⟨"NumbersCalled", "partsAbove", "(I)J"⟩, 11) := ⟨⟨by decide +kernel, by decide +kernel⟩, List.mem_of_getElem? (i := 17) (by decide +kernel), List.mem_of_getElem? (i := 771) (by decide +kernel), List.mem_of_getElem? (i := 772) (by decide +kernel)⟩
theorem lw_p37 : lw_okq (⟨"NumbersCalled", "refusalOfRoll", "(I)I"⟩, 11) := ⟨⟨by decide +kernel, by decide +kernel⟩, List.mem_of_getElem? (i := 17) (by decide +kernel), List.mem_of_getElem? (i := 784) (by decide +kernel), List.mem_of_getElem? (i := 785) (by decide +kernel)⟩
theorem lw_p38 : lw_okq (⟨"NumbersCalled", "firstOtherwise", "(LNumbersCalled$Sheet;)I"⟩, 11) := ⟨⟨by decide +kernel, by decide +kernel⟩, List.mem_of_getElem? (i := 17) (by decide +kernel), List.mem_of_getElem? (i := 795) (by decide +kernel), List.mem_of_getElem? (i := 796) (by decide +kernel)⟩
theorem lw_p39 : lw_okq (⟨"NumbersCalled", "planDrawn", "(I)V"⟩, 11) := ⟨⟨by decide +kernel, by decide +kernel⟩, List.mem_of_getElem? (i := 17) (by decide +kernel), List.mem_of_getElem? (i := 824) (by decide +kernel), List.mem_of_getElem? (i := 825) (by decide +kernel)⟩
theorem lw_p40 : lw_okq (⟨"NumbersCalledModel", "next", "()V"⟩, 54) := ⟨⟨by decide +kernel, by decide +kernel⟩, List.mem_of_getElem? (i := 876) (by decide +kernel), List.mem_of_getElem? (i := 886) (by decide +kernel), List.mem_of_getElem? (i := 887) (by decide +kernel)⟩
theorem lw_p41 : lw_okq (⟨"NumbersCalledModel", "wordFrom", "(II)I"⟩, 54) := ⟨⟨by decide +kernel, by decide +kernel⟩, List.mem_of_getElem? (i := 876) (by decide +kernel), List.mem_of_getElem? (i := 893) (by decide +kernel), List.mem_of_getElem? (i := 894) (by decide +kernel)⟩
theorem lw_p42 : lw_okq (⟨"NumbersCalledModel", "eRead", "()Z"⟩, 54) := ⟨⟨by decide +kernel, by decide +kernel⟩, List.mem_of_getElem? (i := 876) (by decide +kernel), List.mem_of_getElem? (i := 897) (by decide +kernel), List.mem_of_getElem? (i := 898) (by decide +kernel)⟩
theorem lw_p43 : lw_okq (⟨"NumbersCalledModel", "puts", "(I)V"⟩, 54) := ⟨⟨by decide +kernel, by decide +kernel⟩, List.mem_of_getElem? (i := 876) (by decide +kernel), List.mem_of_getElem? (i := 902) (by decide +kernel), List.mem_of_getElem? (i := 903) (by decide +kernel)⟩
theorem lw_p44 : lw_okq (⟨"NumbersCalledModel", "unwinds", "(I)V"⟩, 54) := ⟨⟨by decide +kernel, by decide +kernel⟩, List.mem_of_getElem? (i := 876) (by decide +kernel), List.mem_of_getElem? (i := 906) (by decide +kernel), List.mem_of_getElem? (i := 907) (by decide +kernel)⟩
theorem lw_p45 : lw_okq (⟨"NumbersCalledModel", "opensOne", "(I)Z"⟩, 54) := ⟨⟨by decide +kernel, by decide +kernel⟩, List.mem_of_getElem? (i := 876) (by decide +kernel), List.mem_of_getElem? (i := 913) (by decide +kernel), List.mem_of_getElem? (i := 914) (by decide +kernel)⟩
theorem lw_p46 : lw_okq (⟨"NumbersCalledModel", "holds", "(I)V"⟩, 54) := ⟨⟨by decide +kernel, by decide +kernel⟩, List.mem_of_getElem? (i := 876) (by decide +kernel), List.mem_of_getElem? (i := 917) (by decide +kernel), List.mem_of_getElem? (i := 918) (by decide +kernel)⟩
theorem lw_p47 : lw_okq (⟨"NumbersCalledModel", "signOf", "()I"⟩, 54) := ⟨⟨by decide +kernel, by decide +kernel⟩, List.mem_of_getElem? (i := 876) (by decide +kernel), List.mem_of_getElem? (i := 921) (by decide +kernel), List.mem_of_getElem? (i := 922) (by decide +kernel)⟩
def lw_privs_3 : List (MethodName × Nat) := [(⟨"NumbersCalled", "seekBest", "(I)V"⟩, 11), (⟨"NumbersCalled", "wouldMove", "(I)Z"⟩, 11), (⟨"NumbersCalled", "startParts", "()V"⟩, 11), (⟨"NumbersCalled", "giveOneMore", "(II)V"⟩, 11), (⟨"NumbersCalled", "partsAbove", "(I)J"⟩, 11), (⟨"NumbersCalled", "refusalOfRoll", "(I)I"⟩, 11), (⟨"NumbersCalled", "firstOtherwise", "(LNumbersCalled$Sheet;)I"⟩, 11), (⟨"NumbersCalled", "planDrawn", "(I)V"⟩, 11), (⟨"NumbersCalledModel", "next", "()V"⟩, 54), (⟨"NumbersCalledModel", "wordFrom", "(II)I"⟩, 54), (⟨"NumbersCalledModel", "eRead", "()Z"⟩, 54), (⟨"NumbersCalledModel", "puts", "(I)V"⟩, 54), (⟨"NumbersCalledModel", "unwinds", "(I)V"⟩, 54), (⟨"NumbersCalledModel", "opensOne", "(I)Z"⟩, 54), (⟨"NumbersCalledModel", "holds", "(I)V"⟩, 54), (⟨"NumbersCalledModel", "signOf", "()I"⟩, 54)]
theorem lw_r3 : ∀ q ∈ lw_privs_3, lw_okq q := List.forall_mem_cons.mpr ⟨lw_p32, List.forall_mem_cons.mpr ⟨lw_p33, List.forall_mem_cons.mpr ⟨lw_p34, List.forall_mem_cons.mpr ⟨lw_p35, List.forall_mem_cons.mpr ⟨lw_p36, List.forall_mem_cons.mpr ⟨lw_p37, List.forall_mem_cons.mpr ⟨lw_p38, List.forall_mem_cons.mpr ⟨lw_p39, List.forall_mem_cons.mpr ⟨lw_p40, List.forall_mem_cons.mpr ⟨lw_p41, List.forall_mem_cons.mpr ⟨lw_p42, List.forall_mem_cons.mpr ⟨lw_p43, List.forall_mem_cons.mpr ⟨lw_p44, List.forall_mem_cons.mpr ⟨lw_p45, List.forall_mem_cons.mpr ⟨lw_p46, List.forall_mem_cons.mpr ⟨lw_p47, fun _ h => absurd h List.not_mem_nil⟩⟩⟩⟩⟩⟩⟩⟩⟩⟩⟩⟩⟩⟩⟩⟩
theorem lw_p48 : lw_okq (⟨"NumbersCalledModel", "between", "(I)Z"⟩, 54) := ⟨⟨by decide +kernel, by decide +kernel⟩, List.mem_of_getElem? (i := 876) (by decide +kernel), List.mem_of_getElem? (i := 925) (by decide +kernel), List.mem_of_getElem? (i := 926) (by decide +kernel)⟩
theorem lw_p49 : lw_okq (⟨"NumbersCalledModel", "isCounter", "(I)Z"⟩, 54) := ⟨⟨by decide +kernel, by decide +kernel⟩, List.mem_of_getElem? (i := 876) (by decide +kernel), List.mem_of_getElem? (i := 1103) (by decide +kernel), List.mem_of_getElem? (i := 1104) (by decide +kernel)⟩
theorem lw_p50 : lw_okq (⟨"NumbersCalledModel", "comesAs", "(III)V"⟩, 54) := ⟨⟨by decide +kernel, by decide +kernel⟩, List.mem_of_getElem? (i := 876) (by decide +kernel), List.mem_of_getElem? (i := 1136) (by decide +kernel), List.mem_of_getElem? (i := 1137) (by decide +kernel)⟩
theorem lw_p51 : lw_okq (⟨"NumbersCalledModel", "isAsker", "(I)Z"⟩, 54) := ⟨⟨by decide +kernel, by decide +kernel⟩, List.mem_of_getElem? (i := 876) (by decide +kernel), List.mem_of_getElem? (i := 1144) (by decide +kernel), List.mem_of_getElem? (i := 1145) (by decide +kernel)⟩
theorem lw_p52 : lw_okq (⟨"NumbersCalledModel", "needs", "(I)I"⟩, 54) := ⟨⟨by decide +kernel, by decide +kernel⟩, List.mem_of_getElem? (i := 876) (by decide +kernel), List.mem_of_getElem? (i := 1156) (by decide +kernel), List.mem_of_getElem? (i := 1157) (by decide +kernel)⟩
theorem lw_p53 : lw_okq (⟨"NumbersCalledModel", "takesOf", "(III)I"⟩, 54) := ⟨⟨by decide +kernel, by decide +kernel⟩, List.mem_of_getElem? (i := 876) (by decide +kernel), List.mem_of_getElem? (i := 1164) (by decide +kernel), List.mem_of_getElem? (i := 1165) (by decide +kernel)⟩
theorem lw_p54 : lw_okq (⟨"NumbersCalledModel", "asksOf", "(IIIII)I"⟩, 54) := ⟨⟨by decide +kernel, by decide +kernel⟩, List.mem_of_getElem? (i := 876) (by decide +kernel), List.mem_of_getElem? (i := 1168) (by decide +kernel), List.mem_of_getElem? (i := 1169) (by decide +kernel)⟩
theorem lw_p55 : lw_okq (⟨"NumbersCalledModel", "worth", "(I)I"⟩, 54) := ⟨⟨by decide +kernel, by decide +kernel⟩, List.mem_of_getElem? (i := 876) (by decide +kernel), List.mem_of_getElem? (i := 1172) (by decide +kernel), List.mem_of_getElem? (i := 1173) (by decide +kernel)⟩
theorem lw_p56 : lw_okq (⟨"NumbersCalledModel", "isThere", "(II)Z"⟩, 54) := ⟨⟨by decide +kernel, by decide +kernel⟩, List.mem_of_getElem? (i := 876) (by decide +kernel), List.mem_of_getElem? (i := 1182) (by decide +kernel), List.mem_of_getElem? (i := 1183) (by decide +kernel)⟩
theorem lw_p57 : lw_okq (⟨"NumbersCalledModel", "lives", "()V"⟩, 54) := ⟨⟨by decide +kernel, by decide +kernel⟩, List.mem_of_getElem? (i := 876) (by decide +kernel), List.mem_of_getElem? (i := 1190) (by decide +kernel), List.mem_of_getElem? (i := 1191) (by decide +kernel)⟩
theorem lw_p58 : lw_okq (⟨"NumbersCalledModel", "minute", "(I)V"⟩, 54) := ⟨⟨by decide +kernel, by decide +kernel⟩, List.mem_of_getElem? (i := 876) (by decide +kernel), List.mem_of_getElem? (i := 1194) (by decide +kernel), List.mem_of_getElem? (i := 1195) (by decide +kernel)⟩
theorem lw_p59 : lw_okq (⟨"NumbersCalledModel", "firstFor", "(I)I"⟩, 54) := ⟨⟨by decide +kernel, by decide +kernel⟩, List.mem_of_getElem? (i := 876) (by decide +kernel), List.mem_of_getElem? (i := 1198) (by decide +kernel), List.mem_of_getElem? (i := 1199) (by decide +kernel)⟩
theorem lw_p60 : lw_okq (⟨"NumbersCalledModel", "isAhead", "(II)Z"⟩, 54) := ⟨⟨by decide +kernel, by decide +kernel⟩, List.mem_of_getElem? (i := 876) (by decide +kernel), List.mem_of_getElem? (i := 1202) (by decide +kernel), List.mem_of_getElem? (i := 1203) (by decide +kernel)⟩
theorem lw_p61 : lw_okq (⟨"NumbersCalledModel", "callsOne", "(III)V"⟩, 54) := ⟨⟨by decide +kernel, by decide +kernel⟩, List.mem_of_getElem? (i := 876) (by decide +kernel), List.mem_of_getElem? (i := 1206) (by decide +kernel), List.mem_of_getElem? (i := 1207) (by decide +kernel)⟩
theorem lw_p62 : lw_okq (⟨"NumbersCalledModel", "waitOf", "(I)I"⟩, 54) := ⟨⟨by decide +kernel, by decide +kernel⟩, List.mem_of_getElem? (i := 876) (by decide +kernel), List.mem_of_getElem? (i := 1210) (by decide +kernel), List.mem_of_getElem? (i := 1211) (by decide +kernel)⟩
theorem lw_p63 : lw_okq (⟨"NumbersCalledModel", "sumOf", "(I)I"⟩, 54) := ⟨⟨by decide +kernel, by decide +kernel⟩, List.mem_of_getElem? (i := 876) (by decide +kernel), List.mem_of_getElem? (i := 1218) (by decide +kernel), List.mem_of_getElem? (i := 1219) (by decide +kernel)⟩
def lw_privs_4 : List (MethodName × Nat) := [(⟨"NumbersCalledModel", "between", "(I)Z"⟩, 54), (⟨"NumbersCalledModel", "isCounter", "(I)Z"⟩, 54), (⟨"NumbersCalledModel", "comesAs", "(III)V"⟩, 54), (⟨"NumbersCalledModel", "isAsker", "(I)Z"⟩, 54), (⟨"NumbersCalledModel", "needs", "(I)I"⟩, 54), (⟨"NumbersCalledModel", "takesOf", "(III)I"⟩, 54), (⟨"NumbersCalledModel", "asksOf", "(IIIII)I"⟩, 54), (⟨"NumbersCalledModel", "worth", "(I)I"⟩, 54), (⟨"NumbersCalledModel", "isThere", "(II)Z"⟩, 54), (⟨"NumbersCalledModel", "lives", "()V"⟩, 54), (⟨"NumbersCalledModel", "minute", "(I)V"⟩, 54), (⟨"NumbersCalledModel", "firstFor", "(I)I"⟩, 54), (⟨"NumbersCalledModel", "isAhead", "(II)Z"⟩, 54), (⟨"NumbersCalledModel", "callsOne", "(III)V"⟩, 54), (⟨"NumbersCalledModel", "waitOf", "(I)I"⟩, 54), (⟨"NumbersCalledModel", "sumOf", "(I)I"⟩, 54)]
theorem lw_r4 : ∀ q ∈ lw_privs_4, lw_okq q := List.forall_mem_cons.mpr ⟨lw_p48, List.forall_mem_cons.mpr ⟨lw_p49, List.forall_mem_cons.mpr ⟨lw_p50, List.forall_mem_cons.mpr ⟨lw_p51, List.forall_mem_cons.mpr ⟨lw_p52, List.forall_mem_cons.mpr ⟨lw_p53, List.forall_mem_cons.mpr ⟨lw_p54, List.forall_mem_cons.mpr ⟨lw_p55, List.forall_mem_cons.mpr ⟨lw_p56, List.forall_mem_cons.mpr ⟨lw_p57, List.forall_mem_cons.mpr ⟨lw_p58, List.forall_mem_cons.mpr ⟨lw_p59, List.forall_mem_cons.mpr ⟨lw_p60, List.forall_mem_cons.mpr ⟨lw_p61, List.forall_mem_cons.mpr ⟨lw_p62, List.forall_mem_cons.mpr ⟨lw_p63, fun _ h => absurd h List.not_mem_nil⟩⟩⟩⟩⟩⟩⟩⟩⟩⟩⟩⟩⟩⟩⟩⟩
theorem lw_p64 : lw_okq (⟨"NumbersCalledModel", "manyIn", "(I)I"⟩, 54) := ⟨⟨by decide +kernel, by decide +kernel⟩, List.mem_of_getElem? (i := 876) (by decide +kernel), List.mem_of_getElem? (i := 1222) (by decide +kernel), List.mem_of_getElem? (i := 1223) (by decide +kernel)⟩
theorem lw_p65 : lw_okq (⟨"NumbersCalledModel", "allWaits", "()I"⟩, 54) := ⟨⟨by decide +kernel, by decide +kernel⟩, List.mem_of_getElem? (i := 876) (by decide +kernel), List.mem_of_getElem? (i := 1226) (by decide +kernel), List.mem_of_getElem? (i := 1227) (by decide +kernel)⟩
theorem lw_p66 : lw_okq (⟨"NumbersCalledModel", "longest", "()I"⟩, 54) := ⟨⟨by decide +kernel, by decide +kernel⟩, List.mem_of_getElem? (i := 876) (by decide +kernel), List.mem_of_getElem? (i := 1230) (by decide +kernel), List.mem_of_getElem? (i := 1231) (by decide +kernel)⟩
theorem lw_p67 : lw_okq (⟨"NumbersCalledModel", "latest", "()I"⟩, 54) := ⟨⟨by decide +kernel, by decide +kernel⟩, List.mem_of_getElem? (i := 876) (by decide +kernel), List.mem_of_getElem? (i := 1234) (by decide +kernel), List.mem_of_getElem? (i := 1235) (by decide +kernel)⟩
theorem lw_p68 : lw_okq (⟨"NumbersCalledModel", "harmNow", "()I"⟩, 54) := ⟨⟨by decide +kernel, by decide +kernel⟩, List.mem_of_getElem? (i := 876) (by decide +kernel), List.mem_of_getElem? (i := 1246) (by decide +kernel), List.mem_of_getElem? (i := 1247) (by decide +kernel)⟩
theorem lw_p69 : lw_okq (⟨"NumbersCalledModel", "isWell", "(I)Z"⟩, 54) := ⟨⟨by decide +kernel, by decide +kernel⟩, List.mem_of_getElem? (i := 876) (by decide +kernel), List.mem_of_getElem? (i := 1258) (by decide +kernel), List.mem_of_getElem? (i := 1259) (by decide +kernel)⟩
theorem lw_p70 : lw_okq (⟨"NumbersCalledModel", "trains", "(IZ)I"⟩, 54) := ⟨⟨by decide +kernel, by decide +kernel⟩, List.mem_of_getElem? (i := 876) (by decide +kernel), List.mem_of_getElem? (i := 1262) (by decide +kernel), List.mem_of_getElem? (i := 1263) (by decide +kernel)⟩
theorem lw_p71 : lw_okq (⟨"NumbersCalledModel", "waitsBut", "(I)I"⟩, 54) := ⟨⟨by decide +kernel, by decide +kernel⟩, List.mem_of_getElem? (i := 876) (by decide +kernel), List.mem_of_getElem? (i := 1282) (by decide +kernel), List.mem_of_getElem? (i := 1283) (by decide +kernel)⟩
theorem lw_p72 : lw_okq (⟨"NumbersCalledModel", "bestFor", "(I)I"⟩, 54) := ⟨⟨by decide +kernel, by decide +kernel⟩, List.mem_of_getElem? (i := 876) (by decide +kernel), List.mem_of_getElem? (i := 1298) (by decide +kernel), List.mem_of_getElem? (i := 1299) (by decide +kernel)⟩
theorem lw_p73 : lw_okq (⟨"NumbersCalledModel", "badFor", "(I)I"⟩, 54) := ⟨⟨by decide +kernel, by decide +kernel⟩, List.mem_of_getElem? (i := 876) (by decide +kernel), List.mem_of_getElem? (i := 1302) (by decide +kernel), List.mem_of_getElem? (i := 1303) (by decide +kernel)⟩
theorem lw_p74 : lw_okq (⟨"NumbersCalledModel", "overOf", "(III)J"⟩, 54) := ⟨⟨by decide +kernel, by decide +kernel⟩, List.mem_of_getElem? (i := 876) (by decide +kernel), List.mem_of_getElem? (i := 1322) (by decide +kernel), List.mem_of_getElem? (i := 1323) (by decide +kernel)⟩
theorem lw_p75 : lw_okq (⟨"NumbersCalledModel", "rollWrong", "(I)I"⟩, 54) := ⟨⟨by decide +kernel, by decide +kernel⟩, List.mem_of_getElem? (i := 876) (by decide +kernel), List.mem_of_getElem? (i := 1338) (by decide +kernel), List.mem_of_getElem? (i := 1339) (by decide +kernel)⟩
theorem lw_p76 : lw_okq (⟨"NumbersCalledModel", "unlike", "(I)I"⟩, 54) := ⟨⟨by decide +kernel, by decide +kernel⟩, List.mem_of_getElem? (i := 876) (by decide +kernel), List.mem_of_getElem? (i := 1342) (by decide +kernel), List.mem_of_getElem? (i := 1343) (by decide +kernel)⟩
theorem lw_p77 : lw_okq (⟨"NumbersCalledModel", "draws", "(I)V"⟩, 54) := ⟨⟨by decide +kernel, by decide +kernel⟩, List.mem_of_getElem? (i := 876) (by decide +kernel), List.mem_of_getElem? (i := 1363) (by decide +kernel), List.mem_of_getElem? (i := 1364) (by decide +kernel)⟩
theorem lw_p78 : lw_okq (⟨"NumbersCalledModel", "undraws", "()V"⟩, 54) := ⟨⟨by decide +kernel, by decide +kernel⟩, List.mem_of_getElem? (i := 876) (by decide +kernel), List.mem_of_getElem? (i := 1370) (by decide +kernel), List.mem_of_getElem? (i := 1371) (by decide +kernel)⟩
def lw_privs_5 : List (MethodName × Nat) := [(⟨"NumbersCalledModel", "manyIn", "(I)I"⟩, 54), (⟨"NumbersCalledModel", "allWaits", "()I"⟩, 54), (⟨"NumbersCalledModel", "longest", "()I"⟩, 54), (⟨"NumbersCalledModel", "latest", "()I"⟩, 54), (⟨"NumbersCalledModel", "harmNow", "()I"⟩, 54), (⟨"NumbersCalledModel", "isWell", "(I)Z"⟩, 54), (⟨"NumbersCalledModel", "trains", "(IZ)I"⟩, 54), (⟨"NumbersCalledModel", "waitsBut", "(I)I"⟩, 54), (⟨"NumbersCalledModel", "bestFor", "(I)I"⟩, 54), (⟨"NumbersCalledModel", "badFor", "(I)I"⟩, 54), (⟨"NumbersCalledModel", "overOf", "(III)J"⟩, 54), (⟨"NumbersCalledModel", "rollWrong", "(I)I"⟩, 54), (⟨"NumbersCalledModel", "unlike", "(I)I"⟩, 54), (⟨"NumbersCalledModel", "draws", "(I)V"⟩, 54), (⟨"NumbersCalledModel", "undraws", "()V"⟩, 54)]
theorem lw_r5 : ∀ q ∈ lw_privs_5, lw_okq q := List.forall_mem_cons.mpr ⟨lw_p64, List.forall_mem_cons.mpr ⟨lw_p65, List.forall_mem_cons.mpr ⟨lw_p66, List.forall_mem_cons.mpr ⟨lw_p67, List.forall_mem_cons.mpr ⟨lw_p68, List.forall_mem_cons.mpr ⟨lw_p69, List.forall_mem_cons.mpr ⟨lw_p70, List.forall_mem_cons.mpr ⟨lw_p71, List.forall_mem_cons.mpr ⟨lw_p72, List.forall_mem_cons.mpr ⟨lw_p73, List.forall_mem_cons.mpr ⟨lw_p74, List.forall_mem_cons.mpr ⟨lw_p75, List.forall_mem_cons.mpr ⟨lw_p76, List.forall_mem_cons.mpr ⟨lw_p77, List.forall_mem_cons.mpr ⟨lw_p78, fun _ h => absurd h List.not_mem_nil⟩⟩⟩⟩⟩⟩⟩⟩⟩⟩⟩⟩⟩⟩⟩
def lw_privs : List (MethodName × Nat) := lw_privs_1 ++ (lw_privs_2 ++ (lw_privs_3 ++ (lw_privs_4 ++ (lw_privs_5))))
def lw_tbl : List Cond := k2_sels lw_privs ++ tables_1
theorem lw_privs_ok : ∀ q ∈ lw_privs, lw_okq q := by
  show ∀ q ∈ lw_privs_1 ++ (lw_privs_2 ++ (lw_privs_3 ++ (lw_privs_4 ++ (lw_privs_5)))), lw_okq q
  exact List.forall_mem_append.mpr ⟨lw_r1, List.forall_mem_append.mpr ⟨lw_r2, List.forall_mem_append.mpr ⟨lw_r3, List.forall_mem_append.mpr ⟨lw_r4, lw_r5⟩⟩⟩⟩
end
section
def RX0 : String := "NumbersCalled$Asker"
def TX0 : u_T := fun k => match k with
  | 0 => ("NumbersCalled$Asker", "kind", "I", false)
  | 1 => ("NumbersCalled$Asker", "letter", "I", false)
  | 2 => ("NumbersCalled$Asker", "base", "I", false)
  | _ => ("NumbersCalled$Asker", "more", "I", false)
def tyX0 : Nat → FieldType := fun k => match k with
  | 0 => .int
  | 1 => .int
  | 2 => .int
  | _ => .int
abbrev wsX00 : List Cond := u_ws RX0 TX0 4
theorem nmX0 : ∀ a, a < 4 → ∀ b, b < 4 → a ≠ b → (TX0 a).2.1 ≠ (TX0 b).2.1 := by decide +kernel
theorem tyX0_ok : ∀ k, k < 4 → parseFieldDescriptor (TX0 k).2.2.1 = some (tyX0 k) := by decide +kernel
abbrev cX0_init : ByteArray := prog_2_method_1_code
def yX0_init : MethodName := ⟨RX0, "<init>", "()V"⟩
abbrev cX0_become : ByteArray := prog_2_method_2_code
def yX0_become : MethodName := ⟨RX0, "become", "(IIII)V"⟩
abbrev cX0_isA : ByteArray := prog_2_method_3_code
def yX0_isA : MethodName := ⟨RX0, "isA", "(I)Z"⟩
abbrev cX0_isOld : ByteArray := prog_2_method_4_code
def yX0_isOld : MethodName := ⟨RX0, "isOld", "()Z"⟩
abbrev cX0_isBack : ByteArray := prog_2_method_5_code
def yX0_isBack : MethodName := ⟨RX0, "isBack", "()Z"⟩
abbrev cX0_needs : ByteArray := prog_2_method_6_code
def yX0_needs : MethodName := ⟨RX0, "needs", "()I"⟩
abbrev cX0_isThere : ByteArray := prog_2_method_7_code
def yX0_isThere : MethodName := ⟨RX0, "isThere", "(II)Z"⟩
abbrev cX0_takes : ByteArray := prog_2_method_8_code
def yX0_takes : MethodName := ⟨RX0, "takes", "(IZ)I"⟩
def RX1 : String := "NumbersCalled$Day"
def TX1 : u_T := fun k => match k with
  | 0 => ("NumbersCalled$Day", "plan", "LNumbersCalled$Plan;", true)
  | 1 => ("NumbersCalled$Day", "fate", "[I", true)
  | 2 => ("NumbersCalled$Day", "began", "[I", true)
  | 3 => ("NumbersCalled$Day", "ended", "[I", true)
  | 4 => ("NumbersCalled$Day", "servedAt", "[I", true)
  | 5 => ("NumbersCalled$Day", "times", "[I", true)
  | 6 => ("NumbersCalled$Day", "idled", "[I", true)
  | 7 => ("NumbersCalled$Day", "waitsWith", "[I", true)
  | 8 => ("NumbersCalled$Day", "busyTill", "[I", true)
  | 9 => ("NumbersCalled$Day", "line", "[I", true)
  | 10 => ("NumbersCalled$Day", "toCome", "I", false)
  | _ => ("NumbersCalled$Day", "wanted", "I", false)
def tyX1 : Nat → FieldType := fun k => match k with
  | 0 => .object "NumbersCalled$Plan"
  | 1 => .array .int
  | 2 => .array .int
  | 3 => .array .int
  | 4 => .array .int
  | 5 => .array .int
  | 6 => .array .int
  | 7 => .array .int
  | 8 => .array .int
  | 9 => .array .int
  | 10 => .int
  | _ => .int
abbrev wsX10 : List Cond := u_ws RX1 TX1 12
theorem nmX1 : ∀ a, a < 12 → ∀ b, b < 12 → a ≠ b → (TX1 a).2.1 ≠ (TX1 b).2.1 := by decide +kernel
theorem tyX1_ok : ∀ k, k < 12 → parseFieldDescriptor (TX1 k).2.2.1 = some (tyX1 k) := by decide +kernel
abbrev cX1_init : ByteArray := prog_3_method_1_code
def yX1_init : MethodName := ⟨RX1, "<init>", "()V"⟩
abbrev cX1_run : ByteArray := prog_3_method_2_code
def yX1_run : MethodName := ⟨RX1, "run", "([LNumbersCalled$Asker;LNumbersCalled$Text;)V"⟩
abbrev cX1_begin : ByteArray := prog_3_method_3_code
def yX1_begin : MethodName := ⟨RX1, "begin", "([LNumbersCalled$Asker;)V"⟩
abbrev cX1_rank : ByteArray := prog_3_method_4_code
def yX1_rank : MethodName := ⟨RX1, "rank", "(LNumbersCalled$Asker;)I"⟩
abbrev cX1_lineUp : ByteArray := prog_3_method_5_code
def yX1_lineUp : MethodName := ⟨RX1, "lineUp", "(II)V"⟩
abbrev cX1_letIn : ByteArray := prog_3_method_6_code
def yX1_letIn : MethodName := ⟨RX1, "letIn", "(I)V"⟩
abbrev cX1_lookAround : ByteArray := prog_3_method_7_code
def yX1_lookAround : MethodName := ⟨RX1, "lookAround", "()V"⟩
abbrev cX1_firstFor : ByteArray := prog_3_method_8_code
def yX1_firstFor : MethodName := ⟨RX1, "firstFor", "(I)I"⟩
abbrev cX1_beckon : ByteArray := prog_3_method_9_code
def yX1_beckon : MethodName := ⟨RX1, "beckon", "(LNumbersCalled$Asker;LNumbersCalled$Text;III)V"⟩
abbrev cX1_waited : ByteArray := prog_3_method_10_code
def yX1_waited : MethodName := ⟨RX1, "waited", "(I)I"⟩
abbrev cX1_badFor : ByteArray := prog_3_method_11_code
def yX1_badFor : MethodName := ⟨RX1, "badFor", "(I)I"⟩
abbrev cX1_many : ByteArray := prog_3_method_12_code
def yX1_many : MethodName := ⟨RX1, "many", "(I)I"⟩
abbrev cX1_allWaits : ByteArray := prog_3_method_13_code
def yX1_allWaits : MethodName := ⟨RX1, "allWaits", "()I"⟩
abbrev cX1_longest : ByteArray := prog_3_method_14_code
def yX1_longest : MethodName := ⟨RX1, "longest", "()I"⟩
abbrev cX1_latestEnd : ByteArray := prog_3_method_15_code
def yX1_latestEnd : MethodName := ⟨RX1, "latestEnd", "()I"⟩
abbrev cX1_allIdled : ByteArray := prog_3_method_16_code
def yX1_allIdled : MethodName := ⟨RX1, "allIdled", "()I"⟩
abbrev cX1_harm : ByteArray := prog_3_method_17_code
def yX1_harm : MethodName := ⟨RX1, "harm", "()I"⟩
abbrev cX1_isOver : ByteArray := prog_3_method_18_code
def yX1_isOver : MethodName := ⟨RX1, "isOver", "(I)Z"⟩
abbrev cX1_total : ByteArray := prog_3_method_19_code
def yX1_total : MethodName := ⟨RX1, "total", "(I)I"⟩
def RX2 : String := "NumbersCalled$Least"
def TX2 : u_T := fun k => match k with
  | 0 => ("NumbersCalled$Least", "at", "I", false)
  | _ => ("NumbersCalled$Least", "much", "I", false)
def tyX2 : Nat → FieldType := fun k => match k with
  | 0 => .int
  | _ => .int
abbrev wsX20 : List Cond := u_ws RX2 TX2 2
theorem nmX2 : ∀ a, a < 2 → ∀ b, b < 2 → a ≠ b → (TX2 a).2.1 ≠ (TX2 b).2.1 := by decide +kernel
theorem tyX2_ok : ∀ k, k < 2 → parseFieldDescriptor (TX2 k).2.2.1 = some (tyX2 k) := by decide +kernel
abbrev cX2_init : ByteArray := prog_4_method_1_code
def yX2_init : MethodName := ⟨RX2, "<init>", "()V"⟩
abbrev cX2_start : ByteArray := prog_4_method_2_code
def yX2_start : MethodName := ⟨RX2, "start", "()V"⟩
abbrev cX2_offer : ByteArray := prog_4_method_3_code
def yX2_offer : MethodName := ⟨RX2, "offer", "(II)V"⟩
abbrev cX2_tell : ByteArray := prog_4_method_4_code
def yX2_tell : MethodName := ⟨RX2, "tell", "(I)I"⟩
def RX3 : String := "NumbersCalled$Plan"
def TX3 : u_T := fun k => match k with
  | 0 => ("NumbersCalled$Plan", "counters", "I", false)
  | 1 => ("NumbersCalled$Plan", "does", "[I", true)
  | 2 => ("NumbersCalled$Plan", "slow", "[I", true)
  | 3 => ("NumbersCalled$Plan", "pause", "[I", true)
  | 4 => ("NumbersCalled$Plan", "askers", "I", false)
  | 5 => ("NumbersCalled$Plan", "comes", "[I", true)
  | 6 => ("NumbersCalled$Plan", "who", "I", false)
  | 7 => ("NumbersCalled$Plan", "called", "I", false)
  | 8 => ("NumbersCalled$Plan", "stop", "I", false)
  | 9 => ("NumbersCalled$Plan", "law", "I", false)
  | 10 => ("NumbersCalled$Plan", "backsLikeWrong", "Z", false)
  | _ => ("NumbersCalled$Plan", "pullsNeeded", "Z", false)
def tyX3 : Nat → FieldType := fun k => match k with
  | 0 => .int
  | 1 => .array .int
  | 2 => .array .int
  | 3 => .array .int
  | 4 => .int
  | 5 => .array .int
  | 6 => .int
  | 7 => .int
  | 8 => .int
  | 9 => .int
  | 10 => .boolean
  | _ => .boolean
abbrev wsX30 : List Cond := u_ws RX3 TX3 12
theorem nmX3 : ∀ a, a < 12 → ∀ b, b < 12 → a ≠ b → (TX3 a).2.1 ≠ (TX3 b).2.1 := by decide +kernel
theorem tyX3_ok : ∀ k, k < 12 → parseFieldDescriptor (TX3 k).2.2.1 = some (tyX3 k) := by decide +kernel
abbrev cX3_init : ByteArray := prog_5_method_1_code
def yX3_init : MethodName := ⟨RX3, "<init>", "()V"⟩
abbrev cX3_become : ByteArray := prog_5_method_2_code
def yX3_become : MethodName := ⟨RX3, "become", "(LNumbersCalled$Plan;)V"⟩
abbrev cX3_teach : ByteArray := prog_5_method_3_code
def yX3_teach : MethodName := ⟨RX3, "teach", "(I)V"⟩
abbrev cX3_isPausing : ByteArray := prog_5_method_4_code
def yX3_isPausing : MethodName := ⟨RX3, "isPausing", "(II)Z"⟩
def RX4 : String := "NumbersCalled$Sheet"
def TX4 : u_T := fun k => match k with
  | 0 => ("NumbersCalled$Sheet", "sort", "I", false)
  | 1 => ("NumbersCalled$Sheet", "size", "I", false)
  | _ => ("NumbersCalled$Sheet", "cells", "[I", true)
def tyX4 : Nat → FieldType := fun k => match k with
  | 0 => .int
  | 1 => .int
  | _ => .array .int
abbrev wsX40 : List Cond := u_ws RX4 TX4 3
theorem nmX4 : ∀ a, a < 3 → ∀ b, b < 3 → a ≠ b → (TX4 a).2.1 ≠ (TX4 b).2.1 := by decide +kernel
theorem tyX4_ok : ∀ k, k < 3 → parseFieldDescriptor (TX4 k).2.2.1 = some (tyX4 k) := by decide +kernel
abbrev cX4_init : ByteArray := prog_6_method_1_code
def yX4_init : MethodName := ⟨RX4, "<init>", "()V"⟩
abbrev cX4_isMissing : ByteArray := prog_6_method_2_code
def yX4_isMissing : MethodName := ⟨RX4, "isMissing", "()Z"⟩
abbrev cX4_become : ByteArray := prog_6_method_3_code
def yX4_become : MethodName := ⟨RX4, "become", "(II)V"⟩
abbrev cX4_write : ByteArray := prog_6_method_4_code
def yX4_write : MethodName := ⟨RX4, "write", "(II)V"⟩
def RX5 : String := "NumbersCalled$Tape"
def TX5 : u_T := fun k => match k with
  | 0 => ("NumbersCalled$Tape", "bytes", "[I", true)
  | 1 => ("NumbersCalled$Tape", "size", "I", false)
  | 2 => ("NumbersCalled$Tape", "row", "[I", true)
  | 3 => ("NumbersCalled$Tape", "ends", "[I", true)
  | 4 => ("NumbersCalled$Tape", "told", "I", false)
  | 5 => ("NumbersCalled$Tape", "place", "I", false)
  | 6 => ("NumbersCalled$Tape", "start", "I", false)
  | 7 => ("NumbersCalled$Tape", "token", "I", false)
  | _ => ("NumbersCalled$Tape", "number", "I", false)
def tyX5 : Nat → FieldType := fun k => match k with
  | 0 => .array .int
  | 1 => .int
  | 2 => .array .int
  | 3 => .array .int
  | 4 => .int
  | 5 => .int
  | 6 => .int
  | 7 => .int
  | _ => .int
abbrev wsX50 : List Cond := u_ws RX5 TX5 9
theorem nmX5 : ∀ a, a < 9 → ∀ b, b < 9 → a ≠ b → (TX5 a).2.1 ≠ (TX5 b).2.1 := by decide +kernel
theorem tyX5_ok : ∀ k, k < 9 → parseFieldDescriptor (TX5 k).2.2.1 = some (tyX5 k) := by decide +kernel
abbrev cX5_init : ByteArray := prog_7_method_1_code
def yX5_init : MethodName := ⟨RX5, "<init>", "()V"⟩
abbrev cX5_append : ByteArray := prog_7_method_2_code
def yX5_append : MethodName := ⟨RX5, "append", "(I)V"⟩
abbrev cX5_read : ByteArray := prog_7_method_3_code
def yX5_read : MethodName := ⟨RX5, "read", "()I"⟩
abbrev cX5_skip : ByteArray := prog_7_method_4_code
def yX5_skip : MethodName := ⟨RX5, "skip", "(I)Z"⟩
abbrev cX5_tell : ByteArray := prog_7_method_5_code
def yX5_tell : MethodName := ⟨RX5, "tell", "(I)V"⟩
abbrev cX5_readEither : ByteArray := prog_7_method_6_code
def yX5_readEither : MethodName := ⟨RX5, "readEither", "(I)Z"⟩
abbrev cX5_readBoth : ByteArray := prog_7_method_7_code
def yX5_readBoth : MethodName := ⟨RX5, "readBoth", "(I)Z"⟩
abbrev cX5_readNot : ByteArray := prog_7_method_8_code
def yX5_readNot : MethodName := ⟨RX5, "readNot", "(I)Z"⟩
abbrev cX5_readSum : ByteArray := prog_7_method_9_code
def yX5_readSum : MethodName := ⟨RX5, "readSum", "(I)Z"⟩
abbrev cX5_readTerm : ByteArray := prog_7_method_10_code
def yX5_readTerm : MethodName := ⟨RX5, "readTerm", "(I)Z"⟩
abbrev cX5_readOne : ByteArray := prog_7_method_11_code
def yX5_readOne : MethodName := ⟨RX5, "readOne", "(I)Z"⟩
abbrev cX5_readBehind : ByteArray := prog_7_method_12_code
def yX5_readBehind : MethodName := ⟨RX5, "readBehind", "(II)Z"⟩
abbrev cX5_step : ByteArray := prog_7_method_13_code
def yX5_step : MethodName := ⟨RX5, "step", "()V"⟩
abbrev cX5_passAll : ByteArray := prog_7_method_14_code
def yX5_passAll : MethodName := ⟨RX5, "passAll", "(II)V"⟩
abbrev cX5_isSign : ByteArray := prog_7_method_15_code
def yX5_isSign : MethodName := ⟨RX5, "isSign", "(I)Z"⟩
abbrev cX5_numberToken : ByteArray := prog_7_method_16_code
def yX5_numberToken : MethodName := ⟨RX5, "numberToken", "()I"⟩
abbrev cX5_wordToken : ByteArray := prog_7_method_17_code
def yX5_wordToken : MethodName := ⟨RX5, "wordToken", "()I"⟩
abbrev cX5_isWord : ByteArray := prog_7_method_18_code
def yX5_isWord : MethodName := ⟨RX5, "isWord", "(I)Z"⟩
def RX6 : String := "NumbersCalled$Text"
def TX6 : u_T := fun k => match k with
  | 0 => ("NumbersCalled$Text", "row", "[I", true)
  | 1 => ("NumbersCalled$Text", "ends", "[I", true)
  | 2 => ("NumbersCalled$Text", "pile", "[I", true)
  | _ => ("NumbersCalled$Text", "named", "[I", true)
def tyX6 : Nat → FieldType := fun k => match k with
  | 0 => .array .int
  | 1 => .array .int
  | 2 => .array .int
  | _ => .array .int
abbrev wsX60 : List Cond := u_ws RX6 TX6 4
theorem nmX6 : ∀ a, a < 4 → ∀ b, b < 4 → a ≠ b → (TX6 a).2.1 ≠ (TX6 b).2.1 := by decide +kernel
theorem tyX6_ok : ∀ k, k < 4 → parseFieldDescriptor (TX6 k).2.2.1 = some (tyX6 k) := by decide +kernel
abbrev cX6_init : ByteArray := prog_8_method_1_code
def yX6_init : MethodName := ⟨RX6, "<init>", "()V"⟩
abbrev cX6_become : ByteArray := prog_8_method_2_code
def yX6_become : MethodName := ⟨RX6, "become", "(LNumbersCalled$Tape;)V"⟩
abbrev cX6_worth : ByteArray := prog_8_method_3_code
def yX6_worth : MethodName := ⟨RX6, "worth", "(ILNumbersCalled$Asker;III)I"⟩
abbrev cX6_joined : ByteArray := prog_8_method_4_code
def yX6_joined : MethodName := ⟨RX6, "joined", "(III)I"⟩
def RX7 : String := "NumbersCalled"
def TX7 : u_T := fun k => match k with
  | 0 => ("NumbersCalled", "now", "LNumbersCalled$Plan;", true)
  | 1 => ("NumbersCalled", "kept", "LNumbersCalled$Plan;", true)
  | 2 => ("NumbersCalled", "hasImage", "Z", false)
  | 3 => ("NumbersCalled", "askers", "[LNumbersCalled$Asker;", true)
  | 4 => ("NumbersCalled", "texts", "[LNumbersCalled$Text;", true)
  | 5 => ("NumbersCalled", "textCount", "I", false)
  | 6 => ("NumbersCalled", "tape", "LNumbersCalled$Tape;", true)
  | 7 => ("NumbersCalled", "sheets", "[LNumbersCalled$Sheet;", true)
  | 8 => ("NumbersCalled", "day", "LNumbersCalled$Day;", true)
  | 9 => ("NumbersCalled", "least", "LNumbersCalled$Least;", true)
  | _ => ("NumbersCalled", "parts", "[J", true)
def tyX7 : Nat → FieldType := fun k => match k with
  | 0 => .object "NumbersCalled$Plan"
  | 1 => .object "NumbersCalled$Plan"
  | 2 => .boolean
  | 3 => .array (.object "NumbersCalled$Asker")
  | 4 => .array (.object "NumbersCalled$Text")
  | 5 => .int
  | 6 => .object "NumbersCalled$Tape"
  | 7 => .array (.object "NumbersCalled$Sheet")
  | 8 => .object "NumbersCalled$Day"
  | 9 => .object "NumbersCalled$Least"
  | _ => .array .long
abbrev wsX70 : List Cond := u_ws RX7 TX7 11
theorem nmX7 : ∀ a, a < 11 → ∀ b, b < 11 → a ≠ b → (TX7 a).2.1 ≠ (TX7 b).2.1 := by decide +kernel
theorem tyX7_ok : ∀ k, k < 11 → parseFieldDescriptor (TX7 k).2.2.1 = some (tyX7 k) := by decide +kernel
abbrev cX7_init : ByteArray := prog_1_method_1_code
def yX7_init : MethodName := ⟨RX7, "<init>", "()V"⟩
abbrev cX7_counter : ByteArray := prog_1_method_2_code
def yX7_counter : MethodName := ⟨RX7, "counter", "(II)I"⟩
abbrev cX7_change : ByteArray := prog_1_method_3_code
def yX7_change : MethodName := ⟨RX7, "change", "(III)I"⟩
abbrev cX7_counterTold : ByteArray := prog_1_method_4_code
def yX7_counterTold : MethodName := ⟨RX7, "counterTold", "(II)I"⟩
abbrev cX7_set : ByteArray := prog_1_method_5_code
def yX7_set : MethodName := ⟨RX7, "set", "(II)I"⟩
abbrev cX7_count : ByteArray := prog_1_method_6_code
def yX7_count : MethodName := ⟨RX7, "count", "(I)I"⟩
abbrev cX7_feed : ByteArray := prog_1_method_7_code
def yX7_feed : MethodName := ⟨RX7, "feed", "(IIIIII)I"⟩
abbrev cX7_text : ByteArray := prog_1_method_8_code
def yX7_text : MethodName := ⟨RX7, "text", "()I"⟩
abbrev cX7_force : ByteArray := prog_1_method_9_code
def yX7_force : MethodName := ⟨RX7, "force", "(I)I"⟩
abbrev cX7_pull : ByteArray := prog_1_method_10_code
def yX7_pull : MethodName := ⟨RX7, "pull", "(III)I"⟩
abbrev cX7_move : ByteArray := prog_1_method_11_code
def yX7_move : MethodName := ⟨RX7, "move", "(II)I"⟩
abbrev cX7_forget : ByteArray := prog_1_method_12_code
def yX7_forget : MethodName := ⟨RX7, "forget", "()I"⟩
abbrev cX7_told : ByteArray := prog_1_method_13_code
def yX7_told : MethodName := ⟨RX7, "told", "(II)I"⟩
abbrev cX7_asks : ByteArray := prog_1_method_14_code
def yX7_asks : MethodName := ⟨RX7, "asks", "(IIIII)I"⟩
abbrev cX7_of : ByteArray := prog_1_method_15_code
def yX7_of : MethodName := ⟨RX7, "of", "(II)I"⟩
abbrev cX7_sum : ByteArray := prog_1_method_16_code
def yX7_sum : MethodName := ⟨RX7, "sum", "(I)I"⟩
abbrev cX7_idle : ByteArray := prog_1_method_17_code
def yX7_idle : MethodName := ⟨RX7, "idle", "(I)I"⟩
abbrev cX7_harmed : ByteArray := prog_1_method_18_code
def yX7_harmed : MethodName := ⟨RX7, "harmed", "()I"⟩
abbrev cX7_letter : ByteArray := prog_1_method_19_code
def yX7_letter : MethodName := ⟨RX7, "letter", "(II)I"⟩
abbrev cX7_train : ByteArray := prog_1_method_20_code
def yX7_train : MethodName := ⟨RX7, "train", "(II)I"⟩
abbrev cX7_rest : ByteArray := prog_1_method_21_code
def yX7_rest : MethodName := ⟨RX7, "rest", "(II)I"⟩
abbrev cX7_stop : ByteArray := prog_1_method_22_code
def yX7_stop : MethodName := ⟨RX7, "stop", "(I)I"⟩
abbrev cX7_call : ByteArray := prog_1_method_23_code
def yX7_call : MethodName := ⟨RX7, "call", "(I)I"⟩
abbrev cX7_pay : ByteArray := prog_1_method_24_code
def yX7_pay : MethodName := ⟨RX7, "pay", "(I)I"⟩
abbrev cX7_door : ByteArray := prog_1_method_25_code
def yX7_door : MethodName := ⟨RX7, "door", "(I)I"⟩
abbrev cX7_say : ByteArray := prog_1_method_26_code
def yX7_say : MethodName := ⟨RX7, "say", "(I)I"⟩
abbrev cX7_best : ByteArray := prog_1_method_27_code
def yX7_best : MethodName := ⟨RX7, "best", "(II)I"⟩
abbrev cX7_uneasy : ByteArray := prog_1_method_28_code
def yX7_uneasy : MethodName := ⟨RX7, "uneasy", "()I"⟩
abbrev cX7_rests : ByteArray := prog_1_method_29_code
def yX7_rests : MethodName := ⟨RX7, "rests", "(I)I"⟩
abbrev cX7_when : ByteArray := prog_1_method_30_code
def yX7_when : MethodName := ⟨RX7, "when", "(III)I"⟩
abbrev cX7_over : ByteArray := prog_1_method_31_code
def yX7_over : MethodName := ⟨RX7, "over", "(III)J"⟩
abbrev cX7_give : ByteArray := prog_1_method_32_code
def yX7_give : MethodName := ⟨RX7, "give", "(III)I"⟩
abbrev cX7_judge : ByteArray := prog_1_method_33_code
def yX7_judge : MethodName := ⟨RX7, "judge", "(I)I"⟩
abbrev cX7_laws : ByteArray := prog_1_method_34_code
def yX7_laws : MethodName := ⟨RX7, "laws", "(I)I"⟩
abbrev cX7_which : ByteArray := prog_1_method_35_code
def yX7_which : MethodName := ⟨RX7, "which", "(I)I"⟩
abbrev cX7_film : ByteArray := prog_1_method_36_code
def yX7_film : MethodName := ⟨RX7, "film", "(I)I"⟩
abbrev cX7_drawn : ByteArray := prog_1_method_37_code
def yX7_drawn : MethodName := ⟨RX7, "drawn", "(II)I"⟩
abbrev cX7_odds : ByteArray := prog_1_method_38_code
def yX7_odds : MethodName := ⟨RX7, "odds", "(IIII)J"⟩
abbrev cX7_image : ByteArray := prog_1_method_39_code
def yX7_image : MethodName := ⟨RX7, "image", "()I"⟩
abbrev cX7_back : ByteArray := prog_1_method_40_code
def yX7_back : MethodName := ⟨RX7, "back", "()I"⟩
abbrev cX7_sheet : ByteArray := prog_1_method_41_code
def yX7_sheet : MethodName := ⟨RX7, "sheet", "(III)I"⟩
abbrev cX7_cell : ByteArray := prog_1_method_42_code
def yX7_cell : MethodName := ⟨RX7, "cell", "(III)I"⟩
abbrev cX7_copy : ByteArray := prog_1_method_43_code
def yX7_copy : MethodName := ⟨RX7, "copy", "(IIIII)I"⟩
abbrev cX7_pulls : ByteArray := prog_1_method_44_code
def yX7_pulls : MethodName := ⟨RX7, "pulls", "(IIII)I"⟩
abbrev cX7_taken : ByteArray := prog_1_method_45_code
def yX7_taken : MethodName := ⟨RX7, "taken", "(II)I"⟩
abbrev cX7_within : ByteArray := prog_1_method_46_code
def yX7_within : MethodName := ⟨RX7, "within", "(III)Z"⟩
abbrev cX7_bounded : ByteArray := prog_1_method_47_code
def yX7_bounded : MethodName := ⟨RX7, "bounded", "(III)I"⟩
abbrev cX7_isByte : ByteArray := prog_1_method_48_code
def yX7_isByte : MethodName := ⟨RX7, "isByte", "(I)Z"⟩
abbrev cX7_isPull : ByteArray := prog_1_method_49_code
def yX7_isPull : MethodName := ⟨RX7, "isPull", "(I)Z"⟩
abbrev cX7_isSheet : ByteArray := prog_1_method_50_code
def yX7_isSheet : MethodName := ⟨RX7, "isSheet", "(I)Z"⟩
abbrev cX7_isCounter : ByteArray := prog_1_method_51_code
def yX7_isCounter : MethodName := ⟨RX7, "isCounter", "(I)Z"⟩
abbrev cX7_isAsker : ByteArray := prog_1_method_52_code
def yX7_isAsker : MethodName := ⟨RX7, "isAsker", "(I)Z"⟩
abbrev cX7_isOfCounter : ByteArray := prog_1_method_53_code
def yX7_isOfCounter : MethodName := ⟨RX7, "isOfCounter", "(II)Z"⟩
abbrev cX7_ofCounter : ByteArray := prog_1_method_54_code
def yX7_ofCounter : MethodName := ⟨RX7, "ofCounter", "(II)I"⟩
abbrev cX7_isOfHall : ByteArray := prog_1_method_55_code
def yX7_isOfHall : MethodName := ⟨RX7, "isOfHall", "(II)Z"⟩
abbrev cX7_ofHall : ByteArray := prog_1_method_56_code
def yX7_ofHall : MethodName := ⟨RX7, "ofHall", "(I)I"⟩
abbrev cX7_refusalOfRoll : ByteArray := prog_1_method_57_code
def yX7_refusalOfRoll : MethodName := ⟨RX7, "refusalOfRoll", "(I)I"⟩
abbrev cX7_planAsItIs : ByteArray := prog_1_method_58_code
def yX7_planAsItIs : MethodName := ⟨RX7, "planAsItIs", "()V"⟩
abbrev cX7_live : ByteArray := prog_1_method_59_code
def yX7_live : MethodName := ⟨RX7, "live", "()V"⟩
abbrev cX7_liveAsItIs : ByteArray := prog_1_method_60_code
def yX7_liveAsItIs : MethodName := ⟨RX7, "liveAsItIs", "()V"⟩
abbrev cX7_planDrawn : ByteArray := prog_1_method_61_code
def yX7_planDrawn : MethodName := ⟨RX7, "planDrawn", "(I)V"⟩
abbrev cX7_isTrained : ByteArray := prog_1_method_62_code
def yX7_isTrained : MethodName := ⟨RX7, "isTrained", "(III)Z"⟩
abbrev cX7_skillName : ByteArray := prog_1_method_63_code
def yX7_skillName : MethodName := ⟨RX7, "skillName", "(I)I"⟩
abbrev cX7_someoneComes : ByteArray := prog_1_method_64_code
def yX7_someoneComes : MethodName := ⟨RX7, "someoneComes", "(I)Z"⟩
abbrev cX7_waitsOfOthers : ByteArray := prog_1_method_65_code
def yX7_waitsOfOthers : MethodName := ⟨RX7, "waitsOfOthers", "(I)I"⟩
abbrev cX7_minded : ByteArray := prog_1_method_66_code
def yX7_minded : MethodName := ⟨RX7, "minded", "(LNumbersCalled$Asker;II)I"⟩
abbrev cX7_seekBest : ByteArray := prog_1_method_67_code
def yX7_seekBest : MethodName := ⟨RX7, "seekBest", "(I)V"⟩
abbrev cX7_wouldMove : ByteArray := prog_1_method_68_code
def yX7_wouldMove : MethodName := ⟨RX7, "wouldMove", "(I)Z"⟩
abbrev cX7_firstOtherwise : ByteArray := prog_1_method_69_code
def yX7_firstOtherwise : MethodName := ⟨RX7, "firstOtherwise", "(LNumbersCalled$Sheet;)I"⟩
abbrev cX7_startParts : ByteArray := prog_1_method_70_code
def yX7_startParts : MethodName := ⟨RX7, "startParts", "()V"⟩
abbrev cX7_giveOneMore : ByteArray := prog_1_method_71_code
def yX7_giveOneMore : MethodName := ⟨RX7, "giveOneMore", "(II)V"⟩
abbrev cX7_partsAbove : ByteArray := prog_1_method_72_code
def yX7_partsAbove : MethodName := ⟨RX7, "partsAbove", "(I)J"⟩
abbrev cX7_commonDivisor : ByteArray := prog_1_method_73_code
def yX7_commonDivisor : MethodName := ⟨RX7, "commonDivisor", "(II)I"⟩
def RX8 : String := "NumbersCalledModel"
def TX8 : u_T := fun k => match k with
  | 0 => ("NumbersCalledModel", "counters", "I", false)
  | 1 => ("NumbersCalledModel", "counterOf", "[I", true)
  | 2 => ("NumbersCalledModel", "who", "I", false)
  | 3 => ("NumbersCalledModel", "calledMost", "I", false)
  | 4 => ("NumbersCalledModel", "stopAt", "I", false)
  | 5 => ("NumbersCalledModel", "askers", "I", false)
  | 6 => ("NumbersCalledModel", "kind", "[I", true)
  | 7 => ("NumbersCalledModel", "letterOf", "[I", true)
  | 8 => ("NumbersCalledModel", "base", "[I", true)
  | 9 => ("NumbersCalledModel", "more", "[I", true)
  | 10 => ("NumbersCalledModel", "comesAt", "[I", true)
  | 11 => ("NumbersCalledModel", "tape", "[I", true)
  | 12 => ("NumbersCalledModel", "taped", "I", false)
  | 13 => ("NumbersCalledModel", "codes", "[I", true)
  | 14 => ("NumbersCalledModel", "starts", "[I", true)
  | 15 => ("NumbersCalledModel", "texts", "I", false)
  | 16 => ("NumbersCalledModel", "rule", "I", false)
  | 17 => ("NumbersCalledModel", "hasImage", "Z", false)
  | 18 => ("NumbersCalledModel", "imageCounters", "I", false)
  | 19 => ("NumbersCalledModel", "imageWho", "I", false)
  | 20 => ("NumbersCalledModel", "imageCalled", "I", false)
  | 21 => ("NumbersCalledModel", "imageStop", "I", false)
  | 22 => ("NumbersCalledModel", "imageAskers", "I", false)
  | 23 => ("NumbersCalledModel", "imageRule", "I", false)
  | 24 => ("NumbersCalledModel", "imageOf", "[I", true)
  | 25 => ("NumbersCalledModel", "imageComes", "[I", true)
  | 26 => ("NumbersCalledModel", "sheetSort", "[I", true)
  | 27 => ("NumbersCalledModel", "sheetSize", "[I", true)
  | 28 => ("NumbersCalledModel", "cells", "[I", true)
  | 29 => ("NumbersCalledModel", "law", "[I", true)
  | 30 => ("NumbersCalledModel", "at", "I", false)
  | 31 => ("NumbersCalledModel", "begun", "I", false)
  | 32 => ("NumbersCalledModel", "token", "I", false)
  | 33 => ("NumbersCalledModel", "value", "I", false)
  | 34 => ("NumbersCalledModel", "words", "[I", true)
  | 35 => ("NumbersCalledModel", "held", "[I", true)
  | 36 => ("NumbersCalledModel", "heldMany", "I", false)
  | 37 => ("NumbersCalledModel", "opens", "I", false)
  | 38 => ("NumbersCalledModel", "out", "I", false)
  | 39 => ("NumbersCalledModel", "stack", "[I", true)
  | 40 => ("NumbersCalledModel", "named", "[I", true)
  | 41 => ("NumbersCalledModel", "quick", "Z", false)
  | 42 => ("NumbersCalledModel", "state", "[I", true)
  | 43 => ("NumbersCalledModel", "wants", "[I", true)
  | 44 => ("NumbersCalledModel", "began", "[I", true)
  | 45 => ("NumbersCalledModel", "ended", "[I", true)
  | 46 => ("NumbersCalledModel", "servedAt", "[I", true)
  | 47 => ("NumbersCalledModel", "calls", "[I", true)
  | 48 => ("NumbersCalledModel", "busyTill", "[I", true)
  | 49 => ("NumbersCalledModel", "idles", "[I", true)
  | 50 => ("NumbersCalledModel", "rightLetters", "Z", false)
  | 51 => ("NumbersCalledModel", "bestBad", "I", false)
  | 52 => ("NumbersCalledModel", "parts", "[J", true)
  | _ => ("NumbersCalledModel", "keptComes", "[I", true)
def tyX8 : Nat → FieldType := fun k => match k with
  | 0 => .int
  | 1 => .array .int
  | 2 => .int
  | 3 => .int
  | 4 => .int
  | 5 => .int
  | 6 => .array .int
  | 7 => .array .int
  | 8 => .array .int
  | 9 => .array .int
  | 10 => .array .int
  | 11 => .array .int
  | 12 => .int
  | 13 => .array .int
  | 14 => .array .int
  | 15 => .int
  | 16 => .int
  | 17 => .boolean
  | 18 => .int
  | 19 => .int
  | 20 => .int
  | 21 => .int
  | 22 => .int
  | 23 => .int
  | 24 => .array .int
  | 25 => .array .int
  | 26 => .array .int
  | 27 => .array .int
  | 28 => .array .int
  | 29 => .array .int
  | 30 => .int
  | 31 => .int
  | 32 => .int
  | 33 => .int
  | 34 => .array .int
  | 35 => .array .int
  | 36 => .int
  | 37 => .int
  | 38 => .int
  | 39 => .array .int
  | 40 => .array .int
  | 41 => .boolean
  | 42 => .array .int
  | 43 => .array .int
  | 44 => .array .int
  | 45 => .array .int
  | 46 => .array .int
  | 47 => .array .int
  | 48 => .array .int
  | 49 => .array .int
  | 50 => .boolean
  | 51 => .int
  | 52 => .array .long
  | _ => .array .int
abbrev wsX80 : List Cond := u_ws RX8 TX8 54
theorem nmX8 : ∀ a, a < 54 → ∀ b, b < 54 → a ≠ b → (TX8 a).2.1 ≠ (TX8 b).2.1 := by decide +kernel
theorem tyX8_ok : ∀ k, k < 54 → parseFieldDescriptor (TX8 k).2.2.1 = some (tyX8 k) := by decide +kernel
abbrev cX8_init : ByteArray := prog_10_method_1_code
def yX8_init : MethodName := ⟨RX8, "<init>", "()V"⟩
abbrev cX8_in : ByteArray := prog_10_method_3_code
def yX8_in : MethodName := ⟨RX8, "in", "(III)Z"⟩
abbrev cX8_within : ByteArray := prog_10_method_4_code
def yX8_within : MethodName := ⟨RX8, "within", "(III)I"⟩
abbrev cX8_isCounter : ByteArray := prog_10_method_5_code
def yX8_isCounter : MethodName := ⟨RX8, "isCounter", "(I)Z"⟩
abbrev cX8_isAsker : ByteArray := prog_10_method_6_code
def yX8_isAsker : MethodName := ⟨RX8, "isAsker", "(I)Z"⟩
abbrev cX8_isTold : ByteArray := prog_10_method_7_code
def yX8_isTold : MethodName := ⟨RX8, "isTold", "(II)Z"⟩
abbrev cX8_counter : ByteArray := prog_10_method_8_code
def yX8_counter : MethodName := ⟨RX8, "counter", "(II)I"⟩
abbrev cX8_change : ByteArray := prog_10_method_9_code
def yX8_change : MethodName := ⟨RX8, "change", "(III)I"⟩
abbrev cX8_counterTold : ByteArray := prog_10_method_10_code
def yX8_counterTold : MethodName := ⟨RX8, "counterTold", "(II)I"⟩
abbrev cX8_set : ByteArray := prog_10_method_11_code
def yX8_set : MethodName := ⟨RX8, "set", "(II)I"⟩
abbrev cX8_count : ByteArray := prog_10_method_12_code
def yX8_count : MethodName := ⟨RX8, "count", "(I)I"⟩
abbrev cX8_isByte : ByteArray := prog_10_method_13_code
def yX8_isByte : MethodName := ⟨RX8, "isByte", "(I)Z"⟩
abbrev cX8_feed : ByteArray := prog_10_method_14_code
def yX8_feed : MethodName := ⟨RX8, "feed", "(IIIIII)I"⟩
abbrev cX8_wordFrom : ByteArray := prog_10_method_15_code
def yX8_wordFrom : MethodName := ⟨RX8, "wordFrom", "(II)I"⟩
abbrev cX8_next : ByteArray := prog_10_method_16_code
def yX8_next : MethodName := ⟨RX8, "next", "()V"⟩
abbrev cX8_rank : ByteArray := prog_10_method_17_code
def yX8_rank : MethodName := ⟨RX8, "rank", "(I)I"⟩
abbrev cX8_puts : ByteArray := prog_10_method_18_code
def yX8_puts : MethodName := ⟨RX8, "puts", "(I)V"⟩
abbrev cX8_unwinds : ByteArray := prog_10_method_19_code
def yX8_unwinds : MethodName := ⟨RX8, "unwinds", "(I)V"⟩
abbrev cX8_holds : ByteArray := prog_10_method_20_code
def yX8_holds : MethodName := ⟨RX8, "holds", "(I)V"⟩
abbrev cX8_opensOne : ByteArray := prog_10_method_21_code
def yX8_opensOne : MethodName := ⟨RX8, "opensOne", "(I)Z"⟩
abbrev cX8_between : ByteArray := prog_10_method_22_code
def yX8_between : MethodName := ⟨RX8, "between", "(I)Z"⟩
abbrev cX8_signOf : ByteArray := prog_10_method_23_code
def yX8_signOf : MethodName := ⟨RX8, "signOf", "()I"⟩
abbrev cX8_eRead : ByteArray := prog_10_method_24_code
def yX8_eRead : MethodName := ⟨RX8, "eRead", "()Z"⟩
abbrev cX8_text : ByteArray := prog_10_method_25_code
def yX8_text : MethodName := ⟨RX8, "text", "()I"⟩
abbrev cX8_two : ByteArray := prog_10_method_26_code
def yX8_two : MethodName := ⟨RX8, "two", "(III)I"⟩
abbrev cX8_worth : ByteArray := prog_10_method_27_code
def yX8_worth : MethodName := ⟨RX8, "worth", "(I)I"⟩
abbrev cX8_force : ByteArray := prog_10_method_28_code
def yX8_force : MethodName := ⟨RX8, "force", "(I)I"⟩
abbrev cX8_asksOf : ByteArray := prog_10_method_29_code
def yX8_asksOf : MethodName := ⟨RX8, "asksOf", "(IIIII)I"⟩
abbrev cX8_pull : ByteArray := prog_10_method_30_code
def yX8_pull : MethodName := ⟨RX8, "pull", "(III)I"⟩
abbrev cX8_comesAs : ByteArray := prog_10_method_31_code
def yX8_comesAs : MethodName := ⟨RX8, "comesAs", "(III)V"⟩
abbrev cX8_move : ByteArray := prog_10_method_32_code
def yX8_move : MethodName := ⟨RX8, "move", "(II)I"⟩
abbrev cX8_forget : ByteArray := prog_10_method_33_code
def yX8_forget : MethodName := ⟨RX8, "forget", "()I"⟩
abbrev cX8_needs : ByteArray := prog_10_method_34_code
def yX8_needs : MethodName := ⟨RX8, "needs", "(I)I"⟩
abbrev cX8_told : ByteArray := prog_10_method_35_code
def yX8_told : MethodName := ⟨RX8, "told", "(II)I"⟩
abbrev cX8_takesOf : ByteArray := prog_10_method_36_code
def yX8_takesOf : MethodName := ⟨RX8, "takesOf", "(III)I"⟩
abbrev cX8_isThere : ByteArray := prog_10_method_37_code
def yX8_isThere : MethodName := ⟨RX8, "isThere", "(II)Z"⟩
abbrev cX8_asks : ByteArray := prog_10_method_38_code
def yX8_asks : MethodName := ⟨RX8, "asks", "(IIIII)I"⟩
abbrev cX8_isAhead : ByteArray := prog_10_method_39_code
def yX8_isAhead : MethodName := ⟨RX8, "isAhead", "(II)Z"⟩
abbrev cX8_firstFor : ByteArray := prog_10_method_40_code
def yX8_firstFor : MethodName := ⟨RX8, "firstFor", "(I)I"⟩
abbrev cX8_callsOne : ByteArray := prog_10_method_41_code
def yX8_callsOne : MethodName := ⟨RX8, "callsOne", "(III)V"⟩
abbrev cX8_minute : ByteArray := prog_10_method_42_code
def yX8_minute : MethodName := ⟨RX8, "minute", "(I)V"⟩
abbrev cX8_lives : ByteArray := prog_10_method_43_code
def yX8_lives : MethodName := ⟨RX8, "lives", "()V"⟩
abbrev cX8_waitOf : ByteArray := prog_10_method_44_code
def yX8_waitOf : MethodName := ⟨RX8, "waitOf", "(I)I"⟩
abbrev cX8_of : ByteArray := prog_10_method_45_code
def yX8_of : MethodName := ⟨RX8, "of", "(II)I"⟩
abbrev cX8_manyIn : ByteArray := prog_10_method_46_code
def yX8_manyIn : MethodName := ⟨RX8, "manyIn", "(I)I"⟩
abbrev cX8_longest : ByteArray := prog_10_method_47_code
def yX8_longest : MethodName := ⟨RX8, "longest", "()I"⟩
abbrev cX8_latest : ByteArray := prog_10_method_48_code
def yX8_latest : MethodName := ⟨RX8, "latest", "()I"⟩
abbrev cX8_allWaits : ByteArray := prog_10_method_49_code
def yX8_allWaits : MethodName := ⟨RX8, "allWaits", "()I"⟩
abbrev cX8_sumOf : ByteArray := prog_10_method_50_code
def yX8_sumOf : MethodName := ⟨RX8, "sumOf", "(I)I"⟩
abbrev cX8_sum : ByteArray := prog_10_method_51_code
def yX8_sum : MethodName := ⟨RX8, "sum", "(I)I"⟩
abbrev cX8_idle : ByteArray := prog_10_method_52_code
def yX8_idle : MethodName := ⟨RX8, "idle", "(I)I"⟩
abbrev cX8_harmNow : ByteArray := prog_10_method_53_code
def yX8_harmNow : MethodName := ⟨RX8, "harmNow", "()I"⟩
abbrev cX8_harmed : ByteArray := prog_10_method_54_code
def yX8_harmed : MethodName := ⟨RX8, "harmed", "()I"⟩
abbrev cX8_letter : ByteArray := prog_10_method_55_code
def yX8_letter : MethodName := ⟨RX8, "letter", "(II)I"⟩
abbrev cX8_isWell : ByteArray := prog_10_method_56_code
def yX8_isWell : MethodName := ⟨RX8, "isWell", "(I)Z"⟩
abbrev cX8_trains : ByteArray := prog_10_method_57_code
def yX8_trains : MethodName := ⟨RX8, "trains", "(IZ)I"⟩
abbrev cX8_train : ByteArray := prog_10_method_58_code
def yX8_train : MethodName := ⟨RX8, "train", "(II)I"⟩
abbrev cX8_rest : ByteArray := prog_10_method_59_code
def yX8_rest : MethodName := ⟨RX8, "rest", "(II)I"⟩
abbrev cX8_stop : ByteArray := prog_10_method_60_code
def yX8_stop : MethodName := ⟨RX8, "stop", "(I)I"⟩
abbrev cX8_call : ByteArray := prog_10_method_61_code
def yX8_call : MethodName := ⟨RX8, "call", "(I)I"⟩
abbrev cX8_waitsBut : ByteArray := prog_10_method_62_code
def yX8_waitsBut : MethodName := ⟨RX8, "waitsBut", "(I)I"⟩
abbrev cX8_pay : ByteArray := prog_10_method_63_code
def yX8_pay : MethodName := ⟨RX8, "pay", "(I)I"⟩
abbrev cX8_door : ByteArray := prog_10_method_64_code
def yX8_door : MethodName := ⟨RX8, "door", "(I)I"⟩
abbrev cX8_say : ByteArray := prog_10_method_65_code
def yX8_say : MethodName := ⟨RX8, "say", "(I)I"⟩
abbrev cX8_badFor : ByteArray := prog_10_method_66_code
def yX8_badFor : MethodName := ⟨RX8, "badFor", "(I)I"⟩
abbrev cX8_bestFor : ByteArray := prog_10_method_67_code
def yX8_bestFor : MethodName := ⟨RX8, "bestFor", "(I)I"⟩
abbrev cX8_best : ByteArray := prog_10_method_68_code
def yX8_best : MethodName := ⟨RX8, "best", "(II)I"⟩
abbrev cX8_uneasy : ByteArray := prog_10_method_69_code
def yX8_uneasy : MethodName := ⟨RX8, "uneasy", "()I"⟩
abbrev cX8_rests : ByteArray := prog_10_method_70_code
def yX8_rests : MethodName := ⟨RX8, "rests", "(I)I"⟩
abbrev cX8_when : ByteArray := prog_10_method_71_code
def yX8_when : MethodName := ⟨RX8, "when", "(III)I"⟩
abbrev cX8_overOf : ByteArray := prog_10_method_72_code
def yX8_overOf : MethodName := ⟨RX8, "overOf", "(III)J"⟩
abbrev cX8_over : ByteArray := prog_10_method_73_code
def yX8_over : MethodName := ⟨RX8, "over", "(III)J"⟩
abbrev cX8_give : ByteArray := prog_10_method_74_code
def yX8_give : MethodName := ⟨RX8, "give", "(III)I"⟩
abbrev cX8_rollWrong : ByteArray := prog_10_method_75_code
def yX8_rollWrong : MethodName := ⟨RX8, "rollWrong", "(I)I"⟩
abbrev cX8_unlike : ByteArray := prog_10_method_76_code
def yX8_unlike : MethodName := ⟨RX8, "unlike", "(I)I"⟩
abbrev cX8_judge : ByteArray := prog_10_method_77_code
def yX8_judge : MethodName := ⟨RX8, "judge", "(I)I"⟩
abbrev cX8_laws : ByteArray := prog_10_method_78_code
def yX8_laws : MethodName := ⟨RX8, "laws", "(I)I"⟩
abbrev cX8_which : ByteArray := prog_10_method_79_code
def yX8_which : MethodName := ⟨RX8, "which", "(I)I"⟩
abbrev cX8_film : ByteArray := prog_10_method_80_code
def yX8_film : MethodName := ⟨RX8, "film", "(I)I"⟩
abbrev cX8_draws : ByteArray := prog_10_method_81_code
def yX8_draws : MethodName := ⟨RX8, "draws", "(I)V"⟩
abbrev cX8_undraws : ByteArray := prog_10_method_82_code
def yX8_undraws : MethodName := ⟨RX8, "undraws", "()V"⟩
abbrev cX8_drawn : ByteArray := prog_10_method_83_code
def yX8_drawn : MethodName := ⟨RX8, "drawn", "(II)I"⟩
abbrev cX8_lowest : ByteArray := prog_10_method_84_code
def yX8_lowest : MethodName := ⟨RX8, "lowest", "(JJI)J"⟩
abbrev cX8_odds : ByteArray := prog_10_method_85_code
def yX8_odds : MethodName := ⟨RX8, "odds", "(IIII)J"⟩
abbrev cX8_image : ByteArray := prog_10_method_86_code
def yX8_image : MethodName := ⟨RX8, "image", "()I"⟩
abbrev cX8_back : ByteArray := prog_10_method_87_code
def yX8_back : MethodName := ⟨RX8, "back", "()I"⟩
abbrev cX8_sheet : ByteArray := prog_10_method_88_code
def yX8_sheet : MethodName := ⟨RX8, "sheet", "(III)I"⟩
abbrev cX8_cell : ByteArray := prog_10_method_89_code
def yX8_cell : MethodName := ⟨RX8, "cell", "(III)I"⟩
abbrev cX8_copy : ByteArray := prog_10_method_90_code
def yX8_copy : MethodName := ⟨RX8, "copy", "(IIIII)I"⟩
abbrev cX8_pulls : ByteArray := prog_10_method_91_code
def yX8_pulls : MethodName := ⟨RX8, "pulls", "(IIII)I"⟩
abbrev cX8_isUnder : ByteArray := prog_10_method_92_code
def yX8_isUnder : MethodName := ⟨RX8, "isUnder", "(II)Z"⟩
abbrev cX8_taken : ByteArray := prog_10_method_93_code
def yX8_taken : MethodName := ⟨RX8, "taken", "(II)I"⟩
def RJ9 : String := "java/lang/Math"
def TJ9 : u_T := fun k => match k with
  | _ => ("", "", "", false)
def tyJ9 : Nat → FieldType := fun k => match k with
  | _ => .int
abbrev wsJ90 : List Cond := u_ws RJ9 TJ9 0
theorem nmJ9 : ∀ a, a < 0 → ∀ b, b < 0 → a ≠ b → (TJ9 a).2.1 ≠ (TJ9 b).2.1 := by decide +kernel
theorem tyJ9_ok : ∀ k, k < 0 → parseFieldDescriptor (TJ9 k).2.2.1 = some (tyJ9 k) := by decide +kernel
abbrev cJ9_max_7cf53 : ByteArray := prog_11_method_65_code
def yJ9_max_7cf53 : MethodName := ⟨RJ9, "max", "(II)I"⟩
def RJ0 : String := "java/lang/String"
def TJ0 : u_T := fun k => match k with
  | _ => ("", "", "", false)
def tyJ0 : Nat → FieldType := fun k => match k with
  | _ => .int
abbrev wsJ00 : List Cond := u_ws RJ0 TJ0 0
theorem nmJ0 : ∀ a, a < 0 → ∀ b, b < 0 → a ≠ b → (TJ0 a).2.1 ≠ (TJ0 b).2.1 := by decide +kernel
theorem tyJ0_ok : ∀ k, k < 0 → parseFieldDescriptor (TJ0 k).2.2.1 = some (tyJ0 k) := by decide +kernel
abbrev cJ0_length_8abf5 : ByteArray := prog_12_method_54_code
def yJ0_length_8abf5 : MethodName := ⟨RJ0, "length", "()I"⟩
abbrev cJ0_charAt_5068e : ByteArray := prog_12_method_56_code
def yJ0_charAt_5068e : MethodName := ⟨RJ0, "charAt", "(I)C"⟩
abbrev cJ0_coder_7d493 : ByteArray := prog_12_method_152_code
def yJ0_coder_7d493 : MethodName := ⟨RJ0, "coder", "()B"⟩
abbrev cJ0_isLatin1_aae02 : ByteArray := prog_12_method_154_code
def yJ0_isLatin1_aae02 : MethodName := ⟨RJ0, "isLatin1", "()Z"⟩
abbrev cJ0_checkIndex_df160 : ByteArray := prog_12_method_155_code
def yJ0_checkIndex_df160 : MethodName := ⟨RJ0, "checkIndex", "(II)V"⟩
def RJ1 : String := "java/lang/StringLatin1"
def TJ1 : u_T := fun k => match k with
  | _ => ("", "", "", false)
def tyJ1 : Nat → FieldType := fun k => match k with
  | _ => .int
abbrev wsJ10 : List Cond := u_ws RJ1 TJ1 0
theorem nmJ1 : ∀ a, a < 0 → ∀ b, b < 0 → a ≠ b → (TJ1 a).2.1 ≠ (TJ1 b).2.1 := by decide +kernel
theorem tyJ1_ok : ∀ k, k < 0 → parseFieldDescriptor (TJ1 k).2.2.1 = some (tyJ1 k) := by decide +kernel
abbrev cJ1_charAt_3b067 : ByteArray := prog_13_method_2_code
def yJ1_charAt_3b067 : MethodName := ⟨RJ1, "charAt", "([BI)C"⟩
def RJ2 : String := "java/lang/StringUTF16"
def TJ2 : u_T := fun k => match k with
  | _ => ("", "", "", false)
def tyJ2 : Nat → FieldType := fun k => match k with
  | _ => .int
abbrev wsJ20 : List Cond := u_ws RJ2 TJ2 0
theorem nmJ2 : ∀ a, a < 0 → ∀ b, b < 0 → a ≠ b → (TJ2 a).2.1 ≠ (TJ2 b).2.1 := by decide +kernel
theorem tyJ2_ok : ∀ k, k < 0 → parseFieldDescriptor (TJ2 k).2.2.1 = some (tyJ2 k) := by decide +kernel
abbrev cJ2_getChar_3b067 : ByteArray := prog_14_method_5_code
def yJ2_getChar_3b067 : MethodName := ⟨RJ2, "getChar", "([BI)C"⟩
abbrev cJ2_length_9d52b : ByteArray := prog_14_method_6_code
def yJ2_length_9d52b : MethodName := ⟨RJ2, "length", "([B)I"⟩
abbrev cJ2_charAt_3b067 : ByteArray := prog_14_method_83_code
def yJ2_charAt_3b067 : MethodName := ⟨RJ2, "charAt", "([BI)C"⟩
abbrev cJ2_checkIndex_2214a : ByteArray := prog_14_method_91_code
def yJ2_checkIndex_2214a : MethodName := ⟨RJ2, "checkIndex", "(I[B)V"⟩
def RJ10 : String := "java/lang/System"
def TJ10 : u_T := fun k => match k with
  | _ => ("", "", "", false)
def tyJ10 : Nat → FieldType := fun k => match k with
  | _ => .int
abbrev wsJ100 : List Cond := u_ws RJ10 TJ10 0
theorem nmJ10 : ∀ a, a < 0 → ∀ b, b < 0 → a ≠ b → (TJ10 a).2.1 ≠ (TJ10 b).2.1 := by decide +kernel
theorem tyJ10_ok : ∀ k, k < 0 → parseFieldDescriptor (TJ10 k).2.2.1 = some (tyJ10 k) := by decide +kernel
def RJ3 : String := "jdk/internal/util/Preconditions"
def TJ3 : u_T := fun k => match k with
  | _ => ("", "", "", false)
def tyJ3 : Nat → FieldType := fun k => match k with
  | _ => .int
abbrev wsJ30 : List Cond := u_ws RJ3 TJ3 0
theorem nmJ3 : ∀ a, a < 0 → ∀ b, b < 0 → a ≠ b → (TJ3 a).2.1 ≠ (TJ3 b).2.1 := by decide +kernel
theorem tyJ3_ok : ∀ k, k < 0 → parseFieldDescriptor (TJ3 k).2.2.1 = some (tyJ3 k) := by decide +kernel
abbrev cJ3_checkIndex_8e157 : ByteArray := prog_16_method_11_code
def yJ3_checkIndex_8e157 : MethodName := ⟨RJ3, "checkIndex", "(IILjava/util/function/BiFunction;)I"⟩
def RL : String := "NumbersCalledLaw"
abbrev cL_law : ByteArray := code
def yL_law : MethodName := ⟨RL, "law", "([I)Z"⟩
abbrev vwCl : List vw_C := [(RX0, TX0, 4), (RX1, TX1, 12), (RX2, TX2, 2), (RX3, TX3, 12), (RX4, TX4, 3), (RX5, TX5, 9), (RX6, TX6, 4), (RX7, TX7, 11), (RX8, TX8, 54)]
end
section
/-! A SMALL MACHINE: ints and longs as Int, references as (sort, instance), memory by sort, instance and place; blocks of instructions; what a block gives, by what its jumps (K) and its calls (C) give. -/
abbrev mj_V : Type := Int ⊕ (Int ⊕ (Nat × Nat))
abbrev mj_L : Type := List (Option mj_V)
abbrev mj_M : Type := Nat → Nat → Nat → Int
abbrev mj_R : Type := Option (Option mj_V × mj_M)
abbrev mj_I : Type := Nat × Instr × Nat × Nat × Nat × List (Int × Nat)
def mj_w (z : Int) : Int := (z + 2147483648) % 4294967296 - 2147483648
def mj_x (z : Int) : Int := (z + 9223372036854775808) % 18446744073709551616 - 9223372036854775808
def mj_nth {α : Type} : List α → Nat → Option α
  | [], _ => none
  | a :: _, 0 => some a
  | _ :: l, n + 1 => mj_nth l n
def mj_set {α : Type} : List α → Nat → α → List α
  | [], _, _ => []
  | _ :: l, 0, x => x :: l
  | a :: l, n + 1, x => a :: mj_set l n x
def mj_up (μ : mj_M) (s i k : Nat) (x : Int) : mj_M := fun s' i' k' => if s' = s ∧ k' = k ∧ i' = i then x else μ s' i' k'
def mj_cpy (μ : mj_M) (s i p s' i' p' n : Nat) : mj_M := fun a b k => if a = s' ∧ b = i' ∧ p' ≤ k ∧ k < p' + n then μ s i (p + (k - p')) else μ a b k
/-- stores: the slot ahead holds no long -/
def mj_sto (ls : mj_L) (a : Nat) (v : mj_V) (κ : mj_L → mj_R) : mj_R := match a with
  | 0 => κ (mj_set ls 0 (some v))
  | j + 1 => match mj_nth ls j with
    | some (some (.inr (.inl _))) => none
    | _ => κ (mj_set ls (j + 1) (some v))
def mj_stl (ls : mj_L) (a : Nat) (v : Int) (κ : mj_L → mj_R) : mj_R := mj_sto ls a (.inr (.inl v)) (fun ls' => κ (mj_set ls' (a + 1) none))
def mj_ldi (ls : mj_L) (a : Nat) (κ : Int → mj_R) : mj_R := match mj_nth ls a with
  | some (some (.inl x)) => κ x
  | _ => none
def mj_ldl (ls : mj_L) (a : Nat) (κ : Int → mj_R) : mj_R := match mj_nth ls a with
  | some (some (.inr (.inl x))) => κ x
  | _ => none
def mj_lda (ls : mj_L) (a : Nat) (κ : Nat → Nat → mj_R) : mj_R := match mj_nth ls a with
  | some (some (.inr (.inr (s, i)))) => κ s i
  | _ => none
def mj_p1 (st : List mj_V) (κ : Int → List mj_V → mj_R) : mj_R := match st with
  | .inl x :: r => κ x r
  | _ => none
def mj_p2 (st : List mj_V) (κ : Int → Int → List mj_V → mj_R) : mj_R := match st with
  | .inl y :: .inl x :: r => κ x y r
  | _ => none
def mj_q1 (st : List mj_V) (κ : Int → List mj_V → mj_R) : mj_R := match st with
  | .inr (.inl x) :: r => κ x r
  | _ => none
def mj_q2 (st : List mj_V) (κ : Int → Int → List mj_V → mj_R) : mj_R := match st with
  | .inr (.inl y) :: .inr (.inl x) :: r => κ x y r
  | _ => none
def mj_a1 (st : List mj_V) (κ : Nat → Nat → List mj_V → mj_R) : mj_R := match st with
  | .inr (.inr (s, i)) :: r => κ s i r
  | _ => none
/-- an index and an array -/
def mj_a2 (st : List mj_V) (κ : Int → Nat → Nat → List mj_V → mj_R) : mj_R := match st with
  | .inl j :: .inr (.inr (s, i)) :: r => κ j s i r
  | _ => none
def mj_bi (ins : Instr) (x y : Int) (κ : Int → mj_R) : mj_R := match ins with
  | .iadd => κ (mj_w (x + y))
  | .isub => κ (mj_w (x - y))
  | .imul => κ (mj_w (x * y))
  | .idiv => if y = 0 then none else κ (mj_w (x.tdiv y))
  | .irem => if y = 0 then none else κ (x.tmod y)
  | .iand => if 0 ≤ x ∧ 0 ≤ y then κ ((x.toNat &&& y.toNat : Nat) : Int) else none
  | .ior => if 0 ≤ x ∧ 0 ≤ y then κ ((x.toNat ||| y.toNat : Nat) : Int) else none
  | .ixor => if 0 ≤ x ∧ 0 ≤ y then κ ((x.toNat ^^^ y.toNat : Nat) : Int) else none
  | .ishl => if 0 ≤ y ∧ y < 32 then κ (mj_w (x * 2 ^ y.toNat)) else none
  | .ishr => if 0 ≤ y ∧ y < 32 then κ (x / 2 ^ y.toNat) else none
  | _ => none
def mj_bl (ins : Instr) (x y : Int) (κ : Int → mj_R) : mj_R := match ins with
  | .ladd => κ (mj_x (x + y))
  | .lsub => κ (mj_x (x - y))
  | .lmul => κ (mj_x (x * y))
  | .ldiv => if y = 0 then none else κ (mj_x (x.tdiv y))
  | .lrem => if y = 0 then none else κ (x.tmod y)
  | _ => none
def mj_ifc (c : Jvm.ClassFile.Cond) (x y : Int) (A B : mj_R) : mj_R := match c with
  | .eq => if x = y then A else B
  | .ne => if x = y then B else A
  | .lt => if x < y then A else B
  | .ge => if x < y then B else A
  | .gt => if y < x then A else B
  | .le => if y < x then B else A
def mj_swk (K : Nat → mj_R) (dflt : Nat) (x : Int) : List (Int × Nat) → mj_R
  | [] => K dflt
  | (v, l) :: r => if x = v then K l else mj_swk K dflt x r
def mj_cat : List mj_V → Nat
  | [] => 0
  | .inr (.inl _) :: r => mj_cat r + 2
  | _ :: r => mj_cat r + 1
def mj_pop : Nat → List mj_V → List mj_V → (List mj_V → List mj_V → mj_R) → mj_R
  | 0, st, acc, κ => κ acc st
  | n + 1, v :: st, acc, κ => mj_pop n st (v :: acc) κ
  | _ + 1, [], _, _ => none
def mj_rV (r : mj_R) (κ : mj_M → mj_R) : mj_R := match r with
  | some (none, μ) => κ μ
  | _ => none
def mj_rI (r : mj_R) (κ : Int → mj_M → mj_R) : mj_R := match r with
  | some (some (.inl x), μ) => κ x μ
  | _ => none
def mj_rL (r : mj_R) (κ : Int → mj_M → mj_R) : mj_R := match r with
  | some (some (.inr (.inl x)), μ) => κ x μ
  | _ => none
/-- the entry's locals -/
def mj_pl : List mj_V → mj_L
  | [] => []
  | .inr (.inl x) :: r => some (.inr (.inl x)) :: none :: mj_pl r
  | v :: r => some v :: mj_pl r
def mj_pad : Nat → mj_L → mj_L
  | 0, _ => []
  | n + 1, [] => none :: mj_pad n []
  | n + 1, v :: l => v :: mj_pad n l
def mj_keep : List Bool → mj_L → mj_L
  | true :: bs, v :: l => v :: mj_keep bs l
  | false :: bs, _ :: l => none :: mj_keep bs l
  | _, _ => []
/-! THE LAYOUT of the two systems' cells: by sort: (kind, info, how many, slots); kind 0: an object, info its class, slots: none a number, (t, o) the reference to sort t, instance + o; 1: ints, info the length; 2: longs; 3: references to sort t, info the length; 4: a text constant, 5: a static table of ints, info its number in mk_TB -/
abbrev mj_S : Type := Nat × Nat × Nat × List (Option (Nat × Nat))
section MJ
variable (LY : List mj_S) (TB : List (List Int)) (CS : List Int)
def mj_srt (s : Nat) : mj_S := match mj_nth LY s with
  | some q => q
  | none => (9, 0, 0, [])
def mj_gf (a b s i : Nat) (st : List mj_V) (μ : mj_M) (κ : List mj_V → mj_R) : mj_R := match mj_srt LY s with
  | (0, ci, _, sl) => match Nat.beq ci b with
    | true => match mj_nth sl a with
      | some none => κ (.inl (μ s i a) :: st)
      | some (some (t, o)) => κ (.inr (.inr (t, i + o)) :: st)
      | none => none
    | false => none
  | _ => none
/-- k = 1: a boolean field -/
def mj_pf (a b k s i : Nat) (x : Int) (μ : mj_M) (κ : mj_M → mj_R) : mj_R := match mj_srt LY s with
  | (0, ci, _, sl) => match Nat.beq ci b with
    | true => match mj_nth sl a with
      | some none => match k with
        | 0 => κ (mj_up μ s i a x)
        | _ + 1 => if x = 0 ∨ x = 1 then κ (mj_up μ s i a x) else none
      | _ => none
    | false => none
  | _ => none
def mj_tb4 (n : Nat) (j : Int) (κ : Int → mj_R) : mj_R := match mj_nth TB n with
  | some l => match mj_nth l j.toNat with
    | some x => if 0 ≤ j then κ x else none
    | none => none
  | none => none
def mj_ial (j : Int) (s i : Nat) (μ : mj_M) (κ : Int → mj_R) : mj_R := match mj_srt LY s with
  | (1, n, _, _) => if 0 ≤ j ∧ j < (n : Int) then κ (μ s i j.toNat) else none
  | (5, n, _, _) => mj_tb4 TB n j κ
  | _ => none
def mj_lal (j : Int) (s i : Nat) (μ : mj_M) (κ : Int → mj_R) : mj_R := match mj_srt LY s with
  | (2, n, _, _) => if 0 ≤ j ∧ j < (n : Int) then κ (μ s i j.toNat) else none
  | _ => none
def mj_ias (x j : Int) (s i : Nat) (μ : mj_M) (κ : mj_M → mj_R) : mj_R := match mj_srt LY s with
  | (1, n, _, _) => if 0 ≤ j ∧ j < (n : Int) then κ (mj_up μ s i j.toNat x) else none
  | _ => none
def mj_las (x j : Int) (s i : Nat) (μ : mj_M) (κ : mj_M → mj_R) : mj_R := match mj_srt LY s with
  | (2, n, _, _) => if 0 ≤ j ∧ j < (n : Int) then κ (mj_up μ s i j.toNat x) else none
  | _ => none
def mj_aal (j : Int) (s : Nat) (κ : Nat → Nat → mj_R) : mj_R := match mj_srt LY s with
  | (3, n, _, [some (t, o)]) => if 0 ≤ j ∧ j < (n : Int) then κ t (j.toNat + o) else none
  | _ => none
def mj_acp (st : List mj_V) (μ : mj_M) (κ : List mj_V → mj_M → mj_R) : mj_R := match st with
  | .inl n :: .inl q :: .inr (.inr (s', i')) :: .inl p :: .inr (.inr (s, i)) :: r => match mj_srt LY s, mj_srt LY s' with
    | (1, m, _, _), (1, m', _, _) => if 0 ≤ n ∧ 0 ≤ p ∧ 0 ≤ q ∧ p + n ≤ (m : Int) ∧ q + n ≤ (m' : Int) then κ r (mj_cpy μ s i p.toNat s' i' q.toNat n.toNat) else none
    | _, _ => none
  | _ => none
/-- a call: k = 0, 1, 2: of a method that gives nothing, an int, a long; 5 the greater of two, 6 a copy, 7 a text's sign -/
def mj_cl (C : Nat → List mj_V → mj_M → mj_R) (a b k : Nat) (st : List mj_V) (μ : mj_M) (κ : List mj_V → mj_M → mj_R) : mj_R := match k with
  | 0 => mj_pop b st [] fun as st' => match Nat.ble (mj_cat st') 8 with
    | true => mj_rV (C a as μ) (fun μ' => κ st' μ')
    | false => none
  | 1 => mj_pop b st [] fun as st' => match Nat.ble (mj_cat st') 8 with
    | true => mj_rI (C a as μ) (fun x μ' => κ (.inl x :: st') μ')
    | false => none
  | 2 => mj_pop b st [] fun as st' => match Nat.ble (mj_cat st') 8 with
    | true => mj_rL (C a as μ) (fun x μ' => κ (.inr (.inl x) :: st') μ')
    | false => none
  | 5 => mj_p2 st fun x y st' => match Nat.ble (mj_cat st') 8 with
    | true => κ (.inl (if x < y then y else x) :: st') μ
    | false => none
  | 6 => mj_acp LY st μ (fun st' μ' => match Nat.ble (mj_cat st') 8 with
    | true => κ st' μ'
    | false => none)
  | 7 => mj_a2 st fun j s i st' => match Nat.ble (mj_cat st') 8 with
    | true => match mj_srt LY s with
      | (4, n, _, _) => mj_tb4 TB n j fun x => κ (.inl x :: st') μ
      | _ => none
    | false => none
  | _ => none
/-- the steps that neither jump nor call -/
def mj_ps (ins : Instr) (a b k : Nat) (ls : mj_L) (st : List mj_V) (μ : mj_M) (κ : mj_L → List mj_V → mj_M → mj_R) : mj_R := match ins with
  | .iconst n => κ ls (.inl n :: st) μ
  | .bipush n => κ ls (.inl n :: st) μ
  | .sipush n => κ ls (.inl n :: st) μ
  | .lconst n => κ ls (.inr (.inl (n.val : Int)) :: st) μ
  | .iload _ => mj_ldi ls a fun x => κ ls (.inl x :: st) μ
  | .iload_n _ => mj_ldi ls a fun x => κ ls (.inl x :: st) μ
  | .lload _ => mj_ldl ls a fun x => κ ls (.inr (.inl x) :: st) μ
  | .lload_n _ => mj_ldl ls a fun x => κ ls (.inr (.inl x) :: st) μ
  | .aload _ => mj_lda ls a fun s i => κ ls (.inr (.inr (s, i)) :: st) μ
  | .aload_n _ => mj_lda ls a fun s i => κ ls (.inr (.inr (s, i)) :: st) μ
  | .istore _ => mj_p1 st fun x r => mj_sto ls a (.inl x) fun ls' => κ ls' r μ
  | .istore_n _ => mj_p1 st fun x r => mj_sto ls a (.inl x) fun ls' => κ ls' r μ
  | .lstore _ => mj_q1 st fun x r => mj_stl ls a x fun ls' => κ ls' r μ
  | .lstore_n _ => mj_q1 st fun x r => mj_stl ls a x fun ls' => κ ls' r μ
  | .astore _ => mj_a1 st fun s i r => mj_sto ls a (.inr (.inr (s, i))) fun ls' => κ ls' r μ
  | .astore_n _ => mj_a1 st fun s i r => mj_sto ls a (.inr (.inr (s, i))) fun ls' => κ ls' r μ
  | .iinc _ n => mj_ldi ls a fun x => mj_sto ls a (.inl (mj_w (x + n))) fun ls' => κ ls' st μ
  | .iadd => mj_p2 st fun x y r => mj_bi ins x y fun z => κ ls (.inl z :: r) μ
  | .isub => mj_p2 st fun x y r => mj_bi ins x y fun z => κ ls (.inl z :: r) μ
  | .imul => mj_p2 st fun x y r => mj_bi ins x y fun z => κ ls (.inl z :: r) μ
  | .idiv => mj_p2 st fun x y r => mj_bi ins x y fun z => κ ls (.inl z :: r) μ
  | .irem => mj_p2 st fun x y r => mj_bi ins x y fun z => κ ls (.inl z :: r) μ
  | .iand => mj_p2 st fun x y r => mj_bi ins x y fun z => κ ls (.inl z :: r) μ
  | .ior => mj_p2 st fun x y r => mj_bi ins x y fun z => κ ls (.inl z :: r) μ
  | .ixor => mj_p2 st fun x y r => mj_bi ins x y fun z => κ ls (.inl z :: r) μ
  | .ishl => mj_p2 st fun x y r => mj_bi ins x y fun z => κ ls (.inl z :: r) μ
  | .ishr => mj_p2 st fun x y r => mj_bi ins x y fun z => κ ls (.inl z :: r) μ
  | .ladd => mj_q2 st fun x y r => mj_bl ins x y fun z => κ ls (.inr (.inl z) :: r) μ
  | .lsub => mj_q2 st fun x y r => mj_bl ins x y fun z => κ ls (.inr (.inl z) :: r) μ
  | .lmul => mj_q2 st fun x y r => mj_bl ins x y fun z => κ ls (.inr (.inl z) :: r) μ
  | .ldiv => mj_q2 st fun x y r => mj_bl ins x y fun z => κ ls (.inr (.inl z) :: r) μ
  | .lrem => mj_q2 st fun x y r => mj_bl ins x y fun z => κ ls (.inr (.inl z) :: r) μ
  | .lcmp => mj_q2 st fun x y r => if x < y then κ ls (.inl (-1) :: r) μ else if x = y then κ ls (.inl 0 :: r) μ else κ ls (.inl 1 :: r) μ
  | .ineg => mj_p1 st fun x r => κ ls (.inl (mj_w (-x)) :: r) μ
  | .i2l => mj_p1 st fun x r => κ ls (.inr (.inl x) :: r) μ
  | .l2i => mj_q1 st fun x r => κ ls (.inl (mj_w x) :: r) μ
  | .i2b => mj_p1 st fun x r => κ ls (.inl ((x + 128) % 256 - 128) :: r) μ
  | .i2s => mj_p1 st fun x r => κ ls (.inl ((x + 32768) % 65536 - 32768) :: r) μ
  | .dup => match st with
    | .inl x :: r => κ ls (.inl x :: .inl x :: r) μ
    | .inr (.inr q) :: r => κ ls (.inr (.inr q) :: .inr (.inr q) :: r) μ
    | _ => none
  | .dup2 => mj_a2 st fun j s i r => κ ls (.inl j :: .inr (.inr (s, i)) :: .inl j :: .inr (.inr (s, i)) :: r) μ
  | .pop => mj_p1 st fun _ r => κ ls r μ
  | .ldc _ => match k with
    | 0 => match mj_nth CS a with
      | some x => κ ls (.inl x :: st) μ
      | none => none
    | _ + 1 => κ ls (.inr (.inr (a, 0)) :: st) μ
  | .ldc_w _ => match mj_nth CS a with
    | some x => κ ls (.inl x :: st) μ
    | none => none
  | .ldc2_w _ => match mj_nth CS a with
    | some x => κ ls (.inr (.inl x) :: st) μ
    | none => none
  | .getstatic _ => κ ls (.inr (.inr (a, 0)) :: st) μ
  | .getfield _ => mj_a1 st fun s i r => mj_gf LY a b s i r μ fun st' => κ ls st' μ
  | .putfield _ => match st with
    | .inl x :: .inr (.inr (s, i)) :: r => mj_pf LY a b k s i x μ fun μ' => κ ls r μ'
    | _ => none
  | .iaload => mj_a2 st fun j s i r => mj_ial LY TB j s i μ fun x => κ ls (.inl x :: r) μ
  | .laload => mj_a2 st fun j s i r => mj_lal LY j s i μ fun x => κ ls (.inr (.inl x) :: r) μ
  | .aaload => mj_a2 st fun j s _ r => mj_aal LY j s fun t o => κ ls (.inr (.inr (t, o)) :: r) μ
  | .iastore => match st with
    | .inl x :: .inl j :: .inr (.inr (s, i)) :: r => mj_ias LY x j s i μ fun μ' => κ ls r μ'
    | _ => none
  | .lastore => match st with
    | .inr (.inl x) :: .inl j :: .inr (.inr (s, i)) :: r => mj_las LY x j s i μ fun μ' => κ ls r μ'
    | _ => none
  | _ => none
def mj_ri (k : Nat) (st : List mj_V) (μ : mj_M) : mj_R := match st with
  | [.inl x] => match k with
    | 0 => some (some (.inl x), μ)
    | _ + 1 => if x = 0 ∨ x = 1 then some (some (.inl x), μ) else none
  | _ => none
def mj_rl (st : List mj_V) (μ : mj_M) : mj_R := match st with
  | [.inr (.inl x)] => some (some (.inr (.inl x)), μ)
  | _ => none
def mj_rv (st : List mj_V) (μ : mj_M) : mj_R := match st with
  | [] => some (none, μ)
  | _ => none
def mj_blk (K : Nat → mj_L → List mj_V → mj_M → mj_R) (C : Nat → List mj_V → mj_M → mj_R) : List mj_I → mj_L → List mj_V → mj_M → mj_R
  | [], _, _, _ => none
  | (_, ins, a, b, k, sw) :: is, ls, st, μ => match ins with
    | .nop => K a ls st μ
    | .goto _ => K a ls st μ
    | .ifCond c _ => mj_p1 st fun x r => mj_ifc c x 0 (K a ls r μ) (mj_blk K C is ls r μ)
    | .if_icmp c _ => mj_p2 st fun x y r => mj_ifc c x y (K a ls r μ) (mj_blk K C is ls r μ)
    | .tableswitch _ _ _ _ => mj_p1 st fun x r => mj_swk (fun l => K l ls r μ) a x sw
    | .lookupswitch _ _ => mj_p1 st fun x r => mj_swk (fun l => K l ls r μ) a x sw
    | .ireturn => mj_ri k st μ
    | .lreturn => mj_rl st μ
    | .return_ => mj_rv st μ
    | .invokevirtual _ => mj_cl LY TB C a b k st μ fun st' μ' => mj_blk K C is ls st' μ'
    | .invokestatic _ => mj_cl LY TB C a b k st μ fun st' μ' => mj_blk K C is ls st' μ'
    | _ => mj_ps LY TB CS ins a b k ls st μ fun ls' st' μ' => mj_blk K C is ls' st' μ'
end MJ
end
section
/-! what a step that neither jumps nor calls does: it goes on at one place, or nowhere -/
theorem mj_sto_pu {ls : mj_L} {a : Nat} {v : mj_V} {κ : mj_L → mj_R} {x : Option mj_V × mj_M} (h : mj_sto ls a v κ = some x) : ∃ l', κ l' = some x ∧ ∀ κ', mj_sto ls a v κ' = κ' l' := by
  cases a with
  | zero => exact ⟨_, h, fun _ => rfl⟩
  | succ j =>
    unfold mj_sto at h ⊢
    dsimp only at h ⊢
    split at h
    · cases h
    · rename_i hn
      refine ⟨_, h, fun κ' => ?_⟩
      first
        | rfl
        | (split
           · rename_i q
             exact absurd q (hn _)
           · rfl)
theorem mj_stl_pu {ls : mj_L} {a : Nat} {v : Int} {κ : mj_L → mj_R} {x : Option mj_V × mj_M} (h : mj_stl ls a v κ = some x) : ∃ l', κ l' = some x ∧ ∀ κ', mj_stl ls a v κ' = κ' l' := by
  obtain ⟨l', h1, h2⟩ := mj_sto_pu h
  exact ⟨_, h1, fun κ' => h2 _⟩
theorem mj_ldi_pu {ls : mj_L} {a : Nat} {κ : Int → mj_R} {x : Option mj_V × mj_M} (h : mj_ldi ls a κ = some x) : ∃ v, κ v = some x ∧ ∀ κ', mj_ldi ls a κ' = κ' v := by
  unfold mj_ldi at h ⊢
  split at h
  · rename_i q
    exact ⟨_, h, fun κ' => rfl⟩
  · cases h
theorem mj_ldl_pu {ls : mj_L} {a : Nat} {κ : Int → mj_R} {x : Option mj_V × mj_M} (h : mj_ldl ls a κ = some x) : ∃ v, κ v = some x ∧ ∀ κ', mj_ldl ls a κ' = κ' v := by
  unfold mj_ldl at h ⊢
  split at h
  · rename_i q
    exact ⟨_, h, fun κ' => rfl⟩
  · cases h
theorem mj_lda_pu {ls : mj_L} {a : Nat} {κ : Nat → Nat → mj_R} {x : Option mj_V × mj_M} (h : mj_lda ls a κ = some x) : ∃ s i, κ s i = some x ∧ ∀ κ', mj_lda ls a κ' = κ' s i := by
  unfold mj_lda at h ⊢
  split at h
  · rename_i q
    exact ⟨_, _, h, fun κ' => rfl⟩
  · cases h
theorem mj_p1_pu {st : List mj_V} {κ : Int → List mj_V → mj_R} {x : Option mj_V × mj_M} (h : mj_p1 st κ = some x) : ∃ v r, κ v r = some x ∧ ∀ κ', mj_p1 st κ' = κ' v r := by
  unfold mj_p1 at h ⊢
  split at h
  · exact ⟨_, _, h, fun _ => rfl⟩
  · cases h
theorem mj_p2_pu {st : List mj_V} {κ : Int → Int → List mj_V → mj_R} {x : Option mj_V × mj_M} (h : mj_p2 st κ = some x) : ∃ v w r, κ v w r = some x ∧ ∀ κ', mj_p2 st κ' = κ' v w r := by
  unfold mj_p2 at h ⊢
  split at h
  · exact ⟨_, _, _, h, fun _ => rfl⟩
  · cases h
theorem mj_q1_pu {st : List mj_V} {κ : Int → List mj_V → mj_R} {x : Option mj_V × mj_M} (h : mj_q1 st κ = some x) : ∃ v r, κ v r = some x ∧ ∀ κ', mj_q1 st κ' = κ' v r := by
  unfold mj_q1 at h ⊢
  split at h
  · exact ⟨_, _, h, fun _ => rfl⟩
  · cases h
theorem mj_q2_pu {st : List mj_V} {κ : Int → Int → List mj_V → mj_R} {x : Option mj_V × mj_M} (h : mj_q2 st κ = some x) : ∃ v w r, κ v w r = some x ∧ ∀ κ', mj_q2 st κ' = κ' v w r := by
  unfold mj_q2 at h ⊢
  split at h
  · exact ⟨_, _, _, h, fun _ => rfl⟩
  · cases h
theorem mj_a1_pu {st : List mj_V} {κ : Nat → Nat → List mj_V → mj_R} {x : Option mj_V × mj_M} (h : mj_a1 st κ = some x) : ∃ s i r, κ s i r = some x ∧ ∀ κ', mj_a1 st κ' = κ' s i r := by
  unfold mj_a1 at h ⊢
  split at h
  · exact ⟨_, _, _, h, fun _ => rfl⟩
  · cases h
theorem mj_a2_pu {st : List mj_V} {κ : Int → Nat → Nat → List mj_V → mj_R} {x : Option mj_V × mj_M} (h : mj_a2 st κ = some x) : ∃ j s i r, κ j s i r = some x ∧ ∀ κ', mj_a2 st κ' = κ' j s i r := by
  unfold mj_a2 at h ⊢
  split at h
  · exact ⟨_, _, _, _, h, fun _ => rfl⟩
  · cases h
theorem mj_if_pu {α : Type} {c : Prop} [hc : Decidable c] {κ : α → mj_R} {v : α} {x : Option mj_V × mj_M} (h : (if c then κ v else none) = some x) : κ v = some x ∧ ∀ κ' : α → mj_R, (if c then κ' v else none) = κ' v := by
  by_cases q : c
  · rw [if_pos q] at h
    exact ⟨h, fun _ => if_pos q⟩
  · rw [if_neg q] at h
    cases h
theorem mj_i3_pu {α : Type} {c d : Prop} [hc : Decidable c] [hd : Decidable d] {A B E : α} {κ : α → mj_R} {x : Option mj_V × mj_M} (h : (if c then κ A else if d then κ B else κ E) = some x) : ∃ z, κ z = some x ∧ ∀ κ' : α → mj_R, (if c then κ' A else if d then κ' B else κ' E) = κ' z := by
  by_cases q : c
  · exact ⟨A, (if_pos q).symm.trans h, fun _ => if_pos q⟩
  · by_cases q2 : d
    · exact ⟨B, ((if_neg q).trans (if_pos q2)).symm.trans h, fun _ => (if_neg q).trans (if_pos q2)⟩
    · exact ⟨E, ((if_neg q).trans (if_neg q2)).symm.trans h, fun _ => (if_neg q).trans (if_neg q2)⟩
theorem mj_bi_pu {ins : Instr} {a b : Int} {κ : Int → mj_R} {x : Option mj_V × mj_M} (h : mj_bi ins a b κ = some x) : ∃ v, κ v = some x ∧ ∀ κ', mj_bi ins a b κ' = κ' v := by
  unfold mj_bi at h ⊢
  split at h
  all_goals first
    | (cases h; done)
    | exact ⟨_, h, fun _ => rfl⟩
    | exact ⟨_, (mj_if_pu h).1, (mj_if_pu h).2⟩
    | (split at h
       · cases h
       · rename_i q
         exact ⟨_, h, fun _ => if_neg q⟩)
theorem mj_bl_pu {ins : Instr} {a b : Int} {κ : Int → mj_R} {x : Option mj_V × mj_M} (h : mj_bl ins a b κ = some x) : ∃ v, κ v = some x ∧ ∀ κ', mj_bl ins a b κ' = κ' v := by
  unfold mj_bl at h ⊢
  split at h
  all_goals first
    | (cases h; done)
    | exact ⟨_, h, fun _ => rfl⟩
    | (split at h
       · cases h
       · rename_i q
         exact ⟨_, h, fun _ => if_neg q⟩)
section MJ
variable {LY : List mj_S} {TB : List (List Int)} {CS : List Int}
theorem mj_gf_pu {a b s i : Nat} {st : List mj_V} {μ : mj_M} {κ : List mj_V → mj_R} {x : Option mj_V × mj_M} (h : mj_gf LY a b s i st μ κ = some x) : ∃ v, κ v = some x ∧ ∀ κ', mj_gf LY a b s i st μ κ' = κ' v := by
  unfold mj_gf at h ⊢
  split at h
  · rename_i e1
    split at h
    · rename_i e2
      split at h
      · rename_i e3
        exact ⟨_, h, fun κ' => by first | rfl | simp only [e1, e2, e3]⟩
      · rename_i e3
        exact ⟨_, h, fun κ' => by first | rfl | simp only [e1, e2, e3]⟩
      · cases h
    · cases h
  · cases h
theorem mj_pf_pu {a b k s i : Nat} {v : Int} {μ : mj_M} {κ : mj_M → mj_R} {x : Option mj_V × mj_M} (h : mj_pf LY a b k s i v μ κ = some x) : ∃ v', κ v' = some x ∧ ∀ κ', mj_pf LY a b k s i v μ κ' = κ' v' := by
  unfold mj_pf at h ⊢
  split at h
  · rename_i e1
    split at h
    · rename_i e2
      split at h
      · rename_i e3
        split at h
        · exact ⟨_, h, fun κ' => by first | rfl | simp only [e1, e2, e3]⟩
        · obtain ⟨h1, h2⟩ := mj_if_pu h
          exact ⟨_, h1, fun κ' => h2 κ'⟩
      · cases h
    · cases h
  · cases h
theorem mj_tb4_pu {n : Nat} {j : Int} {κ : Int → mj_R} {x : Option mj_V × mj_M} (h : mj_tb4 TB n j κ = some x) : ∃ v, κ v = some x ∧ (∀ κ', mj_tb4 TB n j κ' = κ' v) ∧ 0 ≤ j ∧ ∃ l, mj_nth TB n = some l ∧ mj_nth l j.toNat = some v := by
  unfold mj_tb4 at h ⊢
  split at h
  · rename_i e2
    split at h
    · rename_i e3
      by_cases q : 0 ≤ j
      · rw [if_pos q] at h
        exact ⟨_, h, fun κ' => if_pos q, q, _, e2, e3⟩
      · rw [if_neg q] at h
        cases h
    · cases h
  · cases h
theorem mj_ial_pu {j : Int} {s i : Nat} {μ : mj_M} {κ : Int → mj_R} {x : Option mj_V × mj_M} (h : mj_ial LY TB j s i μ κ = some x) : ∃ v, κ v = some x ∧ ∀ κ', mj_ial LY TB j s i μ κ' = κ' v := by
  unfold mj_ial at h ⊢
  split at h
  · rename_i e1
    obtain ⟨h1, h2⟩ := mj_if_pu h
    exact ⟨_, h1, fun κ' => h2 κ'⟩
  · rename_i e1
    obtain ⟨v, h1, h2, -⟩ := mj_tb4_pu h
    exact ⟨_, h1, fun κ' => h2 κ'⟩
  · cases h
theorem mj_lal_pu {j : Int} {s i : Nat} {μ : mj_M} {κ : Int → mj_R} {x : Option mj_V × mj_M} (h : mj_lal LY j s i μ κ = some x) : ∃ v, κ v = some x ∧ ∀ κ', mj_lal LY j s i μ κ' = κ' v := by
  unfold mj_lal at h ⊢
  split at h
  · rename_i e1
    obtain ⟨h1, h2⟩ := mj_if_pu h
    exact ⟨_, h1, fun κ' => h2 κ'⟩
  · cases h
theorem mj_ias_pu {v j : Int} {s i : Nat} {μ : mj_M} {κ : mj_M → mj_R} {x : Option mj_V × mj_M} (h : mj_ias LY v j s i μ κ = some x) : ∃ v', κ v' = some x ∧ ∀ κ', mj_ias LY v j s i μ κ' = κ' v' := by
  unfold mj_ias at h ⊢
  split at h
  · rename_i e1
    obtain ⟨h1, h2⟩ := mj_if_pu h
    exact ⟨_, h1, fun κ' => h2 κ'⟩
  · cases h
theorem mj_las_pu {v j : Int} {s i : Nat} {μ : mj_M} {κ : mj_M → mj_R} {x : Option mj_V × mj_M} (h : mj_las LY v j s i μ κ = some x) : ∃ v', κ v' = some x ∧ ∀ κ', mj_las LY v j s i μ κ' = κ' v' := by
  unfold mj_las at h ⊢
  split at h
  · rename_i e1
    obtain ⟨h1, h2⟩ := mj_if_pu h
    exact ⟨_, h1, fun κ' => h2 κ'⟩
  · cases h
theorem mj_aal_pu {j : Int} {s : Nat} {κ : Nat → Nat → mj_R} {x : Option mj_V × mj_M} (h : mj_aal LY j s κ = some x) : ∃ t o, κ t o = some x ∧ ∀ κ', mj_aal LY j s κ' = κ' t o := by
  unfold mj_aal at h ⊢
  split at h
  · rename_i e1
    split at h
    · rename_i q
      exact ⟨_, _, h, fun κ' => if_pos q⟩
    · cases h
  · cases h
theorem mj_acp_pu {st : List mj_V} {μ : mj_M} {κ : List mj_V → mj_M → mj_R} {x : Option mj_V × mj_M} (h : mj_acp LY st μ κ = some x) : ∃ r m, κ r m = some x ∧ ∀ κ', mj_acp LY st μ κ' = κ' r m := by
  unfold mj_acp at h ⊢
  split at h
  · split at h
    · rename_i e1 e2
      split at h
      · rename_i q
        exact ⟨_, _, h, fun κ' => if_pos q⟩
      · cases h
    · cases h
  · cases h
theorem mj_ps_pu {ins : Instr} {a b k : Nat} {ls : mj_L} {st : List mj_V} {μ : mj_M} {κ : mj_L → List mj_V → mj_M → mj_R} {x : Option mj_V × mj_M} (h : mj_ps LY TB CS ins a b k ls st μ κ = some x) : ∃ ls' st' μ', κ ls' st' μ' = some x ∧ ∀ κ', mj_ps LY TB CS ins a b k ls st μ κ' = κ' ls' st' μ' := by
  unfold mj_ps at h ⊢
  split at h
  all_goals first
    | (cases h; done)
    | exact ⟨_, _, _, h, fun _ => rfl⟩
    | (obtain ⟨v, h1, h2⟩ := mj_ldi_pu h; exact ⟨_, _, _, h1, fun κ' => h2 _⟩)
    | (obtain ⟨v, h1, h2⟩ := mj_ldl_pu h; exact ⟨_, _, _, h1, fun κ' => h2 _⟩)
    | (obtain ⟨v, w, h1, h2⟩ := mj_lda_pu h; exact ⟨_, _, _, h1, fun κ' => h2 _⟩)
    | (obtain ⟨v, h1, h2⟩ := mj_ldi_pu h; obtain ⟨l, h3, h4⟩ := mj_sto_pu h1; exact ⟨_, _, _, h3, fun κ' => (h2 _).trans (h4 _)⟩)
    | (obtain ⟨v, r, h1, h2⟩ := mj_p1_pu h; exact ⟨_, _, _, h1, fun κ' => h2 _⟩)
    | (obtain ⟨v, r, h1, h2⟩ := mj_q1_pu h; exact ⟨_, _, _, h1, fun κ' => h2 _⟩)
    | (obtain ⟨v, r, h1, h2⟩ := mj_p1_pu h; obtain ⟨l, h3, h4⟩ := mj_sto_pu h1; exact ⟨_, _, _, h3, fun κ' => (h2 _).trans (h4 _)⟩)
    | (obtain ⟨v, r, h1, h2⟩ := mj_q1_pu h; obtain ⟨l, h3, h4⟩ := mj_stl_pu h1; exact ⟨_, _, _, h3, fun κ' => (h2 _).trans (h4 _)⟩)
    | (obtain ⟨s, i, r, h1, h2⟩ := mj_a1_pu h; obtain ⟨l, h3, h4⟩ := mj_sto_pu h1; exact ⟨_, _, _, h3, fun κ' => (h2 _).trans (h4 _)⟩)
    | (obtain ⟨v, w, r, h1, h2⟩ := mj_p2_pu h; obtain ⟨l, h3, h4⟩ := mj_bi_pu h1; exact ⟨_, _, _, h3, fun κ' => (h2 _).trans (h4 _)⟩)
    | (obtain ⟨v, w, r, h1, h2⟩ := mj_q2_pu h; obtain ⟨l, h3, h4⟩ := mj_bl_pu h1; exact ⟨_, _, _, h3, fun κ' => (h2 _).trans (h4 _)⟩)
    | (obtain ⟨v, w, r, h1, h2⟩ := mj_q2_pu h; obtain ⟨z, h3, h4⟩ := mj_i3_pu (κ := fun q => κ ls q μ) h1; exact ⟨_, _, _, h3, fun κ' => (h2 _).trans (h4 (fun q => κ' ls q μ))⟩)
    | (obtain ⟨j, s, i, r, h1, h2⟩ := mj_a2_pu h; exact ⟨_, _, _, h1, fun κ' => h2 _⟩)
    | (obtain ⟨s, i, r, h1, h2⟩ := mj_a1_pu h; obtain ⟨l, h3, h4⟩ := mj_gf_pu h1; exact ⟨_, _, _, h3, fun κ' => (h2 _).trans (h4 _)⟩)
    | (obtain ⟨j, s, i, r, h1, h2⟩ := mj_a2_pu h; obtain ⟨l, h3, h4⟩ := mj_ial_pu h1; exact ⟨_, _, _, h3, fun κ' => (h2 _).trans (h4 _)⟩)
    | (obtain ⟨j, s, i, r, h1, h2⟩ := mj_a2_pu h; obtain ⟨l, h3, h4⟩ := mj_lal_pu h1; exact ⟨_, _, _, h3, fun κ' => (h2 _).trans (h4 _)⟩)
    | (obtain ⟨j, s, i, r, h1, h2⟩ := mj_a2_pu h; obtain ⟨t, o, h3, h4⟩ := mj_aal_pu h1; exact ⟨_, _, _, h3, fun κ' => (h2 _).trans (h4 _)⟩)
    | (split at h
       · first
         | exact ⟨_, _, _, h, fun _ => rfl⟩
         | (obtain ⟨l, h3, h4⟩ := mj_pf_pu h; exact ⟨_, _, _, h3, fun κ' => h4 _⟩)
         | (obtain ⟨l, h3, h4⟩ := mj_ias_pu h; exact ⟨_, _, _, h3, fun κ' => h4 _⟩)
         | (obtain ⟨l, h3, h4⟩ := mj_las_pu h; exact ⟨_, _, _, h3, fun κ' => h4 _⟩)
         | (split at h
            · rename_i e; exact ⟨_, _, _, h, fun _ => by first | rfl | simp only [e]⟩
            · cases h)
         | (rename_i e; exact ⟨_, _, _, h, fun _ => by first | rfl | simp only [e]⟩)
       · first
         | (cases h; done)
         | exact ⟨_, _, _, h, fun _ => rfl⟩
       · cases h)
    | (split at h
       · first
         | (split at h
            · rename_i e; exact ⟨_, _, _, h, fun _ => by first | rfl | simp only [e]⟩
            · cases h)
         | (rename_i e; exact ⟨_, _, _, h, fun _ => by first | rfl | simp only [e]⟩)
         | (obtain ⟨l, h3, h4⟩ := mj_pf_pu h; exact ⟨_, _, _, h3, fun κ' => h4 _⟩)
         | (obtain ⟨l, h3, h4⟩ := mj_ias_pu h; exact ⟨_, _, _, h3, fun κ' => h4 _⟩)
         | (obtain ⟨l, h3, h4⟩ := mj_las_pu h; exact ⟨_, _, _, h3, fun κ' => h4 _⟩)
       · first
         | (cases h; done)
         | exact ⟨_, _, _, h, fun _ => rfl⟩)
end MJ
end
section
/-! runs with fuel, and what they come to -/
/-- a method: its locals, 0 or the number of its class + 1 (of an object), its blocks -/
abbrev mj_P : Type := List (Nat × Nat × List (List Bool × List mj_I))
def mj_in (f : Nat → mj_R) : Nat → mj_R
  | 0 => none
  | d + 1 => f d
def mj_bk (PG : mj_P) (y l : Nat) : List Bool × List mj_I := match mj_nth PG y with
  | some (_, _, bs) => match mj_nth bs l with
    | some q => q
    | none => ([], [])
  | none => ([], [])
def mj_ent (PG : mj_P) (y : Nat) (as : List mj_V) : mj_L := match mj_nth PG y with
  | some (n, _, _) => mj_pad n (mj_pl as)
  | none => []
def mj_rcv (LY : List mj_S) (rc : Nat) (as : List mj_V) : Bool := match rc with
  | 0 => true
  | k + 1 => match as with
    | .inr (.inr (s, _)) :: _ => match mj_srt LY s with
      | (0, ci, _, _) => Nat.beq ci k
      | _ => false
    | _ => false
def mj_fit (LY : List mj_S) (PG : mj_P) (y : Nat) (as : List mj_V) : Bool := match mj_nth PG y with
  | some (n, rc, _) => match Nat.ble (mj_pl as).length n with
    | true => mj_rcv LY rc as
    | false => false
  | none => false
def mj_gd (b : Bool) (r : mj_R) : mj_R := match b with
  | true => r
  | false => none
section MJ
variable (LY : List mj_S) (TB : List (List Int)) (CS : List Int) (PG : mj_P)
def mj_run : Nat → Nat → Nat → Nat → mj_L → List mj_V → mj_M → mj_R
  | 0, _, _, _, _, _, _ => none
  | n + 1, d, y, l, ls, st, μ => mj_blk LY TB CS (fun l' => mj_run n d y l') (fun y' as μ' => mj_in (fun d' => mj_gd (mj_fit LY PG y' as) (mj_run n d' y' 0 (mj_ent PG y' as) [] μ')) d) (mj_bk PG y l).2 (mj_keep (mj_bk PG y l).1 ls) st μ
end MJ
section MK
variable {LY : List mj_S} {TB : List (List Int)} {CS : List Int} {PG : mj_P}
theorem mj_pop_pu {n : Nat} {st acc : List mj_V} {κ : List mj_V → List mj_V → mj_R} {x : Option mj_V × mj_M} (h : mj_pop n st acc κ = some x) : ∃ as r, κ as r = some x ∧ (∀ κ', mj_pop n st acc κ' = κ' as r) ∧ ∃ q, st = q ++ r ∧ q.length = n ∧ as = q.reverse ++ acc := by
  induction n generalizing st acc with
  | zero => exact ⟨acc, st, h, fun _ => rfl, [], rfl, rfl, rfl⟩
  | succ n ih =>
    cases st with
    | nil => cases h
    | cons v st =>
      obtain ⟨as, r, h1, h2, q, h3, h4, h5⟩ := ih (st := st) (acc := v :: acc) h
      exact ⟨as, r, h1, h2, v :: q, by rw [h3]; rfl, by rw [List.length_cons, h4], by rw [h5]; simp⟩
theorem mj_rV_pu {r : mj_R} {κ : mj_M → mj_R} {x : Option mj_V × mj_M} (h : mj_rV r κ = some x) : ∃ μ, r = some (none, μ) ∧ κ μ = some x := by
  unfold mj_rV at h
  split at h
  · exact ⟨_, rfl, h⟩
  · cases h
theorem mj_rI_pu {r : mj_R} {κ : Int → mj_M → mj_R} {x : Option mj_V × mj_M} (h : mj_rI r κ = some x) : ∃ v μ, r = some (some (.inl v), μ) ∧ κ v μ = some x := by
  unfold mj_rI at h
  split at h
  · exact ⟨_, _, rfl, h⟩
  · cases h
theorem mj_rL_pu {r : mj_R} {κ : Int → mj_M → mj_R} {x : Option mj_V × mj_M} (h : mj_rL r κ = some x) : ∃ v μ, r = some (some (.inr (.inl v)), μ) ∧ κ v μ = some x := by
  unfold mj_rL at h
  split at h
  · exact ⟨_, _, rfl, h⟩
  · cases h
theorem mj_cl_pu {C : Nat → List mj_V → mj_M → mj_R} {a b k : Nat} {st : List mj_V} {μ : mj_M} {κ : List mj_V → mj_M → mj_R} {x : Option mj_V × mj_M} (h : mj_cl LY TB C a b k st μ κ = some x) :
    ∃ st' μ', κ st' μ' = some x ∧ ((∀ C' κ', mj_cl LY TB C' a b k st μ κ' = κ' st' μ') ∨ ∃ as r, C a as μ = some r ∧ ∀ C' κ', C' a as μ = some r → mj_cl LY TB C' a b k st μ κ' = κ' st' μ') := by
  unfold mj_cl at h ⊢
  split at h
  · obtain ⟨as, r, h1, h2, -⟩ := mj_pop_pu h
    split at h1
    · rename_i e
      obtain ⟨m, h3, h4⟩ := mj_rV_pu h1
      refine ⟨_, _, h4, Or.inr ⟨as, _, h3, fun C' κ' hc => ?_⟩⟩
      rw [h2]
      simp only [e, hc]
      rfl
    · cases h1
  · obtain ⟨as, r, h1, h2, -⟩ := mj_pop_pu h
    split at h1
    · rename_i e
      obtain ⟨v, m, h3, h4⟩ := mj_rI_pu h1
      refine ⟨_, _, h4, Or.inr ⟨as, _, h3, fun C' κ' hc => ?_⟩⟩
      rw [h2]
      simp only [e, hc]
      rfl
    · cases h1
  · obtain ⟨as, r, h1, h2, -⟩ := mj_pop_pu h
    split at h1
    · rename_i e
      obtain ⟨v, m, h3, h4⟩ := mj_rL_pu h1
      refine ⟨_, _, h4, Or.inr ⟨as, _, h3, fun C' κ' hc => ?_⟩⟩
      rw [h2]
      simp only [e, hc]
      rfl
    · cases h1
  · obtain ⟨v, w, r, h1, h2⟩ := mj_p2_pu h
    split at h1
    · rename_i e
      refine ⟨_, _, h1, Or.inl fun C' κ' => ?_⟩
      rw [h2]
      simp only [e]
    · cases h1
  · obtain ⟨r, m, h1, h2⟩ := mj_acp_pu h
    split at h1
    · rename_i e
      refine ⟨_, _, h1, Or.inl fun C' κ' => ?_⟩
      rw [h2]
      simp only [e]
    · cases h1
  · obtain ⟨j, s, i, r, h1, h2⟩ := mj_a2_pu h
    split at h1
    · rename_i e1
      split at h1
      · rename_i e2
        obtain ⟨v, h3, h4, -⟩ := mj_tb4_pu h1
        refine ⟨_, _, h3, Or.inl fun C' κ' => ?_⟩
        rw [h2]
        simp only [e1, e2]
        exact h4 _
      · cases h1
    · cases h1
  · cases h
theorem mj_ifc_mono {c : Jvm.ClassFile.Cond} {v w : Int} {A B A' B' : mj_R} {x : Option mj_V × mj_M} (hA : A = some x → A' = some x) (hB : B = some x → B' = some x) (h : mj_ifc c v w A B = some x) : mj_ifc c v w A' B' = some x := by
  cases c <;> (unfold mj_ifc at h ⊢; dsimp only at h ⊢; split at h <;> rename_i q <;> first | (rw [if_pos q]; first | exact hA h | exact hB h) | (rw [if_neg q]; first | exact hA h | exact hB h))
theorem mj_swk_mono {K K' : Nat → mj_R} {x : Option mj_V × mj_M} (hK : ∀ l, K l = some x → K' l = some x) {d : Nat} {v : Int} (sw : List (Int × Nat)) (h : mj_swk K d v sw = some x) : mj_swk K' d v sw = some x := by
  induction sw with
  | nil => exact hK _ h
  | cons q r ih =>
    unfold mj_swk at h ⊢
    split at h
    · rename_i e
      rw [if_pos e]
      exact hK _ h
    · rename_i e
      rw [if_neg e]
      exact ih h
theorem mj_blk_mono {K K' : Nat → mj_L → List mj_V → mj_M → mj_R} {C C' : Nat → List mj_V → mj_M → mj_R} (hK : ∀ l ls st μ x, K l ls st μ = some x → K' l ls st μ = some x) (hC : ∀ y as μ x, C y as μ = some x → C' y as μ = some x) :
    ∀ (is : List mj_I) (ls : mj_L) (st : List mj_V) (μ : mj_M) (x : Option mj_V × mj_M), mj_blk LY TB CS K C is ls st μ = some x → mj_blk LY TB CS K' C' is ls st μ = some x := by
  intro is
  induction is with
  | nil => intro ls st μ x h; cases h
  | cons q is ih =>
    obtain ⟨pc, ins, a, b, k, sw⟩ := q
    intro ls st μ x h
    unfold mj_blk at h ⊢
    split at h
    · exact hK _ _ _ _ _ h
    · exact hK _ _ _ _ _ h
    · obtain ⟨v, r, h1, h2⟩ := mj_p1_pu h
      exact (h2 _).trans (mj_ifc_mono (hK _ _ _ _ _) (ih _ _ _ _) h1)
    · obtain ⟨v, w, r, h1, h2⟩ := mj_p2_pu h
      exact (h2 _).trans (mj_ifc_mono (hK _ _ _ _ _) (ih _ _ _ _) h1)
    · obtain ⟨v, r, h1, h2⟩ := mj_p1_pu h
      exact (h2 _).trans (mj_swk_mono (fun l => hK l _ _ _ _) sw h1)
    · obtain ⟨v, r, h1, h2⟩ := mj_p1_pu h
      exact (h2 _).trans (mj_swk_mono (fun l => hK l _ _ _ _) sw h1)
    · exact h
    · exact h
    · exact h
    · obtain ⟨st', μ', h1, h2⟩ := mj_cl_pu h
      rcases h2 with h2 | ⟨as, r, h3, h2⟩
      · exact (h2 _ _).trans (ih _ _ _ _ h1)
      · exact (h2 _ _ (hC _ _ _ _ h3)).trans (ih _ _ _ _ h1)
    · obtain ⟨st', μ', h1, h2⟩ := mj_cl_pu h
      rcases h2 with h2 | ⟨as, r, h3, h2⟩
      · exact (h2 _ _).trans (ih _ _ _ _ h1)
      · exact (h2 _ _ (hC _ _ _ _ h3)).trans (ih _ _ _ _ h1)
    · obtain ⟨ls', st', μ', h1, h2⟩ := mj_ps_pu h
      exact (h2 _).trans (ih _ _ _ _ h1)
theorem mj_gd_mono {b : Bool} {r r' : mj_R} {x : Option mj_V × mj_M} (h : r = some x → r' = some x) (q : mj_gd b r = some x) : mj_gd b r' = some x := by
  cases b with
  | true => exact h q
  | false => cases q
theorem mj_in_mono {f g : Nat → mj_R} {x : Option mj_V × mj_M} (h : ∀ d, f d = some x → g d = some x) : ∀ d, mj_in f d = some x → mj_in g d = some x
  | 0, q => by cases q
  | d + 1, q => h d q
theorem mj_run_mono : ∀ (n d y l : Nat) (ls : mj_L) (st : List mj_V) (μ : mj_M) (x : Option mj_V × mj_M), mj_run LY TB CS PG n d y l ls st μ = some x → mj_run LY TB CS PG (n + 1) d y l ls st μ = some x := by
  intro n
  induction n with
  | zero => intro d y l ls st μ x h; cases h
  | succ n ih =>
    intro d y l ls st μ x h
    rw [mj_run] at h ⊢
    exact mj_blk_mono (fun l' ls st μ x h => ih _ _ _ _ _ _ _ h) (fun y as μ x h => mj_in_mono (fun d h => mj_gd_mono (ih _ _ _ _ _ _ _) h) _ h) _ _ _ _ _ h
theorem mj_run_le {n m d y l : Nat} {ls : mj_L} {st : List mj_V} {μ : mj_M} {x : Option mj_V × mj_M} (hm : n ≤ m) (h : mj_run LY TB CS PG n d y l ls st μ = some x) : mj_run LY TB CS PG m d y l ls st μ = some x := by
  induction m with
  | zero =>
    have : n = 0 := by omega
    subst this
    exact h
  | succ m ih =>
    by_cases q : n = m + 1
    · subst q; exact h
    · exact mj_run_mono _ _ _ _ _ _ _ _ (ih (by omega))
theorem mj_den_ex (LY : List mj_S) (TB : List (List Int)) (CS : List Int) (PG : mj_P) (d y l : Nat) (ls : mj_L) (st : List mj_V) (μ : mj_M) : ∃ r : mj_R, ∀ x, r = some x ↔ ∃ n, mj_run LY TB CS PG n d y l ls st μ = some x := by
  by_cases h : ∃ n x, mj_run LY TB CS PG n d y l ls st μ = some x
  · obtain ⟨n, x, h⟩ := h
    refine ⟨some x, fun z => ⟨fun e => ⟨n, by rw [h, ← e]⟩, fun ⟨m, hm⟩ => ?_⟩⟩
    have h1 := mj_run_le (Nat.le_max_left n m) h
    have h2 := mj_run_le (Nat.le_max_right n m) hm
    rw [h1] at h2
    exact h2
  · refine ⟨none, fun z => ⟨fun e => (by cases e), fun ⟨m, hm⟩ => absurd ⟨m, z, hm⟩ h⟩⟩
noncomputable def mj_den (LY : List mj_S) (TB : List (List Int)) (CS : List Int) (PG : mj_P) (d y l : Nat) (ls : mj_L) (st : List mj_V) (μ : mj_M) : mj_R := Classical.choose (mj_den_ex LY TB CS PG d y l ls st μ)
noncomputable def mj_call (LY : List mj_S) (TB : List (List Int)) (CS : List Int) (PG : mj_P) (d y : Nat) (as : List mj_V) (μ : mj_M) : mj_R := mj_in (fun d' => mj_gd (mj_fit LY PG y as) (mj_den LY TB CS PG d' y 0 (mj_ent PG y as) [] μ)) d
theorem mj_den_iff {d y l : Nat} {ls : mj_L} {st : List mj_V} {μ : mj_M} {x : Option mj_V × mj_M} : mj_den LY TB CS PG d y l ls st μ = some x ↔ ∃ n, mj_run LY TB CS PG n d y l ls st μ = some x := Classical.choose_spec (mj_den_ex LY TB CS PG d y l ls st μ) x
theorem mj_ifc_ct {c : Jvm.ClassFile.Cond} {v w : Int} {A B : mj_R} {A' B' : Nat → mj_R} {x : Option mj_V × mj_M} (hA : A = some x → ∃ n, A' n = some x) (hB : B = some x → ∃ n, B' n = some x) (h : mj_ifc c v w A B = some x) : ∃ n, mj_ifc c v w (A' n) (B' n) = some x := by
  have key : (A = some x ∧ ∀ A B : mj_R, mj_ifc c v w A B = A) ∨ (B = some x ∧ ∀ A B : mj_R, mj_ifc c v w A B = B) := by
    cases c <;> (unfold mj_ifc at h ⊢; dsimp only at h ⊢; split at h <;> rename_i q <;> simp [q, h])
  rcases key with ⟨h1, h2⟩ | ⟨h1, h2⟩
  · obtain ⟨n, hn⟩ := hA h1
    exact ⟨n, (h2 _ _).trans hn⟩
  · obtain ⟨n, hn⟩ := hB h1
    exact ⟨n, (h2 _ _).trans hn⟩
theorem mj_swk_ct {K : Nat → mj_R} {K' : Nat → Nat → mj_R} {x : Option mj_V × mj_M} (hK : ∀ l, K l = some x → ∃ n, K' n l = some x) {d : Nat} {v : Int} (sw : List (Int × Nat)) (h : mj_swk K d v sw = some x) : ∃ n, mj_swk (K' n) d v sw = some x := by
  induction sw with
  | nil => exact hK _ h
  | cons q r ih =>
    unfold mj_swk at h ⊢
    split at h
    · rename_i e
      obtain ⟨n, hn⟩ := hK _ h
      exact ⟨n, by rw [if_pos e]; exact hn⟩
    · rename_i e
      obtain ⟨n, hn⟩ := ih h
      exact ⟨n, by rw [if_neg e]; exact hn⟩
theorem mj_blk_ct {K : Nat → mj_L → List mj_V → mj_M → mj_R} {C : Nat → List mj_V → mj_M → mj_R} {K' : Nat → Nat → mj_L → List mj_V → mj_M → mj_R} {C' : Nat → Nat → List mj_V → mj_M → mj_R}
    (hK : ∀ l ls st μ x, K l ls st μ = some x → ∃ n, K' n l ls st μ = some x) (hC : ∀ y as μ x, C y as μ = some x → ∃ n, C' n y as μ = some x)
    (mK : ∀ n m l ls st μ x, n ≤ m → K' n l ls st μ = some x → K' m l ls st μ = some x) (mC : ∀ n m y as μ x, n ≤ m → C' n y as μ = some x → C' m y as μ = some x) :
    ∀ (is : List mj_I) (ls : mj_L) (st : List mj_V) (μ : mj_M) (x : Option mj_V × mj_M), mj_blk LY TB CS K C is ls st μ = some x → ∃ n, mj_blk LY TB CS (K' n) (C' n) is ls st μ = some x := by
  intro is
  induction is with
  | nil => intro ls st μ x h; cases h
  | cons q is ih =>
    obtain ⟨pc, ins, a, b, k, sw⟩ := q
    intro ls st μ x h
    unfold mj_blk at h ⊢
    split at h
    · exact hK _ _ _ _ _ h
    · exact hK _ _ _ _ _ h
    · obtain ⟨v, r, h1, h2⟩ := mj_p1_pu h
      obtain ⟨n, hn⟩ := mj_ifc_ct (A' := fun n => K' n a ls r μ) (B' := fun n => mj_blk LY TB CS (K' n) (C' n) is ls r μ) (hK _ _ _ _ _) (ih _ _ _ _) h1
      exact ⟨n, (h2 _).trans hn⟩
    · obtain ⟨v, w, r, h1, h2⟩ := mj_p2_pu h
      obtain ⟨n, hn⟩ := mj_ifc_ct (A' := fun n => K' n a ls r μ) (B' := fun n => mj_blk LY TB CS (K' n) (C' n) is ls r μ) (hK _ _ _ _ _) (ih _ _ _ _) h1
      exact ⟨n, (h2 _).trans hn⟩
    · obtain ⟨v, r, h1, h2⟩ := mj_p1_pu h
      obtain ⟨n, hn⟩ := mj_swk_ct (K' := fun n l => K' n l ls r μ) (fun l => hK l _ _ _ _) sw h1
      exact ⟨n, (h2 _).trans hn⟩
    · obtain ⟨v, r, h1, h2⟩ := mj_p1_pu h
      obtain ⟨n, hn⟩ := mj_swk_ct (K' := fun n l => K' n l ls r μ) (fun l => hK l _ _ _ _) sw h1
      exact ⟨n, (h2 _).trans hn⟩
    · exact ⟨0, h⟩
    · exact ⟨0, h⟩
    · exact ⟨0, h⟩
    · obtain ⟨st', μ', h1, h2⟩ := mj_cl_pu h
      obtain ⟨n, hn⟩ := ih _ _ _ _ h1
      rcases h2 with h2 | ⟨as, r, h3, h2⟩
      · exact ⟨n, (h2 _ _).trans hn⟩
      · obtain ⟨m, hm⟩ := hC _ _ _ _ h3
        exact ⟨max n m, (h2 _ _ (mC _ _ _ _ _ _ (Nat.le_max_right n m) hm)).trans (mj_blk_mono (fun l ls st μ x => mK _ _ _ _ _ _ _ (Nat.le_max_left n m)) (fun y as μ x => mC _ _ _ _ _ _ (Nat.le_max_left n m)) _ _ _ _ _ hn)⟩
    · obtain ⟨st', μ', h1, h2⟩ := mj_cl_pu h
      obtain ⟨n, hn⟩ := ih _ _ _ _ h1
      rcases h2 with h2 | ⟨as, r, h3, h2⟩
      · exact ⟨n, (h2 _ _).trans hn⟩
      · obtain ⟨m, hm⟩ := hC _ _ _ _ h3
        exact ⟨max n m, (h2 _ _ (mC _ _ _ _ _ _ (Nat.le_max_right n m) hm)).trans (mj_blk_mono (fun l ls st μ x => mK _ _ _ _ _ _ _ (Nat.le_max_left n m)) (fun y as μ x => mC _ _ _ _ _ _ (Nat.le_max_left n m)) _ _ _ _ _ hn)⟩
    · obtain ⟨ls', st', μ', h1, h2⟩ := mj_ps_pu h
      obtain ⟨n, hn⟩ := ih _ _ _ _ h1
      exact ⟨n, (h2 _).trans hn⟩
/-- THE EQUATION: what a block comes to -/
theorem mj_fix {d y l : Nat} {ls : mj_L} {st : List mj_V} {μ : mj_M} : mj_den LY TB CS PG d y l ls st μ = mj_blk LY TB CS (fun l' => mj_den LY TB CS PG d y l') (mj_call LY TB CS PG d) (mj_bk PG y l).2 (mj_keep (mj_bk PG y l).1 ls) st μ := by
  apply Option.ext
  intro x
  constructor
  · intro h
    obtain ⟨n, hn⟩ := mj_den_iff.mp h
    cases n with
    | zero => cases hn
    | succ n =>
      rw [mj_run] at hn
      refine mj_blk_mono (fun l' ls st μ x h => mj_den_iff.mpr ⟨n, h⟩) (fun y as μ x h => ?_) _ _ _ _ _ hn
      exact mj_in_mono (fun d h => mj_gd_mono (fun h => mj_den_iff.mpr ⟨n, h⟩) h) _ h
  · intro h
    obtain ⟨n, hn⟩ := mj_blk_ct (K' := fun n l' => mj_run LY TB CS PG n d y l') (C' := fun n y' as μ' => mj_in (fun d' => mj_gd (mj_fit LY PG y' as) (mj_run LY TB CS PG n d' y' 0 (mj_ent PG y' as) [] μ')) d)
      (fun l ls st μ x h => mj_den_iff.mp h) (fun y as μ x h => by
        unfold mj_call at h
        cases d with
        | zero => cases h
        | succ d =>
          change mj_gd _ _ = _ at h
          cases q : mj_fit LY PG y as with
          | false => rw [q] at h; cases h
          | true =>
            rw [q] at h
            obtain ⟨n, hn⟩ := mj_den_iff.mp h
            exact ⟨n, hn⟩)
      (fun n m l ls st μ x hm h => mj_run_le hm h) (fun n m y as μ x hm h => mj_in_mono (fun d h => mj_gd_mono (mj_run_le hm) h) _ h) _ _ _ _ _ h
    exact mj_den_iff.mpr ⟨n + 1, by rw [mj_run]; exact hn⟩
theorem mj_call_eq {d y : Nat} {as : List mj_V} {μ : mj_M} : mj_call LY TB CS PG (d + 1) y as μ = mj_gd (mj_fit LY PG y as) (mj_den LY TB CS PG d y 0 (mj_ent PG y as) [] μ) := rfl
end MK
end
section
/-! numbers of the small machine, and the machine's own -/
def mj_n32 (x : Int) : Prop := -2147483648 ≤ x ∧ x < 2147483648
def mj_n64 (x : Int) : Prop := -9223372036854775808 ≤ x ∧ x < 9223372036854775808
theorem mj_n32_64 {x : Int} (h : mj_n32 x) : mj_n64 x := by
  unfold mj_n32 at h; unfold mj_n64; omega
theorem mj_w_in (z : Int) : mj_n32 (mj_w z) := by
  unfold mj_n32 mj_w; omega
theorem mj_x_in (z : Int) : mj_n64 (mj_x z) := by
  unfold mj_n64 mj_x; omega
theorem mj_w_id {z : Int} (h : mj_n32 z) : mj_w z = z := by
  unfold mj_n32 at h; unfold mj_w; omega
theorem mj_x_id {z : Int} (h : mj_n64 z) : mj_x z = z := by
  unfold mj_n64 at h; unfold mj_x; omega
theorem mj_tI {x : Int} (h : mj_n32 x) : (Int32.ofInt x).toInt = x := Int32.toInt_ofInt_of_le (by unfold mj_n32 at h; omega) (by unfold mj_n32 at h; omega)
theorem mj_tL {x : Int} (h : mj_n64 x) : (Int64.ofInt x).toInt = x := Int64.toInt_ofInt_of_le (by unfold mj_n64 at h; omega) (by unfold mj_n64 at h; omega)
theorem mj_I_w (z : Int) : Int32.ofInt (mj_w z) = Int32.ofInt z := by
  apply Int32.toInt_inj.1
  rw [Int32.toInt_ofInt, Int32.toInt_ofInt]
  show (mj_w z).bmod 4294967296 = z.bmod 4294967296
  rw [Int.bmod_def, Int.bmod_def]
  unfold mj_w
  omega
theorem mj_L_x (z : Int) : Int64.ofInt (mj_x z) = Int64.ofInt z := by
  apply Int64.toInt_inj.1
  rw [Int64.toInt_ofInt, Int64.toInt_ofInt]
  show (mj_x z).bmod 18446744073709551616 = z.bmod 18446744073709551616
  rw [Int.bmod_def, Int.bmod_def]
  unfold mj_x
  omega
theorem mj_I_inj {x y : Int} (hx : mj_n32 x) (hy : mj_n32 y) : Int32.ofInt x = Int32.ofInt y ↔ x = y := by
  rw [← Int32.toInt_inj, mj_tI hx, mj_tI hy]
theorem mj_I_lt {x y : Int} (hx : mj_n32 x) (hy : mj_n32 y) : Int32.ofInt x < Int32.ofInt y ↔ x < y := by
  rw [Int32.lt_iff_toInt_lt, mj_tI hx, mj_tI hy]
theorem mj_I_le {x y : Int} (hx : mj_n32 x) (hy : mj_n32 y) : Int32.ofInt x ≤ Int32.ofInt y ↔ x ≤ y := by
  rw [Int32.le_iff_toInt_le, mj_tI hx, mj_tI hy]
theorem mj_L_inj {x y : Int} (hx : mj_n64 x) (hy : mj_n64 y) : Int64.ofInt x = Int64.ofInt y ↔ x = y := by
  rw [← Int64.toInt_inj, mj_tL hx, mj_tL hy]
theorem mj_L_lt {x y : Int} (hx : mj_n64 x) (hy : mj_n64 y) : Int64.ofInt x < Int64.ofInt y ↔ x < y := by
  rw [Int64.lt_iff_toInt_lt, mj_tL hx, mj_tL hy]
theorem mj_n0 : mj_n32 0 := by unfold mj_n32; omega
theorem mj_n1 : mj_n32 1 := by unfold mj_n32; omega
theorem mj_I_0 : Int32.ofInt 0 = 0 := rfl
theorem mj_tmod_in {x y : Int} (hx : mj_n32 x) : mj_n32 (x.tmod y) := by
  unfold mj_n32 at hx ⊢
  have h1 := Int.natAbs_tmod x y
  have h2 : x.natAbs % y.natAbs ≤ x.natAbs := Nat.mod_le _ _
  by_cases h : 0 ≤ x
  · have h3 := Int.tmod_nonneg y h
    omega
  · have h3 : (-x).tmod y = -(x.tmod y) := Int.neg_tmod x y
    have h4 := Int.tmod_nonneg y (show 0 ≤ -x by omega)
    omega
theorem mj_tmod_in64 {x y : Int} (hx : mj_n64 x) : mj_n64 (x.tmod y) := by
  unfold mj_n64 at hx ⊢
  have h1 := Int.natAbs_tmod x y
  have h2 : x.natAbs % y.natAbs ≤ x.natAbs := Nat.mod_le _ _
  by_cases h : 0 ≤ x
  · have h3 := Int.tmod_nonneg y h
    omega
  · have h3 : (-x).tmod y = -(x.tmod y) := Int.neg_tmod x y
    have h4 := Int.tmod_nonneg y (show 0 ≤ -x by omega)
    omega
theorem mj_mn32 : Int32.minValue.toInt = -2147483648 := by decide
theorem mj_mx32 : Int32.maxValue.toInt = 2147483647 := by decide
theorem mj_mn64 : Int64.minValue.toInt = -9223372036854775808 := by decide
theorem mj_mx64 : Int64.maxValue.toInt = 9223372036854775807 := by decide
theorem mj_I_div {x y : Int} (hx : mj_n32 x) (hy : mj_n32 y) : Int32.ofInt (mj_w (x.tdiv y)) = Int32.ofInt x / Int32.ofInt y := by
  rw [mj_I_w]
  unfold mj_n32 at hx hy
  exact Int32.ofInt_tdiv (by rw [mj_mn32]; omega) (by rw [mj_mx32]; omega) (by rw [mj_mn32]; omega) (by rw [mj_mx32]; omega)
theorem mj_I_rem {x y : Int} (hx : mj_n32 x) (hy : mj_n32 y) : Int32.ofInt (x.tmod y) = Int32.ofInt x - Int32.ofInt x / Int32.ofInt y * Int32.ofInt y := by
  rw [← mj_I_div hx hy, mj_I_w, ← Int32.ofInt_mul, ← Int32.ofInt_sub]
  congr 1
  have := Int.tmod_add_mul_tdiv x y
  rw [Int.mul_comm] at this
  omega
theorem mj_L_div {x y : Int} (hx : mj_n64 x) (hy : mj_n64 y) : Int64.ofInt (mj_x (x.tdiv y)) = Int64.ofInt x / Int64.ofInt y := by
  rw [mj_L_x]
  unfold mj_n64 at hx hy
  exact Int64.ofInt_tdiv (by rw [mj_mn64]; omega) (by rw [mj_mx64]; omega) (by rw [mj_mn64]; omega) (by rw [mj_mx64]; omega)
theorem mj_L_rem {x y : Int} (hx : mj_n64 x) (hy : mj_n64 y) : Int64.ofInt (x.tmod y) = Int64.ofInt x - Int64.ofInt x / Int64.ofInt y * Int64.ofInt y := by
  rw [← mj_L_div hx hy, mj_L_x, ← Int64.ofInt_mul, ← Int64.ofInt_sub]
  congr 1
  have := Int.tmod_add_mul_tdiv x y
  rw [Int.mul_comm] at this
  omega
theorem mj_I_nat {x : Int} (h : 0 ≤ x) : Int32.ofInt x = nI x.toNat := by
  have : x = (x.toNat : Int) := (Int.toNat_of_nonneg h).symm
  conv => lhs; rw [this]
  exact Int32.ofInt_eq_ofNat
theorem mj_I_N (n : Nat) : Int32.ofInt (n : Int) = nI n := Int32.ofInt_eq_ofNat
theorem mj_I_and (a b : Nat) : nI a &&& nI b = nI (a &&& b) := by
  apply Int32.toBitVec_inj.1
  show BitVec.ofNat 32 a &&& BitVec.ofNat 32 b = BitVec.ofNat 32 (a &&& b)
  apply BitVec.eq_of_getLsbD_eq
  intro i hi
  simp [hi]
theorem mj_I_or (a b : Nat) : nI a ||| nI b = nI (a ||| b) := by
  apply Int32.toBitVec_inj.1
  show BitVec.ofNat 32 a ||| BitVec.ofNat 32 b = BitVec.ofNat 32 (a ||| b)
  apply BitVec.eq_of_getLsbD_eq
  intro i hi
  simp [hi]
theorem mj_I_xor (a b : Nat) : nI a ^^^ nI b = nI (a ^^^ b) := by
  apply Int32.toBitVec_inj.1
  show BitVec.ofNat 32 a ^^^ BitVec.ofNat 32 b = BitVec.ofNat 32 (a ^^^ b)
  apply BitVec.eq_of_getLsbD_eq
  intro i hi
  simp [hi]
theorem mj_lt_31 {x : Int} (h : mj_n32 x) : x.toNat < 2 ^ 31 := by unfold mj_n32 at h; omega
theorem mj_nat_in {n : Nat} (h : n < 2 ^ 31) : mj_n32 (n : Int) := by unfold mj_n32; omega
theorem mj_and_in {x y : Int} (hx : mj_n32 x) : mj_n32 ((x.toNat &&& y.toNat : Nat) : Int) := mj_nat_in (Nat.lt_of_le_of_lt Nat.and_le_left (mj_lt_31 hx))
theorem mj_or_in {x y : Int} (hx : mj_n32 x) (hy : mj_n32 y) : mj_n32 ((x.toNat ||| y.toNat : Nat) : Int) := mj_nat_in (Nat.or_lt_two_pow (mj_lt_31 hx) (mj_lt_31 hy))
theorem mj_xor_in {x y : Int} (hx : mj_n32 x) (hy : mj_n32 y) : mj_n32 ((x.toNat ^^^ y.toNat : Nat) : Int) := mj_nat_in (Nat.xor_lt_two_pow (mj_lt_31 hx) (mj_lt_31 hy))
/-- shifts, by 0 .. 31 -/
theorem mj_sm : ∀ k : Nat, k < 32 → ((nI k &&& 31).toBitVec.smod 32).toNat = k := by decide +kernel
theorem mj_I_shl {x y : Int} (hx : mj_n32 x) (h : 0 ≤ y ∧ y < 32) : Int32.ofInt (mj_w (x * 2 ^ y.toNat)) = Int32.ofInt x <<< (Int32.ofInt y &&& 31) := by
  rw [mj_I_w, mj_I_nat h.1]
  have hk : y.toNat < 32 := by omega
  have e := mj_sm y.toNat hk
  apply Int32.toBitVec_inj.1
  apply BitVec.eq_of_toNat_eq
  rw [pk_shl _ _ _ e]
  rw [Int32.toBitVec_ofInt, Int32.toBitVec_ofInt, BitVec.toNat_ofInt, BitVec.toNat_ofInt]
  have h2 : ((2 ^ y.toNat : Nat) : Int) = (2 : Int) ^ y.toNat := by norm_cast
  rw [← h2]
  generalize (2 ^ y.toNat : Nat) = p
  have h3 : (x * (p : Int)) % ((2 ^ 32 : Nat) : Int) = ((x % ((2 ^ 32 : Nat) : Int)) * (p : Int)) % ((2 ^ 32 : Nat) : Int) := by
    have a1 := Int.mul_emod x (p : Int) ((2 ^ 32 : Nat) : Int)
    have a2 := Int.mul_emod (x % ((2 ^ 32 : Nat) : Int)) (p : Int) ((2 ^ 32 : Nat) : Int)
    rw [Int.emod_emod_of_dvd x (Int.dvd_refl ((2 ^ 32 : Nat) : Int))] at a2
    exact a1.trans a2.symm
  rw [h3]
  have h4 : 0 ≤ x % ((2 ^ 32 : Nat) : Int) := Int.emod_nonneg _ (by decide)
  generalize hz : x % ((2 ^ 32 : Nat) : Int) = z at h4
  obtain ⟨m, rfl⟩ := Int.eq_ofNat_of_zero_le h4
  norm_cast
theorem mj_I_shr {x y : Int} (hx : mj_n32 x) (h : 0 ≤ y ∧ y < 32) : Int32.ofInt (x / 2 ^ y.toNat) = Int32.ofInt x >>> (Int32.ofInt y &&& 31) ∧ mj_n32 (x / 2 ^ y.toNat) := by
  have hk : y.toNat < 32 := by omega
  have e := mj_sm y.toNat hk
  have h2 : ((2 ^ y.toNat : Nat) : Int) = (2 : Int) ^ y.toNat := by norm_cast
  have hp : 0 < 2 ^ y.toNat := Nat.two_pow_pos _
  have hr : mj_n32 (x / 2 ^ y.toNat) := by
    rw [← h2]
    generalize (2 ^ y.toNat : Nat) = p at hp
    unfold mj_n32 at hx ⊢
    have hp2 : (0 : Int) < (p : Int) := by omega
    constructor
    · rcases Int.lt_or_le x 0 with q | q
      · have := Int.ediv_le_ediv hp2 (show -2147483648 ≤ x from hx.1)
        have h5 : (-2147483648 : Int) ≤ -2147483648 / (p : Int) := by
          refine (Int.le_ediv_iff_mul_le hp2).mpr ?_
          omega
        omega
      · have := Int.ediv_nonneg q (Int.le_of_lt hp2)
        omega
    · rcases Int.lt_or_le x 0 with q | q
      · have := Int.ediv_lt_of_lt_mul hp2 (show x < 1 * (p : Int) by omega)
        omega
      · have := Int.ediv_le_self (p : Int) q
        omega
  refine ⟨?_, hr⟩
  apply Int32.toInt_inj.1
  rw [mj_tI hr, mj_I_nat h.1, pk_shr _ _ _ e, mj_tI hx, Int.shiftRight_eq_div_pow]
  norm_cast
theorem mj_clN {x : Int} (hx : mj_n32 x) : (Int32.ofInt x).toNatClampNeg = x.toNat := by
  show (Int32.ofInt x).toInt.toNat = _
  rw [mj_tI hx]
theorem mj_vin {x : Int} {n : Nat} (hx : mj_n32 x) (h : 0 ≤ x ∧ x < (n : Int)) : vp_in (Int32.ofInt x) n := by
  rw [vp_in_iff, mj_tI hx]
  exact h
theorem mj_i2b {x : Int} : (Int32.ofInt x).toInt8.toInt32 = Int32.ofInt ((x + 128) % 256 - 128) ∧ mj_n32 ((x + 128) % 256 - 128) := by
  have hr : mj_n32 ((x + 128) % 256 - 128) := by unfold mj_n32; omega
  refine ⟨?_, hr⟩
  apply Int32.toInt_inj.1
  rw [mj_tI hr, Int32.toInt8_ofInt, Int8.toInt_toInt32, Int8.toInt_ofInt]
  show x.bmod 256 = _
  rw [Int.bmod_def]
  omega
theorem mj_i2s {x : Int} : (Int32.ofInt x).toInt16.toInt32 = Int32.ofInt ((x + 32768) % 65536 - 32768) ∧ mj_n32 ((x + 32768) % 65536 - 32768) := by
  have hr : mj_n32 ((x + 32768) % 65536 - 32768) := by unfold mj_n32; omega
  refine ⟨?_, hr⟩
  apply Int32.toInt_inj.1
  rw [mj_tI hr, Int32.toInt16_ofInt, Int16.toInt_toInt32, Int16.toInt_ofInt]
  show x.bmod 65536 = _
  rw [Int.bmod_def]
  omega
theorem mj_i2l {x : Int} (hx : mj_n32 x) : (Int32.ofInt x).toInt64 = Int64.ofInt x := by
  unfold mj_n32 at hx
  exact Int32.toInt64_ofInt (by rw [mj_mn32]; omega) (by rw [mj_mx32]; omega)
theorem mj_l2i {x : Int} : (Int64.ofInt x).toInt32 = Int32.ofInt (mj_w x) := by
  rw [mj_I_w, Int64.toInt32_ofInt]
theorem mj_lcmp {x y : Int} (hx : mj_n64 x) (hy : mj_n64 y) : lg_cmp (Int64.ofInt x) (Int64.ofInt y) = Int32.ofInt (if x < y then -1 else if x = y then 0 else 1) := by
  unfold lg_cmp
  show (if Int64.ofInt y < Int64.ofInt x then _ else _) = _
  have h1 := mj_L_lt hy hx
  have h2 := mj_L_inj hx hy
  by_cases a : x < y
  · rw [if_neg (fun q => by have := h1.mp q; omega), if_neg (fun q => by have := h2.mp q; omega), if_pos a]
    rfl
  · rw [if_neg a]
    by_cases b : x = y
    · rw [if_neg (fun q => by have := h1.mp q; omega), if_pos (h2.mpr b), if_pos b]
      rfl
    · rw [if_pos (h1.mpr (by omega)), if_neg b]
      rfl
end
section
/-! printed by wip/whole/gen.py: the layout, the tables, the code of every method but the constructors and the law, block by block -/
/-- 0 NC, 1 PLAN, 2 PDOES, 3 PSLOW, 4 PPAUSE, 5 PCOMES, 6 ASKERS, 7 ASKER, 8 TEXTS, 9 TEXT, 10 TROW, 11 TENDS, 12 TPILE, 13 TNAMED, 14 TAPE, 15 TBYTES, 16 TAROW, 17 TAENDS, 18 SHEETS, 19 SHEET, 20 CELLS, 21 DAY, 22 FATE, 23 BEGAN, 24 ENDED, 25 SERVED, 26 TIMES, 27 IDLED, 28 WITH, 29 BUSY, 30 LINE, 31 LEAST, 32 PARTS, 33 MODEL, 34 M_counterOf, 35 M_kind, 36 M_letterOf, 37 M_base, 38 M_more, 39 M_comesAt, 40 M_tape, 41 M_codes, 42 M_starts, 43 M_imageOf, 44 M_imageComes, 45 M_sheetSort, 46 M_sheetSize, 47 M_cells, 48 M_law, 49 M_words, 50 M_held, 51 M_stack, 52 M_named, 53 M_state, 54 M_wants, 55 M_began, 56 M_ended, 57 M_servedAt, 58 M_calls, 59 M_busyTill, 60 M_idles, 61 M_parts, 62 M_keptComes, 63 WORDS, 64 ABOVE -/
def mk_LY : List mj_S := [(0, 7, 1, [some (1, 0), some (1, 1), none, some (6, 0), some (8, 0), none, some (14, 0), some (18, 0), some (21, 0), some (31, 0), some (32, 0)]),
  (0, 3, 3, [none, some (2, 0), some (3, 0), some (4, 0), none, some (5, 0), none, none, none, none, none, none]),
  (1, 4, 3, []),
  (1, 4, 3, []),
  (1, 4, 3, []),
  (1, 16, 3, []),
  (3, 16, 1, [some (7, 0)]),
  (0, 0, 16, [none, none, none, none]),
  (3, 6, 1, [some (9, 0)]),
  (0, 6, 6, [some (10, 0), some (11, 0), some (12, 0), some (13, 0)]),
  (1, 160, 6, []),
  (1, 3, 6, []),
  (1, 32, 6, []),
  (1, 6, 6, []),
  (0, 5, 1, [some (15, 0), none, some (16, 0), some (17, 0), none, none, none, none, none]),
  (1, 160, 1, []),
  (1, 160, 1, []),
  (1, 3, 1, []),
  (3, 4, 1, [some (19, 0)]),
  (0, 4, 4, [none, none, some (20, 0)]),
  (1, 40, 4, []),
  (0, 1, 1, [some (1, 2), some (22, 0), some (23, 0), some (24, 0), some (25, 0), some (26, 0), some (27, 0), some (28, 0), some (29, 0), some (30, 0), none, none]),
  (1, 16, 1, []),
  (1, 16, 1, []),
  (1, 16, 1, []),
  (1, 16, 1, []),
  (1, 16, 1, []),
  (1, 4, 1, []),
  (1, 16, 1, []),
  (1, 4, 1, []),
  (1, 16, 1, []),
  (0, 2, 1, [none, none]),
  (2, 41, 1, []),
  (0, 8, 1, [none, some (34, 0), none, none, none, none, some (35, 0), some (36, 0), some (37, 0), some (38, 0), some (39, 0), some (40, 0), none, some (41, 0), some (42, 0), none, none, none, none, none, none, none, none, none, some (43, 0), some (44, 0), some (45, 0), some (46, 0), some (47, 0), some (48, 0), none, none, none, none, some (49, 0), some (50, 0), none, none, none, some (51, 0), some (52, 0), none, some (53, 0), some (54, 0), some (55, 0), some (56, 0), some (57, 0), some (58, 0), some (59, 0), some (60, 0), none, none, some (61, 0), some (62, 0)]),
  (1, 12, 1, []),
  (1, 17, 1, []),
  (1, 17, 1, []),
  (1, 17, 1, []),
  (1, 17, 1, []),
  (1, 17, 1, []),
  (1, 160, 1, []),
  (1, 1200, 1, []),
  (1, 24, 1, []),
  (1, 12, 1, []),
  (1, 17, 1, []),
  (1, 4, 1, []),
  (1, 4, 1, []),
  (1, 160, 1, []),
  (1, 54, 1, []),
  (1, 96, 1, []),
  (1, 200, 1, []),
  (1, 200, 1, []),
  (1, 6, 1, []),
  (1, 17, 1, []),
  (1, 17, 1, []),
  (1, 17, 1, []),
  (1, 17, 1, []),
  (1, 17, 1, []),
  (1, 17, 1, []),
  (1, 4, 1, []),
  (1, 4, 1, []),
  (2, 41, 1, []),
  (1, 17, 1, []),
  (4, 0, 1, []),
  (5, 1, 1, [])]
def mk_TB : List (List Int) := [[116, 97, 107, 101, 115, 32, 119, 97, 105, 116, 115, 32, 109, 105, 110, 100, 115, 32, 111, 114, 32, 32, 32, 32, 97, 110, 100, 32, 32, 32, 110, 111, 116, 32, 32, 32, 98, 97, 115, 101, 32, 32, 109, 111, 114, 101, 32, 32, 115, 108, 111, 119, 32, 32, 119, 97, 105, 116, 32, 32, 115, 97, 105, 100, 32, 32, 108, 101, 116, 116, 101, 114],
  [(-1), 0, 0, 2, 0, 1]]
/-- NumbersCalled.counter(II)I -/
def mk_b0_0 : List Bool × List mj_I := ([true, true, true, false], [(0, .iload_n 1, 1, 0, 0, []), (1, .iconst 0, 0, 0, 0, []), (2, .bipush 15, 0, 0, 0, []), (4, .invokestatic 92, 44, 3, 1, []), (7, .ifCond .eq (13), 1, 0, 0, []), (10, .iload_n 2, 2, 0, 0, []), (11, .iconst 0, 0, 0, 0, []), (12, .bipush 9, 0, 0, 0, []), (14, .invokestatic 92, 44, 3, 1, []), (17, .ifCond .ne (6), 2, 0, 0, []), (20, .nop, 1, 0, 0, [])])
def mk_b0_1 : List Bool × List mj_I := ([false, false, false, false], [(20, .bipush (-2), 0, 0, 0, []), (22, .ireturn, 0, 0, 0, [])])
def mk_b0_2 : List Bool × List mj_I := ([true, true, true, false], [(23, .aload_n 0, 0, 0, 0, []), (24, .getfield 10, 0, 7, 0, []), (27, .getfield 96, 0, 3, 0, []), (30, .iconst 4, 0, 0, 0, []), (31, .if_icmp .lt (6), 3, 0, 0, []), (34, .bipush (-4), 0, 0, 0, []), (36, .ireturn, 0, 0, 0, [])])
def mk_b0_3 : List Bool × List mj_I := ([true, true, true, false], [(37, .aload_n 0, 0, 0, 0, []), (38, .getfield 10, 0, 7, 0, []), (41, .getfield 96, 0, 3, 0, []), (44, .istore_n 3, 3, 0, 0, []), (45, .aload_n 0, 0, 0, 0, []), (46, .getfield 10, 0, 7, 0, []), (49, .getfield 99, 1, 3, 0, []), (52, .iload_n 3, 3, 0, 0, []), (53, .iload_n 1, 1, 0, 0, []), (54, .iastore, 0, 0, 0, []), (55, .aload_n 0, 0, 0, 0, []), (56, .getfield 10, 0, 7, 0, []), (59, .getfield 103, 2, 3, 0, []), (62, .iload_n 3, 3, 0, 0, []), (63, .iload_n 2, 2, 0, 0, []), (64, .iastore, 0, 0, 0, []), (65, .aload_n 0, 0, 0, 0, []), (66, .getfield 10, 0, 7, 0, []), (69, .getfield 106, 3, 3, 0, []), (72, .iload_n 3, 3, 0, 0, []), (73, .iconst (-1), 0, 0, 0, []), (74, .iastore, 0, 0, 0, []), (75, .aload_n 0, 0, 0, 0, []), (76, .getfield 10, 0, 7, 0, []), (79, .dup, 0, 0, 0, []), (80, .getfield 96, 0, 3, 0, []), (83, .iconst 1, 0, 0, 0, []), (84, .iadd, 0, 0, 0, []), (85, .putfield 96, 0, 3, 0, []), (88, .iload_n 3, 3, 0, 0, []), (89, .ireturn, 0, 0, 0, [])])
def mk_m0 : Nat × Nat × List (List Bool × List mj_I) := (4, 8, [mk_b0_0, mk_b0_1, mk_b0_2, mk_b0_3])
/-- NumbersCalled.change(III)I -/
def mk_b1_0 : List Bool × List mj_I := ([true, true, true, true, false], [(0, .aload_n 0, 0, 0, 0, []), (1, .iload_n 1, 1, 0, 0, []), (2, .invokevirtual 109, 49, 2, 1, []), (5, .ifCond .ne (6), 1, 0, 0, []), (8, .bipush (-5), 0, 0, 0, []), (10, .ireturn, 0, 0, 0, [])])
def mk_b1_1 : List Bool × List mj_I := ([true, true, true, true, false], [(11, .iload_n 2, 2, 0, 0, []), (12, .iload_n 3, 3, 0, 0, []), (13, .invokestatic 113, 51, 2, 1, []), (16, .ifCond .ne (6), 2, 0, 0, []), (19, .bipush (-7), 0, 0, 0, []), (21, .ireturn, 0, 0, 0, [])])
def mk_b1_2 : List Bool × List mj_I := ([true, true, true, true, false], [(22, .aload_n 0, 0, 0, 0, []), (23, .iload_n 1, 1, 0, 0, []), (24, .iload_n 2, 2, 0, 0, []), (25, .invokevirtual 117, 52, 3, 1, []), (28, .istore 4, 4, 0, 0, []), (30, .iload_n 2, 2, 0, 0, []), (31, .lookupswitch (51) #[(0, 25), (1, 38)], 5, 0, 0, [(0, 3), (1, 4)])])
def mk_b1_3 : List Bool × List mj_I := ([true, true, false, true, true], [(56, .aload_n 0, 0, 0, 0, []), (57, .getfield 10, 0, 7, 0, []), (60, .getfield 99, 1, 3, 0, []), (63, .iload_n 1, 1, 0, 0, []), (64, .iload_n 3, 3, 0, 0, []), (65, .iastore, 0, 0, 0, []), (66, .goto (26), 6, 0, 0, [])])
def mk_b1_4 : List Bool × List mj_I := ([true, true, false, true, true], [(69, .aload_n 0, 0, 0, 0, []), (70, .getfield 10, 0, 7, 0, []), (73, .getfield 103, 2, 3, 0, []), (76, .iload_n 1, 1, 0, 0, []), (77, .iload_n 3, 3, 0, 0, []), (78, .iastore, 0, 0, 0, []), (79, .goto (13), 6, 0, 0, [])])
def mk_b1_5 : List Bool × List mj_I := ([true, true, false, true, true], [(82, .aload_n 0, 0, 0, 0, []), (83, .getfield 10, 0, 7, 0, []), (86, .getfield 106, 3, 3, 0, []), (89, .iload_n 1, 1, 0, 0, []), (90, .iload_n 3, 3, 0, 0, []), (91, .iastore, 0, 0, 0, []), (92, .nop, 6, 0, 0, [])])
def mk_b1_6 : List Bool × List mj_I := ([false, false, false, false, true], [(92, .iload 4, 4, 0, 0, []), (94, .ireturn, 0, 0, 0, [])])
def mk_m1 : Nat × Nat × List (List Bool × List mj_I) := (5, 8, [mk_b1_0, mk_b1_1, mk_b1_2, mk_b1_3, mk_b1_4, mk_b1_5, mk_b1_6])
/-- NumbersCalled.counterTold(II)I -/
def mk_b2_0 : List Bool × List mj_I := ([true, true, true], [(0, .aload_n 0, 0, 0, 0, []), (1, .iload_n 1, 1, 0, 0, []), (2, .invokevirtual 109, 49, 2, 1, []), (5, .ifCond .ne (6), 1, 0, 0, []), (8, .bipush (-5), 0, 0, 0, []), (10, .ireturn, 0, 0, 0, [])])
def mk_b2_1 : List Bool × List mj_I := ([true, true, true], [(11, .iload_n 2, 2, 0, 0, []), (12, .iconst 0, 0, 0, 0, []), (13, .iconst 2, 0, 0, 0, []), (14, .invokestatic 92, 44, 3, 1, []), (17, .ifCond .eq (12), 2, 0, 0, []), (20, .aload_n 0, 0, 0, 0, []), (21, .iload_n 1, 1, 0, 0, []), (22, .iload_n 2, 2, 0, 0, []), (23, .invokevirtual 117, 52, 3, 1, []), (26, .goto (5), 3, 0, 0, [])])
def mk_b2_2 : List Bool × List mj_I := ([false, false, false], [(29, .bipush (-7), 0, 0, 0, []), (31, .nop, 3, 0, 0, [])])
def mk_b2_3 : List Bool × List mj_I := ([false, false, false], [(31, .ireturn, 0, 0, 0, [])])
def mk_m2 : Nat × Nat × List (List Bool × List mj_I) := (3, 8, [mk_b2_0, mk_b2_1, mk_b2_2, mk_b2_3])
/-- NumbersCalled.set(II)I -/
def mk_b3_0 : List Bool × List mj_I := ([true, true, true, false], [(0, .iload_n 1, 1, 0, 0, []), (1, .iconst 0, 0, 0, 0, []), (2, .iconst 2, 0, 0, 0, []), (3, .invokestatic 92, 44, 3, 1, []), (6, .ifCond .ne (5), 1, 0, 0, []), (9, .iconst (-1), 0, 0, 0, []), (10, .ireturn, 0, 0, 0, [])])
def mk_b3_1 : List Bool × List mj_I := ([true, true, true, false], [(11, .iload_n 1, 1, 0, 0, []), (12, .iload_n 2, 2, 0, 0, []), (13, .invokestatic 121, 53, 2, 1, []), (16, .ifCond .ne (6), 2, 0, 0, []), (19, .bipush (-2), 0, 0, 0, []), (21, .ireturn, 0, 0, 0, [])])
def mk_b3_2 : List Bool × List mj_I := ([true, true, true, false], [(22, .aload_n 0, 0, 0, 0, []), (23, .iload_n 1, 1, 0, 0, []), (24, .invokevirtual 124, 54, 2, 1, []), (27, .istore_n 3, 3, 0, 0, []), (28, .iload_n 1, 1, 0, 0, []), (29, .lookupswitch (49) #[(0, 27), (1, 38)], 5, 0, 0, [(0, 3), (1, 4)])])
def mk_b3_3 : List Bool × List mj_I := ([true, false, true, true], [(56, .aload_n 0, 0, 0, 0, []), (57, .getfield 10, 0, 7, 0, []), (60, .iload_n 2, 2, 0, 0, []), (61, .putfield 128, 6, 3, 0, []), (64, .goto (22), 6, 0, 0, [])])
def mk_b3_4 : List Bool × List mj_I := ([true, false, true, true], [(67, .aload_n 0, 0, 0, 0, []), (68, .getfield 10, 0, 7, 0, []), (71, .iload_n 2, 2, 0, 0, []), (72, .putfield 131, 7, 3, 0, []), (75, .goto (11), 6, 0, 0, [])])
def mk_b3_5 : List Bool × List mj_I := ([true, false, true, true], [(78, .aload_n 0, 0, 0, 0, []), (79, .getfield 10, 0, 7, 0, []), (82, .iload_n 2, 2, 0, 0, []), (83, .putfield 134, 8, 3, 0, []), (86, .nop, 6, 0, 0, [])])
def mk_b3_6 : List Bool × List mj_I := ([false, false, false, true], [(86, .iload_n 3, 3, 0, 0, []), (87, .ireturn, 0, 0, 0, [])])
def mk_m3 : Nat × Nat × List (List Bool × List mj_I) := (4, 8, [mk_b3_0, mk_b3_1, mk_b3_2, mk_b3_3, mk_b3_4, mk_b3_5, mk_b3_6])
/-- NumbersCalled.count(I)I -/
def mk_b4_0 : List Bool × List mj_I := ([true, true], [(0, .iload_n 1, 1, 0, 0, []), (1, .tableswitch (90) 0 7 #[47, 47, 47, 53, 61, 69, 74, 82], 7, 0, 0, [(0, 1), (1, 1), (2, 1), (3, 2), (4, 3), (5, 4), (6, 5), (7, 6)])])
def mk_b4_1 : List Bool × List mj_I := ([true, true], [(48, .aload_n 0, 0, 0, 0, []), (49, .iload_n 1, 1, 0, 0, []), (50, .invokevirtual 124, 54, 2, 1, []), (53, .ireturn, 0, 0, 0, [])])
def mk_b4_2 : List Bool × List mj_I := ([true, false], [(54, .aload_n 0, 0, 0, 0, []), (55, .getfield 10, 0, 7, 0, []), (58, .getfield 96, 0, 3, 0, []), (61, .ireturn, 0, 0, 0, [])])
def mk_b4_3 : List Bool × List mj_I := ([true, false], [(62, .aload_n 0, 0, 0, 0, []), (63, .getfield 10, 0, 7, 0, []), (66, .getfield 137, 4, 3, 0, []), (69, .ireturn, 0, 0, 0, [])])
def mk_b4_4 : List Bool × List mj_I := ([true, false], [(70, .aload_n 0, 0, 0, 0, []), (71, .getfield 35, 5, 7, 0, []), (74, .ireturn, 0, 0, 0, [])])
def mk_b4_5 : List Bool × List mj_I := ([true, false], [(75, .aload_n 0, 0, 0, 0, []), (76, .getfield 10, 0, 7, 0, []), (79, .getfield 139, 9, 3, 0, []), (82, .ireturn, 0, 0, 0, [])])
def mk_b4_6 : List Bool × List mj_I := ([true, false], [(83, .aload_n 0, 0, 0, 0, []), (84, .getfield 42, 6, 7, 0, []), (87, .getfield 142, 1, 5, 0, []), (90, .ireturn, 0, 0, 0, [])])
def mk_b4_7 : List Bool × List mj_I := ([false, false], [(91, .bipush (-2), 0, 0, 0, []), (93, .ireturn, 0, 0, 0, [])])
def mk_m4 : Nat × Nat × List (List Bool × List mj_I) := (2, 8, [mk_b4_0, mk_b4_1, mk_b4_2, mk_b4_3, mk_b4_4, mk_b4_5, mk_b4_6, mk_b4_7])
/-- NumbersCalled.feed(IIIIII)I -/
def mk_b5_0 : List Bool × List mj_I := ([true, true, true, true, true, true, true, false], [(0, .iload_n 1, 1, 0, 0, []), (1, .iconst 1, 0, 0, 0, []), (2, .iconst 5, 0, 0, 0, []), (3, .invokestatic 92, 44, 3, 1, []), (6, .ifCond .eq (41), 1, 0, 0, []), (9, .iload_n 2, 2, 0, 0, []), (10, .invokestatic 145, 46, 1, 1, []), (13, .ifCond .eq (34), 1, 0, 0, []), (16, .iload_n 3, 3, 0, 0, []), (17, .invokestatic 145, 46, 1, 1, []), (20, .ifCond .eq (27), 1, 0, 0, []), (23, .iload 4, 4, 0, 0, []), (25, .invokestatic 145, 46, 1, 1, []), (28, .ifCond .eq (19), 1, 0, 0, []), (31, .iload 5, 5, 0, 0, []), (33, .invokestatic 145, 46, 1, 1, []), (36, .ifCond .eq (11), 1, 0, 0, []), (39, .iload 6, 6, 0, 0, []), (41, .invokestatic 145, 46, 1, 1, []), (44, .ifCond .ne (6), 2, 0, 0, []), (47, .nop, 1, 0, 0, [])])
def mk_b5_1 : List Bool × List mj_I := ([false, false, false, false, false, false, false, false], [(47, .bipush (-2), 0, 0, 0, []), (49, .ireturn, 0, 0, 0, [])])
def mk_b5_2 : List Bool × List mj_I := ([true, true, true, true, true, true, true, false], [(50, .iload_n 1, 1, 0, 0, []), (51, .sipush 160, 0, 0, 0, []), (54, .aload_n 0, 0, 0, 0, []), (55, .getfield 42, 6, 7, 0, []), (58, .getfield 142, 1, 5, 0, []), (61, .isub, 0, 0, 0, []), (62, .if_icmp .le (6), 3, 0, 0, []), (65, .bipush (-4), 0, 0, 0, []), (67, .ireturn, 0, 0, 0, [])])
def mk_b5_3 : List Bool × List mj_I := ([true, true, true, true, true, true, true, false], [(68, .iconst 0, 0, 0, 0, []), (69, .istore 7, 7, 0, 0, []), (71, .nop, 4, 0, 0, [])])
def mk_b5_4 : List Bool × List mj_I := ([true, true, true, true, true, true, true, true], [(71, .iload 7, 7, 0, 0, []), (73, .iload_n 1, 1, 0, 0, []), (74, .if_icmp .ge (95), 11, 0, 0, []), (77, .iload 7, 7, 0, 0, []), (79, .tableswitch (75) 0 3 #[29, 40, 51, 63], 9, 0, 0, [(0, 5), (1, 6), (2, 7), (3, 8)])])
def mk_b5_5 : List Bool × List mj_I := ([true, true, true, true, true, true, true, true], [(108, .aload_n 0, 0, 0, 0, []), (109, .getfield 42, 6, 7, 0, []), (112, .iload_n 2, 2, 0, 0, []), (113, .invokevirtual 85, 197, 2, 0, []), (116, .goto (47), 10, 0, 0, [])])
def mk_b5_6 : List Bool × List mj_I := ([true, true, true, true, true, true, true, true], [(119, .aload_n 0, 0, 0, 0, []), (120, .getfield 42, 6, 7, 0, []), (123, .iload_n 3, 3, 0, 0, []), (124, .invokevirtual 85, 197, 2, 0, []), (127, .goto (36), 10, 0, 0, [])])
def mk_b5_7 : List Bool × List mj_I := ([true, true, true, true, true, true, true, true], [(130, .aload_n 0, 0, 0, 0, []), (131, .getfield 42, 6, 7, 0, []), (134, .iload 4, 4, 0, 0, []), (136, .invokevirtual 85, 197, 2, 0, []), (139, .goto (24), 10, 0, 0, [])])
def mk_b5_8 : List Bool × List mj_I := ([true, true, true, true, true, true, true, true], [(142, .aload_n 0, 0, 0, 0, []), (143, .getfield 42, 6, 7, 0, []), (146, .iload 5, 5, 0, 0, []), (148, .invokevirtual 85, 197, 2, 0, []), (151, .goto (12), 10, 0, 0, [])])
def mk_b5_9 : List Bool × List mj_I := ([true, true, true, true, true, true, true, true], [(154, .aload_n 0, 0, 0, 0, []), (155, .getfield 42, 6, 7, 0, []), (158, .iload 6, 6, 0, 0, []), (160, .invokevirtual 85, 197, 2, 0, []), (163, .nop, 10, 0, 0, [])])
def mk_b5_10 : List Bool × List mj_I := ([true, true, true, true, true, true, true, true], [(163, .iinc 7 1, 7, 0, 0, []), (166, .goto (-95), 4, 0, 0, [])])
def mk_b5_11 : List Bool × List mj_I := ([true, false, false, false, false, false, false, false], [(169, .aload_n 0, 0, 0, 0, []), (170, .getfield 42, 6, 7, 0, []), (173, .getfield 142, 1, 5, 0, []), (176, .ireturn, 0, 0, 0, [])])
def mk_m5 : Nat × Nat × List (List Bool × List mj_I) := (8, 8, [mk_b5_0, mk_b5_1, mk_b5_2, mk_b5_3, mk_b5_4, mk_b5_5, mk_b5_6, mk_b5_7, mk_b5_8, mk_b5_9, mk_b5_10, mk_b5_11])
/-- NumbersCalled.text()I -/
def mk_b6_0 : List Bool × List mj_I := ([true, false], [(0, .aload_n 0, 0, 0, 0, []), (1, .getfield 35, 5, 7, 0, []), (4, .bipush 6, 0, 0, 0, []), (6, .if_icmp .lt (6), 1, 0, 0, []), (9, .bipush (-4), 0, 0, 0, []), (11, .ireturn, 0, 0, 0, [])])
def mk_b6_1 : List Bool × List mj_I := ([true, false], [(12, .aload_n 0, 0, 0, 0, []), (13, .getfield 42, 6, 7, 0, []), (16, .invokevirtual 148, 198, 1, 1, []), (19, .istore_n 1, 1, 0, 0, []), (20, .aload_n 0, 0, 0, 0, []), (21, .getfield 42, 6, 7, 0, []), (24, .iconst 0, 0, 0, 0, []), (25, .putfield 142, 1, 5, 0, []), (28, .iload_n 1, 1, 0, 0, []), (29, .iconst (-1), 0, 0, 0, []), (30, .if_icmp .eq (8), 2, 0, 0, []), (33, .bipush (-100), 0, 0, 0, []), (35, .iload_n 1, 1, 0, 0, []), (36, .isub, 0, 0, 0, []), (37, .ireturn, 0, 0, 0, [])])
def mk_b6_2 : List Bool × List mj_I := ([true, false], [(38, .aload_n 0, 0, 0, 0, []), (39, .getfield 31, 4, 7, 0, []), (42, .aload_n 0, 0, 0, 0, []), (43, .getfield 35, 5, 7, 0, []), (46, .aaload, 0, 0, 0, []), (47, .aload_n 0, 0, 0, 0, []), (48, .getfield 42, 6, 7, 0, []), (51, .invokevirtual 151, 214, 2, 0, []), (54, .aload_n 0, 0, 0, 0, []), (55, .dup, 0, 0, 0, []), (56, .getfield 35, 5, 7, 0, []), (59, .iconst 1, 0, 0, 0, []), (60, .iadd, 0, 0, 0, []), (61, .putfield 35, 5, 7, 0, []), (64, .aload_n 0, 0, 0, 0, []), (65, .getfield 35, 5, 7, 0, []), (68, .iconst 1, 0, 0, 0, []), (69, .isub, 0, 0, 0, []), (70, .ireturn, 0, 0, 0, [])])
def mk_m6 : Nat × Nat × List (List Bool × List mj_I) := (2, 8, [mk_b6_0, mk_b6_1, mk_b6_2])
/-- NumbersCalled.force(I)I -/
def mk_b7_0 : List Bool × List mj_I := ([true, true, false], [(0, .iload_n 1, 1, 0, 0, []), (1, .iconst 0, 0, 0, 0, []), (2, .aload_n 0, 0, 0, 0, []), (3, .getfield 35, 5, 7, 0, []), (6, .iconst 1, 0, 0, 0, []), (7, .isub, 0, 0, 0, []), (8, .invokestatic 92, 44, 3, 1, []), (11, .ifCond .ne (6), 1, 0, 0, []), (14, .bipush (-2), 0, 0, 0, []), (16, .ireturn, 0, 0, 0, [])])
def mk_b7_1 : List Bool × List mj_I := ([true, true, false], [(17, .aload_n 0, 0, 0, 0, []), (18, .getfield 10, 0, 7, 0, []), (21, .getfield 139, 9, 3, 0, []), (24, .istore_n 2, 2, 0, 0, []), (25, .aload_n 0, 0, 0, 0, []), (26, .getfield 10, 0, 7, 0, []), (29, .iload_n 1, 1, 0, 0, []), (30, .putfield 139, 9, 3, 0, []), (33, .iload_n 2, 2, 0, 0, []), (34, .ireturn, 0, 0, 0, [])])
def mk_m7 : Nat × Nat × List (List Bool × List mj_I) := (3, 8, [mk_b7_0, mk_b7_1])
/-- NumbersCalled.pull(III)I -/
def mk_b8_0 : List Bool × List mj_I := ([true, true, true, true, false], [(0, .iload_n 1, 1, 0, 0, []), (1, .iconst 0, 0, 0, 0, []), (2, .iconst 5, 0, 0, 0, []), (3, .invokestatic 92, 44, 3, 1, []), (6, .ifCond .eq (20), 1, 0, 0, []), (9, .iload_n 3, 3, 0, 0, []), (10, .iconst 0, 0, 0, 0, []), (11, .bipush 119, 0, 0, 0, []), (13, .invokestatic 92, 44, 3, 1, []), (16, .ifCond .eq (10), 1, 0, 0, []), (19, .iload_n 2, 2, 0, 0, []), (20, .invokestatic 155, 47, 1, 1, []), (23, .ifCond .ne (6), 2, 0, 0, []), (26, .nop, 1, 0, 0, [])])
def mk_b8_1 : List Bool × List mj_I := ([false, false, false, false, false], [(26, .bipush (-2), 0, 0, 0, []), (28, .ireturn, 0, 0, 0, [])])
def mk_b8_2 : List Bool × List mj_I := ([true, true, true, true, false], [(29, .aload_n 0, 0, 0, 0, []), (30, .getfield 10, 0, 7, 0, []), (33, .getfield 137, 4, 3, 0, []), (36, .bipush 16, 0, 0, 0, []), (38, .if_icmp .lt (6), 3, 0, 0, []), (41, .bipush (-4), 0, 0, 0, []), (43, .ireturn, 0, 0, 0, [])])
def mk_b8_3 : List Bool × List mj_I := ([true, true, true, true, false], [(44, .aload_n 0, 0, 0, 0, []), (45, .getfield 10, 0, 7, 0, []), (48, .getfield 137, 4, 3, 0, []), (51, .istore 4, 4, 0, 0, []), (53, .aload_n 0, 0, 0, 0, []), (54, .getfield 25, 3, 7, 0, []), (57, .iload 4, 4, 0, 0, []), (59, .aaload, 0, 0, 0, []), (60, .iload_n 1, 1, 0, 0, []), (61, .iload_n 2, 2, 0, 0, []), (62, .sipush 1000, 0, 0, 0, []), (65, .idiv, 0, 0, 0, []), (66, .iload_n 2, 2, 0, 0, []), (67, .bipush 10, 0, 0, 0, []), (69, .idiv, 0, 0, 0, []), (70, .bipush 100, 0, 0, 0, []), (72, .irem, 0, 0, 0, []), (73, .iload_n 2, 2, 0, 0, []), (74, .bipush 10, 0, 0, 0, []), (76, .irem, 0, 0, 0, []), (77, .invokevirtual 158, 163, 5, 0, []), (80, .aload_n 0, 0, 0, 0, []), (81, .getfield 10, 0, 7, 0, []), (84, .getfield 161, 5, 3, 0, []), (87, .iload 4, 4, 0, 0, []), (89, .iload_n 3, 3, 0, 0, []), (90, .iastore, 0, 0, 0, []), (91, .aload_n 0, 0, 0, 0, []), (92, .getfield 10, 0, 7, 0, []), (95, .dup, 0, 0, 0, []), (96, .getfield 137, 4, 3, 0, []), (99, .iconst 1, 0, 0, 0, []), (100, .iadd, 0, 0, 0, []), (101, .putfield 137, 4, 3, 0, []), (104, .iload 4, 4, 0, 0, []), (106, .ireturn, 0, 0, 0, [])])
def mk_m8 : Nat × Nat × List (List Bool × List mj_I) := (5, 8, [mk_b8_0, mk_b8_1, mk_b8_2, mk_b8_3])
/-- NumbersCalled.move(II)I -/
def mk_b9_0 : List Bool × List mj_I := ([true, true, true, false], [(0, .aload_n 0, 0, 0, 0, []), (1, .iload_n 1, 1, 0, 0, []), (2, .invokevirtual 164, 50, 2, 1, []), (5, .ifCond .ne (6), 1, 0, 0, []), (8, .bipush (-5), 0, 0, 0, []), (10, .ireturn, 0, 0, 0, [])])
def mk_b9_1 : List Bool × List mj_I := ([true, true, true, false], [(11, .iload_n 2, 2, 0, 0, []), (12, .iconst 0, 0, 0, 0, []), (13, .bipush 119, 0, 0, 0, []), (15, .invokestatic 92, 44, 3, 1, []), (18, .ifCond .ne (6), 2, 0, 0, []), (21, .bipush (-7), 0, 0, 0, []), (23, .ireturn, 0, 0, 0, [])])
def mk_b9_2 : List Bool × List mj_I := ([true, true, true, false], [(24, .aload_n 0, 0, 0, 0, []), (25, .getfield 10, 0, 7, 0, []), (28, .getfield 161, 5, 3, 0, []), (31, .iload_n 1, 1, 0, 0, []), (32, .iaload, 0, 0, 0, []), (33, .istore_n 3, 3, 0, 0, []), (34, .aload_n 0, 0, 0, 0, []), (35, .getfield 10, 0, 7, 0, []), (38, .getfield 161, 5, 3, 0, []), (41, .iload_n 1, 1, 0, 0, []), (42, .iload_n 2, 2, 0, 0, []), (43, .iastore, 0, 0, 0, []), (44, .iload_n 3, 3, 0, 0, []), (45, .ireturn, 0, 0, 0, [])])
def mk_m9 : Nat × Nat × List (List Bool × List mj_I) := (4, 8, [mk_b9_0, mk_b9_1, mk_b9_2])
/-- NumbersCalled.forget()I -/
def mk_b10_0 : List Bool × List mj_I := ([true], [(0, .aload_n 0, 0, 0, 0, []), (1, .getfield 10, 0, 7, 0, []), (4, .getfield 137, 4, 3, 0, []), (7, .ifCond .gt (6), 1, 0, 0, []), (10, .bipush (-3), 0, 0, 0, []), (12, .ireturn, 0, 0, 0, [])])
def mk_b10_1 : List Bool × List mj_I := ([true], [(13, .aload_n 0, 0, 0, 0, []), (14, .getfield 10, 0, 7, 0, []), (17, .dup, 0, 0, 0, []), (18, .getfield 137, 4, 3, 0, []), (21, .iconst 1, 0, 0, 0, []), (22, .isub, 0, 0, 0, []), (23, .putfield 137, 4, 3, 0, []), (26, .aload_n 0, 0, 0, 0, []), (27, .getfield 16, 1, 7, 0, []), (30, .getfield 137, 4, 3, 0, []), (33, .aload_n 0, 0, 0, 0, []), (34, .getfield 10, 0, 7, 0, []), (37, .getfield 137, 4, 3, 0, []), (40, .if_icmp .le (8), 2, 0, 0, []), (43, .aload_n 0, 0, 0, 0, []), (44, .iconst 0, 0, 0, 0, []), (45, .putfield 19, 2, 7, 1, []), (48, .nop, 2, 0, 0, [])])
def mk_b10_2 : List Bool × List mj_I := ([true], [(48, .aload_n 0, 0, 0, 0, []), (49, .getfield 10, 0, 7, 0, []), (52, .getfield 137, 4, 3, 0, []), (55, .ireturn, 0, 0, 0, [])])
def mk_m10 : Nat × Nat × List (List Bool × List mj_I) := (1, 8, [mk_b10_0, mk_b10_1, mk_b10_2])
/-- NumbersCalled.told(II)I -/
def mk_b11_0 : List Bool × List mj_I := ([true, true, true], [(0, .aload_n 0, 0, 0, 0, []), (1, .iload_n 1, 1, 0, 0, []), (2, .invokevirtual 164, 50, 2, 1, []), (5, .ifCond .ne (6), 1, 0, 0, []), (8, .bipush (-5), 0, 0, 0, []), (10, .ireturn, 0, 0, 0, [])])
def mk_b11_1 : List Bool × List mj_I := ([true, true, true], [(11, .iload_n 2, 2, 0, 0, []), (12, .tableswitch (100) 0 5 #[40, 50, 60, 70, 80, 90], 8, 0, 0, [(0, 2), (1, 3), (2, 4), (3, 5), (4, 6), (5, 7)])])
def mk_b11_2 : List Bool × List mj_I := ([true, true, false], [(52, .aload_n 0, 0, 0, 0, []), (53, .getfield 25, 3, 7, 0, []), (56, .iload_n 1, 1, 0, 0, []), (57, .aaload, 0, 0, 0, []), (58, .getfield 167, 0, 0, 0, []), (61, .ireturn, 0, 0, 0, [])])
def mk_b11_3 : List Bool × List mj_I := ([true, true, false], [(62, .aload_n 0, 0, 0, 0, []), (63, .getfield 25, 3, 7, 0, []), (66, .iload_n 1, 1, 0, 0, []), (67, .aaload, 0, 0, 0, []), (68, .getfield 170, 1, 0, 0, []), (71, .ireturn, 0, 0, 0, [])])
def mk_b11_4 : List Bool × List mj_I := ([true, true, false], [(72, .aload_n 0, 0, 0, 0, []), (73, .getfield 25, 3, 7, 0, []), (76, .iload_n 1, 1, 0, 0, []), (77, .aaload, 0, 0, 0, []), (78, .getfield 173, 2, 0, 0, []), (81, .ireturn, 0, 0, 0, [])])
def mk_b11_5 : List Bool × List mj_I := ([true, true, false], [(82, .aload_n 0, 0, 0, 0, []), (83, .getfield 25, 3, 7, 0, []), (86, .iload_n 1, 1, 0, 0, []), (87, .aaload, 0, 0, 0, []), (88, .getfield 176, 3, 0, 0, []), (91, .ireturn, 0, 0, 0, [])])
def mk_b11_6 : List Bool × List mj_I := ([true, true, false], [(92, .aload_n 0, 0, 0, 0, []), (93, .getfield 10, 0, 7, 0, []), (96, .getfield 161, 5, 3, 0, []), (99, .iload_n 1, 1, 0, 0, []), (100, .iaload, 0, 0, 0, []), (101, .ireturn, 0, 0, 0, [])])
def mk_b11_7 : List Bool × List mj_I := ([true, true, false], [(102, .aload_n 0, 0, 0, 0, []), (103, .getfield 25, 3, 7, 0, []), (106, .iload_n 1, 1, 0, 0, []), (107, .aaload, 0, 0, 0, []), (108, .invokevirtual 179, 167, 1, 1, []), (111, .ireturn, 0, 0, 0, [])])
def mk_b11_8 : List Bool × List mj_I := ([false, false, false], [(112, .bipush (-7), 0, 0, 0, []), (114, .ireturn, 0, 0, 0, [])])
def mk_m11 : Nat × Nat × List (List Bool × List mj_I) := (3, 8, [mk_b11_0, mk_b11_1, mk_b11_2, mk_b11_3, mk_b11_4, mk_b11_5, mk_b11_6, mk_b11_7, mk_b11_8])
/-- NumbersCalled.asks(IIIII)I -/
def mk_b12_0 : List Bool × List mj_I := ([true, true, true, true, true, true, false], [(0, .aload_n 0, 0, 0, 0, []), (1, .iload_n 1, 1, 0, 0, []), (2, .invokevirtual 164, 50, 2, 1, []), (5, .ifCond .eq (11), 1, 0, 0, []), (8, .aload_n 0, 0, 0, 0, []), (9, .iload_n 2, 2, 0, 0, []), (10, .invokevirtual 109, 49, 2, 1, []), (13, .ifCond .ne (6), 2, 0, 0, []), (16, .nop, 1, 0, 0, [])])
def mk_b12_1 : List Bool × List mj_I := ([false, false, false, false, false, false, false], [(16, .bipush (-5), 0, 0, 0, []), (18, .ireturn, 0, 0, 0, [])])
def mk_b12_2 : List Bool × List mj_I := ([true, true, true, true, true, true, false], [(19, .iload_n 3, 3, 0, 0, []), (20, .iconst 0, 0, 0, 0, []), (21, .sipush 999, 0, 0, 0, []), (24, .invokestatic 92, 44, 3, 1, []), (27, .ifCond .eq (15), 3, 0, 0, []), (30, .iload 4, 4, 0, 0, []), (32, .iconst 0, 0, 0, 0, []), (33, .sipush 999, 0, 0, 0, []), (36, .invokestatic 92, 44, 3, 1, []), (39, .ifCond .ne (6), 4, 0, 0, []), (42, .nop, 3, 0, 0, [])])
def mk_b12_3 : List Bool × List mj_I := ([false, false, false, false, false, false, false], [(42, .bipush (-7), 0, 0, 0, []), (44, .ireturn, 0, 0, 0, [])])
def mk_b12_4 : List Bool × List mj_I := ([true, true, true, true, true, true, false], [(45, .aload_n 0, 0, 0, 0, []), (46, .getfield 31, 4, 7, 0, []), (49, .aload_n 0, 0, 0, 0, []), (50, .getfield 10, 0, 7, 0, []), (53, .getfield 139, 9, 3, 0, []), (56, .aaload, 0, 0, 0, []), (57, .astore 6, 6, 0, 0, []), (59, .iload 5, 5, 0, 0, []), (61, .tableswitch (109) 0 2 #[27, 61, 95], 10, 0, 0, [(0, 5), (1, 6), (2, 9)])])
def mk_b12_5 : List Bool × List mj_I := ([true, true, true, true, false, false, true], [(88, .aload_n 0, 0, 0, 0, []), (89, .getfield 25, 3, 7, 0, []), (92, .iload_n 1, 1, 0, 0, []), (93, .aaload, 0, 0, 0, []), (94, .aload 6, 6, 0, 0, []), (96, .iconst 0, 0, 0, 0, []), (97, .aload_n 0, 0, 0, 0, []), (98, .getfield 25, 3, 7, 0, []), (101, .iload_n 1, 1, 0, 0, []), (102, .aaload, 0, 0, 0, []), (103, .iload_n 3, 3, 0, 0, []), (104, .aload_n 0, 0, 0, 0, []), (105, .getfield 10, 0, 7, 0, []), (108, .getfield 103, 2, 3, 0, []), (111, .iload_n 2, 2, 0, 0, []), (112, .iaload, 0, 0, 0, []), (113, .iconst 0, 0, 0, 0, []), (114, .invokevirtual 182, 215, 6, 1, []), (117, .iconst 0, 0, 0, 0, []), (118, .invokevirtual 186, 169, 3, 1, []), (121, .ireturn, 0, 0, 0, [])])
def mk_b12_6 : List Bool × List mj_I := ([true, true, false, true, false, false, true], [(122, .aload_n 0, 0, 0, 0, []), (123, .getfield 25, 3, 7, 0, []), (126, .iload_n 1, 1, 0, 0, []), (127, .aaload, 0, 0, 0, []), (128, .iload_n 3, 3, 0, 0, []), (129, .aload 6, 6, 0, 0, []), (131, .iconst 1, 0, 0, 0, []), (132, .aload_n 0, 0, 0, 0, []), (133, .getfield 25, 3, 7, 0, []), (136, .iload_n 1, 1, 0, 0, []), (137, .aaload, 0, 0, 0, []), (138, .iload_n 3, 3, 0, 0, []), (139, .iconst 0, 0, 0, 0, []), (140, .iconst 0, 0, 0, 0, []), (141, .invokevirtual 182, 215, 6, 1, []), (144, .invokevirtual 190, 168, 3, 1, []), (147, .ifCond .eq (7), 7, 0, 0, []), (150, .iconst 1, 0, 0, 0, []), (151, .goto (4), 8, 0, 0, [])])
def mk_b12_7 : List Bool × List mj_I := ([false, false, false, false, false, false, false], [(154, .iconst 0, 0, 0, 0, []), (155, .nop, 8, 0, 0, [])])
def mk_b12_8 : List Bool × List mj_I := ([false, false, false, false, false, false, false], [(155, .ireturn, 0, 0, 0, [])])
def mk_b12_9 : List Bool × List mj_I := ([true, true, false, true, true, false, false], [(156, .aload_n 0, 0, 0, 0, []), (157, .aload_n 0, 0, 0, 0, []), (158, .getfield 25, 3, 7, 0, []), (161, .iload_n 1, 1, 0, 0, []), (162, .aaload, 0, 0, 0, []), (163, .iload_n 3, 3, 0, 0, []), (164, .iload 4, 4, 0, 0, []), (166, .invokevirtual 193, 64, 4, 1, []), (169, .ireturn, 0, 0, 0, [])])
def mk_b12_10 : List Bool × List mj_I := ([false, false, false, false, false, false, false], [(170, .bipush (-7), 0, 0, 0, []), (172, .ireturn, 0, 0, 0, [])])
def mk_m12 : Nat × Nat × List (List Bool × List mj_I) := (7, 8, [mk_b12_0, mk_b12_1, mk_b12_2, mk_b12_3, mk_b12_4, mk_b12_5, mk_b12_6, mk_b12_7, mk_b12_8, mk_b12_9, mk_b12_10])
/-- NumbersCalled.of(II)I -/
def mk_b13_0 : List Bool × List mj_I := ([true, true, true], [(0, .aload_n 0, 0, 0, 0, []), (1, .iload_n 1, 1, 0, 0, []), (2, .invokevirtual 164, 50, 2, 1, []), (5, .ifCond .ne (6), 1, 0, 0, []), (8, .bipush (-5), 0, 0, 0, []), (10, .ireturn, 0, 0, 0, [])])
def mk_b13_1 : List Bool × List mj_I := ([true, true, true], [(11, .iload_n 2, 2, 0, 0, []), (12, .iconst 0, 0, 0, 0, []), (13, .iconst 5, 0, 0, 0, []), (14, .invokestatic 92, 44, 3, 1, []), (17, .ifCond .ne (6), 2, 0, 0, []), (20, .bipush (-7), 0, 0, 0, []), (22, .ireturn, 0, 0, 0, [])])
def mk_b13_2 : List Bool × List mj_I := ([true, true, true], [(23, .aload_n 0, 0, 0, 0, []), (24, .invokevirtual 197, 58, 1, 0, []), (27, .iload_n 2, 2, 0, 0, []), (28, .tableswitch (85) 0 4 #[36, 46, 56, 66, 76], 8, 0, 0, [(0, 3), (1, 4), (2, 5), (3, 6), (4, 7)])])
def mk_b13_3 : List Bool × List mj_I := ([true, true, false], [(64, .aload_n 0, 0, 0, 0, []), (65, .getfield 55, 8, 7, 0, []), (68, .getfield 200, 1, 1, 0, []), (71, .iload_n 1, 1, 0, 0, []), (72, .iaload, 0, 0, 0, []), (73, .ireturn, 0, 0, 0, [])])
def mk_b13_4 : List Bool × List mj_I := ([true, true, false], [(74, .aload_n 0, 0, 0, 0, []), (75, .getfield 55, 8, 7, 0, []), (78, .getfield 203, 2, 1, 0, []), (81, .iload_n 1, 1, 0, 0, []), (82, .iaload, 0, 0, 0, []), (83, .ireturn, 0, 0, 0, [])])
def mk_b13_5 : List Bool × List mj_I := ([true, true, false], [(84, .aload_n 0, 0, 0, 0, []), (85, .getfield 55, 8, 7, 0, []), (88, .getfield 206, 3, 1, 0, []), (91, .iload_n 1, 1, 0, 0, []), (92, .iaload, 0, 0, 0, []), (93, .ireturn, 0, 0, 0, [])])
def mk_b13_6 : List Bool × List mj_I := ([true, true, false], [(94, .aload_n 0, 0, 0, 0, []), (95, .getfield 55, 8, 7, 0, []), (98, .getfield 209, 4, 1, 0, []), (101, .iload_n 1, 1, 0, 0, []), (102, .iaload, 0, 0, 0, []), (103, .ireturn, 0, 0, 0, [])])
def mk_b13_7 : List Bool × List mj_I := ([true, true, false], [(104, .aload_n 0, 0, 0, 0, []), (105, .getfield 55, 8, 7, 0, []), (108, .iload_n 1, 1, 0, 0, []), (109, .invokevirtual 212, 178, 2, 1, []), (112, .ireturn, 0, 0, 0, [])])
def mk_b13_8 : List Bool × List mj_I := ([true, true, false], [(113, .aload_n 0, 0, 0, 0, []), (114, .getfield 55, 8, 7, 0, []), (117, .getfield 215, 5, 1, 0, []), (120, .iload_n 1, 1, 0, 0, []), (121, .iaload, 0, 0, 0, []), (122, .ireturn, 0, 0, 0, [])])
def mk_m13 : Nat × Nat × List (List Bool × List mj_I) := (3, 8, [mk_b13_0, mk_b13_1, mk_b13_2, mk_b13_3, mk_b13_4, mk_b13_5, mk_b13_6, mk_b13_7, mk_b13_8])
/-- NumbersCalled.sum(I)I -/
def mk_b14_0 : List Bool × List mj_I := ([true, true], [(0, .iload_n 1, 1, 0, 0, []), (1, .iconst 0, 0, 0, 0, []), (2, .bipush 7, 0, 0, 0, []), (4, .invokestatic 92, 44, 3, 1, []), (7, .ifCond .ne (6), 1, 0, 0, []), (10, .bipush (-2), 0, 0, 0, []), (12, .ireturn, 0, 0, 0, [])])
def mk_b14_1 : List Bool × List mj_I := ([true, true], [(13, .aload_n 0, 0, 0, 0, []), (14, .invokevirtual 197, 58, 1, 0, []), (17, .aload_n 0, 0, 0, 0, []), (18, .getfield 55, 8, 7, 0, []), (21, .iload_n 1, 1, 0, 0, []), (22, .invokevirtual 218, 187, 2, 1, []), (25, .ireturn, 0, 0, 0, [])])
def mk_m14 : Nat × Nat × List (List Bool × List mj_I) := (2, 8, [mk_b14_0, mk_b14_1])
/-- NumbersCalled.idle(I)I -/
def mk_b15_0 : List Bool × List mj_I := ([true, true], [(0, .aload_n 0, 0, 0, 0, []), (1, .iload_n 1, 1, 0, 0, []), (2, .invokevirtual 109, 49, 2, 1, []), (5, .ifCond .ne (6), 1, 0, 0, []), (8, .bipush (-5), 0, 0, 0, []), (10, .ireturn, 0, 0, 0, [])])
def mk_b15_1 : List Bool × List mj_I := ([true, true], [(11, .aload_n 0, 0, 0, 0, []), (12, .invokevirtual 197, 58, 1, 0, []), (15, .aload_n 0, 0, 0, 0, []), (16, .getfield 55, 8, 7, 0, []), (19, .getfield 221, 6, 1, 0, []), (22, .iload_n 1, 1, 0, 0, []), (23, .iaload, 0, 0, 0, []), (24, .ireturn, 0, 0, 0, [])])
def mk_m15 : Nat × Nat × List (List Bool × List mj_I) := (2, 8, [mk_b15_0, mk_b15_1])
/-- NumbersCalled.harmed()I -/
def mk_b16_0 : List Bool × List mj_I := ([true], [(0, .aload_n 0, 0, 0, 0, []), (1, .invokevirtual 197, 58, 1, 0, []), (4, .aload_n 0, 0, 0, 0, []), (5, .getfield 55, 8, 7, 0, []), (8, .invokevirtual 224, 185, 1, 1, []), (11, .ireturn, 0, 0, 0, [])])
def mk_m16 : Nat × Nat × List (List Bool × List mj_I) := (1, 8, [mk_b16_0])
/-- NumbersCalled.letter(II)I -/
def mk_b17_0 : List Bool × List mj_I := ([true, true, true, false], [(0, .aload_n 0, 0, 0, 0, []), (1, .iload_n 1, 1, 0, 0, []), (2, .invokevirtual 109, 49, 2, 1, []), (5, .ifCond .ne (6), 1, 0, 0, []), (8, .bipush (-5), 0, 0, 0, []), (10, .ireturn, 0, 0, 0, [])])
def mk_b17_1 : List Bool × List mj_I := ([true, true, true, false], [(11, .iload_n 2, 2, 0, 0, []), (12, .iconst 0, 0, 0, 0, []), (13, .iconst 1, 0, 0, 0, []), (14, .invokestatic 92, 44, 3, 1, []), (17, .ifCond .ne (6), 2, 0, 0, []), (20, .bipush (-7), 0, 0, 0, []), (22, .ireturn, 0, 0, 0, [])])
def mk_b17_2 : List Bool × List mj_I := ([true, true, true, false], [(23, .aload_n 0, 0, 0, 0, []), (24, .getfield 62, 9, 7, 0, []), (27, .invokevirtual 227, 188, 1, 0, []), (30, .aload_n 0, 0, 0, 0, []), (31, .invokevirtual 197, 58, 1, 0, []), (34, .aload_n 0, 0, 0, 0, []), (35, .getfield 62, 9, 7, 0, []), (38, .iconst (-1), 0, 0, 0, []), (39, .aload_n 0, 0, 0, 0, []), (40, .getfield 55, 8, 7, 0, []), (43, .invokevirtual 224, 185, 1, 1, []), (46, .invokevirtual 230, 189, 3, 0, []), (49, .iconst 0, 0, 0, 0, []), (50, .istore_n 3, 3, 0, 0, []), (51, .nop, 3, 0, 0, [])])
def mk_b17_3 : List Bool × List mj_I := ([true, true, true, true], [(51, .iload_n 3, 3, 0, 0, []), (52, .iconst 4, 0, 0, 0, []), (53, .if_icmp .ge (53), 4, 0, 0, []), (56, .aload_n 0, 0, 0, 0, []), (57, .getfield 55, 8, 7, 0, []), (60, .getfield 234, 0, 1, 0, []), (63, .getfield 99, 1, 3, 0, []), (66, .iload_n 1, 1, 0, 0, []), (67, .aload_n 0, 0, 0, 0, []), (68, .getfield 10, 0, 7, 0, []), (71, .getfield 99, 1, 3, 0, []), (74, .iload_n 1, 1, 0, 0, []), (75, .iaload, 0, 0, 0, []), (76, .iconst 1, 0, 0, 0, []), (77, .iload_n 3, 3, 0, 0, []), (78, .ishl, 0, 0, 0, []), (79, .ior, 0, 0, 0, []), (80, .iastore, 0, 0, 0, []), (81, .aload_n 0, 0, 0, 0, []), (82, .invokevirtual 237, 57, 1, 0, []), (85, .aload_n 0, 0, 0, 0, []), (86, .getfield 62, 9, 7, 0, []), (89, .iload_n 3, 3, 0, 0, []), (90, .aload_n 0, 0, 0, 0, []), (91, .getfield 55, 8, 7, 0, []), (94, .invokevirtual 224, 185, 1, 1, []), (97, .invokevirtual 230, 189, 3, 0, []), (100, .iinc 3 1, 3, 0, 0, []), (103, .goto (-52), 3, 0, 0, [])])
def mk_b17_4 : List Bool × List mj_I := ([true, false, true, false], [(106, .aload_n 0, 0, 0, 0, []), (107, .getfield 62, 9, 7, 0, []), (110, .iload_n 2, 2, 0, 0, []), (111, .invokevirtual 240, 190, 2, 1, []), (114, .ireturn, 0, 0, 0, [])])
def mk_m17 : Nat × Nat × List (List Bool × List mj_I) := (4, 8, [mk_b17_0, mk_b17_1, mk_b17_2, mk_b17_3, mk_b17_4])
/-- NumbersCalled.train(II)I -/
def mk_b18_0 : List Bool × List mj_I := ([true, true, true, false, false, false], [(0, .iload_n 1, 1, 0, 0, []), (1, .iconst 0, 0, 0, 0, []), (2, .sipush 999, 0, 0, 0, []), (5, .invokestatic 92, 44, 3, 1, []), (8, .ifCond .eq (12), 1, 0, 0, []), (11, .iload_n 2, 2, 0, 0, []), (12, .iconst 0, 0, 0, 0, []), (13, .iconst 1, 0, 0, 0, []), (14, .invokestatic 92, 44, 3, 1, []), (17, .ifCond .ne (6), 2, 0, 0, []), (20, .nop, 1, 0, 0, [])])
def mk_b18_1 : List Bool × List mj_I := ([false, false, false, false, false, false], [(20, .bipush (-2), 0, 0, 0, []), (22, .ireturn, 0, 0, 0, [])])
def mk_b18_2 : List Bool × List mj_I := ([true, true, true, false, false, false], [(23, .aload_n 0, 0, 0, 0, []), (24, .iconst (-1), 0, 0, 0, []), (25, .iconst (-1), 0, 0, 0, []), (26, .iload_n 1, 1, 0, 0, []), (27, .invokevirtual 243, 60, 4, 1, []), (30, .ifCond .eq (13), 5, 0, 0, []), (33, .iload_n 2, 2, 0, 0, []), (34, .ifCond .ne (7), 3, 0, 0, []), (37, .iconst 0, 0, 0, 0, []), (38, .goto (4), 4, 0, 0, [])])
def mk_b18_3 : List Bool × List mj_I := ([false, false, false, false, false, false], [(41, .iconst (-1), 0, 0, 0, []), (42, .nop, 4, 0, 0, [])])
def mk_b18_4 : List Bool × List mj_I := ([false, false, false, false, false, false], [(42, .ireturn, 0, 0, 0, [])])
def mk_b18_5 : List Bool × List mj_I := ([true, true, true, false, false, false], [(43, .aload_n 0, 0, 0, 0, []), (44, .getfield 10, 0, 7, 0, []), (47, .getfield 96, 0, 3, 0, []), (50, .iconst 4, 0, 0, 0, []), (51, .imul, 0, 0, 0, []), (52, .istore_n 3, 3, 0, 0, []), (53, .iconst 0, 0, 0, 0, []), (54, .istore 4, 4, 0, 0, []), (56, .nop, 6, 0, 0, [])])
def mk_b18_6 : List Bool × List mj_I := ([true, true, true, true, true, false], [(56, .iload 4, 4, 0, 0, []), (58, .iload_n 3, 3, 0, 0, []), (59, .if_icmp .ge (34), 10, 0, 0, []), (62, .aload_n 0, 0, 0, 0, []), (63, .iload 4, 4, 0, 0, []), (65, .iconst (-1), 0, 0, 0, []), (66, .iload_n 1, 1, 0, 0, []), (67, .invokevirtual 243, 60, 4, 1, []), (70, .ifCond .eq (17), 9, 0, 0, []), (73, .iload_n 2, 2, 0, 0, []), (74, .ifCond .ne (7), 7, 0, 0, []), (77, .iconst 1, 0, 0, 0, []), (78, .goto (8), 8, 0, 0, [])])
def mk_b18_7 : List Bool × List mj_I := ([false, false, false, false, true, false], [(81, .iload 4, 4, 0, 0, []), (83, .invokestatic 246, 61, 1, 1, []), (86, .nop, 8, 0, 0, [])])
def mk_b18_8 : List Bool × List mj_I := ([false, false, false, false, false, false], [(86, .ireturn, 0, 0, 0, [])])
def mk_b18_9 : List Bool × List mj_I := ([true, true, true, true, true, false], [(87, .iinc 4 1, 4, 0, 0, []), (90, .goto (-34), 6, 0, 0, [])])
def mk_b18_10 : List Bool × List mj_I := ([true, true, true, true, false, false], [(93, .iconst 0, 0, 0, 0, []), (94, .istore 4, 4, 0, 0, []), (96, .nop, 11, 0, 0, [])])
def mk_b18_11 : List Bool × List mj_I := ([true, true, true, true, true, false], [(96, .iload 4, 4, 0, 0, []), (98, .iload_n 3, 3, 0, 0, []), (99, .if_icmp .ge (62), 17, 0, 0, []), (102, .iload 4, 4, 0, 0, []), (104, .iconst 1, 0, 0, 0, []), (105, .iadd, 0, 0, 0, []), (106, .istore 5, 5, 0, 0, []), (108, .nop, 12, 0, 0, [])])
def mk_b18_12 : List Bool × List mj_I := ([true, true, true, true, true, true], [(108, .iload 5, 5, 0, 0, []), (110, .iload_n 3, 3, 0, 0, []), (111, .if_icmp .ge (44), 16, 0, 0, []), (114, .aload_n 0, 0, 0, 0, []), (115, .iload 4, 4, 0, 0, []), (117, .iload 5, 5, 0, 0, []), (119, .iload_n 1, 1, 0, 0, []), (120, .invokevirtual 243, 60, 4, 1, []), (123, .ifCond .eq (26), 15, 0, 0, []), (126, .iload_n 2, 2, 0, 0, []), (127, .ifCond .ne (7), 13, 0, 0, []), (130, .iconst 2, 0, 0, 0, []), (131, .goto (17), 14, 0, 0, [])])
def mk_b18_13 : List Bool × List mj_I := ([false, false, false, false, true, true], [(134, .iload 4, 4, 0, 0, []), (136, .invokestatic 246, 61, 1, 1, []), (139, .bipush 100, 0, 0, 0, []), (141, .imul, 0, 0, 0, []), (142, .iload 5, 5, 0, 0, []), (144, .invokestatic 246, 61, 1, 1, []), (147, .iadd, 0, 0, 0, []), (148, .nop, 14, 0, 0, [])])
def mk_b18_14 : List Bool × List mj_I := ([false, false, false, false, false, false], [(148, .ireturn, 0, 0, 0, [])])
def mk_b18_15 : List Bool × List mj_I := ([true, true, true, true, true, true], [(149, .iinc 5 1, 5, 0, 0, []), (152, .goto (-44), 12, 0, 0, [])])
def mk_b18_16 : List Bool × List mj_I := ([true, true, true, true, true, false], [(155, .iinc 4 1, 4, 0, 0, []), (158, .goto (-62), 11, 0, 0, [])])
def mk_b18_17 : List Bool × List mj_I := ([false, false, false, false, false, false], [(161, .iconst (-1), 0, 0, 0, []), (162, .ireturn, 0, 0, 0, [])])
def mk_m18 : Nat × Nat × List (List Bool × List mj_I) := (6, 8, [mk_b18_0, mk_b18_1, mk_b18_2, mk_b18_3, mk_b18_4, mk_b18_5, mk_b18_6, mk_b18_7, mk_b18_8, mk_b18_9, mk_b18_10, mk_b18_11, mk_b18_12, mk_b18_13, mk_b18_14, mk_b18_15, mk_b18_16, mk_b18_17])
/-- NumbersCalled.rest(II)I -/
def mk_b19_0 : List Bool × List mj_I := ([true, true, true, false], [(0, .aload_n 0, 0, 0, 0, []), (1, .iload_n 1, 1, 0, 0, []), (2, .invokevirtual 109, 49, 2, 1, []), (5, .ifCond .ne (6), 1, 0, 0, []), (8, .bipush (-5), 0, 0, 0, []), (10, .ireturn, 0, 0, 0, [])])
def mk_b19_1 : List Bool × List mj_I := ([true, true, true, false], [(11, .iload_n 2, 2, 0, 0, []), (12, .iconst 0, 0, 0, 0, []), (13, .iconst 1, 0, 0, 0, []), (14, .invokestatic 92, 44, 3, 1, []), (17, .ifCond .ne (6), 2, 0, 0, []), (20, .bipush (-7), 0, 0, 0, []), (22, .ireturn, 0, 0, 0, [])])
def mk_b19_2 : List Bool × List mj_I := ([true, true, true, false], [(23, .aload_n 0, 0, 0, 0, []), (24, .getfield 62, 9, 7, 0, []), (27, .invokevirtual 227, 188, 1, 0, []), (30, .aload_n 0, 0, 0, 0, []), (31, .invokevirtual 249, 56, 1, 0, []), (34, .iconst 0, 0, 0, 0, []), (35, .istore_n 3, 3, 0, 0, []), (36, .nop, 3, 0, 0, [])])
def mk_b19_3 : List Bool × List mj_I := ([true, true, true, true], [(36, .iload_n 3, 3, 0, 0, []), (37, .bipush 110, 0, 0, 0, []), (39, .if_icmp .gt (41), 4, 0, 0, []), (42, .aload_n 0, 0, 0, 0, []), (43, .getfield 55, 8, 7, 0, []), (46, .getfield 234, 0, 1, 0, []), (49, .getfield 106, 3, 3, 0, []), (52, .iload_n 1, 1, 0, 0, []), (53, .iload_n 3, 3, 0, 0, []), (54, .iastore, 0, 0, 0, []), (55, .aload_n 0, 0, 0, 0, []), (56, .invokevirtual 237, 57, 1, 0, []), (59, .aload_n 0, 0, 0, 0, []), (60, .getfield 62, 9, 7, 0, []), (63, .iload_n 3, 3, 0, 0, []), (64, .aload_n 0, 0, 0, 0, []), (65, .getfield 55, 8, 7, 0, []), (68, .invokevirtual 224, 185, 1, 1, []), (71, .invokevirtual 230, 189, 3, 0, []), (74, .iinc 3 10, 3, 0, 0, []), (77, .goto (-41), 3, 0, 0, [])])
def mk_b19_4 : List Bool × List mj_I := ([true, false, true, false], [(80, .aload_n 0, 0, 0, 0, []), (81, .getfield 62, 9, 7, 0, []), (84, .iload_n 2, 2, 0, 0, []), (85, .invokevirtual 240, 190, 2, 1, []), (88, .ireturn, 0, 0, 0, [])])
def mk_m19 : Nat × Nat × List (List Bool × List mj_I) := (4, 8, [mk_b19_0, mk_b19_1, mk_b19_2, mk_b19_3, mk_b19_4])
/-- NumbersCalled.stop(I)I -/
def mk_b20_0 : List Bool × List mj_I := ([true, true, false], [(0, .iload_n 1, 1, 0, 0, []), (1, .iconst 0, 0, 0, 0, []), (2, .sipush 999, 0, 0, 0, []), (5, .invokestatic 92, 44, 3, 1, []), (8, .ifCond .ne (6), 1, 0, 0, []), (11, .bipush (-2), 0, 0, 0, []), (13, .ireturn, 0, 0, 0, [])])
def mk_b20_1 : List Bool × List mj_I := ([true, true, false], [(14, .aload_n 0, 0, 0, 0, []), (15, .invokevirtual 249, 56, 1, 0, []), (18, .bipush 120, 0, 0, 0, []), (20, .istore_n 2, 2, 0, 0, []), (21, .nop, 2, 0, 0, [])])
def mk_b20_2 : List Bool × List mj_I := ([true, true, true], [(21, .iload_n 2, 2, 0, 0, []), (22, .ifCond .lt (54), 5, 0, 0, []), (25, .iload_n 2, 2, 0, 0, []), (26, .bipush 120, 0, 0, 0, []), (28, .if_icmp .ge (14), 3, 0, 0, []), (31, .aload_n 0, 0, 0, 0, []), (32, .iload_n 2, 2, 0, 0, []), (33, .invokevirtual 252, 62, 2, 1, []), (36, .ifCond .ne (6), 3, 0, 0, []), (39, .goto (31), 4, 0, 0, [])])
def mk_b20_3 : List Bool × List mj_I := ([true, true, true], [(42, .aload_n 0, 0, 0, 0, []), (43, .getfield 55, 8, 7, 0, []), (46, .getfield 234, 0, 1, 0, []), (49, .iload_n 2, 2, 0, 0, []), (50, .putfield 134, 8, 3, 0, []), (53, .aload_n 0, 0, 0, 0, []), (54, .invokevirtual 237, 57, 1, 0, []), (57, .aload_n 0, 0, 0, 0, []), (58, .getfield 55, 8, 7, 0, []), (61, .iload_n 1, 1, 0, 0, []), (62, .invokevirtual 255, 186, 2, 1, []), (65, .ifCond .eq (5), 4, 0, 0, []), (68, .iload_n 2, 2, 0, 0, []), (69, .ireturn, 0, 0, 0, [])])
def mk_b20_4 : List Bool × List mj_I := ([true, true, true], [(70, .iinc 2 (-1), 2, 0, 0, []), (73, .goto (-52), 2, 0, 0, [])])
def mk_b20_5 : List Bool × List mj_I := ([false, false, false], [(76, .iconst (-1), 0, 0, 0, []), (77, .ireturn, 0, 0, 0, [])])
def mk_m20 : Nat × Nat × List (List Bool × List mj_I) := (3, 8, [mk_b20_0, mk_b20_1, mk_b20_2, mk_b20_3, mk_b20_4, mk_b20_5])
/-- NumbersCalled.call(I)I -/
def mk_b21_0 : List Bool × List mj_I := ([true, true, false], [(0, .iload_n 1, 1, 0, 0, []), (1, .iconst 0, 0, 0, 0, []), (2, .iconst 1, 0, 0, 0, []), (3, .invokestatic 92, 44, 3, 1, []), (6, .ifCond .ne (6), 1, 0, 0, []), (9, .bipush (-2), 0, 0, 0, []), (11, .ireturn, 0, 0, 0, [])])
def mk_b21_1 : List Bool × List mj_I := ([true, true, false], [(12, .aload_n 0, 0, 0, 0, []), (13, .getfield 62, 9, 7, 0, []), (16, .invokevirtual 227, 188, 1, 0, []), (19, .aload_n 0, 0, 0, 0, []), (20, .invokevirtual 249, 56, 1, 0, []), (23, .iconst 1, 0, 0, 0, []), (24, .istore_n 2, 2, 0, 0, []), (25, .nop, 2, 0, 0, [])])
def mk_b21_2 : List Bool × List mj_I := ([true, true, true], [(25, .iload_n 2, 2, 0, 0, []), (26, .bipush 9, 0, 0, 0, []), (28, .if_icmp .gt (39), 3, 0, 0, []), (31, .aload_n 0, 0, 0, 0, []), (32, .getfield 55, 8, 7, 0, []), (35, .getfield 234, 0, 1, 0, []), (38, .iload_n 2, 2, 0, 0, []), (39, .putfield 131, 7, 3, 0, []), (42, .aload_n 0, 0, 0, 0, []), (43, .invokevirtual 237, 57, 1, 0, []), (46, .aload_n 0, 0, 0, 0, []), (47, .getfield 62, 9, 7, 0, []), (50, .iload_n 2, 2, 0, 0, []), (51, .aload_n 0, 0, 0, 0, []), (52, .getfield 55, 8, 7, 0, []), (55, .invokevirtual 224, 185, 1, 1, []), (58, .invokevirtual 230, 189, 3, 0, []), (61, .iinc 2 1, 2, 0, 0, []), (64, .goto (-39), 2, 0, 0, [])])
def mk_b21_3 : List Bool × List mj_I := ([true, true, false], [(67, .aload_n 0, 0, 0, 0, []), (68, .getfield 62, 9, 7, 0, []), (71, .iload_n 1, 1, 0, 0, []), (72, .invokevirtual 240, 190, 2, 1, []), (75, .ireturn, 0, 0, 0, [])])
def mk_m21 : Nat × Nat × List (List Bool × List mj_I) := (3, 8, [mk_b21_0, mk_b21_1, mk_b21_2, mk_b21_3])
/-- NumbersCalled.pay(I)I -/
def mk_b22_0 : List Bool × List mj_I := ([true, true, false], [(0, .iload_n 1, 1, 0, 0, []), (1, .iconst 1, 0, 0, 0, []), (2, .iconst 3, 0, 0, 0, []), (3, .invokestatic 92, 44, 3, 1, []), (6, .ifCond .ne (6), 1, 0, 0, []), (9, .bipush (-2), 0, 0, 0, []), (11, .ireturn, 0, 0, 0, [])])
def mk_b22_1 : List Bool × List mj_I := ([true, true, false], [(12, .aload_n 0, 0, 0, 0, []), (13, .invokevirtual 249, 56, 1, 0, []), (16, .aload_n 0, 0, 0, 0, []), (17, .getfield 55, 8, 7, 0, []), (20, .getfield 234, 0, 1, 0, []), (23, .iload_n 1, 1, 0, 0, []), (24, .putfield 128, 6, 3, 0, []), (27, .aload_n 0, 0, 0, 0, []), (28, .invokevirtual 237, 57, 1, 0, []), (31, .aload_n 0, 0, 0, 0, []), (32, .iload_n 1, 1, 0, 0, []), (33, .invokevirtual 258, 63, 2, 1, []), (36, .istore_n 2, 2, 0, 0, []), (37, .aload_n 0, 0, 0, 0, []), (38, .getfield 55, 8, 7, 0, []), (41, .getfield 234, 0, 1, 0, []), (44, .iconst 0, 0, 0, 0, []), (45, .putfield 128, 6, 3, 0, []), (48, .aload_n 0, 0, 0, 0, []), (49, .invokevirtual 237, 57, 1, 0, []), (52, .iload_n 2, 2, 0, 0, []), (53, .aload_n 0, 0, 0, 0, []), (54, .iload_n 1, 1, 0, 0, []), (55, .invokevirtual 258, 63, 2, 1, []), (58, .isub, 0, 0, 0, []), (59, .ireturn, 0, 0, 0, [])])
def mk_m22 : Nat × Nat × List (List Bool × List mj_I) := (3, 8, [mk_b22_0, mk_b22_1])
/-- NumbersCalled.door(I)I -/
def mk_b23_0 : List Bool × List mj_I := ([true, true, false], [(0, .iload_n 1, 1, 0, 0, []), (1, .iconst 0, 0, 0, 0, []), (2, .iconst 1, 0, 0, 0, []), (3, .invokestatic 92, 44, 3, 1, []), (6, .ifCond .ne (6), 1, 0, 0, []), (9, .bipush (-2), 0, 0, 0, []), (11, .ireturn, 0, 0, 0, [])])
def mk_b23_1 : List Bool × List mj_I := ([true, true, false], [(12, .aload_n 0, 0, 0, 0, []), (13, .invokevirtual 197, 58, 1, 0, []), (16, .aload_n 0, 0, 0, 0, []), (17, .getfield 55, 8, 7, 0, []), (20, .invokevirtual 224, 185, 1, 1, []), (23, .istore_n 2, 2, 0, 0, []), (24, .aload_n 0, 0, 0, 0, []), (25, .getfield 55, 8, 7, 0, []), (28, .getfield 234, 0, 1, 0, []), (31, .iload_n 1, 1, 0, 0, []), (32, .ifCond .ne (7), 2, 0, 0, []), (35, .iconst 1, 0, 0, 0, []), (36, .goto (4), 3, 0, 0, [])])
def mk_b23_2 : List Bool × List mj_I := ([true, true, true], [(39, .iconst 0, 0, 0, 0, []), (40, .nop, 3, 0, 0, [])])
def mk_b23_3 : List Bool × List mj_I := ([true, true, true], [(40, .putfield 261, 10, 3, 1, []), (43, .aload_n 0, 0, 0, 0, []), (44, .getfield 55, 8, 7, 0, []), (47, .getfield 234, 0, 1, 0, []), (50, .iload_n 1, 1, 0, 0, []), (51, .iconst 1, 0, 0, 0, []), (52, .if_icmp .ne (7), 4, 0, 0, []), (55, .iconst 1, 0, 0, 0, []), (56, .goto (4), 5, 0, 0, [])])
def mk_b23_4 : List Bool × List mj_I := ([true, false, true], [(59, .iconst 0, 0, 0, 0, []), (60, .nop, 5, 0, 0, [])])
def mk_b23_5 : List Bool × List mj_I := ([true, false, true], [(60, .putfield 264, 11, 3, 1, []), (63, .aload_n 0, 0, 0, 0, []), (64, .invokevirtual 237, 57, 1, 0, []), (67, .iload_n 2, 2, 0, 0, []), (68, .aload_n 0, 0, 0, 0, []), (69, .getfield 55, 8, 7, 0, []), (72, .invokevirtual 224, 185, 1, 1, []), (75, .isub, 0, 0, 0, []), (76, .ireturn, 0, 0, 0, [])])
def mk_m23 : Nat × Nat × List (List Bool × List mj_I) := (3, 8, [mk_b23_0, mk_b23_1, mk_b23_2, mk_b23_3, mk_b23_4, mk_b23_5])
/-- NumbersCalled.say(I)I -/
def mk_b24_0 : List Bool × List mj_I := ([true, true, false, false, false], [(0, .iload_n 1, 1, 0, 0, []), (1, .iconst 0, 0, 0, 0, []), (2, .iconst 1, 0, 0, 0, []), (3, .invokestatic 92, 44, 3, 1, []), (6, .ifCond .ne (6), 1, 0, 0, []), (9, .bipush (-2), 0, 0, 0, []), (11, .ireturn, 0, 0, 0, [])])
def mk_b24_1 : List Bool × List mj_I := ([true, true, false, false, false], [(12, .aload_n 0, 0, 0, 0, []), (13, .getfield 62, 9, 7, 0, []), (16, .invokevirtual 227, 188, 1, 0, []), (19, .aload_n 0, 0, 0, 0, []), (20, .invokevirtual 197, 58, 1, 0, []), (23, .iconst 0, 0, 0, 0, []), (24, .istore_n 2, 2, 0, 0, []), (25, .nop, 2, 0, 0, [])])
def mk_b24_2 : List Bool × List mj_I := ([true, true, true, false, false], [(25, .iload_n 2, 2, 0, 0, []), (26, .bipush 60, 0, 0, 0, []), (28, .if_icmp .gt (79), 6, 0, 0, []), (31, .iconst 0, 0, 0, 0, []), (32, .istore_n 3, 3, 0, 0, []), (33, .iconst 0, 0, 0, 0, []), (34, .istore 4, 4, 0, 0, []), (36, .nop, 3, 0, 0, [])])
def mk_b24_3 : List Bool × List mj_I := ([true, true, true, true, true], [(36, .iload 4, 4, 0, 0, []), (38, .aload_n 0, 0, 0, 0, []), (39, .getfield 10, 0, 7, 0, []), (42, .getfield 137, 4, 3, 0, []), (45, .if_icmp .ge (47), 5, 0, 0, []), (48, .aload_n 0, 0, 0, 0, []), (49, .getfield 55, 8, 7, 0, []), (52, .getfield 200, 1, 1, 0, []), (55, .iload 4, 4, 0, 0, []), (57, .iaload, 0, 0, 0, []), (58, .iconst 2, 0, 0, 0, []), (59, .if_icmp .ne (27), 4, 0, 0, []), (62, .iload_n 3, 3, 0, 0, []), (63, .aload_n 0, 0, 0, 0, []), (64, .aload_n 0, 0, 0, 0, []), (65, .getfield 25, 3, 7, 0, []), (68, .iload 4, 4, 0, 0, []), (70, .aaload, 0, 0, 0, []), (71, .aload_n 0, 0, 0, 0, []), (72, .getfield 55, 8, 7, 0, []), (75, .iload 4, 4, 0, 0, []), (77, .invokevirtual 212, 178, 2, 1, []), (80, .iload_n 2, 2, 0, 0, []), (81, .invokevirtual 193, 64, 4, 1, []), (84, .iadd, 0, 0, 0, []), (85, .istore_n 3, 3, 0, 0, []), (86, .nop, 4, 0, 0, [])])
def mk_b24_4 : List Bool × List mj_I := ([true, true, true, true, true], [(86, .iinc 4 1, 4, 0, 0, []), (89, .goto (-53), 3, 0, 0, [])])
def mk_b24_5 : List Bool × List mj_I := ([true, true, true, true, false], [(92, .aload_n 0, 0, 0, 0, []), (93, .getfield 62, 9, 7, 0, []), (96, .iload_n 2, 2, 0, 0, []), (97, .iload_n 3, 3, 0, 0, []), (98, .invokevirtual 230, 189, 3, 0, []), (101, .iinc 2 5, 2, 0, 0, []), (104, .goto (-79), 2, 0, 0, [])])
def mk_b24_6 : List Bool × List mj_I := ([true, true, false, false, false], [(107, .aload_n 0, 0, 0, 0, []), (108, .getfield 62, 9, 7, 0, []), (111, .iload_n 1, 1, 0, 0, []), (112, .invokevirtual 240, 190, 2, 1, []), (115, .ireturn, 0, 0, 0, [])])
def mk_m24 : Nat × Nat × List (List Bool × List mj_I) := (5, 8, [mk_b24_0, mk_b24_1, mk_b24_2, mk_b24_3, mk_b24_4, mk_b24_5, mk_b24_6])
/-- NumbersCalled.best(II)I -/
def mk_b25_0 : List Bool × List mj_I := ([true, true, true], [(0, .aload_n 0, 0, 0, 0, []), (1, .iload_n 1, 1, 0, 0, []), (2, .invokevirtual 164, 50, 2, 1, []), (5, .ifCond .ne (6), 1, 0, 0, []), (8, .bipush (-5), 0, 0, 0, []), (10, .ireturn, 0, 0, 0, [])])
def mk_b25_1 : List Bool × List mj_I := ([true, true, true], [(11, .iload_n 2, 2, 0, 0, []), (12, .iconst 0, 0, 0, 0, []), (13, .iconst 1, 0, 0, 0, []), (14, .invokestatic 92, 44, 3, 1, []), (17, .ifCond .ne (6), 2, 0, 0, []), (20, .bipush (-7), 0, 0, 0, []), (22, .ireturn, 0, 0, 0, [])])
def mk_b25_2 : List Bool × List mj_I := ([true, true, true], [(23, .aload_n 0, 0, 0, 0, []), (24, .invokevirtual 249, 56, 1, 0, []), (27, .aload_n 0, 0, 0, 0, []), (28, .iload_n 1, 1, 0, 0, []), (29, .invokevirtual 267, 65, 2, 0, []), (32, .aload_n 0, 0, 0, 0, []), (33, .getfield 62, 9, 7, 0, []), (36, .iload_n 2, 2, 0, 0, []), (37, .invokevirtual 240, 190, 2, 1, []), (40, .ireturn, 0, 0, 0, [])])
def mk_m25 : Nat × Nat × List (List Bool × List mj_I) := (3, 8, [mk_b25_0, mk_b25_1, mk_b25_2])
/-- NumbersCalled.uneasy()I -/
def mk_b26_0 : List Bool × List mj_I := ([true, false, false], [(0, .iconst 0, 0, 0, 0, []), (1, .istore_n 1, 1, 0, 0, []), (2, .iconst 0, 0, 0, 0, []), (3, .istore_n 2, 2, 0, 0, []), (4, .nop, 1, 0, 0, [])])
def mk_b26_1 : List Bool × List mj_I := ([true, true, true], [(4, .iload_n 2, 2, 0, 0, []), (5, .aload_n 0, 0, 0, 0, []), (6, .getfield 10, 0, 7, 0, []), (9, .getfield 137, 4, 3, 0, []), (12, .if_icmp .ge (23), 3, 0, 0, []), (15, .aload_n 0, 0, 0, 0, []), (16, .iload_n 2, 2, 0, 0, []), (17, .invokevirtual 270, 66, 2, 1, []), (20, .ifCond .eq (9), 2, 0, 0, []), (23, .iload_n 1, 1, 0, 0, []), (24, .iconst 1, 0, 0, 0, []), (25, .iload_n 2, 2, 0, 0, []), (26, .ishl, 0, 0, 0, []), (27, .ior, 0, 0, 0, []), (28, .istore_n 1, 1, 0, 0, []), (29, .nop, 2, 0, 0, [])])
def mk_b26_2 : List Bool × List mj_I := ([true, true, true], [(29, .iinc 2 1, 2, 0, 0, []), (32, .goto (-28), 1, 0, 0, [])])
def mk_b26_3 : List Bool × List mj_I := ([false, true, false], [(35, .iload_n 1, 1, 0, 0, []), (36, .ireturn, 0, 0, 0, [])])
def mk_m26 : Nat × Nat × List (List Bool × List mj_I) := (3, 8, [mk_b26_0, mk_b26_1, mk_b26_2, mk_b26_3])
/-- NumbersCalled.rests(I)I -/
def mk_b27_0 : List Bool × List mj_I := ([true, true, false, false, false, false], [(0, .iload_n 1, 1, 0, 0, []), (1, .iconst 0, 0, 0, 0, []), (2, .iconst 5, 0, 0, 0, []), (3, .invokestatic 92, 44, 3, 1, []), (6, .ifCond .ne (6), 1, 0, 0, []), (9, .bipush (-2), 0, 0, 0, []), (11, .ireturn, 0, 0, 0, [])])
def mk_b27_1 : List Bool × List mj_I := ([true, true, false, false, false, false], [(12, .iconst 0, 0, 0, 0, []), (13, .istore_n 2, 2, 0, 0, []), (14, .iconst 0, 0, 0, 0, []), (15, .istore_n 3, 3, 0, 0, []), (16, .nop, 2, 0, 0, [])])
def mk_b27_2 : List Bool × List mj_I := ([true, true, true, true, false, false], [(16, .iload_n 3, 3, 0, 0, []), (17, .iload_n 1, 1, 0, 0, []), (18, .if_icmp .ge (71), 7, 0, 0, []), (21, .iload_n 2, 2, 0, 0, []), (22, .istore 4, 4, 0, 0, []), (24, .iconst 0, 0, 0, 0, []), (25, .istore 5, 5, 0, 0, []), (27, .nop, 3, 0, 0, [])])
def mk_b27_3 : List Bool × List mj_I := ([true, true, true, true, true, true], [(27, .iload 5, 5, 0, 0, []), (29, .aload_n 0, 0, 0, 0, []), (30, .getfield 10, 0, 7, 0, []), (33, .getfield 137, 4, 3, 0, []), (36, .if_icmp .ge (38), 5, 0, 0, []), (39, .aload_n 0, 0, 0, 0, []), (40, .iload 5, 5, 0, 0, []), (42, .invokevirtual 270, 66, 2, 1, []), (45, .ifCond .eq (23), 4, 0, 0, []), (48, .aload_n 0, 0, 0, 0, []), (49, .getfield 10, 0, 7, 0, []), (52, .getfield 161, 5, 3, 0, []), (55, .iload 5, 5, 0, 0, []), (57, .aload_n 0, 0, 0, 0, []), (58, .getfield 62, 9, 7, 0, []), (61, .getfield 273, 0, 2, 0, []), (64, .iastore, 0, 0, 0, []), (65, .iinc 2 1, 2, 0, 0, []), (68, .nop, 4, 0, 0, [])])
def mk_b27_4 : List Bool × List mj_I := ([true, true, true, true, true, true], [(68, .iinc 5 1, 5, 0, 0, []), (71, .goto (-44), 3, 0, 0, [])])
def mk_b27_5 : List Bool × List mj_I := ([true, true, true, true, true, false], [(74, .iload_n 2, 2, 0, 0, []), (75, .iload 4, 4, 0, 0, []), (77, .if_icmp .ne (6), 6, 0, 0, []), (80, .goto (9), 7, 0, 0, [])])
def mk_b27_6 : List Bool × List mj_I := ([true, true, true, true, false, false], [(83, .iinc 3 1, 3, 0, 0, []), (86, .goto (-70), 2, 0, 0, [])])
def mk_b27_7 : List Bool × List mj_I := ([false, false, true, false, false, false], [(89, .iload_n 2, 2, 0, 0, []), (90, .ireturn, 0, 0, 0, [])])
def mk_m27 : Nat × Nat × List (List Bool × List mj_I) := (6, 8, [mk_b27_0, mk_b27_1, mk_b27_2, mk_b27_3, mk_b27_4, mk_b27_5, mk_b27_6, mk_b27_7])
/-- NumbersCalled.when(III)I -/
def mk_b28_0 : List Bool × List mj_I := ([true, true, true, true, false], [(0, .iload_n 1, 1, 0, 0, []), (1, .iconst 0, 0, 0, 0, []), (2, .iconst 3, 0, 0, 0, []), (3, .invokestatic 92, 44, 3, 1, []), (6, .ifCond .eq (22), 1, 0, 0, []), (9, .iload_n 2, 2, 0, 0, []), (10, .iconst 1, 0, 0, 0, []), (11, .bipush 99, 0, 0, 0, []), (13, .invokestatic 92, 44, 3, 1, []), (16, .ifCond .eq (12), 1, 0, 0, []), (19, .iload_n 3, 3, 0, 0, []), (20, .iconst 0, 0, 0, 0, []), (21, .iconst 1, 0, 0, 0, []), (22, .invokestatic 92, 44, 3, 1, []), (25, .ifCond .ne (6), 2, 0, 0, []), (28, .nop, 1, 0, 0, [])])
def mk_b28_1 : List Bool × List mj_I := ([false, false, false, false, false], [(28, .bipush (-2), 0, 0, 0, []), (30, .ireturn, 0, 0, 0, [])])
def mk_b28_2 : List Bool × List mj_I := ([true, true, true, true, false], [(31, .aload_n 0, 0, 0, 0, []), (32, .getfield 10, 0, 7, 0, []), (35, .getfield 137, 4, 3, 0, []), (38, .bipush 16, 0, 0, 0, []), (40, .if_icmp .lt (6), 3, 0, 0, []), (43, .bipush (-3), 0, 0, 0, []), (45, .ireturn, 0, 0, 0, [])])
def mk_b28_3 : List Bool × List mj_I := ([true, true, true, true, false], [(46, .aload_n 0, 0, 0, 0, []), (47, .getfield 10, 0, 7, 0, []), (50, .getfield 137, 4, 3, 0, []), (53, .istore 4, 4, 0, 0, []), (55, .aload_n 0, 0, 0, 0, []), (56, .getfield 25, 3, 7, 0, []), (59, .iload 4, 4, 0, 0, []), (61, .aaload, 0, 0, 0, []), (62, .iconst 0, 0, 0, 0, []), (63, .iload_n 1, 1, 0, 0, []), (64, .iload_n 2, 2, 0, 0, []), (65, .bipush 9, 0, 0, 0, []), (67, .invokevirtual 158, 163, 5, 0, []), (70, .aload_n 0, 0, 0, 0, []), (71, .invokevirtual 249, 56, 1, 0, []), (74, .aload_n 0, 0, 0, 0, []), (75, .getfield 55, 8, 7, 0, []), (78, .getfield 234, 0, 1, 0, []), (81, .dup, 0, 0, 0, []), (82, .getfield 137, 4, 3, 0, []), (85, .iconst 1, 0, 0, 0, []), (86, .iadd, 0, 0, 0, []), (87, .putfield 137, 4, 3, 0, []), (90, .aload_n 0, 0, 0, 0, []), (91, .iload 4, 4, 0, 0, []), (93, .invokevirtual 267, 65, 2, 0, []), (96, .aload_n 0, 0, 0, 0, []), (97, .getfield 62, 9, 7, 0, []), (100, .iload_n 3, 3, 0, 0, []), (101, .invokevirtual 240, 190, 2, 1, []), (104, .ireturn, 0, 0, 0, [])])
def mk_m28 : Nat × Nat × List (List Bool × List mj_I) := (5, 8, [mk_b28_0, mk_b28_1, mk_b28_2, mk_b28_3])
/-- NumbersCalled.over(III)J -/
def mk_b29_0 : List Bool × List mj_I := ([true, true, true, true, false], [(0, .iload_n 1, 1, 0, 0, []), (1, .iconst 0, 0, 0, 0, []), (2, .bipush 40, 0, 0, 0, []), (4, .invokestatic 92, 44, 3, 1, []), (7, .ifCond .eq (23), 1, 0, 0, []), (10, .iload_n 2, 2, 0, 0, []), (11, .iconst 0, 0, 0, 0, []), (12, .bipush 100, 0, 0, 0, []), (14, .invokestatic 92, 44, 3, 1, []), (17, .ifCond .eq (13), 1, 0, 0, []), (20, .iload_n 3, 3, 0, 0, []), (21, .iconst 0, 0, 0, 0, []), (22, .bipush 40, 0, 0, 0, []), (24, .invokestatic 92, 44, 3, 1, []), (27, .ifCond .ne (7), 2, 0, 0, []), (30, .nop, 1, 0, 0, [])])
def mk_b29_1 : List Bool × List mj_I := ([false, false, false, false, false], [(30, .ldc2_w 276, 0, 0, 0, []), (33, .lreturn, 0, 0, 0, [])])
def mk_b29_2 : List Bool × List mj_I := ([true, true, true, true, false], [(34, .aload_n 0, 0, 0, 0, []), (35, .invokevirtual 278, 68, 1, 0, []), (38, .iconst 1, 0, 0, 0, []), (39, .istore 4, 4, 0, 0, []), (41, .nop, 3, 0, 0, [])])
def mk_b29_3 : List Bool × List mj_I := ([true, true, true, true, true], [(41, .iload 4, 4, 0, 0, []), (43, .iload_n 1, 1, 0, 0, []), (44, .if_icmp .gt (16), 4, 0, 0, []), (47, .aload_n 0, 0, 0, 0, []), (48, .iload 4, 4, 0, 0, []), (50, .iload_n 2, 2, 0, 0, []), (51, .invokevirtual 281, 69, 3, 0, []), (54, .iinc 4 1, 4, 0, 0, []), (57, .goto (-16), 3, 0, 0, [])])
def mk_b29_4 : List Bool × List mj_I := ([true, false, false, true, false], [(60, .aload_n 0, 0, 0, 0, []), (61, .iload_n 3, 3, 0, 0, []), (62, .invokevirtual 284, 70, 2, 2, []), (65, .lreturn, 0, 0, 0, [])])
def mk_m29 : Nat × Nat × List (List Bool × List mj_I) := (5, 8, [mk_b29_0, mk_b29_1, mk_b29_2, mk_b29_3, mk_b29_4])
/-- NumbersCalled.give(III)I -/
def mk_b30_0 : List Bool × List mj_I := ([true, true, true, true, false, false], [(0, .iload_n 1, 1, 0, 0, []), (1, .iconst 0, 0, 0, 0, []), (2, .bipush 100, 0, 0, 0, []), (4, .invokestatic 92, 44, 3, 1, []), (7, .ifCond .eq (24), 1, 0, 0, []), (10, .iload_n 2, 2, 0, 0, []), (11, .iconst 0, 0, 0, 0, []), (12, .bipush 40, 0, 0, 0, []), (14, .invokestatic 92, 44, 3, 1, []), (17, .ifCond .eq (14), 1, 0, 0, []), (20, .iload_n 3, 3, 0, 0, []), (21, .iconst 0, 0, 0, 0, []), (22, .sipush 1000, 0, 0, 0, []), (25, .invokestatic 92, 44, 3, 1, []), (28, .ifCond .ne (6), 2, 0, 0, []), (31, .nop, 1, 0, 0, [])])
def mk_b30_1 : List Bool × List mj_I := ([false, false, false, false, false, false], [(31, .bipush (-2), 0, 0, 0, []), (33, .ireturn, 0, 0, 0, [])])
def mk_b30_2 : List Bool × List mj_I := ([true, true, true, true, false, false], [(34, .aload_n 0, 0, 0, 0, []), (35, .invokevirtual 278, 68, 1, 0, []), (38, .iconst 0, 0, 0, 0, []), (39, .istore 4, 4, 0, 0, []), (41, .iconst 1, 0, 0, 0, []), (42, .istore 5, 5, 0, 0, []), (44, .nop, 3, 0, 0, [])])
def mk_b30_3 : List Bool × List mj_I := ([true, true, true, true, true, true], [(44, .iload 5, 5, 0, 0, []), (46, .bipush 40, 0, 0, 0, []), (48, .if_icmp .gt (35), 5, 0, 0, []), (51, .aload_n 0, 0, 0, 0, []), (52, .iload 5, 5, 0, 0, []), (54, .iload_n 1, 1, 0, 0, []), (55, .invokevirtual 281, 69, 3, 0, []), (58, .aload_n 0, 0, 0, 0, []), (59, .iload_n 2, 2, 0, 0, []), (60, .invokevirtual 284, 70, 2, 2, []), (63, .iload_n 3, 3, 0, 0, []), (64, .i2l, 0, 0, 0, []), (65, .ldc2_w 288, 1, 0, 0, []), (68, .lmul, 0, 0, 0, []), (69, .lcmp, 0, 0, 0, []), (70, .ifCond .gt (7), 4, 0, 0, []), (73, .iload 5, 5, 0, 0, []), (75, .istore 4, 4, 0, 0, []), (77, .nop, 4, 0, 0, [])])
def mk_b30_4 : List Bool × List mj_I := ([true, true, true, true, true, true], [(77, .iinc 5 1, 5, 0, 0, []), (80, .goto (-36), 3, 0, 0, [])])
def mk_b30_5 : List Bool × List mj_I := ([false, false, false, false, true, false], [(83, .iload 4, 4, 0, 0, []), (85, .ireturn, 0, 0, 0, [])])
def mk_m30 : Nat × Nat × List (List Bool × List mj_I) := (6, 8, [mk_b30_0, mk_b30_1, mk_b30_2, mk_b30_3, mk_b30_4, mk_b30_5])
/-- NumbersCalled.judge(I)I -/
def mk_b31_0 : List Bool × List mj_I := ([true, true, false], [(0, .aload_n 0, 0, 0, 0, []), (1, .iload_n 1, 1, 0, 0, []), (2, .invokevirtual 290, 55, 2, 1, []), (5, .istore_n 2, 2, 0, 0, []), (6, .iload_n 2, 2, 0, 0, []), (7, .ifCond .eq (5), 1, 0, 0, []), (10, .iload_n 2, 2, 0, 0, []), (11, .ireturn, 0, 0, 0, [])])
def mk_b31_1 : List Bool × List mj_I := ([true, true, false], [(12, .aload_n 0, 0, 0, 0, []), (13, .invokevirtual 197, 58, 1, 0, []), (16, .aload_n 0, 0, 0, 0, []), (17, .aload_n 0, 0, 0, 0, []), (18, .getfield 48, 7, 7, 0, []), (21, .iload_n 1, 1, 0, 0, []), (22, .aaload, 0, 0, 0, []), (23, .invokevirtual 293, 67, 2, 1, []), (26, .ireturn, 0, 0, 0, [])])
def mk_m31 : Nat × Nat × List (List Bool × List mj_I) := (3, 8, [mk_b31_0, mk_b31_1])
/-- NumbersCalled.laws(I)I -/
def mk_b32_0 : List Bool × List mj_I := ([true, true, false, false, false], [(0, .aload_n 0, 0, 0, 0, []), (1, .iload_n 1, 1, 0, 0, []), (2, .invokevirtual 290, 55, 2, 1, []), (5, .istore_n 2, 2, 0, 0, []), (6, .iload_n 2, 2, 0, 0, []), (7, .ifCond .eq (5), 1, 0, 0, []), (10, .iload_n 2, 2, 0, 0, []), (11, .ireturn, 0, 0, 0, [])])
def mk_b32_1 : List Bool × List mj_I := ([true, true, false, false, false], [(12, .iconst 0, 0, 0, 0, []), (13, .istore_n 3, 3, 0, 0, []), (14, .aload_n 0, 0, 0, 0, []), (15, .invokevirtual 249, 56, 1, 0, []), (18, .iconst 0, 0, 0, 0, []), (19, .istore 4, 4, 0, 0, []), (21, .nop, 2, 0, 0, [])])
def mk_b32_2 : List Bool × List mj_I := ([true, true, false, true, true], [(21, .iload 4, 4, 0, 0, []), (23, .aload_n 0, 0, 0, 0, []), (24, .getfield 35, 5, 7, 0, []), (27, .if_icmp .ge (46), 4, 0, 0, []), (30, .aload_n 0, 0, 0, 0, []), (31, .getfield 55, 8, 7, 0, []), (34, .getfield 234, 0, 1, 0, []), (37, .iload 4, 4, 0, 0, []), (39, .putfield 139, 9, 3, 0, []), (42, .aload_n 0, 0, 0, 0, []), (43, .invokevirtual 237, 57, 1, 0, []), (46, .aload_n 0, 0, 0, 0, []), (47, .aload_n 0, 0, 0, 0, []), (48, .getfield 48, 7, 7, 0, []), (51, .iload_n 1, 1, 0, 0, []), (52, .aaload, 0, 0, 0, []), (53, .invokevirtual 293, 67, 2, 1, []), (56, .iconst (-1), 0, 0, 0, []), (57, .if_icmp .ne (10), 3, 0, 0, []), (60, .iload_n 3, 3, 0, 0, []), (61, .iconst 1, 0, 0, 0, []), (62, .iload 4, 4, 0, 0, []), (64, .ishl, 0, 0, 0, []), (65, .ior, 0, 0, 0, []), (66, .istore_n 3, 3, 0, 0, []), (67, .nop, 3, 0, 0, [])])
def mk_b32_3 : List Bool × List mj_I := ([true, true, false, true, true], [(67, .iinc 4 1, 4, 0, 0, []), (70, .goto (-49), 2, 0, 0, [])])
def mk_b32_4 : List Bool × List mj_I := ([false, false, false, true, false], [(73, .iload_n 3, 3, 0, 0, []), (74, .ireturn, 0, 0, 0, [])])
def mk_m32 : Nat × Nat × List (List Bool × List mj_I) := (5, 8, [mk_b32_0, mk_b32_1, mk_b32_2, mk_b32_3, mk_b32_4])
/-- NumbersCalled.which(I)I -/
def mk_b33_0 : List Bool × List mj_I := ([true, true, false, false, false], [(0, .aload_n 0, 0, 0, 0, []), (1, .iload_n 1, 1, 0, 0, []), (2, .invokevirtual 290, 55, 2, 1, []), (5, .istore_n 2, 2, 0, 0, []), (6, .iload_n 2, 2, 0, 0, []), (7, .ifCond .eq (5), 1, 0, 0, []), (10, .iload_n 2, 2, 0, 0, []), (11, .ireturn, 0, 0, 0, [])])
def mk_b33_1 : List Bool × List mj_I := ([true, true, false, false, false], [(12, .iconst 0, 0, 0, 0, []), (13, .istore_n 3, 3, 0, 0, []), (14, .aload_n 0, 0, 0, 0, []), (15, .invokevirtual 249, 56, 1, 0, []), (18, .iconst 0, 0, 0, 0, []), (19, .istore 4, 4, 0, 0, []), (21, .nop, 2, 0, 0, [])])
def mk_b33_2 : List Bool × List mj_I := ([true, true, false, true, true], [(21, .iload 4, 4, 0, 0, []), (23, .iconst 4, 0, 0, 0, []), (24, .if_icmp .ge (46), 4, 0, 0, []), (27, .aload_n 0, 0, 0, 0, []), (28, .getfield 55, 8, 7, 0, []), (31, .getfield 234, 0, 1, 0, []), (34, .iload 4, 4, 0, 0, []), (36, .putfield 128, 6, 3, 0, []), (39, .aload_n 0, 0, 0, 0, []), (40, .invokevirtual 237, 57, 1, 0, []), (43, .aload_n 0, 0, 0, 0, []), (44, .aload_n 0, 0, 0, 0, []), (45, .getfield 48, 7, 7, 0, []), (48, .iload_n 1, 1, 0, 0, []), (49, .aaload, 0, 0, 0, []), (50, .invokevirtual 293, 67, 2, 1, []), (53, .iconst (-1), 0, 0, 0, []), (54, .if_icmp .ne (10), 3, 0, 0, []), (57, .iload_n 3, 3, 0, 0, []), (58, .iconst 1, 0, 0, 0, []), (59, .iload 4, 4, 0, 0, []), (61, .ishl, 0, 0, 0, []), (62, .ior, 0, 0, 0, []), (63, .istore_n 3, 3, 0, 0, []), (64, .nop, 3, 0, 0, [])])
def mk_b33_3 : List Bool × List mj_I := ([true, true, false, true, true], [(64, .iinc 4 1, 4, 0, 0, []), (67, .goto (-46), 2, 0, 0, [])])
def mk_b33_4 : List Bool × List mj_I := ([false, false, false, true, false], [(70, .iload_n 3, 3, 0, 0, []), (71, .ireturn, 0, 0, 0, [])])
def mk_m33 : Nat × Nat × List (List Bool × List mj_I) := (5, 8, [mk_b33_0, mk_b33_1, mk_b33_2, mk_b33_3, mk_b33_4])
/-- NumbersCalled.film(I)I -/
def mk_b34_0 : List Bool × List mj_I := ([true, true, false], [(0, .iload_n 1, 1, 0, 0, []), (1, .invokestatic 297, 48, 1, 1, []), (4, .ifCond .ne (6), 1, 0, 0, []), (7, .bipush (-2), 0, 0, 0, []), (9, .ireturn, 0, 0, 0, [])])
def mk_b34_1 : List Bool × List mj_I := ([true, true, false], [(10, .aload_n 0, 0, 0, 0, []), (11, .invokevirtual 197, 58, 1, 0, []), (14, .aload_n 0, 0, 0, 0, []), (15, .getfield 48, 7, 7, 0, []), (18, .iload_n 1, 1, 0, 0, []), (19, .aaload, 0, 0, 0, []), (20, .iconst 2, 0, 0, 0, []), (21, .aload_n 0, 0, 0, 0, []), (22, .getfield 10, 0, 7, 0, []), (25, .getfield 137, 4, 3, 0, []), (28, .invokevirtual 300, 195, 3, 0, []), (31, .iconst 0, 0, 0, 0, []), (32, .istore_n 2, 2, 0, 0, []), (33, .nop, 2, 0, 0, [])])
def mk_b34_2 : List Bool × List mj_I := ([true, true, true], [(33, .iload_n 2, 2, 0, 0, []), (34, .aload_n 0, 0, 0, 0, []), (35, .getfield 10, 0, 7, 0, []), (38, .getfield 137, 4, 3, 0, []), (41, .if_icmp .ge (28), 3, 0, 0, []), (44, .aload_n 0, 0, 0, 0, []), (45, .getfield 48, 7, 7, 0, []), (48, .iload_n 1, 1, 0, 0, []), (49, .aaload, 0, 0, 0, []), (50, .iload_n 2, 2, 0, 0, []), (51, .aload_n 0, 0, 0, 0, []), (52, .getfield 55, 8, 7, 0, []), (55, .getfield 206, 3, 1, 0, []), (58, .iload_n 2, 2, 0, 0, []), (59, .iaload, 0, 0, 0, []), (60, .invokevirtual 302, 196, 3, 0, []), (63, .iinc 2 1, 2, 0, 0, []), (66, .goto (-33), 2, 0, 0, [])])
def mk_b34_3 : List Bool × List mj_I := ([true, false, false], [(69, .aload_n 0, 0, 0, 0, []), (70, .getfield 10, 0, 7, 0, []), (73, .getfield 137, 4, 3, 0, []), (76, .ireturn, 0, 0, 0, [])])
def mk_m34 : Nat × Nat × List (List Bool × List mj_I) := (3, 8, [mk_b34_0, mk_b34_1, mk_b34_2, mk_b34_3])
/-- NumbersCalled.drawn(II)I -/
def mk_b35_0 : List Bool × List mj_I := ([true, true, true], [(0, .iload_n 1, 1, 0, 0, []), (1, .iconst 0, 0, 0, 0, []), (2, .ldc_w 305, 2, 0, 0, []), (5, .invokestatic 92, 44, 3, 1, []), (8, .ifCond .eq (13), 1, 0, 0, []), (11, .iload_n 2, 2, 0, 0, []), (12, .iconst 0, 0, 0, 0, []), (13, .bipush 7, 0, 0, 0, []), (15, .invokestatic 92, 44, 3, 1, []), (18, .ifCond .ne (6), 2, 0, 0, []), (21, .nop, 1, 0, 0, [])])
def mk_b35_1 : List Bool × List mj_I := ([false, false, false], [(21, .bipush (-2), 0, 0, 0, []), (23, .ireturn, 0, 0, 0, [])])
def mk_b35_2 : List Bool × List mj_I := ([true, true, true], [(24, .aload_n 0, 0, 0, 0, []), (25, .iload_n 1, 1, 0, 0, []), (26, .invokevirtual 306, 59, 2, 0, []), (29, .aload_n 0, 0, 0, 0, []), (30, .invokevirtual 237, 57, 1, 0, []), (33, .aload_n 0, 0, 0, 0, []), (34, .getfield 55, 8, 7, 0, []), (37, .iload_n 2, 2, 0, 0, []), (38, .invokevirtual 218, 187, 2, 1, []), (41, .ireturn, 0, 0, 0, [])])
def mk_m35 : Nat × Nat × List (List Bool × List mj_I) := (3, 8, [mk_b35_0, mk_b35_1, mk_b35_2])
/-- NumbersCalled.odds(IIII)J -/
def mk_b36_0 : List Bool × List mj_I := ([true, true, true, true, true, false, false], [(0, .iload_n 1, 1, 0, 0, []), (1, .iconst 0, 0, 0, 0, []), (2, .ldc_w 305, 2, 0, 0, []), (5, .invokestatic 92, 44, 3, 1, []), (8, .ifCond .eq (34), 1, 0, 0, []), (11, .iload_n 2, 2, 0, 0, []), (12, .iconst 1, 0, 0, 0, []), (13, .bipush 20, 0, 0, 0, []), (15, .invokestatic 92, 44, 3, 1, []), (18, .ifCond .eq (24), 1, 0, 0, []), (21, .iload_n 3, 3, 0, 0, []), (22, .iconst 0, 0, 0, 0, []), (23, .sipush 999, 0, 0, 0, []), (26, .invokestatic 92, 44, 3, 1, []), (29, .ifCond .eq (13), 1, 0, 0, []), (32, .iload 4, 4, 0, 0, []), (34, .iconst 0, 0, 0, 0, []), (35, .iconst 1, 0, 0, 0, []), (36, .invokestatic 92, 44, 3, 1, []), (39, .ifCond .ne (7), 2, 0, 0, []), (42, .nop, 1, 0, 0, [])])
def mk_b36_1 : List Bool × List mj_I := ([false, false, false, false, false, false, false], [(42, .ldc2_w 276, 0, 0, 0, []), (45, .lreturn, 0, 0, 0, [])])
def mk_b36_2 : List Bool × List mj_I := ([true, true, true, true, true, false, false], [(46, .iconst 0, 0, 0, 0, []), (47, .istore 5, 5, 0, 0, []), (49, .iconst 0, 0, 0, 0, []), (50, .istore 6, 6, 0, 0, []), (52, .nop, 3, 0, 0, [])])
def mk_b36_3 : List Bool × List mj_I := ([true, true, true, true, true, true, true], [(52, .iload 6, 6, 0, 0, []), (54, .iload_n 2, 2, 0, 0, []), (55, .if_icmp .ge (35), 5, 0, 0, []), (58, .aload_n 0, 0, 0, 0, []), (59, .iload_n 1, 1, 0, 0, []), (60, .iload 6, 6, 0, 0, []), (62, .iadd, 0, 0, 0, []), (63, .invokevirtual 306, 59, 2, 0, []), (66, .aload_n 0, 0, 0, 0, []), (67, .invokevirtual 237, 57, 1, 0, []), (70, .aload_n 0, 0, 0, 0, []), (71, .getfield 55, 8, 7, 0, []), (74, .iload_n 3, 3, 0, 0, []), (75, .invokevirtual 255, 186, 2, 1, []), (78, .ifCond .eq (6), 4, 0, 0, []), (81, .iinc 5 1, 5, 0, 0, []), (84, .nop, 4, 0, 0, [])])
def mk_b36_4 : List Bool × List mj_I := ([true, true, true, true, true, true, true], [(84, .iinc 6 1, 6, 0, 0, []), (87, .goto (-35), 3, 0, 0, [])])
def mk_b36_5 : List Bool × List mj_I := ([false, false, true, false, true, true, false], [(90, .iload 5, 5, 0, 0, []), (92, .iload_n 2, 2, 0, 0, []), (93, .invokestatic 309, 71, 2, 1, []), (96, .istore 6, 6, 0, 0, []), (98, .iload 4, 4, 0, 0, []), (100, .ifCond .ne (12), 6, 0, 0, []), (103, .iload 5, 5, 0, 0, []), (105, .iload 6, 6, 0, 0, []), (107, .idiv, 0, 0, 0, []), (108, .i2l, 0, 0, 0, []), (109, .goto (8), 7, 0, 0, [])])
def mk_b36_6 : List Bool × List mj_I := ([false, false, true, false, false, false, true], [(112, .iload_n 2, 2, 0, 0, []), (113, .iload 6, 6, 0, 0, []), (115, .idiv, 0, 0, 0, []), (116, .i2l, 0, 0, 0, []), (117, .nop, 7, 0, 0, [])])
def mk_b36_7 : List Bool × List mj_I := ([false, false, false, false, false, false, false], [(117, .lreturn, 0, 0, 0, [])])
def mk_m36 : Nat × Nat × List (List Bool × List mj_I) := (7, 8, [mk_b36_0, mk_b36_1, mk_b36_2, mk_b36_3, mk_b36_4, mk_b36_5, mk_b36_6, mk_b36_7])
/-- NumbersCalled.image()I -/
def mk_b37_0 : List Bool × List mj_I := ([true], [(0, .aload_n 0, 0, 0, 0, []), (1, .getfield 16, 1, 7, 0, []), (4, .aload_n 0, 0, 0, 0, []), (5, .getfield 10, 0, 7, 0, []), (8, .invokevirtual 312, 191, 2, 0, []), (11, .aload_n 0, 0, 0, 0, []), (12, .iconst 1, 0, 0, 0, []), (13, .putfield 19, 2, 7, 1, []), (16, .aload_n 0, 0, 0, 0, []), (17, .getfield 10, 0, 7, 0, []), (20, .getfield 137, 4, 3, 0, []), (23, .ireturn, 0, 0, 0, [])])
def mk_m37 : Nat × Nat × List (List Bool × List mj_I) := (1, 8, [mk_b37_0])
/-- NumbersCalled.back()I -/
def mk_b38_0 : List Bool × List mj_I := ([true], [(0, .aload_n 0, 0, 0, 0, []), (1, .getfield 19, 2, 7, 1, []), (4, .ifCond .ne (6), 1, 0, 0, []), (7, .bipush (-3), 0, 0, 0, []), (9, .ireturn, 0, 0, 0, [])])
def mk_b38_1 : List Bool × List mj_I := ([true], [(10, .aload_n 0, 0, 0, 0, []), (11, .getfield 10, 0, 7, 0, []), (14, .aload_n 0, 0, 0, 0, []), (15, .getfield 16, 1, 7, 0, []), (18, .invokevirtual 312, 191, 2, 0, []), (21, .aload_n 0, 0, 0, 0, []), (22, .getfield 10, 0, 7, 0, []), (25, .getfield 137, 4, 3, 0, []), (28, .ireturn, 0, 0, 0, [])])
def mk_m38 : Nat × Nat × List (List Bool × List mj_I) := (1, 8, [mk_b38_0, mk_b38_1])
/-- NumbersCalled.sheet(III)I -/
def mk_b39_0 : List Bool × List mj_I := ([true, true, true, true], [(0, .iload_n 1, 1, 0, 0, []), (1, .invokestatic 297, 48, 1, 1, []), (4, .ifCond .eq (12), 1, 0, 0, []), (7, .iload_n 2, 2, 0, 0, []), (8, .iconst (-1), 0, 0, 0, []), (9, .iconst 2, 0, 0, 0, []), (10, .invokestatic 92, 44, 3, 1, []), (13, .ifCond .ne (6), 2, 0, 0, []), (16, .nop, 1, 0, 0, [])])
def mk_b39_1 : List Bool × List mj_I := ([false, false, false, false], [(16, .bipush (-2), 0, 0, 0, []), (18, .ireturn, 0, 0, 0, [])])
def mk_b39_2 : List Bool × List mj_I := ([true, true, true, true], [(19, .iload_n 2, 2, 0, 0, []), (20, .iconst (-1), 0, 0, 0, []), (21, .if_icmp .ne (16), 3, 0, 0, []), (24, .aload_n 0, 0, 0, 0, []), (25, .getfield 48, 7, 7, 0, []), (28, .iload_n 1, 1, 0, 0, []), (29, .aaload, 0, 0, 0, []), (30, .iconst (-1), 0, 0, 0, []), (31, .iconst 0, 0, 0, 0, []), (32, .invokevirtual 300, 195, 3, 0, []), (35, .iconst 1, 0, 0, 0, []), (36, .ireturn, 0, 0, 0, [])])
def mk_b39_3 : List Bool × List mj_I := ([true, true, true, true], [(37, .iload_n 3, 3, 0, 0, []), (38, .bipush 40, 0, 0, 0, []), (40, .if_icmp .le (6), 4, 0, 0, []), (43, .bipush (-2), 0, 0, 0, []), (45, .ireturn, 0, 0, 0, [])])
def mk_b39_4 : List Bool × List mj_I := ([true, true, true, true], [(46, .iload_n 3, 3, 0, 0, []), (47, .ifCond .ge (6), 5, 0, 0, []), (50, .bipush (-14), 0, 0, 0, []), (52, .ireturn, 0, 0, 0, [])])
def mk_b39_5 : List Bool × List mj_I := ([true, true, true, true], [(53, .aload_n 0, 0, 0, 0, []), (54, .getfield 48, 7, 7, 0, []), (57, .iload_n 1, 1, 0, 0, []), (58, .aaload, 0, 0, 0, []), (59, .iload_n 2, 2, 0, 0, []), (60, .iload_n 3, 3, 0, 0, []), (61, .invokevirtual 300, 195, 3, 0, []), (64, .iconst 1, 0, 0, 0, []), (65, .ireturn, 0, 0, 0, [])])
def mk_m39 : Nat × Nat × List (List Bool × List mj_I) := (4, 8, [mk_b39_0, mk_b39_1, mk_b39_2, mk_b39_3, mk_b39_4, mk_b39_5])
/-- NumbersCalled.cell(III)I -/
def mk_b40_0 : List Bool × List mj_I := ([true, true, true, true], [(0, .iload_n 1, 1, 0, 0, []), (1, .invokestatic 297, 48, 1, 1, []), (4, .ifCond .ne (6), 1, 0, 0, []), (7, .bipush (-2), 0, 0, 0, []), (9, .ireturn, 0, 0, 0, [])])
def mk_b40_1 : List Bool × List mj_I := ([true, true, true, true], [(10, .aload_n 0, 0, 0, 0, []), (11, .getfield 48, 7, 7, 0, []), (14, .iload_n 1, 1, 0, 0, []), (15, .aaload, 0, 0, 0, []), (16, .invokevirtual 315, 194, 1, 1, []), (19, .ifCond .eq (6), 2, 0, 0, []), (22, .bipush (-11), 0, 0, 0, []), (24, .ireturn, 0, 0, 0, [])])
def mk_b40_2 : List Bool × List mj_I := ([true, true, true, true], [(25, .iload_n 2, 2, 0, 0, []), (26, .iconst 0, 0, 0, 0, []), (27, .aload_n 0, 0, 0, 0, []), (28, .getfield 48, 7, 7, 0, []), (31, .iload_n 1, 1, 0, 0, []), (32, .aaload, 0, 0, 0, []), (33, .getfield 319, 1, 4, 0, []), (36, .iconst 1, 0, 0, 0, []), (37, .isub, 0, 0, 0, []), (38, .invokestatic 92, 44, 3, 1, []), (41, .ifCond .ne (6), 3, 0, 0, []), (44, .bipush (-12), 0, 0, 0, []), (46, .ireturn, 0, 0, 0, [])])
def mk_b40_3 : List Bool × List mj_I := ([true, true, true, true], [(47, .aload_n 0, 0, 0, 0, []), (48, .getfield 48, 7, 7, 0, []), (51, .iload_n 1, 1, 0, 0, []), (52, .aaload, 0, 0, 0, []), (53, .iload_n 2, 2, 0, 0, []), (54, .iload_n 3, 3, 0, 0, []), (55, .invokevirtual 302, 196, 3, 0, []), (58, .iconst 1, 0, 0, 0, []), (59, .ireturn, 0, 0, 0, [])])
def mk_m40 : Nat × Nat × List (List Bool × List mj_I) := (4, 8, [mk_b40_0, mk_b40_1, mk_b40_2, mk_b40_3])
/-- NumbersCalled.copy(IIIII)I -/
def mk_b41_0 : List Bool × List mj_I := ([true, true, true, true, true, true, false, false], [(0, .iload_n 1, 1, 0, 0, []), (1, .invokestatic 297, 48, 1, 1, []), (4, .ifCond .eq (10), 1, 0, 0, []), (7, .iload_n 3, 3, 0, 0, []), (8, .invokestatic 297, 48, 1, 1, []), (11, .ifCond .ne (6), 2, 0, 0, []), (14, .nop, 1, 0, 0, [])])
def mk_b41_1 : List Bool × List mj_I := ([false, false, false, false, false, false, false, false], [(14, .bipush (-2), 0, 0, 0, []), (16, .ireturn, 0, 0, 0, [])])
def mk_b41_2 : List Bool × List mj_I := ([true, true, true, true, true, true, false, false], [(17, .aload_n 0, 0, 0, 0, []), (18, .getfield 48, 7, 7, 0, []), (21, .iload_n 1, 1, 0, 0, []), (22, .aaload, 0, 0, 0, []), (23, .astore 6, 6, 0, 0, []), (25, .aload_n 0, 0, 0, 0, []), (26, .getfield 48, 7, 7, 0, []), (29, .iload_n 3, 3, 0, 0, []), (30, .aaload, 0, 0, 0, []), (31, .astore 7, 7, 0, 0, []), (33, .aload 6, 6, 0, 0, []), (35, .invokevirtual 315, 194, 1, 1, []), (38, .ifCond .ne (11), 3, 0, 0, []), (41, .aload 7, 7, 0, 0, []), (43, .invokevirtual 315, 194, 1, 1, []), (46, .ifCond .eq (6), 4, 0, 0, []), (49, .nop, 3, 0, 0, [])])
def mk_b41_3 : List Bool × List mj_I := ([false, false, false, false, false, false, false, false], [(49, .bipush (-11), 0, 0, 0, []), (51, .ireturn, 0, 0, 0, [])])
def mk_b41_4 : List Bool × List mj_I := ([false, false, true, false, true, true, true, true], [(52, .aload 6, 6, 0, 0, []), (54, .getfield 320, 0, 4, 0, []), (57, .aload 7, 7, 0, 0, []), (59, .getfield 320, 0, 4, 0, []), (62, .if_icmp .eq (6), 5, 0, 0, []), (65, .bipush (-13), 0, 0, 0, []), (67, .ireturn, 0, 0, 0, [])])
def mk_b41_5 : List Bool × List mj_I := ([false, false, true, false, true, true, true, true], [(68, .iload 5, 5, 0, 0, []), (70, .ifCond .lt (36), 6, 0, 0, []), (73, .iload_n 2, 2, 0, 0, []), (74, .iconst 0, 0, 0, 0, []), (75, .aload 6, 6, 0, 0, []), (77, .getfield 319, 1, 4, 0, []), (80, .iload 5, 5, 0, 0, []), (82, .isub, 0, 0, 0, []), (83, .invokestatic 92, 44, 3, 1, []), (86, .ifCond .eq (20), 6, 0, 0, []), (89, .iload 4, 4, 0, 0, []), (91, .iconst 0, 0, 0, 0, []), (92, .aload 7, 7, 0, 0, []), (94, .getfield 319, 1, 4, 0, []), (97, .iload 5, 5, 0, 0, []), (99, .isub, 0, 0, 0, []), (100, .invokestatic 92, 44, 3, 1, []), (103, .ifCond .ne (6), 7, 0, 0, []), (106, .nop, 6, 0, 0, [])])
def mk_b41_6 : List Bool × List mj_I := ([false, false, false, false, false, false, false, false], [(106, .bipush (-12), 0, 0, 0, []), (108, .ireturn, 0, 0, 0, [])])
def mk_b41_7 : List Bool × List mj_I := ([false, false, true, false, true, true, true, true], [(109, .aload 6, 6, 0, 0, []), (111, .getfield 323, 2, 4, 0, []), (114, .iload_n 2, 2, 0, 0, []), (115, .aload 7, 7, 0, 0, []), (117, .getfield 323, 2, 4, 0, []), (120, .iload 4, 4, 0, 0, []), (122, .iload 5, 5, 0, 0, []), (124, .invokestatic 326, 0, 0, 6, []), (127, .iload 5, 5, 0, 0, []), (129, .ireturn, 0, 0, 0, [])])
def mk_m41 : Nat × Nat × List (List Bool × List mj_I) := (8, 8, [mk_b41_0, mk_b41_1, mk_b41_2, mk_b41_3, mk_b41_4, mk_b41_5, mk_b41_6, mk_b41_7])
/-- NumbersCalled.pulls(IIII)I -/
def mk_b42_0 : List Bool × List mj_I := ([true, true, true, true, true, false, false, false, false], [(0, .iload_n 1, 1, 0, 0, []), (1, .invokestatic 297, 48, 1, 1, []), (4, .ifCond .eq (23), 1, 0, 0, []), (7, .iload_n 2, 2, 0, 0, []), (8, .iconst 0, 0, 0, 0, []), (9, .iconst 2, 0, 0, 0, []), (10, .invokestatic 92, 44, 3, 1, []), (13, .ifCond .eq (14), 1, 0, 0, []), (16, .iload 4, 4, 0, 0, []), (18, .iconst 0, 0, 0, 0, []), (19, .bipush 13, 0, 0, 0, []), (21, .invokestatic 92, 44, 3, 1, []), (24, .ifCond .ne (6), 2, 0, 0, []), (27, .nop, 1, 0, 0, [])])
def mk_b42_1 : List Bool × List mj_I := ([false, false, false, false, false, false, false, false, false], [(27, .bipush (-2), 0, 0, 0, []), (29, .ireturn, 0, 0, 0, [])])
def mk_b42_2 : List Bool × List mj_I := ([true, true, true, true, true, false, false, false, false], [(30, .aload_n 0, 0, 0, 0, []), (31, .getfield 48, 7, 7, 0, []), (34, .iload_n 1, 1, 0, 0, []), (35, .aaload, 0, 0, 0, []), (36, .astore 5, 5, 0, 0, []), (38, .aload 5, 5, 0, 0, []), (40, .invokevirtual 315, 194, 1, 1, []), (43, .ifCond .eq (6), 3, 0, 0, []), (46, .bipush (-11), 0, 0, 0, []), (48, .ireturn, 0, 0, 0, [])])
def mk_b42_3 : List Bool × List mj_I := ([true, false, true, true, true, true, false, false, false], [(49, .aload 5, 5, 0, 0, []), (51, .getfield 320, 0, 4, 0, []), (54, .iload_n 2, 2, 0, 0, []), (55, .if_icmp .eq (6), 4, 0, 0, []), (58, .bipush (-13), 0, 0, 0, []), (60, .ireturn, 0, 0, 0, [])])
def mk_b42_4 : List Bool × List mj_I := ([true, false, false, true, true, true, false, false, false], [(61, .iconst 0, 0, 0, 0, []), (62, .istore 6, 6, 0, 0, []), (64, .iload_n 3, 3, 0, 0, []), (65, .istore 7, 7, 0, 0, []), (67, .iconst 0, 0, 0, 0, []), (68, .istore 8, 8, 0, 0, []), (70, .nop, 5, 0, 0, [])])
def mk_b42_5 : List Bool × List mj_I := ([true, false, false, false, true, true, true, true, true], [(70, .iload 8, 8, 0, 0, []), (72, .iload 4, 4, 0, 0, []), (74, .if_icmp .ge (69), 8, 0, 0, []), (77, .iload 7, 7, 0, 0, []), (79, .iconst 0, 0, 0, 0, []), (80, .aload 5, 5, 0, 0, []), (82, .getfield 319, 1, 4, 0, []), (85, .iconst 3, 0, 0, 0, []), (86, .isub, 0, 0, 0, []), (87, .invokestatic 92, 44, 3, 1, []), (90, .ifCond .ne (6), 6, 0, 0, []), (93, .bipush (-12), 0, 0, 0, []), (95, .ireturn, 0, 0, 0, [])])
def mk_b42_6 : List Bool × List mj_I := ([true, false, false, false, true, true, true, true, true], [(96, .aload_n 0, 0, 0, 0, []), (97, .aload 5, 5, 0, 0, []), (99, .getfield 323, 2, 4, 0, []), (102, .iload 7, 7, 0, 0, []), (104, .iaload, 0, 0, 0, []), (105, .aload 5, 5, 0, 0, []), (107, .getfield 323, 2, 4, 0, []), (110, .iload 7, 7, 0, 0, []), (112, .iconst 1, 0, 0, 0, []), (113, .iadd, 0, 0, 0, []), (114, .iaload, 0, 0, 0, []), (115, .aload 5, 5, 0, 0, []), (117, .getfield 323, 2, 4, 0, []), (120, .iload 7, 7, 0, 0, []), (122, .iconst 2, 0, 0, 0, []), (123, .iadd, 0, 0, 0, []), (124, .iaload, 0, 0, 0, []), (125, .invokevirtual 332, 8, 4, 1, []), (128, .ifCond .lt (6), 7, 0, 0, []), (131, .iinc 6 1, 6, 0, 0, []), (134, .nop, 7, 0, 0, [])])
def mk_b42_7 : List Bool × List mj_I := ([true, false, false, false, true, true, true, true, true], [(134, .iinc 7 3, 7, 0, 0, []), (137, .iinc 8 1, 8, 0, 0, []), (140, .goto (-70), 5, 0, 0, [])])
def mk_b42_8 : List Bool × List mj_I := ([false, false, false, false, false, false, true, false, false], [(143, .iload 6, 6, 0, 0, []), (145, .ireturn, 0, 0, 0, [])])
def mk_m42 : Nat × Nat × List (List Bool × List mj_I) := (9, 8, [mk_b42_0, mk_b42_1, mk_b42_2, mk_b42_3, mk_b42_4, mk_b42_5, mk_b42_6, mk_b42_7, mk_b42_8])
/-- NumbersCalled.taken(II)I -/
def mk_b43_0 : List Bool × List mj_I := ([true, true, true, false, false], [(0, .iload_n 2, 2, 0, 0, []), (1, .iconst 0, 0, 0, 0, []), (2, .bipush 6, 0, 0, 0, []), (4, .invokestatic 92, 44, 3, 1, []), (7, .ifCond .ne (6), 1, 0, 0, []), (10, .bipush (-2), 0, 0, 0, []), (12, .ireturn, 0, 0, 0, [])])
def mk_b43_1 : List Bool × List mj_I := ([true, true, true, false, false], [(13, .iload_n 1, 1, 0, 0, []), (14, .iconst 0, 0, 0, 0, []), (15, .bipush 19, 0, 0, 0, []), (17, .invokestatic 92, 44, 3, 1, []), (20, .ifCond .ne (6), 2, 0, 0, []), (23, .bipush (-12), 0, 0, 0, []), (25, .ireturn, 0, 0, 0, [])])
def mk_b43_2 : List Bool × List mj_I := ([true, true, true, false, false], [(26, .iload_n 2, 2, 0, 0, []), (27, .bipush 6, 0, 0, 0, []), (29, .if_icmp .ne (7), 3, 0, 0, []), (32, .iconst 1, 0, 0, 0, []), (33, .goto (4), 4, 0, 0, [])])
def mk_b43_3 : List Bool × List mj_I := ([true, true, true, false, false], [(36, .iconst 0, 0, 0, 0, []), (37, .nop, 4, 0, 0, [])])
def mk_b43_4 : List Bool × List mj_I := ([true, true, true, false, false], [(37, .istore_n 3, 3, 0, 0, []), (38, .iload_n 1, 1, 0, 0, []), (39, .iconst 4, 0, 0, 0, []), (40, .if_icmp .ge (33), 8, 0, 0, []), (43, .aload_n 0, 0, 0, 0, []), (44, .iload_n 1, 1, 0, 0, []), (45, .invokevirtual 109, 49, 2, 1, []), (48, .ifCond .ne (6), 5, 0, 0, []), (51, .bipush (-11), 0, 0, 0, []), (53, .ireturn, 0, 0, 0, [])])
def mk_b43_5 : List Bool × List mj_I := ([true, true, false, true, false], [(54, .iload_n 3, 3, 0, 0, []), (55, .ifCond .eq (15), 6, 0, 0, []), (58, .aload_n 0, 0, 0, 0, []), (59, .getfield 10, 0, 7, 0, []), (62, .getfield 99, 1, 3, 0, []), (65, .iload_n 1, 1, 0, 0, []), (66, .iaload, 0, 0, 0, []), (67, .goto (5), 7, 0, 0, [])])
def mk_b43_6 : List Bool × List mj_I := ([false, false, false, false, false], [(70, .bipush (-13), 0, 0, 0, []), (72, .nop, 7, 0, 0, [])])
def mk_b43_7 : List Bool × List mj_I := ([false, false, false, false, false], [(72, .ireturn, 0, 0, 0, [])])
def mk_b43_8 : List Bool × List mj_I := ([true, true, true, true, false], [(73, .iload_n 1, 1, 0, 0, []), (74, .iconst 4, 0, 0, 0, []), (75, .isub, 0, 0, 0, []), (76, .istore 4, 4, 0, 0, []), (78, .aload_n 0, 0, 0, 0, []), (79, .iload 4, 4, 0, 0, []), (81, .invokevirtual 164, 50, 2, 1, []), (84, .ifCond .ne (6), 9, 0, 0, []), (87, .bipush (-11), 0, 0, 0, []), (89, .ireturn, 0, 0, 0, [])])
def mk_b43_9 : List Bool × List mj_I := ([true, false, true, true, true], [(90, .iload_n 3, 3, 0, 0, []), (91, .ifCond .ne (22), 10, 0, 0, []), (94, .aload_n 0, 0, 0, 0, []), (95, .getfield 25, 3, 7, 0, []), (98, .iload 4, 4, 0, 0, []), (100, .aaload, 0, 0, 0, []), (101, .iload_n 2, 2, 0, 0, []), (102, .invokevirtual 336, 164, 2, 1, []), (105, .ifCond .eq (8), 10, 0, 0, []), (108, .iload 4, 4, 0, 0, []), (110, .goto (5), 11, 0, 0, [])])
def mk_b43_10 : List Bool × List mj_I := ([false, false, false, false, false], [(113, .bipush (-13), 0, 0, 0, []), (115, .nop, 11, 0, 0, [])])
def mk_b43_11 : List Bool × List mj_I := ([false, false, false, false, false], [(115, .ireturn, 0, 0, 0, [])])
def mk_m43 : Nat × Nat × List (List Bool × List mj_I) := (5, 8, [mk_b43_0, mk_b43_1, mk_b43_2, mk_b43_3, mk_b43_4, mk_b43_5, mk_b43_6, mk_b43_7, mk_b43_8, mk_b43_9, mk_b43_10, mk_b43_11])
/-- NumbersCalled.within(III)Z -/
def mk_b44_0 : List Bool × List mj_I := ([true, true, true], [(0, .iload_n 0, 0, 0, 0, []), (1, .iload_n 1, 1, 0, 0, []), (2, .if_icmp .lt (12), 1, 0, 0, []), (5, .iload_n 0, 0, 0, 0, []), (6, .iload_n 2, 2, 0, 0, []), (7, .if_icmp .gt (7), 1, 0, 0, []), (10, .iconst 1, 0, 0, 0, []), (11, .goto (4), 2, 0, 0, [])])
def mk_b44_1 : List Bool × List mj_I := ([false, false, false], [(14, .iconst 0, 0, 0, 0, []), (15, .nop, 2, 0, 0, [])])
def mk_b44_2 : List Bool × List mj_I := ([false, false, false], [(15, .ireturn, 0, 0, 1, [])])
def mk_m44 : Nat × Nat × List (List Bool × List mj_I) := (3, 0, [mk_b44_0, mk_b44_1, mk_b44_2])
/-- NumbersCalled.bounded(III)I -/
def mk_b45_0 : List Bool × List mj_I := ([true, true, true], [(0, .iload_n 0, 0, 0, 0, []), (1, .iload_n 1, 1, 0, 0, []), (2, .if_icmp .ge (5), 1, 0, 0, []), (5, .iload_n 1, 1, 0, 0, []), (6, .ireturn, 0, 0, 0, [])])
def mk_b45_1 : List Bool × List mj_I := ([true, false, true], [(7, .iload_n 0, 0, 0, 0, []), (8, .iload_n 2, 2, 0, 0, []), (9, .if_icmp .le (7), 2, 0, 0, []), (12, .iload_n 2, 2, 0, 0, []), (13, .goto (4), 3, 0, 0, [])])
def mk_b45_2 : List Bool × List mj_I := ([true, false, false], [(16, .iload_n 0, 0, 0, 0, []), (17, .nop, 3, 0, 0, [])])
def mk_b45_3 : List Bool × List mj_I := ([false, false, false], [(17, .ireturn, 0, 0, 0, [])])
def mk_m45 : Nat × Nat × List (List Bool × List mj_I) := (3, 0, [mk_b45_0, mk_b45_1, mk_b45_2, mk_b45_3])
/-- NumbersCalled.isByte(I)Z -/
def mk_b46_0 : List Bool × List mj_I := ([true], [(0, .iload_n 0, 0, 0, 0, []), (1, .iconst 0, 0, 0, 0, []), (2, .sipush 255, 0, 0, 0, []), (5, .invokestatic 92, 44, 3, 1, []), (8, .ireturn, 0, 0, 1, [])])
def mk_m46 : Nat × Nat × List (List Bool × List mj_I) := (1, 0, [mk_b46_0])
/-- NumbersCalled.isPull(I)Z -/
def mk_b47_0 : List Bool × List mj_I := ([true], [(0, .iload_n 0, 0, 0, 0, []), (1, .iconst 0, 0, 0, 0, []), (2, .sipush 3999, 0, 0, 0, []), (5, .invokestatic 92, 44, 3, 1, []), (8, .ifCond .eq (17), 1, 0, 0, []), (11, .iload_n 0, 0, 0, 0, []), (12, .bipush 10, 0, 0, 0, []), (14, .idiv, 0, 0, 0, []), (15, .bipush 100, 0, 0, 0, []), (17, .irem, 0, 0, 0, []), (18, .ifCond .le (7), 1, 0, 0, []), (21, .iconst 1, 0, 0, 0, []), (22, .goto (4), 2, 0, 0, [])])
def mk_b47_1 : List Bool × List mj_I := ([false], [(25, .iconst 0, 0, 0, 0, []), (26, .nop, 2, 0, 0, [])])
def mk_b47_2 : List Bool × List mj_I := ([false], [(26, .ireturn, 0, 0, 1, [])])
def mk_m47 : Nat × Nat × List (List Bool × List mj_I) := (1, 0, [mk_b47_0, mk_b47_1, mk_b47_2])
/-- NumbersCalled.isSheet(I)Z -/
def mk_b48_0 : List Bool × List mj_I := ([true], [(0, .iload_n 0, 0, 0, 0, []), (1, .iconst 0, 0, 0, 0, []), (2, .iconst 3, 0, 0, 0, []), (3, .invokestatic 92, 44, 3, 1, []), (6, .ireturn, 0, 0, 1, [])])
def mk_m48 : Nat × Nat × List (List Bool × List mj_I) := (1, 0, [mk_b48_0])
/-- NumbersCalled.isCounter(I)Z -/
def mk_b49_0 : List Bool × List mj_I := ([true, true], [(0, .iload_n 1, 1, 0, 0, []), (1, .iconst 0, 0, 0, 0, []), (2, .aload_n 0, 0, 0, 0, []), (3, .getfield 10, 0, 7, 0, []), (6, .getfield 96, 0, 3, 0, []), (9, .iconst 1, 0, 0, 0, []), (10, .isub, 0, 0, 0, []), (11, .invokestatic 92, 44, 3, 1, []), (14, .ireturn, 0, 0, 1, [])])
def mk_m49 : Nat × Nat × List (List Bool × List mj_I) := (2, 8, [mk_b49_0])
/-- NumbersCalled.isAsker(I)Z -/
def mk_b50_0 : List Bool × List mj_I := ([true, true], [(0, .iload_n 1, 1, 0, 0, []), (1, .iconst 0, 0, 0, 0, []), (2, .aload_n 0, 0, 0, 0, []), (3, .getfield 10, 0, 7, 0, []), (6, .getfield 137, 4, 3, 0, []), (9, .iconst 1, 0, 0, 0, []), (10, .isub, 0, 0, 0, []), (11, .invokestatic 92, 44, 3, 1, []), (14, .ireturn, 0, 0, 1, [])])
def mk_m50 : Nat × Nat × List (List Bool × List mj_I) := (2, 8, [mk_b50_0])
/-- NumbersCalled.isOfCounter(II)Z -/
def mk_b51_0 : List Bool × List mj_I := ([true, true], [(0, .iload_n 0, 0, 0, 0, []), (1, .tableswitch (51) 0 2 #[27, 35, 43], 4, 0, 0, [(0, 1), (1, 2), (2, 3)])])
def mk_b51_1 : List Bool × List mj_I := ([false, true], [(28, .iload_n 1, 1, 0, 0, []), (29, .iconst 0, 0, 0, 0, []), (30, .bipush 15, 0, 0, 0, []), (32, .invokestatic 92, 44, 3, 1, []), (35, .ireturn, 0, 0, 1, [])])
def mk_b51_2 : List Bool × List mj_I := ([false, true], [(36, .iload_n 1, 1, 0, 0, []), (37, .iconst 0, 0, 0, 0, []), (38, .bipush 9, 0, 0, 0, []), (40, .invokestatic 92, 44, 3, 1, []), (43, .ireturn, 0, 0, 1, [])])
def mk_b51_3 : List Bool × List mj_I := ([false, true], [(44, .iload_n 1, 1, 0, 0, []), (45, .iconst (-1), 0, 0, 0, []), (46, .bipush 119, 0, 0, 0, []), (48, .invokestatic 92, 44, 3, 1, []), (51, .ireturn, 0, 0, 1, [])])
def mk_b51_4 : List Bool × List mj_I := ([false, false], [(52, .iconst 0, 0, 0, 0, []), (53, .ireturn, 0, 0, 1, [])])
def mk_m51 : Nat × Nat × List (List Bool × List mj_I) := (2, 0, [mk_b51_0, mk_b51_1, mk_b51_2, mk_b51_3, mk_b51_4])
/-- NumbersCalled.ofCounter(II)I -/
def mk_b52_0 : List Bool × List mj_I := ([true, true, true], [(0, .iload_n 2, 2, 0, 0, []), (1, .lookupswitch (47) #[(0, 27), (1, 37)], 3, 0, 0, [(0, 1), (1, 2)])])
def mk_b52_1 : List Bool × List mj_I := ([true, true, false], [(28, .aload_n 0, 0, 0, 0, []), (29, .getfield 10, 0, 7, 0, []), (32, .getfield 99, 1, 3, 0, []), (35, .iload_n 1, 1, 0, 0, []), (36, .iaload, 0, 0, 0, []), (37, .ireturn, 0, 0, 0, [])])
def mk_b52_2 : List Bool × List mj_I := ([true, true, false], [(38, .aload_n 0, 0, 0, 0, []), (39, .getfield 10, 0, 7, 0, []), (42, .getfield 103, 2, 3, 0, []), (45, .iload_n 1, 1, 0, 0, []), (46, .iaload, 0, 0, 0, []), (47, .ireturn, 0, 0, 0, [])])
def mk_b52_3 : List Bool × List mj_I := ([true, true, false], [(48, .aload_n 0, 0, 0, 0, []), (49, .getfield 10, 0, 7, 0, []), (52, .getfield 106, 3, 3, 0, []), (55, .iload_n 1, 1, 0, 0, []), (56, .iaload, 0, 0, 0, []), (57, .ireturn, 0, 0, 0, [])])
def mk_m52 : Nat × Nat × List (List Bool × List mj_I) := (3, 8, [mk_b52_0, mk_b52_1, mk_b52_2, mk_b52_3])
/-- NumbersCalled.isOfHall(II)Z -/
def mk_b53_0 : List Bool × List mj_I := ([true, true], [(0, .iload_n 0, 0, 0, 0, []), (1, .lookupswitch (42) #[(0, 27), (1, 34)], 3, 0, 0, [(0, 1), (1, 2)])])
def mk_b53_1 : List Bool × List mj_I := ([false, true], [(28, .iload_n 1, 1, 0, 0, []), (29, .iconst 0, 0, 0, 0, []), (30, .iconst 3, 0, 0, 0, []), (31, .invokestatic 92, 44, 3, 1, []), (34, .ireturn, 0, 0, 1, [])])
def mk_b53_2 : List Bool × List mj_I := ([false, true], [(35, .iload_n 1, 1, 0, 0, []), (36, .iconst 1, 0, 0, 0, []), (37, .bipush 9, 0, 0, 0, []), (39, .invokestatic 92, 44, 3, 1, []), (42, .ireturn, 0, 0, 1, [])])
def mk_b53_3 : List Bool × List mj_I := ([false, true], [(43, .iload_n 1, 1, 0, 0, []), (44, .iconst 0, 0, 0, 0, []), (45, .bipush 120, 0, 0, 0, []), (47, .invokestatic 92, 44, 3, 1, []), (50, .ireturn, 0, 0, 1, [])])
def mk_m53 : Nat × Nat × List (List Bool × List mj_I) := (2, 0, [mk_b53_0, mk_b53_1, mk_b53_2, mk_b53_3])
/-- NumbersCalled.ofHall(I)I -/
def mk_b54_0 : List Bool × List mj_I := ([true, true], [(0, .iload_n 1, 1, 0, 0, []), (1, .lookupswitch (43) #[(0, 27), (1, 35)], 3, 0, 0, [(0, 1), (1, 2)])])
def mk_b54_1 : List Bool × List mj_I := ([true, false], [(28, .aload_n 0, 0, 0, 0, []), (29, .getfield 10, 0, 7, 0, []), (32, .getfield 128, 6, 3, 0, []), (35, .ireturn, 0, 0, 0, [])])
def mk_b54_2 : List Bool × List mj_I := ([true, false], [(36, .aload_n 0, 0, 0, 0, []), (37, .getfield 10, 0, 7, 0, []), (40, .getfield 131, 7, 3, 0, []), (43, .ireturn, 0, 0, 0, [])])
def mk_b54_3 : List Bool × List mj_I := ([true, false], [(44, .aload_n 0, 0, 0, 0, []), (45, .getfield 10, 0, 7, 0, []), (48, .getfield 134, 8, 3, 0, []), (51, .ireturn, 0, 0, 0, [])])
def mk_m54 : Nat × Nat × List (List Bool × List mj_I) := (2, 8, [mk_b54_0, mk_b54_1, mk_b54_2, mk_b54_3])
/-- NumbersCalled.refusalOfRoll(I)I -/
def mk_b55_0 : List Bool × List mj_I := ([true, true], [(0, .iload_n 1, 1, 0, 0, []), (1, .invokestatic 297, 48, 1, 1, []), (4, .ifCond .ne (6), 1, 0, 0, []), (7, .bipush (-2), 0, 0, 0, []), (9, .ireturn, 0, 0, 0, [])])
def mk_b55_1 : List Bool × List mj_I := ([true, true], [(10, .aload_n 0, 0, 0, 0, []), (11, .getfield 48, 7, 7, 0, []), (14, .iload_n 1, 1, 0, 0, []), (15, .aaload, 0, 0, 0, []), (16, .invokevirtual 315, 194, 1, 1, []), (19, .ifCond .eq (6), 2, 0, 0, []), (22, .bipush (-11), 0, 0, 0, []), (24, .ireturn, 0, 0, 0, [])])
def mk_b55_2 : List Bool × List mj_I := ([true, true], [(25, .aload_n 0, 0, 0, 0, []), (26, .getfield 48, 7, 7, 0, []), (29, .iload_n 1, 1, 0, 0, []), (30, .aaload, 0, 0, 0, []), (31, .getfield 319, 1, 4, 0, []), (34, .aload_n 0, 0, 0, 0, []), (35, .getfield 10, 0, 7, 0, []), (38, .getfield 137, 4, 3, 0, []), (41, .if_icmp .ne (7), 3, 0, 0, []), (44, .iconst 0, 0, 0, 0, []), (45, .goto (5), 4, 0, 0, [])])
def mk_b55_3 : List Bool × List mj_I := ([false, false], [(48, .bipush (-2), 0, 0, 0, []), (50, .nop, 4, 0, 0, [])])
def mk_b55_4 : List Bool × List mj_I := ([false, false], [(50, .ireturn, 0, 0, 0, [])])
def mk_m55 : Nat × Nat × List (List Bool × List mj_I) := (2, 8, [mk_b55_0, mk_b55_1, mk_b55_2, mk_b55_3, mk_b55_4])
/-- NumbersCalled.planAsItIs()V -/
def mk_b56_0 : List Bool × List mj_I := ([true], [(0, .aload_n 0, 0, 0, 0, []), (1, .getfield 55, 8, 7, 0, []), (4, .getfield 234, 0, 1, 0, []), (7, .aload_n 0, 0, 0, 0, []), (8, .getfield 10, 0, 7, 0, []), (11, .invokevirtual 312, 191, 2, 0, []), (14, .return_, 0, 0, 0, [])])
def mk_m56 : Nat × Nat × List (List Bool × List mj_I) := (1, 8, [mk_b56_0])
/-- NumbersCalled.live()V -/
def mk_b57_0 : List Bool × List mj_I := ([true], [(0, .aload_n 0, 0, 0, 0, []), (1, .getfield 55, 8, 7, 0, []), (4, .aload_n 0, 0, 0, 0, []), (5, .getfield 25, 3, 7, 0, []), (8, .aload_n 0, 0, 0, 0, []), (9, .getfield 31, 4, 7, 0, []), (12, .aload_n 0, 0, 0, 0, []), (13, .getfield 55, 8, 7, 0, []), (16, .getfield 234, 0, 1, 0, []), (19, .getfield 139, 9, 3, 0, []), (22, .aaload, 0, 0, 0, []), (23, .invokevirtual 339, 170, 3, 0, []), (26, .return_, 0, 0, 0, [])])
def mk_m57 : Nat × Nat × List (List Bool × List mj_I) := (1, 8, [mk_b57_0])
/-- NumbersCalled.liveAsItIs()V -/
def mk_b58_0 : List Bool × List mj_I := ([true], [(0, .aload_n 0, 0, 0, 0, []), (1, .invokevirtual 249, 56, 1, 0, []), (4, .aload_n 0, 0, 0, 0, []), (5, .invokevirtual 237, 57, 1, 0, []), (8, .return_, 0, 0, 0, [])])
def mk_m58 : Nat × Nat × List (List Bool × List mj_I) := (1, 8, [mk_b58_0])
/-- NumbersCalled.planDrawn(I)V -/
def mk_b59_0 : List Bool × List mj_I := ([true, true, false, false, false, false], [(0, .aload_n 0, 0, 0, 0, []), (1, .invokevirtual 249, 56, 1, 0, []), (4, .iload_n 1, 1, 0, 0, []), (5, .i2l, 0, 0, 0, []), (6, .lconst 1, 0, 0, 0, []), (7, .ladd, 0, 0, 0, []), (8, .lstore_n 2, 2, 0, 0, []), (9, .iconst 0, 0, 0, 0, []), (10, .istore 4, 4, 0, 0, []), (12, .nop, 1, 0, 0, [])])
def mk_b59_1 : List Bool × List mj_I := ([true, false, true, false, true, false], [(12, .iload 4, 4, 0, 0, []), (14, .aload_n 0, 0, 0, 0, []), (15, .getfield 10, 0, 7, 0, []), (18, .getfield 137, 4, 3, 0, []), (21, .if_icmp .ge (62), 2, 0, 0, []), (24, .lload_n 2, 2, 0, 0, []), (25, .ldc2_w 343, 3, 0, 0, []), (28, .lmul, 0, 0, 0, []), (29, .ldc2_w 345, 4, 0, 0, []), (32, .lrem, 0, 0, 0, []), (33, .lstore_n 2, 2, 0, 0, []), (34, .lload_n 2, 2, 0, 0, []), (35, .ldc2_w 347, 5, 0, 0, []), (38, .lrem, 0, 0, 0, []), (39, .l2i, 0, 0, 0, []), (40, .bipush 10, 0, 0, 0, []), (42, .isub, 0, 0, 0, []), (43, .istore 5, 5, 0, 0, []), (45, .aload_n 0, 0, 0, 0, []), (46, .getfield 55, 8, 7, 0, []), (49, .getfield 234, 0, 1, 0, []), (52, .getfield 161, 5, 3, 0, []), (55, .iload 4, 4, 0, 0, []), (57, .aload_n 0, 0, 0, 0, []), (58, .getfield 10, 0, 7, 0, []), (61, .getfield 161, 5, 3, 0, []), (64, .iload 4, 4, 0, 0, []), (66, .iaload, 0, 0, 0, []), (67, .iload 5, 5, 0, 0, []), (69, .iadd, 0, 0, 0, []), (70, .iconst 0, 0, 0, 0, []), (71, .bipush 119, 0, 0, 0, []), (73, .invokestatic 349, 45, 3, 1, []), (76, .iastore, 0, 0, 0, []), (77, .iinc 4 1, 4, 0, 0, []), (80, .goto (-68), 1, 0, 0, [])])
def mk_b59_2 : List Bool × List mj_I := ([false, false, false, false, false, false], [(83, .return_, 0, 0, 0, [])])
def mk_m59 : Nat × Nat × List (List Bool × List mj_I) := (6, 8, [mk_b59_0, mk_b59_1, mk_b59_2])
/-- NumbersCalled.isTrained(III)Z -/
def mk_b60_0 : List Bool × List mj_I := ([true, true, true, true], [(0, .aload_n 0, 0, 0, 0, []), (1, .invokevirtual 249, 56, 1, 0, []), (4, .aload_n 0, 0, 0, 0, []), (5, .getfield 55, 8, 7, 0, []), (8, .getfield 234, 0, 1, 0, []), (11, .iload_n 1, 1, 0, 0, []), (12, .invokevirtual 352, 192, 2, 0, []), (15, .aload_n 0, 0, 0, 0, []), (16, .getfield 55, 8, 7, 0, []), (19, .getfield 234, 0, 1, 0, []), (22, .iload_n 2, 2, 0, 0, []), (23, .invokevirtual 352, 192, 2, 0, []), (26, .aload_n 0, 0, 0, 0, []), (27, .invokevirtual 237, 57, 1, 0, []), (30, .aload_n 0, 0, 0, 0, []), (31, .getfield 55, 8, 7, 0, []), (34, .iconst 2, 0, 0, 0, []), (35, .invokevirtual 355, 180, 2, 1, []), (38, .aload_n 0, 0, 0, 0, []), (39, .getfield 10, 0, 7, 0, []), (42, .getfield 137, 4, 3, 0, []), (45, .if_icmp .ne (18), 1, 0, 0, []), (48, .aload_n 0, 0, 0, 0, []), (49, .getfield 55, 8, 7, 0, []), (52, .invokevirtual 358, 182, 1, 1, []), (55, .iload_n 3, 3, 0, 0, []), (56, .if_icmp .gt (7), 1, 0, 0, []), (59, .iconst 1, 0, 0, 0, []), (60, .goto (4), 2, 0, 0, [])])
def mk_b60_1 : List Bool × List mj_I := ([false, false, false, false], [(63, .iconst 0, 0, 0, 0, []), (64, .nop, 2, 0, 0, [])])
def mk_b60_2 : List Bool × List mj_I := ([false, false, false, false], [(64, .ireturn, 0, 0, 1, [])])
def mk_m60 : Nat × Nat × List (List Bool × List mj_I) := (4, 8, [mk_b60_0, mk_b60_1, mk_b60_2])
/-- NumbersCalled.skillName(I)I -/
def mk_b61_0 : List Bool × List mj_I := ([true], [(0, .iload_n 0, 0, 0, 0, []), (1, .iconst 4, 0, 0, 0, []), (2, .idiv, 0, 0, 0, []), (3, .bipush 10, 0, 0, 0, []), (5, .imul, 0, 0, 0, []), (6, .iload_n 0, 0, 0, 0, []), (7, .iconst 4, 0, 0, 0, []), (8, .irem, 0, 0, 0, []), (9, .iadd, 0, 0, 0, []), (10, .ireturn, 0, 0, 0, [])])
def mk_m61 : Nat × Nat × List (List Bool × List mj_I) := (1, 0, [mk_b61_0])
/-- NumbersCalled.someoneComes(I)Z -/
def mk_b62_0 : List Bool × List mj_I := ([true, true, false], [(0, .iconst 0, 0, 0, 0, []), (1, .istore_n 2, 2, 0, 0, []), (2, .nop, 1, 0, 0, [])])
def mk_b62_1 : List Bool × List mj_I := ([true, true, true], [(2, .iload_n 2, 2, 0, 0, []), (3, .aload_n 0, 0, 0, 0, []), (4, .getfield 10, 0, 7, 0, []), (7, .getfield 137, 4, 3, 0, []), (10, .if_icmp .ge (24), 3, 0, 0, []), (13, .aload_n 0, 0, 0, 0, []), (14, .getfield 10, 0, 7, 0, []), (17, .getfield 161, 5, 3, 0, []), (20, .iload_n 2, 2, 0, 0, []), (21, .iaload, 0, 0, 0, []), (22, .iload_n 1, 1, 0, 0, []), (23, .if_icmp .ne (5), 2, 0, 0, []), (26, .iconst 1, 0, 0, 0, []), (27, .ireturn, 0, 0, 1, [])])
def mk_b62_2 : List Bool × List mj_I := ([true, true, true], [(28, .iinc 2 1, 2, 0, 0, []), (31, .goto (-29), 1, 0, 0, [])])
def mk_b62_3 : List Bool × List mj_I := ([false, false, false], [(34, .iconst 0, 0, 0, 0, []), (35, .ireturn, 0, 0, 1, [])])
def mk_m62 : Nat × Nat × List (List Bool × List mj_I) := (3, 8, [mk_b62_0, mk_b62_1, mk_b62_2, mk_b62_3])
/-- NumbersCalled.waitsOfOthers(I)I -/
def mk_b63_0 : List Bool × List mj_I := ([true, true, false, false, false], [(0, .iconst 0, 0, 0, 0, []), (1, .istore_n 2, 2, 0, 0, []), (2, .iconst 0, 0, 0, 0, []), (3, .istore_n 3, 3, 0, 0, []), (4, .nop, 1, 0, 0, [])])
def mk_b63_1 : List Bool × List mj_I := ([true, true, true, true, false], [(4, .iload_n 3, 3, 0, 0, []), (5, .aload_n 0, 0, 0, 0, []), (6, .getfield 10, 0, 7, 0, []), (9, .getfield 137, 4, 3, 0, []), (12, .if_icmp .ge (79), 7, 0, 0, []), (15, .iload_n 1, 1, 0, 0, []), (16, .iconst 1, 0, 0, 0, []), (17, .if_icmp .ne (15), 2, 0, 0, []), (20, .aload_n 0, 0, 0, 0, []), (21, .getfield 25, 3, 7, 0, []), (24, .iload_n 3, 3, 0, 0, []), (25, .aaload, 0, 0, 0, []), (26, .invokevirtual 361, 165, 1, 1, []), (29, .ifCond .ne (20), 3, 0, 0, []), (32, .nop, 2, 0, 0, [])])
def mk_b63_2 : List Bool × List mj_I := ([true, true, true, true, false], [(32, .iload_n 1, 1, 0, 0, []), (33, .iconst 3, 0, 0, 0, []), (34, .if_icmp .ne (19), 4, 0, 0, []), (37, .aload_n 0, 0, 0, 0, []), (38, .getfield 25, 3, 7, 0, []), (41, .iload_n 3, 3, 0, 0, []), (42, .aaload, 0, 0, 0, []), (43, .invokevirtual 364, 166, 1, 1, []), (46, .ifCond .eq (7), 4, 0, 0, []), (49, .nop, 3, 0, 0, [])])
def mk_b63_3 : List Bool × List mj_I := ([true, true, true, true, false], [(49, .iconst 1, 0, 0, 0, []), (50, .goto (4), 5, 0, 0, [])])
def mk_b63_4 : List Bool × List mj_I := ([true, true, true, true, false], [(53, .iconst 0, 0, 0, 0, []), (54, .nop, 5, 0, 0, [])])
def mk_b63_5 : List Bool × List mj_I := ([true, true, true, true, false], [(54, .istore 4, 4, 0, 0, []), (56, .iload 4, 4, 0, 0, []), (58, .ifCond .ne (27), 6, 0, 0, []), (61, .aload_n 0, 0, 0, 0, []), (62, .getfield 55, 8, 7, 0, []), (65, .getfield 200, 1, 1, 0, []), (68, .iload_n 3, 3, 0, 0, []), (69, .iaload, 0, 0, 0, []), (70, .iconst 2, 0, 0, 0, []), (71, .if_icmp .ne (14), 6, 0, 0, []), (74, .iload_n 2, 2, 0, 0, []), (75, .aload_n 0, 0, 0, 0, []), (76, .getfield 55, 8, 7, 0, []), (79, .iload_n 3, 3, 0, 0, []), (80, .invokevirtual 212, 178, 2, 1, []), (83, .iadd, 0, 0, 0, []), (84, .istore_n 2, 2, 0, 0, []), (85, .nop, 6, 0, 0, [])])
def mk_b63_6 : List Bool × List mj_I := ([true, true, true, true, false], [(85, .iinc 3 1, 3, 0, 0, []), (88, .goto (-84), 1, 0, 0, [])])
def mk_b63_7 : List Bool × List mj_I := ([false, false, true, false, false], [(91, .iload_n 2, 2, 0, 0, []), (92, .ireturn, 0, 0, 0, [])])
def mk_m63 : Nat × Nat × List (List Bool × List mj_I) := (5, 8, [mk_b63_0, mk_b63_1, mk_b63_2, mk_b63_3, mk_b63_4, mk_b63_5, mk_b63_6, mk_b63_7])
/-- NumbersCalled.minded(LNumbersCalled$Asker;II)I -/
def mk_b64_0 : List Bool × List mj_I := ([true, true, true, true], [(0, .aload_n 0, 0, 0, 0, []), (1, .getfield 31, 4, 7, 0, []), (4, .aload_n 0, 0, 0, 0, []), (5, .getfield 10, 0, 7, 0, []), (8, .getfield 139, 9, 3, 0, []), (11, .aaload, 0, 0, 0, []), (12, .iconst 2, 0, 0, 0, []), (13, .aload_n 1, 1, 0, 0, []), (14, .iload_n 2, 2, 0, 0, []), (15, .iconst 0, 0, 0, 0, []), (16, .iload_n 3, 3, 0, 0, []), (17, .invokevirtual 182, 215, 6, 1, []), (20, .iconst 0, 0, 0, 0, []), (21, .sipush 999, 0, 0, 0, []), (24, .invokestatic 349, 45, 3, 1, []), (27, .ireturn, 0, 0, 0, [])])
def mk_m64 : Nat × Nat × List (List Bool × List mj_I) := (4, 8, [mk_b64_0])
/-- NumbersCalled.seekBest(I)V -/
def mk_b65_0 : List Bool × List mj_I := ([true, true, false], [(0, .aload_n 0, 0, 0, 0, []), (1, .getfield 62, 9, 7, 0, []), (4, .invokevirtual 227, 188, 1, 0, []), (7, .iconst 0, 0, 0, 0, []), (8, .istore_n 2, 2, 0, 0, []), (9, .nop, 1, 0, 0, [])])
def mk_b65_1 : List Bool × List mj_I := ([true, true, true], [(9, .iload_n 2, 2, 0, 0, []), (10, .bipush 100, 0, 0, 0, []), (12, .if_icmp .gt (42), 2, 0, 0, []), (15, .aload_n 0, 0, 0, 0, []), (16, .getfield 55, 8, 7, 0, []), (19, .getfield 234, 0, 1, 0, []), (22, .getfield 161, 5, 3, 0, []), (25, .iload_n 1, 1, 0, 0, []), (26, .iload_n 2, 2, 0, 0, []), (27, .iastore, 0, 0, 0, []), (28, .aload_n 0, 0, 0, 0, []), (29, .invokevirtual 237, 57, 1, 0, []), (32, .aload_n 0, 0, 0, 0, []), (33, .getfield 62, 9, 7, 0, []), (36, .iload_n 2, 2, 0, 0, []), (37, .aload_n 0, 0, 0, 0, []), (38, .getfield 55, 8, 7, 0, []), (41, .iload_n 1, 1, 0, 0, []), (42, .invokevirtual 367, 179, 2, 1, []), (45, .invokevirtual 230, 189, 3, 0, []), (48, .iinc 2 20, 2, 0, 0, []), (51, .goto (-42), 1, 0, 0, [])])
def mk_b65_2 : List Bool × List mj_I := ([false, false, false], [(54, .return_, 0, 0, 0, [])])
def mk_m65 : Nat × Nat × List (List Bool × List mj_I) := (3, 8, [mk_b65_0, mk_b65_1, mk_b65_2])
/-- NumbersCalled.wouldMove(I)Z -/
def mk_b66_0 : List Bool × List mj_I := ([true, true, false], [(0, .aload_n 0, 0, 0, 0, []), (1, .invokevirtual 197, 58, 1, 0, []), (4, .aload_n 0, 0, 0, 0, []), (5, .getfield 55, 8, 7, 0, []), (8, .iload_n 1, 1, 0, 0, []), (9, .invokevirtual 367, 179, 2, 1, []), (12, .istore_n 2, 2, 0, 0, []), (13, .aload_n 0, 0, 0, 0, []), (14, .iload_n 1, 1, 0, 0, []), (15, .invokevirtual 267, 65, 2, 0, []), (18, .aload_n 0, 0, 0, 0, []), (19, .getfield 62, 9, 7, 0, []), (22, .getfield 370, 1, 2, 0, []), (25, .iload_n 2, 2, 0, 0, []), (26, .if_icmp .ge (7), 1, 0, 0, []), (29, .iconst 1, 0, 0, 0, []), (30, .goto (4), 2, 0, 0, [])])
def mk_b66_1 : List Bool × List mj_I := ([false, false, false], [(33, .iconst 0, 0, 0, 0, []), (34, .nop, 2, 0, 0, [])])
def mk_b66_2 : List Bool × List mj_I := ([false, false, false], [(34, .ireturn, 0, 0, 1, [])])
def mk_m66 : Nat × Nat × List (List Bool × List mj_I) := (3, 8, [mk_b66_0, mk_b66_1, mk_b66_2])
/-- NumbersCalled.firstOtherwise(LNumbersCalled$Sheet;)I -/
def mk_b67_0 : List Bool × List mj_I := ([true, true, false], [(0, .iconst 0, 0, 0, 0, []), (1, .istore_n 2, 2, 0, 0, []), (2, .nop, 1, 0, 0, [])])
def mk_b67_1 : List Bool × List mj_I := ([true, true, true], [(2, .iload_n 2, 2, 0, 0, []), (3, .aload_n 0, 0, 0, 0, []), (4, .getfield 10, 0, 7, 0, []), (7, .getfield 137, 4, 3, 0, []), (10, .if_icmp .ge (29), 3, 0, 0, []), (13, .aload_n 1, 1, 0, 0, []), (14, .getfield 323, 2, 4, 0, []), (17, .iload_n 2, 2, 0, 0, []), (18, .iaload, 0, 0, 0, []), (19, .aload_n 0, 0, 0, 0, []), (20, .getfield 55, 8, 7, 0, []), (23, .getfield 206, 3, 1, 0, []), (26, .iload_n 2, 2, 0, 0, []), (27, .iaload, 0, 0, 0, []), (28, .if_icmp .eq (5), 2, 0, 0, []), (31, .iload_n 2, 2, 0, 0, []), (32, .ireturn, 0, 0, 0, [])])
def mk_b67_2 : List Bool × List mj_I := ([true, true, true], [(33, .iinc 2 1, 2, 0, 0, []), (36, .goto (-34), 1, 0, 0, [])])
def mk_b67_3 : List Bool × List mj_I := ([false, false, false], [(39, .iconst (-1), 0, 0, 0, []), (40, .ireturn, 0, 0, 0, [])])
def mk_m67 : Nat × Nat × List (List Bool × List mj_I) := (3, 8, [mk_b67_0, mk_b67_1, mk_b67_2, mk_b67_3])
/-- NumbersCalled.startParts()V -/
def mk_b68_0 : List Bool × List mj_I := ([true, false], [(0, .iconst 0, 0, 0, 0, []), (1, .istore_n 1, 1, 0, 0, []), (2, .nop, 1, 0, 0, [])])
def mk_b68_1 : List Bool × List mj_I := ([true, true], [(2, .iload_n 1, 1, 0, 0, []), (3, .bipush 40, 0, 0, 0, []), (5, .if_icmp .gt (16), 2, 0, 0, []), (8, .aload_n 0, 0, 0, 0, []), (9, .getfield 66, 10, 7, 0, []), (12, .iload_n 1, 1, 0, 0, []), (13, .lconst 0, 0, 0, 0, []), (14, .lastore, 0, 0, 0, []), (15, .iinc 1 1, 1, 0, 0, []), (18, .goto (-16), 1, 0, 0, [])])
def mk_b68_2 : List Bool × List mj_I := ([true, false], [(21, .aload_n 0, 0, 0, 0, []), (22, .getfield 66, 10, 7, 0, []), (25, .iconst 0, 0, 0, 0, []), (26, .ldc2_w 373, 6, 0, 0, []), (29, .lastore, 0, 0, 0, []), (30, .return_, 0, 0, 0, [])])
def mk_m68 : Nat × Nat × List (List Bool × List mj_I) := (2, 8, [mk_b68_0, mk_b68_1, mk_b68_2])
/-- NumbersCalled.giveOneMore(II)V -/
def mk_b69_0 : List Bool × List mj_I := ([true, true, true, false, false, false], [(0, .bipush 100, 0, 0, 0, []), (2, .iload_n 2, 2, 0, 0, []), (3, .isub, 0, 0, 0, []), (4, .i2l, 0, 0, 0, []), (5, .lstore_n 3, 3, 0, 0, []), (6, .iload_n 1, 1, 0, 0, []), (7, .istore 5, 5, 0, 0, []), (9, .nop, 1, 0, 0, [])])
def mk_b69_1 : List Bool × List mj_I := ([true, false, true, true, false, true], [(9, .iload 5, 5, 0, 0, []), (11, .iconst 1, 0, 0, 0, []), (12, .if_icmp .lt (46), 2, 0, 0, []), (15, .aload_n 0, 0, 0, 0, []), (16, .getfield 66, 10, 7, 0, []), (19, .iload 5, 5, 0, 0, []), (21, .aload_n 0, 0, 0, 0, []), (22, .getfield 66, 10, 7, 0, []), (25, .iload 5, 5, 0, 0, []), (27, .laload, 0, 0, 0, []), (28, .lload_n 3, 3, 0, 0, []), (29, .lmul, 0, 0, 0, []), (30, .ldc2_w 375, 7, 0, 0, []), (33, .ldiv, 0, 0, 0, []), (34, .aload_n 0, 0, 0, 0, []), (35, .getfield 66, 10, 7, 0, []), (38, .iload 5, 5, 0, 0, []), (40, .iconst 1, 0, 0, 0, []), (41, .isub, 0, 0, 0, []), (42, .laload, 0, 0, 0, []), (43, .iload_n 2, 2, 0, 0, []), (44, .i2l, 0, 0, 0, []), (45, .lmul, 0, 0, 0, []), (46, .ldc2_w 375, 7, 0, 0, []), (49, .ldiv, 0, 0, 0, []), (50, .ladd, 0, 0, 0, []), (51, .lastore, 0, 0, 0, []), (52, .iinc 5 (-1), 5, 0, 0, []), (55, .goto (-46), 1, 0, 0, [])])
def mk_b69_2 : List Bool × List mj_I := ([true, false, false, true, false, false], [(58, .aload_n 0, 0, 0, 0, []), (59, .getfield 66, 10, 7, 0, []), (62, .iconst 0, 0, 0, 0, []), (63, .aload_n 0, 0, 0, 0, []), (64, .getfield 66, 10, 7, 0, []), (67, .iconst 0, 0, 0, 0, []), (68, .laload, 0, 0, 0, []), (69, .lload_n 3, 3, 0, 0, []), (70, .lmul, 0, 0, 0, []), (71, .ldc2_w 375, 7, 0, 0, []), (74, .ldiv, 0, 0, 0, []), (75, .lastore, 0, 0, 0, []), (76, .return_, 0, 0, 0, [])])
def mk_m69 : Nat × Nat × List (List Bool × List mj_I) := (6, 8, [mk_b69_0, mk_b69_1, mk_b69_2])
/-- NumbersCalled.partsAbove(I)J -/
def mk_b70_0 : List Bool × List mj_I := ([true, true, false, false, false], [(0, .lconst 0, 0, 0, 0, []), (1, .lstore_n 2, 2, 0, 0, []), (2, .iload_n 1, 1, 0, 0, []), (3, .iconst 1, 0, 0, 0, []), (4, .iadd, 0, 0, 0, []), (5, .istore 4, 4, 0, 0, []), (7, .nop, 1, 0, 0, [])])
def mk_b70_1 : List Bool × List mj_I := ([true, false, true, false, true], [(7, .iload 4, 4, 0, 0, []), (9, .bipush 40, 0, 0, 0, []), (11, .if_icmp .gt (19), 2, 0, 0, []), (14, .lload_n 2, 2, 0, 0, []), (15, .aload_n 0, 0, 0, 0, []), (16, .getfield 66, 10, 7, 0, []), (19, .iload 4, 4, 0, 0, []), (21, .laload, 0, 0, 0, []), (22, .ladd, 0, 0, 0, []), (23, .lstore_n 2, 2, 0, 0, []), (24, .iinc 4 1, 4, 0, 0, []), (27, .goto (-20), 1, 0, 0, [])])
def mk_b70_2 : List Bool × List mj_I := ([false, false, true, false, false], [(30, .lload_n 2, 2, 0, 0, []), (31, .lreturn, 0, 0, 0, [])])
def mk_m70 : Nat × Nat × List (List Bool × List mj_I) := (5, 8, [mk_b70_0, mk_b70_1, mk_b70_2])
/-- NumbersCalled.commonDivisor(II)I -/
def mk_b71_0 : List Bool × List mj_I := ([true, true, false], [(0, .iload_n 1, 1, 0, 0, []), (1, .istore_n 2, 2, 0, 0, []), (2, .nop, 1, 0, 0, [])])
def mk_b71_1 : List Bool × List mj_I := ([true, true, true], [(2, .iload_n 2, 2, 0, 0, []), (3, .iconst 1, 0, 0, 0, []), (4, .if_icmp .le (23), 3, 0, 0, []), (7, .iload_n 0, 0, 0, 0, []), (8, .iload_n 2, 2, 0, 0, []), (9, .irem, 0, 0, 0, []), (10, .ifCond .ne (11), 2, 0, 0, []), (13, .iload_n 1, 1, 0, 0, []), (14, .iload_n 2, 2, 0, 0, []), (15, .irem, 0, 0, 0, []), (16, .ifCond .ne (5), 2, 0, 0, []), (19, .iload_n 2, 2, 0, 0, []), (20, .ireturn, 0, 0, 0, [])])
def mk_b71_2 : List Bool × List mj_I := ([true, true, true], [(21, .iinc 2 (-1), 2, 0, 0, []), (24, .goto (-22), 1, 0, 0, [])])
def mk_b71_3 : List Bool × List mj_I := ([false, false, false], [(27, .iconst 1, 0, 0, 0, []), (28, .ireturn, 0, 0, 0, [])])
def mk_m71 : Nat × Nat × List (List Bool × List mj_I) := (3, 0, [mk_b71_0, mk_b71_1, mk_b71_2, mk_b71_3])
/-- NumbersCalledModel.in(III)Z -/
def mk_b72_0 : List Bool × List mj_I := ([true, true, true], [(0, .iload_n 0, 0, 0, 0, []), (1, .iload_n 1, 1, 0, 0, []), (2, .if_icmp .lt (12), 1, 0, 0, []), (5, .iload_n 0, 0, 0, 0, []), (6, .iload_n 2, 2, 0, 0, []), (7, .if_icmp .gt (7), 1, 0, 0, []), (10, .iconst 1, 0, 0, 0, []), (11, .goto (4), 2, 0, 0, [])])
def mk_b72_1 : List Bool × List mj_I := ([false, false, false], [(14, .iconst 0, 0, 0, 0, []), (15, .nop, 2, 0, 0, [])])
def mk_b72_2 : List Bool × List mj_I := ([false, false, false], [(15, .ireturn, 0, 0, 1, [])])
def mk_m72 : Nat × Nat × List (List Bool × List mj_I) := (3, 0, [mk_b72_0, mk_b72_1, mk_b72_2])
/-- NumbersCalledModel.within(III)I -/
def mk_b73_0 : List Bool × List mj_I := ([true, true, true], [(0, .iload_n 0, 0, 0, 0, []), (1, .iload_n 1, 1, 0, 0, []), (2, .if_icmp .ge (7), 1, 0, 0, []), (5, .iload_n 1, 1, 0, 0, []), (6, .goto (13), 3, 0, 0, [])])
def mk_b73_1 : List Bool × List mj_I := ([true, false, true], [(9, .iload_n 0, 0, 0, 0, []), (10, .iload_n 2, 2, 0, 0, []), (11, .if_icmp .le (7), 2, 0, 0, []), (14, .iload_n 2, 2, 0, 0, []), (15, .goto (4), 3, 0, 0, [])])
def mk_b73_2 : List Bool × List mj_I := ([true, false, false], [(18, .iload_n 0, 0, 0, 0, []), (19, .nop, 3, 0, 0, [])])
def mk_b73_3 : List Bool × List mj_I := ([false, false, false], [(19, .ireturn, 0, 0, 0, [])])
def mk_m73 : Nat × Nat × List (List Bool × List mj_I) := (3, 0, [mk_b73_0, mk_b73_1, mk_b73_2, mk_b73_3])
/-- NumbersCalledModel.isCounter(I)Z -/
def mk_b74_0 : List Bool × List mj_I := ([true, true], [(0, .iload_n 1, 1, 0, 0, []), (1, .iconst 0, 0, 0, 0, []), (2, .aload_n 0, 0, 0, 0, []), (3, .getfield 112, 0, 8, 0, []), (6, .iconst 1, 0, 0, 0, []), (7, .isub, 0, 0, 0, []), (8, .invokestatic 115, 72, 3, 1, []), (11, .ireturn, 0, 0, 1, [])])
def mk_m74 : Nat × Nat × List (List Bool × List mj_I) := (2, 9, [mk_b74_0])
/-- NumbersCalledModel.isAsker(I)Z -/
def mk_b75_0 : List Bool × List mj_I := ([true, true], [(0, .iload_n 1, 1, 0, 0, []), (1, .iconst 0, 0, 0, 0, []), (2, .aload_n 0, 0, 0, 0, []), (3, .getfield 119, 5, 8, 0, []), (6, .iconst 1, 0, 0, 0, []), (7, .isub, 0, 0, 0, []), (8, .invokestatic 115, 72, 3, 1, []), (11, .ireturn, 0, 0, 1, [])])
def mk_m75 : Nat × Nat × List (List Bool × List mj_I) := (2, 9, [mk_b75_0])
/-- NumbersCalledModel.isTold(II)Z -/
def mk_b76_0 : List Bool × List mj_I := ([true, true], [(0, .iload_n 0, 0, 0, 0, []), (1, .ifCond .ne (13), 1, 0, 0, []), (4, .iload_n 1, 1, 0, 0, []), (5, .iconst 0, 0, 0, 0, []), (6, .bipush 15, 0, 0, 0, []), (8, .invokestatic 115, 72, 3, 1, []), (11, .goto (38), 4, 0, 0, [])])
def mk_b76_1 : List Bool × List mj_I := ([true, true], [(14, .iload_n 0, 0, 0, 0, []), (15, .iconst 1, 0, 0, 0, []), (16, .if_icmp .ne (13), 2, 0, 0, []), (19, .iload_n 1, 1, 0, 0, []), (20, .iconst 0, 0, 0, 0, []), (21, .bipush 9, 0, 0, 0, []), (23, .invokestatic 115, 72, 3, 1, []), (26, .goto (23), 4, 0, 0, [])])
def mk_b76_2 : List Bool × List mj_I := ([true, true], [(29, .iload_n 0, 0, 0, 0, []), (30, .iconst 2, 0, 0, 0, []), (31, .if_icmp .ne (17), 3, 0, 0, []), (34, .iload_n 1, 1, 0, 0, []), (35, .iconst (-1), 0, 0, 0, []), (36, .bipush 119, 0, 0, 0, []), (38, .invokestatic 115, 72, 3, 1, []), (41, .ifCond .eq (7), 3, 0, 0, []), (44, .iconst 1, 0, 0, 0, []), (45, .goto (4), 4, 0, 0, [])])
def mk_b76_3 : List Bool × List mj_I := ([false, false], [(48, .iconst 0, 0, 0, 0, []), (49, .nop, 4, 0, 0, [])])
def mk_b76_4 : List Bool × List mj_I := ([false, false], [(49, .ireturn, 0, 0, 1, [])])
def mk_m76 : Nat × Nat × List (List Bool × List mj_I) := (2, 0, [mk_b76_0, mk_b76_1, mk_b76_2, mk_b76_3, mk_b76_4])
/-- NumbersCalledModel.counter(II)I -/
def mk_b77_0 : List Bool × List mj_I := ([true, true, true], [(0, .iconst 0, 0, 0, 0, []), (1, .iload_n 1, 1, 0, 0, []), (2, .invokestatic 122, 76, 2, 1, []), (5, .ifCond .eq (11), 1, 0, 0, []), (8, .iconst 1, 0, 0, 0, []), (9, .iload_n 2, 2, 0, 0, []), (10, .invokestatic 122, 76, 2, 1, []), (13, .ifCond .ne (6), 2, 0, 0, []), (16, .nop, 1, 0, 0, [])])
def mk_b77_1 : List Bool × List mj_I := ([false, false, false], [(16, .bipush (-2), 0, 0, 0, []), (18, .ireturn, 0, 0, 0, [])])
def mk_b77_2 : List Bool × List mj_I := ([true, true, true], [(19, .aload_n 0, 0, 0, 0, []), (20, .getfield 112, 0, 8, 0, []), (23, .iconst 4, 0, 0, 0, []), (24, .if_icmp .ne (6), 3, 0, 0, []), (27, .bipush (-4), 0, 0, 0, []), (29, .ireturn, 0, 0, 0, [])])
def mk_b77_3 : List Bool × List mj_I := ([true, true, true], [(30, .aload_n 0, 0, 0, 0, []), (31, .getfield 7, 1, 8, 0, []), (34, .iconst 3, 0, 0, 0, []), (35, .aload_n 0, 0, 0, 0, []), (36, .getfield 112, 0, 8, 0, []), (39, .imul, 0, 0, 0, []), (40, .iload_n 1, 1, 0, 0, []), (41, .iastore, 0, 0, 0, []), (42, .aload_n 0, 0, 0, 0, []), (43, .getfield 7, 1, 8, 0, []), (46, .iconst 3, 0, 0, 0, []), (47, .aload_n 0, 0, 0, 0, []), (48, .getfield 112, 0, 8, 0, []), (51, .imul, 0, 0, 0, []), (52, .iconst 1, 0, 0, 0, []), (53, .iadd, 0, 0, 0, []), (54, .iload_n 2, 2, 0, 0, []), (55, .iastore, 0, 0, 0, []), (56, .aload_n 0, 0, 0, 0, []), (57, .getfield 7, 1, 8, 0, []), (60, .iconst 3, 0, 0, 0, []), (61, .aload_n 0, 0, 0, 0, []), (62, .getfield 112, 0, 8, 0, []), (65, .imul, 0, 0, 0, []), (66, .iconst 2, 0, 0, 0, []), (67, .iadd, 0, 0, 0, []), (68, .iconst (-1), 0, 0, 0, []), (69, .iastore, 0, 0, 0, []), (70, .aload_n 0, 0, 0, 0, []), (71, .dup, 0, 0, 0, []), (72, .getfield 112, 0, 8, 0, []), (75, .iconst 1, 0, 0, 0, []), (76, .iadd, 0, 0, 0, []), (77, .putfield 112, 0, 8, 0, []), (80, .aload_n 0, 0, 0, 0, []), (81, .getfield 112, 0, 8, 0, []), (84, .iconst 1, 0, 0, 0, []), (85, .isub, 0, 0, 0, []), (86, .ireturn, 0, 0, 0, [])])
def mk_m77 : Nat × Nat × List (List Bool × List mj_I) := (3, 9, [mk_b77_0, mk_b77_1, mk_b77_2, mk_b77_3])
/-- NumbersCalledModel.change(III)I -/
def mk_b78_0 : List Bool × List mj_I := ([true, true, true, true, false], [(0, .aload_n 0, 0, 0, 0, []), (1, .iload_n 1, 1, 0, 0, []), (2, .invokevirtual 126, 74, 2, 1, []), (5, .ifCond .ne (6), 1, 0, 0, []), (8, .bipush (-5), 0, 0, 0, []), (10, .ireturn, 0, 0, 0, [])])
def mk_b78_1 : List Bool × List mj_I := ([true, true, true, true, false], [(11, .iload_n 2, 2, 0, 0, []), (12, .iload_n 3, 3, 0, 0, []), (13, .invokestatic 122, 76, 2, 1, []), (16, .ifCond .ne (6), 2, 0, 0, []), (19, .bipush (-7), 0, 0, 0, []), (21, .ireturn, 0, 0, 0, [])])
def mk_b78_2 : List Bool × List mj_I := ([true, true, true, true, false], [(22, .aload_n 0, 0, 0, 0, []), (23, .getfield 7, 1, 8, 0, []), (26, .iconst 3, 0, 0, 0, []), (27, .iload_n 1, 1, 0, 0, []), (28, .imul, 0, 0, 0, []), (29, .iload_n 2, 2, 0, 0, []), (30, .iadd, 0, 0, 0, []), (31, .iaload, 0, 0, 0, []), (32, .istore 4, 4, 0, 0, []), (34, .aload_n 0, 0, 0, 0, []), (35, .getfield 7, 1, 8, 0, []), (38, .iconst 3, 0, 0, 0, []), (39, .iload_n 1, 1, 0, 0, []), (40, .imul, 0, 0, 0, []), (41, .iload_n 2, 2, 0, 0, []), (42, .iadd, 0, 0, 0, []), (43, .iload_n 3, 3, 0, 0, []), (44, .iastore, 0, 0, 0, []), (45, .iload 4, 4, 0, 0, []), (47, .ireturn, 0, 0, 0, [])])
def mk_m78 : Nat × Nat × List (List Bool × List mj_I) := (5, 9, [mk_b78_0, mk_b78_1, mk_b78_2])
/-- NumbersCalledModel.counterTold(II)I -/
def mk_b79_0 : List Bool × List mj_I := ([true, true, true], [(0, .aload_n 0, 0, 0, 0, []), (1, .iload_n 1, 1, 0, 0, []), (2, .invokevirtual 126, 74, 2, 1, []), (5, .ifCond .ne (8), 1, 0, 0, []), (8, .bipush (-5), 0, 0, 0, []), (10, .goto (27), 3, 0, 0, [])])
def mk_b79_1 : List Bool × List mj_I := ([true, true, true], [(13, .iload_n 2, 2, 0, 0, []), (14, .iconst 0, 0, 0, 0, []), (15, .iconst 2, 0, 0, 0, []), (16, .invokestatic 115, 72, 3, 1, []), (19, .ifCond .eq (16), 2, 0, 0, []), (22, .aload_n 0, 0, 0, 0, []), (23, .getfield 7, 1, 8, 0, []), (26, .iconst 3, 0, 0, 0, []), (27, .iload_n 1, 1, 0, 0, []), (28, .imul, 0, 0, 0, []), (29, .iload_n 2, 2, 0, 0, []), (30, .iadd, 0, 0, 0, []), (31, .iaload, 0, 0, 0, []), (32, .goto (5), 3, 0, 0, [])])
def mk_b79_2 : List Bool × List mj_I := ([false, false, false], [(35, .bipush (-7), 0, 0, 0, []), (37, .nop, 3, 0, 0, [])])
def mk_b79_3 : List Bool × List mj_I := ([false, false, false], [(37, .ireturn, 0, 0, 0, [])])
def mk_m79 : Nat × Nat × List (List Bool × List mj_I) := (3, 9, [mk_b79_0, mk_b79_1, mk_b79_2, mk_b79_3])
/-- NumbersCalledModel.set(II)I -/
def mk_b80_0 : List Bool × List mj_I := ([true, true, true, false, false], [(0, .iload_n 1, 1, 0, 0, []), (1, .iconst 0, 0, 0, 0, []), (2, .iconst 2, 0, 0, 0, []), (3, .invokestatic 115, 72, 3, 1, []), (6, .ifCond .ne (5), 1, 0, 0, []), (9, .iconst (-1), 0, 0, 0, []), (10, .ireturn, 0, 0, 0, [])])
def mk_b80_1 : List Bool × List mj_I := ([true, true, true, false, false], [(11, .iload_n 1, 1, 0, 0, []), (12, .ifCond .ne (12), 2, 0, 0, []), (15, .iload_n 2, 2, 0, 0, []), (16, .iconst 0, 0, 0, 0, []), (17, .iconst 3, 0, 0, 0, []), (18, .invokestatic 115, 72, 3, 1, []), (21, .goto (25), 4, 0, 0, [])])
def mk_b80_2 : List Bool × List mj_I := ([true, true, true, false, false], [(24, .iload_n 1, 1, 0, 0, []), (25, .iconst 1, 0, 0, 0, []), (26, .if_icmp .ne (13), 3, 0, 0, []), (29, .iload_n 2, 2, 0, 0, []), (30, .iconst 1, 0, 0, 0, []), (31, .bipush 9, 0, 0, 0, []), (33, .invokestatic 115, 72, 3, 1, []), (36, .goto (10), 4, 0, 0, [])])
def mk_b80_3 : List Bool × List mj_I := ([true, true, true, false, false], [(39, .iload_n 2, 2, 0, 0, []), (40, .iconst 0, 0, 0, 0, []), (41, .bipush 120, 0, 0, 0, []), (43, .invokestatic 115, 72, 3, 1, []), (46, .nop, 4, 0, 0, [])])
def mk_b80_4 : List Bool × List mj_I := ([true, true, true, false, false], [(46, .istore_n 3, 3, 0, 0, []), (47, .iload_n 3, 3, 0, 0, []), (48, .ifCond .ne (6), 5, 0, 0, []), (51, .bipush (-2), 0, 0, 0, []), (53, .ireturn, 0, 0, 0, [])])
def mk_b80_5 : List Bool × List mj_I := ([true, true, true, false, false], [(54, .aload_n 0, 0, 0, 0, []), (55, .iload_n 1, 1, 0, 0, []), (56, .invokevirtual 130, 81, 2, 1, []), (59, .istore 4, 4, 0, 0, []), (61, .aload_n 0, 0, 0, 0, []), (62, .iload_n 1, 1, 0, 0, []), (63, .ifCond .ne (7), 6, 0, 0, []), (66, .iload_n 2, 2, 0, 0, []), (67, .goto (7), 7, 0, 0, [])])
def mk_b80_6 : List Bool × List mj_I := ([true, true, true, false, true], [(70, .aload_n 0, 0, 0, 0, []), (71, .getfield 134, 2, 8, 0, []), (74, .nop, 7, 0, 0, [])])
def mk_b80_7 : List Bool × List mj_I := ([true, true, true, false, true], [(74, .putfield 134, 2, 8, 0, []), (77, .aload_n 0, 0, 0, 0, []), (78, .iload_n 1, 1, 0, 0, []), (79, .iconst 1, 0, 0, 0, []), (80, .if_icmp .ne (7), 8, 0, 0, []), (83, .iload_n 2, 2, 0, 0, []), (84, .goto (7), 9, 0, 0, [])])
def mk_b80_8 : List Bool × List mj_I := ([true, true, true, false, true], [(87, .aload_n 0, 0, 0, 0, []), (88, .getfield 13, 3, 8, 0, []), (91, .nop, 9, 0, 0, [])])
def mk_b80_9 : List Bool × List mj_I := ([true, true, true, false, true], [(91, .putfield 13, 3, 8, 0, []), (94, .aload_n 0, 0, 0, 0, []), (95, .iload_n 1, 1, 0, 0, []), (96, .iconst 2, 0, 0, 0, []), (97, .if_icmp .ne (7), 10, 0, 0, []), (100, .iload_n 2, 2, 0, 0, []), (101, .goto (7), 11, 0, 0, [])])
def mk_b80_10 : List Bool × List mj_I := ([true, false, false, false, true], [(104, .aload_n 0, 0, 0, 0, []), (105, .getfield 17, 4, 8, 0, []), (108, .nop, 11, 0, 0, [])])
def mk_b80_11 : List Bool × List mj_I := ([false, false, false, false, true], [(108, .putfield 17, 4, 8, 0, []), (111, .iload 4, 4, 0, 0, []), (113, .ireturn, 0, 0, 0, [])])
def mk_m80 : Nat × Nat × List (List Bool × List mj_I) := (5, 9, [mk_b80_0, mk_b80_1, mk_b80_2, mk_b80_3, mk_b80_4, mk_b80_5, mk_b80_6, mk_b80_7, mk_b80_8, mk_b80_9, mk_b80_10, mk_b80_11])
/-- NumbersCalledModel.count(I)I -/
def mk_b81_0 : List Bool × List mj_I := ([true, true], [(0, .iload_n 1, 1, 0, 0, []), (1, .tableswitch (87) 0 7 #[47, 52, 57, 62, 67, 72, 77, 82], 9, 0, 0, [(0, 1), (1, 2), (2, 3), (3, 4), (4, 5), (5, 6), (6, 7), (7, 8)])])
def mk_b81_1 : List Bool × List mj_I := ([true, false], [(48, .aload_n 0, 0, 0, 0, []), (49, .getfield 134, 2, 8, 0, []), (52, .ireturn, 0, 0, 0, [])])
def mk_b81_2 : List Bool × List mj_I := ([true, false], [(53, .aload_n 0, 0, 0, 0, []), (54, .getfield 13, 3, 8, 0, []), (57, .ireturn, 0, 0, 0, [])])
def mk_b81_3 : List Bool × List mj_I := ([true, false], [(58, .aload_n 0, 0, 0, 0, []), (59, .getfield 17, 4, 8, 0, []), (62, .ireturn, 0, 0, 0, [])])
def mk_b81_4 : List Bool × List mj_I := ([true, false], [(63, .aload_n 0, 0, 0, 0, []), (64, .getfield 112, 0, 8, 0, []), (67, .ireturn, 0, 0, 0, [])])
def mk_b81_5 : List Bool × List mj_I := ([true, false], [(68, .aload_n 0, 0, 0, 0, []), (69, .getfield 119, 5, 8, 0, []), (72, .ireturn, 0, 0, 0, [])])
def mk_b81_6 : List Bool × List mj_I := ([true, false], [(73, .aload_n 0, 0, 0, 0, []), (74, .getfield 137, 15, 8, 0, []), (77, .ireturn, 0, 0, 0, [])])
def mk_b81_7 : List Bool × List mj_I := ([true, false], [(78, .aload_n 0, 0, 0, 0, []), (79, .getfield 140, 16, 8, 0, []), (82, .ireturn, 0, 0, 0, [])])
def mk_b81_8 : List Bool × List mj_I := ([true, false], [(83, .aload_n 0, 0, 0, 0, []), (84, .getfield 105, 12, 8, 0, []), (87, .ireturn, 0, 0, 0, [])])
def mk_b81_9 : List Bool × List mj_I := ([false, false], [(88, .bipush (-2), 0, 0, 0, []), (90, .ireturn, 0, 0, 0, [])])
def mk_m81 : Nat × Nat × List (List Bool × List mj_I) := (2, 9, [mk_b81_0, mk_b81_1, mk_b81_2, mk_b81_3, mk_b81_4, mk_b81_5, mk_b81_6, mk_b81_7, mk_b81_8, mk_b81_9])
/-- NumbersCalledModel.isByte(I)Z -/
def mk_b82_0 : List Bool × List mj_I := ([true], [(0, .iload_n 0, 0, 0, 0, []), (1, .iconst 0, 0, 0, 0, []), (2, .sipush 255, 0, 0, 0, []), (5, .invokestatic 115, 72, 3, 1, []), (8, .ireturn, 0, 0, 1, [])])
def mk_m82 : Nat × Nat × List (List Bool × List mj_I) := (1, 0, [mk_b82_0])
/-- NumbersCalledModel.feed(IIIIII)I -/
def mk_b83_0 : List Bool × List mj_I := ([true, true, true, true, true, true, true, false], [(0, .iload_n 1, 1, 0, 0, []), (1, .iconst 1, 0, 0, 0, []), (2, .iconst 5, 0, 0, 0, []), (3, .invokestatic 115, 72, 3, 1, []), (6, .ifCond .eq (41), 1, 0, 0, []), (9, .iload_n 2, 2, 0, 0, []), (10, .invokestatic 143, 82, 1, 1, []), (13, .ifCond .eq (34), 1, 0, 0, []), (16, .iload_n 3, 3, 0, 0, []), (17, .invokestatic 143, 82, 1, 1, []), (20, .ifCond .eq (27), 1, 0, 0, []), (23, .iload 4, 4, 0, 0, []), (25, .invokestatic 143, 82, 1, 1, []), (28, .ifCond .eq (19), 1, 0, 0, []), (31, .iload 5, 5, 0, 0, []), (33, .invokestatic 143, 82, 1, 1, []), (36, .ifCond .eq (11), 1, 0, 0, []), (39, .iload 6, 6, 0, 0, []), (41, .invokestatic 143, 82, 1, 1, []), (44, .ifCond .ne (6), 2, 0, 0, []), (47, .nop, 1, 0, 0, [])])
def mk_b83_1 : List Bool × List mj_I := ([false, false, false, false, false, false, false, false], [(47, .bipush (-2), 0, 0, 0, []), (49, .ireturn, 0, 0, 0, [])])
def mk_b83_2 : List Bool × List mj_I := ([true, true, true, true, true, true, true, false], [(50, .aload_n 0, 0, 0, 0, []), (51, .getfield 105, 12, 8, 0, []), (54, .iload_n 1, 1, 0, 0, []), (55, .iadd, 0, 0, 0, []), (56, .sipush 160, 0, 0, 0, []), (59, .if_icmp .le (6), 3, 0, 0, []), (62, .bipush (-4), 0, 0, 0, []), (64, .ireturn, 0, 0, 0, [])])
def mk_b83_3 : List Bool × List mj_I := ([true, true, true, true, true, true, true, false], [(65, .iconst 0, 0, 0, 0, []), (66, .istore 7, 7, 0, 0, []), (68, .nop, 4, 0, 0, [])])
def mk_b83_4 : List Bool × List mj_I := ([true, true, true, true, true, true, true, true], [(68, .iload 7, 7, 0, 0, []), (70, .iload_n 1, 1, 0, 0, []), (71, .if_icmp .ge (71), 10, 0, 0, []), (74, .aload_n 0, 0, 0, 0, []), (75, .getfield 35, 11, 8, 0, []), (78, .aload_n 0, 0, 0, 0, []), (79, .getfield 105, 12, 8, 0, []), (82, .iload 7, 7, 0, 0, []), (84, .ifCond .ne (7), 5, 0, 0, []), (87, .iload_n 2, 2, 0, 0, []), (88, .goto (37), 9, 0, 0, [])])
def mk_b83_5 : List Bool × List mj_I := ([true, true, true, true, true, true, true, true], [(91, .iload 7, 7, 0, 0, []), (93, .iconst 1, 0, 0, 0, []), (94, .if_icmp .ne (7), 6, 0, 0, []), (97, .iload_n 3, 3, 0, 0, []), (98, .goto (27), 9, 0, 0, [])])
def mk_b83_6 : List Bool × List mj_I := ([true, true, true, true, true, true, true, true], [(101, .iload 7, 7, 0, 0, []), (103, .iconst 2, 0, 0, 0, []), (104, .if_icmp .ne (8), 7, 0, 0, []), (107, .iload 4, 4, 0, 0, []), (109, .goto (16), 9, 0, 0, [])])
def mk_b83_7 : List Bool × List mj_I := ([true, true, true, true, true, true, true, true], [(112, .iload 7, 7, 0, 0, []), (114, .iconst 3, 0, 0, 0, []), (115, .if_icmp .ne (8), 8, 0, 0, []), (118, .iload 5, 5, 0, 0, []), (120, .goto (5), 9, 0, 0, [])])
def mk_b83_8 : List Bool × List mj_I := ([true, true, true, true, true, true, true, true], [(123, .iload 6, 6, 0, 0, []), (125, .nop, 9, 0, 0, [])])
def mk_b83_9 : List Bool × List mj_I := ([true, true, true, true, true, true, true, true], [(125, .iastore, 0, 0, 0, []), (126, .aload_n 0, 0, 0, 0, []), (127, .dup, 0, 0, 0, []), (128, .getfield 105, 12, 8, 0, []), (131, .iconst 1, 0, 0, 0, []), (132, .iadd, 0, 0, 0, []), (133, .putfield 105, 12, 8, 0, []), (136, .iinc 7 1, 7, 0, 0, []), (139, .goto (-71), 4, 0, 0, [])])
def mk_b83_10 : List Bool × List mj_I := ([true, false, false, false, false, false, false, false], [(142, .aload_n 0, 0, 0, 0, []), (143, .getfield 105, 12, 8, 0, []), (146, .ireturn, 0, 0, 0, [])])
def mk_m83 : Nat × Nat × List (List Bool × List mj_I) := (8, 9, [mk_b83_0, mk_b83_1, mk_b83_2, mk_b83_3, mk_b83_4, mk_b83_5, mk_b83_6, mk_b83_7, mk_b83_8, mk_b83_9, mk_b83_10])
/-- NumbersCalledModel.wordFrom(II)I -/
def mk_b84_0 : List Bool × List mj_I := ([true, true, true, false, false, false], [(0, .iconst 0, 0, 0, 0, []), (1, .istore_n 3, 3, 0, 0, []), (2, .nop, 1, 0, 0, [])])
def mk_b84_1 : List Bool × List mj_I := ([true, true, true, true, false, false], [(2, .iload_n 3, 3, 0, 0, []), (3, .bipush 12, 0, 0, 0, []), (5, .if_icmp .ge (96), 11, 0, 0, []), (8, .iload_n 2, 2, 0, 0, []), (9, .iload_n 1, 1, 0, 0, []), (10, .isub, 0, 0, 0, []), (11, .bipush 8, 0, 0, 0, []), (13, .if_icmp .gt (7), 2, 0, 0, []), (16, .iconst 1, 0, 0, 0, []), (17, .goto (4), 3, 0, 0, [])])
def mk_b84_2 : List Bool × List mj_I := ([true, true, true, true, false, false], [(20, .iconst 0, 0, 0, 0, []), (21, .nop, 3, 0, 0, [])])
def mk_b84_3 : List Bool × List mj_I := ([true, true, true, true, false, false], [(21, .istore 4, 4, 0, 0, []), (23, .iconst 0, 0, 0, 0, []), (24, .istore 5, 5, 0, 0, []), (26, .nop, 4, 0, 0, [])])
def mk_b84_4 : List Bool × List mj_I := ([true, true, true, true, true, true], [(26, .iload 5, 5, 0, 0, []), (28, .bipush 8, 0, 0, 0, []), (30, .if_icmp .ge (58), 9, 0, 0, []), (33, .iload 4, 4, 0, 0, []), (35, .ifCond .eq (53), 9, 0, 0, []), (38, .aload_n 0, 0, 0, 0, []), (39, .getfield 62, 34, 8, 0, []), (42, .bipush 8, 0, 0, 0, []), (44, .iload_n 3, 3, 0, 0, []), (45, .imul, 0, 0, 0, []), (46, .iload 5, 5, 0, 0, []), (48, .iadd, 0, 0, 0, []), (49, .iaload, 0, 0, 0, []), (50, .iload_n 1, 1, 0, 0, []), (51, .iload 5, 5, 0, 0, []), (53, .iadd, 0, 0, 0, []), (54, .iload_n 2, 2, 0, 0, []), (55, .if_icmp .ge (15), 5, 0, 0, []), (58, .aload_n 0, 0, 0, 0, []), (59, .getfield 35, 11, 8, 0, []), (62, .iload_n 1, 1, 0, 0, []), (63, .iload 5, 5, 0, 0, []), (65, .iadd, 0, 0, 0, []), (66, .iaload, 0, 0, 0, []), (67, .goto (5), 6, 0, 0, [])])
def mk_b84_5 : List Bool × List mj_I := ([true, true, true, true, false, true], [(70, .bipush 32, 0, 0, 0, []), (72, .nop, 6, 0, 0, [])])
def mk_b84_6 : List Bool × List mj_I := ([true, true, true, true, false, true], [(72, .if_icmp .ne (7), 7, 0, 0, []), (75, .iconst 1, 0, 0, 0, []), (76, .goto (4), 8, 0, 0, [])])
def mk_b84_7 : List Bool × List mj_I := ([true, true, true, true, false, true], [(79, .iconst 0, 0, 0, 0, []), (80, .nop, 8, 0, 0, [])])
def mk_b84_8 : List Bool × List mj_I := ([true, true, true, true, false, true], [(80, .istore 4, 4, 0, 0, []), (82, .iinc 5 1, 5, 0, 0, []), (85, .goto (-59), 4, 0, 0, [])])
def mk_b84_9 : List Bool × List mj_I := ([true, true, true, true, true, false], [(88, .iload 4, 4, 0, 0, []), (90, .ifCond .eq (5), 10, 0, 0, []), (93, .iload_n 3, 3, 0, 0, []), (94, .ireturn, 0, 0, 0, [])])
def mk_b84_10 : List Bool × List mj_I := ([true, true, true, true, false, false], [(95, .iinc 3 1, 3, 0, 0, []), (98, .goto (-96), 1, 0, 0, [])])
def mk_b84_11 : List Bool × List mj_I := ([false, false, false, false, false, false], [(101, .bipush 12, 0, 0, 0, []), (103, .ireturn, 0, 0, 0, [])])
def mk_m84 : Nat × Nat × List (List Bool × List mj_I) := (6, 9, [mk_b84_0, mk_b84_1, mk_b84_2, mk_b84_3, mk_b84_4, mk_b84_5, mk_b84_6, mk_b84_7, mk_b84_8, mk_b84_9, mk_b84_10, mk_b84_11])
/-- NumbersCalledModel.next()V -/
def mk_b85_0 : List Bool × List mj_I := ([true, false, false], [(0, .aload_n 0, 0, 0, 0, []), (1, .getfield 146, 30, 8, 0, []), (4, .aload_n 0, 0, 0, 0, []), (5, .getfield 105, 12, 8, 0, []), (8, .if_icmp .ge (44), 2, 0, 0, []), (11, .aload_n 0, 0, 0, 0, []), (12, .getfield 35, 11, 8, 0, []), (15, .aload_n 0, 0, 0, 0, []), (16, .getfield 146, 30, 8, 0, []), (19, .iaload, 0, 0, 0, []), (20, .bipush 32, 0, 0, 0, []), (22, .if_icmp .eq (17), 1, 0, 0, []), (25, .aload_n 0, 0, 0, 0, []), (26, .getfield 35, 11, 8, 0, []), (29, .aload_n 0, 0, 0, 0, []), (30, .getfield 146, 30, 8, 0, []), (33, .iaload, 0, 0, 0, []), (34, .bipush 10, 0, 0, 0, []), (36, .if_icmp .ne (16), 2, 0, 0, []), (39, .nop, 1, 0, 0, [])])
def mk_b85_1 : List Bool × List mj_I := ([true, false, false], [(39, .aload_n 0, 0, 0, 0, []), (40, .dup, 0, 0, 0, []), (41, .getfield 146, 30, 8, 0, []), (44, .iconst 1, 0, 0, 0, []), (45, .iadd, 0, 0, 0, []), (46, .putfield 146, 30, 8, 0, []), (49, .goto (-49), 0, 0, 0, [])])
def mk_b85_2 : List Bool × List mj_I := ([true, false, false], [(52, .aload_n 0, 0, 0, 0, []), (53, .aload_n 0, 0, 0, 0, []), (54, .getfield 146, 30, 8, 0, []), (57, .putfield 149, 31, 8, 0, []), (60, .aload_n 0, 0, 0, 0, []), (61, .iconst 0, 0, 0, 0, []), (62, .putfield 152, 32, 8, 0, []), (65, .aload_n 0, 0, 0, 0, []), (66, .iconst 0, 0, 0, 0, []), (67, .putfield 155, 33, 8, 0, []), (70, .aload_n 0, 0, 0, 0, []), (71, .getfield 146, 30, 8, 0, []), (74, .aload_n 0, 0, 0, 0, []), (75, .getfield 105, 12, 8, 0, []), (78, .if_icmp .ne (4), 3, 0, 0, []), (81, .return_, 0, 0, 0, [])])
def mk_b85_3 : List Bool × List mj_I := ([true, false, false], [(82, .aload_n 0, 0, 0, 0, []), (83, .getfield 35, 11, 8, 0, []), (86, .aload_n 0, 0, 0, 0, []), (87, .getfield 146, 30, 8, 0, []), (90, .iaload, 0, 0, 0, []), (91, .istore_n 1, 1, 0, 0, []), (92, .iload_n 1, 1, 0, 0, []), (93, .bipush 97, 0, 0, 0, []), (95, .bipush 122, 0, 0, 0, []), (97, .invokestatic 115, 72, 3, 1, []), (100, .ifCond .eq (117), 12, 0, 0, []), (103, .nop, 4, 0, 0, [])])
def mk_b85_4 : List Bool × List mj_I := ([true, false, false], [(103, .aload_n 0, 0, 0, 0, []), (104, .getfield 146, 30, 8, 0, []), (107, .aload_n 0, 0, 0, 0, []), (108, .getfield 105, 12, 8, 0, []), (111, .if_icmp .ge (35), 5, 0, 0, []), (114, .aload_n 0, 0, 0, 0, []), (115, .getfield 35, 11, 8, 0, []), (118, .aload_n 0, 0, 0, 0, []), (119, .getfield 146, 30, 8, 0, []), (122, .iaload, 0, 0, 0, []), (123, .bipush 97, 0, 0, 0, []), (125, .bipush 122, 0, 0, 0, []), (127, .invokestatic 115, 72, 3, 1, []), (130, .ifCond .eq (16), 5, 0, 0, []), (133, .aload_n 0, 0, 0, 0, []), (134, .dup, 0, 0, 0, []), (135, .getfield 146, 30, 8, 0, []), (138, .iconst 1, 0, 0, 0, []), (139, .iadd, 0, 0, 0, []), (140, .putfield 146, 30, 8, 0, []), (143, .goto (-40), 4, 0, 0, [])])
def mk_b85_5 : List Bool × List mj_I := ([true, false, false], [(146, .aload_n 0, 0, 0, 0, []), (147, .aload_n 0, 0, 0, 0, []), (148, .getfield 149, 31, 8, 0, []), (151, .aload_n 0, 0, 0, 0, []), (152, .getfield 146, 30, 8, 0, []), (155, .invokevirtual 158, 84, 3, 1, []), (158, .istore_n 2, 2, 0, 0, []), (159, .aload_n 0, 0, 0, 0, []), (160, .iload_n 2, 2, 0, 0, []), (161, .iconst 3, 0, 0, 0, []), (162, .if_icmp .ge (7), 6, 0, 0, []), (165, .iconst 3, 0, 0, 0, []), (166, .goto (29), 9, 0, 0, [])])
def mk_b85_6 : List Bool × List mj_I := ([true, false, true], [(169, .iload_n 2, 2, 0, 0, []), (170, .bipush 9, 0, 0, 0, []), (172, .if_icmp .ge (7), 7, 0, 0, []), (175, .iconst 2, 0, 0, 0, []), (176, .goto (19), 9, 0, 0, [])])
def mk_b85_7 : List Bool × List mj_I := ([true, false, true], [(179, .iload_n 2, 2, 0, 0, []), (180, .bipush 12, 0, 0, 0, []), (182, .if_icmp .ne (7), 8, 0, 0, []), (185, .iconst (-1), 0, 0, 0, []), (186, .goto (9), 9, 0, 0, [])])
def mk_b85_8 : List Bool × List mj_I := ([true, false, true], [(189, .iconst 4, 0, 0, 0, []), (190, .iload_n 2, 2, 0, 0, []), (191, .iadd, 0, 0, 0, []), (192, .bipush 9, 0, 0, 0, []), (194, .isub, 0, 0, 0, []), (195, .nop, 9, 0, 0, [])])
def mk_b85_9 : List Bool × List mj_I := ([true, false, true], [(195, .putfield 152, 32, 8, 0, []), (198, .aload_n 0, 0, 0, 0, []), (199, .iload_n 2, 2, 0, 0, []), (200, .iconst 3, 0, 0, 0, []), (201, .if_icmp .ge (7), 10, 0, 0, []), (204, .iload_n 2, 2, 0, 0, []), (205, .goto (6), 11, 0, 0, [])])
def mk_b85_10 : List Bool × List mj_I := ([false, false, true], [(208, .iload_n 2, 2, 0, 0, []), (209, .iconst 3, 0, 0, 0, []), (210, .isub, 0, 0, 0, []), (211, .nop, 11, 0, 0, [])])
def mk_b85_11 : List Bool × List mj_I := ([false, false, false], [(211, .putfield 155, 33, 8, 0, []), (214, .goto (189), 25, 0, 0, [])])
def mk_b85_12 : List Bool × List mj_I := ([true, true, false], [(217, .iload_n 1, 1, 0, 0, []), (218, .bipush 48, 0, 0, 0, []), (220, .bipush 57, 0, 0, 0, []), (222, .invokestatic 115, 72, 3, 1, []), (225, .ifCond .eq (101), 19, 0, 0, []), (228, .iconst 0, 0, 0, 0, []), (229, .istore_n 2, 2, 0, 0, []), (230, .nop, 13, 0, 0, [])])
def mk_b85_13 : List Bool × List mj_I := ([true, false, true], [(230, .aload_n 0, 0, 0, 0, []), (231, .getfield 146, 30, 8, 0, []), (234, .aload_n 0, 0, 0, 0, []), (235, .getfield 105, 12, 8, 0, []), (238, .if_icmp .ge (71), 16, 0, 0, []), (241, .aload_n 0, 0, 0, 0, []), (242, .getfield 35, 11, 8, 0, []), (245, .aload_n 0, 0, 0, 0, []), (246, .getfield 146, 30, 8, 0, []), (249, .iaload, 0, 0, 0, []), (250, .bipush 48, 0, 0, 0, []), (252, .bipush 57, 0, 0, 0, []), (254, .invokestatic 115, 72, 3, 1, []), (257, .ifCond .eq (52), 16, 0, 0, []), (260, .aload_n 0, 0, 0, 0, []), (261, .iload_n 2, 2, 0, 0, []), (262, .iconst 4, 0, 0, 0, []), (263, .if_icmp .ge (26), 14, 0, 0, []), (266, .bipush 10, 0, 0, 0, []), (268, .aload_n 0, 0, 0, 0, []), (269, .getfield 155, 33, 8, 0, []), (272, .imul, 0, 0, 0, []), (273, .aload_n 0, 0, 0, 0, []), (274, .getfield 35, 11, 8, 0, []), (277, .aload_n 0, 0, 0, 0, []), (278, .getfield 146, 30, 8, 0, []), (281, .iaload, 0, 0, 0, []), (282, .iadd, 0, 0, 0, []), (283, .bipush 48, 0, 0, 0, []), (285, .isub, 0, 0, 0, []), (286, .goto (4), 15, 0, 0, [])])
def mk_b85_14 : List Bool × List mj_I := ([true, false, true], [(289, .iconst 0, 0, 0, 0, []), (290, .nop, 15, 0, 0, [])])
def mk_b85_15 : List Bool × List mj_I := ([true, false, true], [(290, .putfield 155, 33, 8, 0, []), (293, .iinc 2 1, 2, 0, 0, []), (296, .aload_n 0, 0, 0, 0, []), (297, .dup, 0, 0, 0, []), (298, .getfield 146, 30, 8, 0, []), (301, .iconst 1, 0, 0, 0, []), (302, .iadd, 0, 0, 0, []), (303, .putfield 146, 30, 8, 0, []), (306, .goto (-76), 13, 0, 0, [])])
def mk_b85_16 : List Bool × List mj_I := ([true, false, true], [(309, .aload_n 0, 0, 0, 0, []), (310, .iload_n 2, 2, 0, 0, []), (311, .iconst 4, 0, 0, 0, []), (312, .if_icmp .le (7), 17, 0, 0, []), (315, .iconst (-1), 0, 0, 0, []), (316, .goto (4), 18, 0, 0, [])])
def mk_b85_17 : List Bool × List mj_I := ([false, false, false], [(319, .iconst 1, 0, 0, 0, []), (320, .nop, 18, 0, 0, [])])
def mk_b85_18 : List Bool × List mj_I := ([false, false, false], [(320, .putfield 152, 32, 8, 0, []), (323, .goto (80), 25, 0, 0, [])])
def mk_b85_19 : List Bool × List mj_I := ([true, true, false], [(326, .iload_n 1, 1, 0, 0, []), (327, .bipush 40, 0, 0, 0, []), (329, .if_icmp .eq (45), 20, 0, 0, []), (332, .iload_n 1, 1, 0, 0, []), (333, .bipush 41, 0, 0, 0, []), (335, .if_icmp .eq (39), 20, 0, 0, []), (338, .iload_n 1, 1, 0, 0, []), (339, .bipush 59, 0, 0, 0, []), (341, .if_icmp .eq (33), 20, 0, 0, []), (344, .iload_n 1, 1, 0, 0, []), (345, .bipush 43, 0, 0, 0, []), (347, .if_icmp .eq (27), 20, 0, 0, []), (350, .iload_n 1, 1, 0, 0, []), (351, .bipush 45, 0, 0, 0, []), (353, .if_icmp .eq (21), 20, 0, 0, []), (356, .iload_n 1, 1, 0, 0, []), (357, .bipush 42, 0, 0, 0, []), (359, .if_icmp .eq (15), 20, 0, 0, []), (362, .iload_n 1, 1, 0, 0, []), (363, .bipush 60, 0, 0, 0, []), (365, .if_icmp .eq (9), 20, 0, 0, []), (368, .iload_n 1, 1, 0, 0, []), (369, .bipush 61, 0, 0, 0, []), (371, .if_icmp .ne (7), 21, 0, 0, []), (374, .nop, 20, 0, 0, [])])
def mk_b85_20 : List Bool × List mj_I := ([true, true, false], [(374, .iconst 1, 0, 0, 0, []), (375, .goto (4), 22, 0, 0, [])])
def mk_b85_21 : List Bool × List mj_I := ([true, true, false], [(378, .iconst 0, 0, 0, 0, []), (379, .nop, 22, 0, 0, [])])
def mk_b85_22 : List Bool × List mj_I := ([true, true, false], [(379, .istore_n 2, 2, 0, 0, []), (380, .aload_n 0, 0, 0, 0, []), (381, .iload_n 2, 2, 0, 0, []), (382, .ifCond .eq (7), 23, 0, 0, []), (385, .iload_n 1, 1, 0, 0, []), (386, .goto (4), 24, 0, 0, [])])
def mk_b85_23 : List Bool × List mj_I := ([true, false, false], [(389, .iconst (-1), 0, 0, 0, []), (390, .nop, 24, 0, 0, [])])
def mk_b85_24 : List Bool × List mj_I := ([true, false, false], [(390, .putfield 152, 32, 8, 0, []), (393, .aload_n 0, 0, 0, 0, []), (394, .dup, 0, 0, 0, []), (395, .getfield 146, 30, 8, 0, []), (398, .iconst 1, 0, 0, 0, []), (399, .iadd, 0, 0, 0, []), (400, .putfield 146, 30, 8, 0, []), (403, .nop, 25, 0, 0, [])])
def mk_b85_25 : List Bool × List mj_I := ([false, false, false], [(403, .return_, 0, 0, 0, [])])
def mk_m85 : Nat × Nat × List (List Bool × List mj_I) := (3, 9, [mk_b85_0, mk_b85_1, mk_b85_2, mk_b85_3, mk_b85_4, mk_b85_5, mk_b85_6, mk_b85_7, mk_b85_8, mk_b85_9, mk_b85_10, mk_b85_11, mk_b85_12, mk_b85_13, mk_b85_14, mk_b85_15, mk_b85_16, mk_b85_17, mk_b85_18, mk_b85_19, mk_b85_20, mk_b85_21, mk_b85_22, mk_b85_23, mk_b85_24, mk_b85_25])
/-- NumbersCalledModel.rank(I)I -/
def mk_b86_0 : List Bool × List mj_I := ([true], [(0, .iload_n 0, 0, 0, 0, []), (1, .ifCond .ne (7), 1, 0, 0, []), (4, .iconst 0, 0, 0, 0, []), (5, .goto (66), 8, 0, 0, [])])
def mk_b86_1 : List Bool × List mj_I := ([true], [(8, .iload_n 0, 0, 0, 0, []), (9, .bipush 11, 0, 0, 0, []), (11, .if_icmp .ne (7), 2, 0, 0, []), (14, .iconst 1, 0, 0, 0, []), (15, .goto (56), 8, 0, 0, [])])
def mk_b86_2 : List Bool × List mj_I := ([true], [(18, .iload_n 0, 0, 0, 0, []), (19, .bipush 12, 0, 0, 0, []), (21, .if_icmp .ne (7), 3, 0, 0, []), (24, .iconst 2, 0, 0, 0, []), (25, .goto (46), 8, 0, 0, [])])
def mk_b86_3 : List Bool × List mj_I := ([true], [(28, .iload_n 0, 0, 0, 0, []), (29, .bipush 13, 0, 0, 0, []), (31, .if_icmp .ne (7), 4, 0, 0, []), (34, .iconst 3, 0, 0, 0, []), (35, .goto (36), 8, 0, 0, [])])
def mk_b86_4 : List Bool × List mj_I := ([true], [(38, .iload_n 0, 0, 0, 0, []), (39, .bipush 15, 0, 0, 0, []), (41, .if_icmp .gt (7), 5, 0, 0, []), (44, .iconst 4, 0, 0, 0, []), (45, .goto (26), 8, 0, 0, [])])
def mk_b86_5 : List Bool × List mj_I := ([true], [(48, .iload_n 0, 0, 0, 0, []), (49, .bipush 17, 0, 0, 0, []), (51, .if_icmp .gt (7), 6, 0, 0, []), (54, .iconst 5, 0, 0, 0, []), (55, .goto (16), 8, 0, 0, [])])
def mk_b86_6 : List Bool × List mj_I := ([true], [(58, .iload_n 0, 0, 0, 0, []), (59, .bipush 18, 0, 0, 0, []), (61, .if_icmp .ne (8), 7, 0, 0, []), (64, .bipush 6, 0, 0, 0, []), (66, .goto (5), 8, 0, 0, [])])
def mk_b86_7 : List Bool × List mj_I := ([false], [(69, .bipush 7, 0, 0, 0, []), (71, .nop, 8, 0, 0, [])])
def mk_b86_8 : List Bool × List mj_I := ([false], [(71, .ireturn, 0, 0, 0, [])])
def mk_m86 : Nat × Nat × List (List Bool × List mj_I) := (1, 0, [mk_b86_0, mk_b86_1, mk_b86_2, mk_b86_3, mk_b86_4, mk_b86_5, mk_b86_6, mk_b86_7, mk_b86_8])
/-- NumbersCalledModel.puts(I)V -/
def mk_b87_0 : List Bool × List mj_I := ([true, true], [(0, .aload_n 0, 0, 0, 0, []), (1, .getfield 38, 13, 8, 0, []), (4, .sipush 200, 0, 0, 0, []), (7, .aload_n 0, 0, 0, 0, []), (8, .getfield 137, 15, 8, 0, []), (11, .imul, 0, 0, 0, []), (12, .aload_n 0, 0, 0, 0, []), (13, .getfield 162, 38, 8, 0, []), (16, .iadd, 0, 0, 0, []), (17, .iload_n 1, 1, 0, 0, []), (18, .iastore, 0, 0, 0, []), (19, .aload_n 0, 0, 0, 0, []), (20, .dup, 0, 0, 0, []), (21, .getfield 162, 38, 8, 0, []), (24, .iconst 1, 0, 0, 0, []), (25, .iadd, 0, 0, 0, []), (26, .putfield 162, 38, 8, 0, []), (29, .return_, 0, 0, 0, [])])
def mk_m87 : Nat × Nat × List (List Bool × List mj_I) := (2, 9, [mk_b87_0])
/-- NumbersCalledModel.unwinds(I)V -/
def mk_b88_0 : List Bool × List mj_I := ([true, true, false], [(0, .aload_n 0, 0, 0, 0, []), (1, .getfield 165, 36, 8, 0, []), (4, .ifCond .le (75), 4, 0, 0, []), (7, .aload_n 0, 0, 0, 0, []), (8, .getfield 65, 35, 8, 0, []), (11, .aload_n 0, 0, 0, 0, []), (12, .getfield 165, 36, 8, 0, []), (15, .iconst 1, 0, 0, 0, []), (16, .isub, 0, 0, 0, []), (17, .iaload, 0, 0, 0, []), (18, .invokestatic 168, 86, 1, 1, []), (21, .iload_n 1, 1, 0, 0, []), (22, .if_icmp .lt (57), 4, 0, 0, []), (25, .aload_n 0, 0, 0, 0, []), (26, .dup, 0, 0, 0, []), (27, .getfield 165, 36, 8, 0, []), (30, .iconst 1, 0, 0, 0, []), (31, .isub, 0, 0, 0, []), (32, .putfield 165, 36, 8, 0, []), (35, .aload_n 0, 0, 0, 0, []), (36, .getfield 65, 35, 8, 0, []), (39, .aload_n 0, 0, 0, 0, []), (40, .getfield 165, 36, 8, 0, []), (43, .iaload, 0, 0, 0, []), (44, .istore_n 2, 2, 0, 0, []), (45, .aload_n 0, 0, 0, 0, []), (46, .dup, 0, 0, 0, []), (47, .getfield 171, 37, 8, 0, []), (50, .iload_n 2, 2, 0, 0, []), (51, .bipush 13, 0, 0, 0, []), (53, .if_icmp .eq (9), 1, 0, 0, []), (56, .iload_n 2, 2, 0, 0, []), (57, .bipush 19, 0, 0, 0, []), (59, .if_icmp .ne (7), 2, 0, 0, []), (62, .nop, 1, 0, 0, [])])
def mk_b88_1 : List Bool × List mj_I := ([true, true, true], [(62, .iconst 1, 0, 0, 0, []), (63, .goto (4), 3, 0, 0, [])])
def mk_b88_2 : List Bool × List mj_I := ([true, true, true], [(66, .iconst 0, 0, 0, 0, []), (67, .nop, 3, 0, 0, [])])
def mk_b88_3 : List Bool × List mj_I := ([true, true, true], [(67, .isub, 0, 0, 0, []), (68, .putfield 171, 37, 8, 0, []), (71, .aload_n 0, 0, 0, 0, []), (72, .iload_n 2, 2, 0, 0, []), (73, .invokevirtual 174, 87, 2, 0, []), (76, .goto (-76), 0, 0, 0, [])])
def mk_b88_4 : List Bool × List mj_I := ([false, false, false], [(79, .return_, 0, 0, 0, [])])
def mk_m88 : Nat × Nat × List (List Bool × List mj_I) := (3, 9, [mk_b88_0, mk_b88_1, mk_b88_2, mk_b88_3, mk_b88_4])
/-- NumbersCalledModel.holds(I)V -/
def mk_b89_0 : List Bool × List mj_I := ([true, true], [(0, .aload_n 0, 0, 0, 0, []), (1, .getfield 65, 35, 8, 0, []), (4, .aload_n 0, 0, 0, 0, []), (5, .getfield 165, 36, 8, 0, []), (8, .iload_n 1, 1, 0, 0, []), (9, .iastore, 0, 0, 0, []), (10, .aload_n 0, 0, 0, 0, []), (11, .dup, 0, 0, 0, []), (12, .getfield 165, 36, 8, 0, []), (15, .iconst 1, 0, 0, 0, []), (16, .iadd, 0, 0, 0, []), (17, .putfield 165, 36, 8, 0, []), (20, .return_, 0, 0, 0, [])])
def mk_m89 : Nat × Nat × List (List Bool × List mj_I) := (2, 9, [mk_b89_0])
/-- NumbersCalledModel.opensOne(I)Z -/
def mk_b90_0 : List Bool × List mj_I := ([true, true], [(0, .aload_n 0, 0, 0, 0, []), (1, .getfield 171, 37, 8, 0, []), (4, .iconst 5, 0, 0, 0, []), (5, .if_icmp .ne (5), 1, 0, 0, []), (8, .iconst 0, 0, 0, 0, []), (9, .ireturn, 0, 0, 1, [])])
def mk_b90_1 : List Bool × List mj_I := ([true, true], [(10, .aload_n 0, 0, 0, 0, []), (11, .dup, 0, 0, 0, []), (12, .getfield 171, 37, 8, 0, []), (15, .iconst 1, 0, 0, 0, []), (16, .iadd, 0, 0, 0, []), (17, .putfield 171, 37, 8, 0, []), (20, .aload_n 0, 0, 0, 0, []), (21, .iload_n 1, 1, 0, 0, []), (22, .invokevirtual 178, 89, 2, 0, []), (25, .iconst 1, 0, 0, 0, []), (26, .ireturn, 0, 0, 1, [])])
def mk_m90 : Nat × Nat × List (List Bool × List mj_I) := (2, 9, [mk_b90_0, mk_b90_1])
/-- NumbersCalledModel.between(I)Z -/
def mk_b91_0 : List Bool × List mj_I := ([true, true], [(0, .aload_n 0, 0, 0, 0, []), (1, .iload_n 1, 1, 0, 0, []), (2, .invokestatic 168, 86, 1, 1, []), (5, .iconst 4, 0, 0, 0, []), (6, .if_icmp .ne (7), 1, 0, 0, []), (9, .iconst 5, 0, 0, 0, []), (10, .goto (7), 2, 0, 0, [])])
def mk_b91_1 : List Bool × List mj_I := ([true, true], [(13, .iload_n 1, 1, 0, 0, []), (14, .invokestatic 168, 86, 1, 1, []), (17, .nop, 2, 0, 0, [])])
def mk_b91_2 : List Bool × List mj_I := ([true, true], [(17, .invokevirtual 181, 88, 2, 0, []), (20, .iload_n 1, 1, 0, 0, []), (21, .invokestatic 168, 86, 1, 1, []), (24, .iconst 4, 0, 0, 0, []), (25, .if_icmp .ne (30), 3, 0, 0, []), (28, .aload_n 0, 0, 0, 0, []), (29, .getfield 165, 36, 8, 0, []), (32, .ifCond .le (23), 3, 0, 0, []), (35, .aload_n 0, 0, 0, 0, []), (36, .getfield 65, 35, 8, 0, []), (39, .aload_n 0, 0, 0, 0, []), (40, .getfield 165, 36, 8, 0, []), (43, .iconst 1, 0, 0, 0, []), (44, .isub, 0, 0, 0, []), (45, .iaload, 0, 0, 0, []), (46, .invokestatic 168, 86, 1, 1, []), (49, .iconst 4, 0, 0, 0, []), (50, .if_icmp .ne (5), 3, 0, 0, []), (53, .iconst 0, 0, 0, 0, []), (54, .ireturn, 0, 0, 1, [])])
def mk_b91_3 : List Bool × List mj_I := ([true, true], [(55, .aload_n 0, 0, 0, 0, []), (56, .iload_n 1, 1, 0, 0, []), (57, .invokevirtual 178, 89, 2, 0, []), (60, .iconst 1, 0, 0, 0, []), (61, .ireturn, 0, 0, 1, [])])
def mk_m91 : Nat × Nat × List (List Bool × List mj_I) := (2, 9, [mk_b91_0, mk_b91_1, mk_b91_2, mk_b91_3])
/-- NumbersCalledModel.signOf()I -/
def mk_b92_0 : List Bool × List mj_I := ([true], [(0, .aload_n 0, 0, 0, 0, []), (1, .getfield 152, 32, 8, 0, []), (4, .iconst 4, 0, 0, 0, []), (5, .if_icmp .ne (8), 1, 0, 0, []), (8, .bipush 11, 0, 0, 0, []), (10, .goto (87), 8, 0, 0, [])])
def mk_b92_1 : List Bool × List mj_I := ([true], [(13, .aload_n 0, 0, 0, 0, []), (14, .getfield 152, 32, 8, 0, []), (17, .iconst 5, 0, 0, 0, []), (18, .if_icmp .ne (8), 2, 0, 0, []), (21, .bipush 12, 0, 0, 0, []), (23, .goto (74), 8, 0, 0, [])])
def mk_b92_2 : List Bool × List mj_I := ([true], [(26, .aload_n 0, 0, 0, 0, []), (27, .getfield 152, 32, 8, 0, []), (30, .bipush 60, 0, 0, 0, []), (32, .if_icmp .ne (8), 3, 0, 0, []), (35, .bipush 14, 0, 0, 0, []), (37, .goto (60), 8, 0, 0, [])])
def mk_b92_3 : List Bool × List mj_I := ([true], [(40, .aload_n 0, 0, 0, 0, []), (41, .getfield 152, 32, 8, 0, []), (44, .bipush 61, 0, 0, 0, []), (46, .if_icmp .ne (8), 4, 0, 0, []), (49, .bipush 15, 0, 0, 0, []), (51, .goto (46), 8, 0, 0, [])])
def mk_b92_4 : List Bool × List mj_I := ([true], [(54, .aload_n 0, 0, 0, 0, []), (55, .getfield 152, 32, 8, 0, []), (58, .bipush 43, 0, 0, 0, []), (60, .if_icmp .ne (8), 5, 0, 0, []), (63, .bipush 16, 0, 0, 0, []), (65, .goto (32), 8, 0, 0, [])])
def mk_b92_5 : List Bool × List mj_I := ([true], [(68, .aload_n 0, 0, 0, 0, []), (69, .getfield 152, 32, 8, 0, []), (72, .bipush 45, 0, 0, 0, []), (74, .if_icmp .ne (8), 6, 0, 0, []), (77, .bipush 17, 0, 0, 0, []), (79, .goto (18), 8, 0, 0, [])])
def mk_b92_6 : List Bool × List mj_I := ([true], [(82, .aload_n 0, 0, 0, 0, []), (83, .getfield 152, 32, 8, 0, []), (86, .bipush 42, 0, 0, 0, []), (88, .if_icmp .ne (8), 7, 0, 0, []), (91, .bipush 18, 0, 0, 0, []), (93, .goto (4), 8, 0, 0, [])])
def mk_b92_7 : List Bool × List mj_I := ([false], [(96, .iconst (-1), 0, 0, 0, []), (97, .nop, 8, 0, 0, [])])
def mk_b92_8 : List Bool × List mj_I := ([false], [(97, .ireturn, 0, 0, 0, [])])
def mk_m92 : Nat × Nat × List (List Bool × List mj_I) := (1, 9, [mk_b92_0, mk_b92_1, mk_b92_2, mk_b92_3, mk_b92_4, mk_b92_5, mk_b92_6, mk_b92_7, mk_b92_8])
/-- NumbersCalledModel.eRead()Z -/
def mk_b93_0 : List Bool × List mj_I := ([true, false, false, false], [(0, .aload_n 0, 0, 0, 0, []), (1, .iconst 0, 0, 0, 0, []), (2, .putfield 165, 36, 8, 0, []), (5, .aload_n 0, 0, 0, 0, []), (6, .iconst 0, 0, 0, 0, []), (7, .putfield 171, 37, 8, 0, []), (10, .iconst 1, 0, 0, 0, []), (11, .istore_n 1, 1, 0, 0, []), (12, .iconst 1, 0, 0, 0, []), (13, .istore_n 2, 2, 0, 0, []), (14, .nop, 1, 0, 0, [])])
def mk_b93_1 : List Bool × List mj_I := ([true, true, true, false], [(14, .aload_n 0, 0, 0, 0, []), (15, .invokevirtual 184, 85, 1, 0, []), (18, .iload_n 1, 1, 0, 0, []), (19, .ifCond .eq (131), 11, 0, 0, []), (22, .aload_n 0, 0, 0, 0, []), (23, .getfield 152, 32, 8, 0, []), (26, .iconst 1, 0, 0, 0, []), (27, .if_icmp .eq (11), 2, 0, 0, []), (30, .aload_n 0, 0, 0, 0, []), (31, .getfield 152, 32, 8, 0, []), (34, .iconst 2, 0, 0, 0, []), (35, .if_icmp .ne (40), 5, 0, 0, []), (38, .nop, 2, 0, 0, [])])
def mk_b93_2 : List Bool × List mj_I := ([true, false, true, false], [(38, .aload_n 0, 0, 0, 0, []), (39, .aload_n 0, 0, 0, 0, []), (40, .getfield 152, 32, 8, 0, []), (43, .iconst 1, 0, 0, 0, []), (44, .if_icmp .ne (13), 3, 0, 0, []), (47, .ldc 187, 8, 0, 0, []), (49, .aload_n 0, 0, 0, 0, []), (50, .getfield 155, 33, 8, 0, []), (53, .iadd, 0, 0, 0, []), (54, .goto (7), 4, 0, 0, [])])
def mk_b93_3 : List Bool × List mj_I := ([true, false, true, false], [(57, .aload_n 0, 0, 0, 0, []), (58, .getfield 155, 33, 8, 0, []), (61, .nop, 4, 0, 0, [])])
def mk_b93_4 : List Bool × List mj_I := ([true, false, true, false], [(61, .invokevirtual 174, 87, 2, 0, []), (64, .aload_n 0, 0, 0, 0, []), (65, .bipush 7, 0, 0, 0, []), (67, .invokevirtual 181, 88, 2, 0, []), (70, .iconst 0, 0, 0, 0, []), (71, .istore_n 1, 1, 0, 0, []), (72, .goto (-58), 1, 0, 0, [])])
def mk_b93_5 : List Bool × List mj_I := ([true, true, true, false], [(75, .aload_n 0, 0, 0, 0, []), (76, .getfield 152, 32, 8, 0, []), (79, .bipush 6, 0, 0, 0, []), (81, .if_icmp .ne (18), 6, 0, 0, []), (84, .iload_n 2, 2, 0, 0, []), (85, .ifCond .eq (14), 6, 0, 0, []), (88, .aload_n 0, 0, 0, 0, []), (89, .bipush 13, 0, 0, 0, []), (91, .invokevirtual 188, 90, 2, 1, []), (94, .ifCond .ne (-80), 1, 0, 0, []), (97, .iconst 0, 0, 0, 0, []), (98, .ireturn, 0, 0, 1, [])])
def mk_b93_6 : List Bool × List mj_I := ([true, true, false, false], [(99, .aload_n 0, 0, 0, 0, []), (100, .getfield 152, 32, 8, 0, []), (103, .bipush 45, 0, 0, 0, []), (105, .if_icmp .ne (19), 8, 0, 0, []), (108, .aload_n 0, 0, 0, 0, []), (109, .bipush 19, 0, 0, 0, []), (111, .invokevirtual 188, 90, 2, 1, []), (114, .ifCond .ne (5), 7, 0, 0, []), (117, .iconst 0, 0, 0, 0, []), (118, .ireturn, 0, 0, 1, [])])
def mk_b93_7 : List Bool × List mj_I := ([true, true, false, false], [(119, .iconst 0, 0, 0, 0, []), (120, .istore_n 2, 2, 0, 0, []), (121, .goto (-107), 1, 0, 0, [])])
def mk_b93_8 : List Bool × List mj_I := ([true, true, false, false], [(124, .aload_n 0, 0, 0, 0, []), (125, .getfield 152, 32, 8, 0, []), (128, .bipush 40, 0, 0, 0, []), (130, .if_icmp .ne (18), 10, 0, 0, []), (133, .aload_n 0, 0, 0, 0, []), (134, .iconst 0, 0, 0, 0, []), (135, .invokevirtual 188, 90, 2, 1, []), (138, .ifCond .ne (5), 9, 0, 0, []), (141, .iconst 0, 0, 0, 0, []), (142, .ireturn, 0, 0, 1, [])])
def mk_b93_9 : List Bool × List mj_I := ([true, true, false, false], [(143, .iconst 1, 0, 0, 0, []), (144, .istore_n 2, 2, 0, 0, []), (145, .goto (-131), 1, 0, 0, [])])
def mk_b93_10 : List Bool × List mj_I := ([false, false, false, false], [(148, .iconst 0, 0, 0, 0, []), (149, .ireturn, 0, 0, 1, [])])
def mk_b93_11 : List Bool × List mj_I := ([true, true, true, false], [(150, .aload_n 0, 0, 0, 0, []), (151, .getfield 152, 32, 8, 0, []), (154, .bipush 59, 0, 0, 0, []), (156, .if_icmp .ne (21), 14, 0, 0, []), (159, .aload_n 0, 0, 0, 0, []), (160, .iconst 1, 0, 0, 0, []), (161, .invokevirtual 181, 88, 2, 0, []), (164, .aload_n 0, 0, 0, 0, []), (165, .getfield 165, 36, 8, 0, []), (168, .ifCond .ne (7), 12, 0, 0, []), (171, .iconst 1, 0, 0, 0, []), (172, .goto (4), 13, 0, 0, [])])
def mk_b93_12 : List Bool × List mj_I := ([false, false, false, false], [(175, .iconst 0, 0, 0, 0, []), (176, .nop, 13, 0, 0, [])])
def mk_b93_13 : List Bool × List mj_I := ([false, false, false, false], [(176, .ireturn, 0, 0, 1, [])])
def mk_b93_14 : List Bool × List mj_I := ([true, true, true, false], [(177, .aload_n 0, 0, 0, 0, []), (178, .getfield 152, 32, 8, 0, []), (181, .bipush 41, 0, 0, 0, []), (183, .if_icmp .ne (46), 16, 0, 0, []), (186, .aload_n 0, 0, 0, 0, []), (187, .iconst 1, 0, 0, 0, []), (188, .invokevirtual 181, 88, 2, 0, []), (191, .aload_n 0, 0, 0, 0, []), (192, .getfield 165, 36, 8, 0, []), (195, .ifCond .ne (5), 15, 0, 0, []), (198, .iconst 0, 0, 0, 0, []), (199, .ireturn, 0, 0, 1, [])])
def mk_b93_15 : List Bool × List mj_I := ([true, true, true, false], [(200, .aload_n 0, 0, 0, 0, []), (201, .dup, 0, 0, 0, []), (202, .getfield 165, 36, 8, 0, []), (205, .iconst 1, 0, 0, 0, []), (206, .isub, 0, 0, 0, []), (207, .putfield 165, 36, 8, 0, []), (210, .aload_n 0, 0, 0, 0, []), (211, .dup, 0, 0, 0, []), (212, .getfield 171, 37, 8, 0, []), (215, .iconst 1, 0, 0, 0, []), (216, .isub, 0, 0, 0, []), (217, .putfield 171, 37, 8, 0, []), (220, .aload_n 0, 0, 0, 0, []), (221, .bipush 7, 0, 0, 0, []), (223, .invokevirtual 181, 88, 2, 0, []), (226, .goto (-212), 1, 0, 0, [])])
def mk_b93_16 : List Bool × List mj_I := ([true, false, false, false], [(229, .aload_n 0, 0, 0, 0, []), (230, .invokevirtual 191, 92, 1, 1, []), (233, .istore_n 3, 3, 0, 0, []), (234, .iload_n 3, 3, 0, 0, []), (235, .iconst (-1), 0, 0, 0, []), (236, .if_icmp .eq (11), 17, 0, 0, []), (239, .aload_n 0, 0, 0, 0, []), (240, .iload_n 3, 3, 0, 0, []), (241, .invokevirtual 194, 91, 2, 1, []), (244, .ifCond .ne (5), 18, 0, 0, []), (247, .nop, 17, 0, 0, [])])
def mk_b93_17 : List Bool × List mj_I := ([false, false, false, false], [(247, .iconst 0, 0, 0, 0, []), (248, .ireturn, 0, 0, 1, [])])
def mk_b93_18 : List Bool × List mj_I := ([true, false, false, true], [(249, .iconst 1, 0, 0, 0, []), (250, .istore_n 1, 1, 0, 0, []), (251, .iload_n 3, 3, 0, 0, []), (252, .bipush 12, 0, 0, 0, []), (254, .if_icmp .gt (7), 19, 0, 0, []), (257, .iconst 1, 0, 0, 0, []), (258, .goto (4), 20, 0, 0, [])])
def mk_b93_19 : List Bool × List mj_I := ([true, true, false, false], [(261, .iconst 0, 0, 0, 0, []), (262, .nop, 20, 0, 0, [])])
def mk_b93_20 : List Bool × List mj_I := ([true, true, false, false], [(262, .istore_n 2, 2, 0, 0, []), (263, .goto (-249), 1, 0, 0, [])])
def mk_m93 : Nat × Nat × List (List Bool × List mj_I) := (4, 9, [mk_b93_0, mk_b93_1, mk_b93_2, mk_b93_3, mk_b93_4, mk_b93_5, mk_b93_6, mk_b93_7, mk_b93_8, mk_b93_9, mk_b93_10, mk_b93_11, mk_b93_12, mk_b93_13, mk_b93_14, mk_b93_15, mk_b93_16, mk_b93_17, mk_b93_18, mk_b93_19, mk_b93_20])
/-- NumbersCalledModel.text()I -/
def mk_b94_0 : List Bool × List mj_I := ([true, false, false], [(0, .aload_n 0, 0, 0, 0, []), (1, .getfield 137, 15, 8, 0, []), (4, .bipush 6, 0, 0, 0, []), (6, .if_icmp .ne (6), 1, 0, 0, []), (9, .bipush (-4), 0, 0, 0, []), (11, .ireturn, 0, 0, 0, [])])
def mk_b94_1 : List Bool × List mj_I := ([true, false, false], [(12, .aload_n 0, 0, 0, 0, []), (13, .iconst 0, 0, 0, 0, []), (14, .putfield 146, 30, 8, 0, []), (17, .aload_n 0, 0, 0, 0, []), (18, .iconst 0, 0, 0, 0, []), (19, .putfield 162, 38, 8, 0, []), (22, .iconst 1, 0, 0, 0, []), (23, .istore_n 1, 1, 0, 0, []), (24, .iconst 0, 0, 0, 0, []), (25, .istore_n 2, 2, 0, 0, []), (26, .nop, 2, 0, 0, [])])
def mk_b94_2 : List Bool × List mj_I := ([true, true, true], [(26, .iload_n 2, 2, 0, 0, []), (27, .iconst 3, 0, 0, 0, []), (28, .if_icmp .ge (73), 7, 0, 0, []), (31, .iload_n 1, 1, 0, 0, []), (32, .ifCond .eq (69), 7, 0, 0, []), (35, .aload_n 0, 0, 0, 0, []), (36, .invokevirtual 184, 85, 1, 0, []), (39, .aload_n 0, 0, 0, 0, []), (40, .getfield 152, 32, 8, 0, []), (43, .iconst 3, 0, 0, 0, []), (44, .if_icmp .ne (15), 3, 0, 0, []), (47, .aload_n 0, 0, 0, 0, []), (48, .getfield 155, 33, 8, 0, []), (51, .iload_n 2, 2, 0, 0, []), (52, .if_icmp .ne (7), 3, 0, 0, []), (55, .iconst 1, 0, 0, 0, []), (56, .goto (4), 4, 0, 0, [])])
def mk_b94_3 : List Bool × List mj_I := ([true, false, true], [(59, .iconst 0, 0, 0, 0, []), (60, .nop, 4, 0, 0, [])])
def mk_b94_4 : List Bool × List mj_I := ([true, false, true], [(60, .istore_n 1, 1, 0, 0, []), (61, .aload_n 0, 0, 0, 0, []), (62, .getfield 41, 14, 8, 0, []), (65, .iconst 4, 0, 0, 0, []), (66, .aload_n 0, 0, 0, 0, []), (67, .getfield 137, 15, 8, 0, []), (70, .imul, 0, 0, 0, []), (71, .iload_n 2, 2, 0, 0, []), (72, .iadd, 0, 0, 0, []), (73, .aload_n 0, 0, 0, 0, []), (74, .getfield 162, 38, 8, 0, []), (77, .iastore, 0, 0, 0, []), (78, .iload_n 1, 1, 0, 0, []), (79, .ifCond .eq (14), 5, 0, 0, []), (82, .aload_n 0, 0, 0, 0, []), (83, .invokevirtual 197, 93, 1, 1, []), (86, .ifCond .eq (7), 5, 0, 0, []), (89, .iconst 1, 0, 0, 0, []), (90, .goto (4), 6, 0, 0, [])])
def mk_b94_5 : List Bool × List mj_I := ([true, false, true], [(93, .iconst 0, 0, 0, 0, []), (94, .nop, 6, 0, 0, [])])
def mk_b94_6 : List Bool × List mj_I := ([true, false, true], [(94, .istore_n 1, 1, 0, 0, []), (95, .iinc 2 1, 2, 0, 0, []), (98, .goto (-72), 2, 0, 0, [])])
def mk_b94_7 : List Bool × List mj_I := ([true, true, false], [(101, .iload_n 1, 1, 0, 0, []), (102, .ifCond .eq (20), 10, 0, 0, []), (105, .aload_n 0, 0, 0, 0, []), (106, .invokevirtual 184, 85, 1, 0, []), (109, .aload_n 0, 0, 0, 0, []), (110, .getfield 152, 32, 8, 0, []), (113, .ifCond .ne (7), 8, 0, 0, []), (116, .iconst 1, 0, 0, 0, []), (117, .goto (4), 9, 0, 0, [])])
def mk_b94_8 : List Bool × List mj_I := ([true, false, false], [(120, .iconst 0, 0, 0, 0, []), (121, .nop, 9, 0, 0, [])])
def mk_b94_9 : List Bool × List mj_I := ([true, false, false], [(121, .istore_n 1, 1, 0, 0, []), (122, .nop, 10, 0, 0, [])])
def mk_b94_10 : List Bool × List mj_I := ([true, true, false], [(122, .aload_n 0, 0, 0, 0, []), (123, .getfield 41, 14, 8, 0, []), (126, .iconst 4, 0, 0, 0, []), (127, .aload_n 0, 0, 0, 0, []), (128, .getfield 137, 15, 8, 0, []), (131, .imul, 0, 0, 0, []), (132, .iconst 3, 0, 0, 0, []), (133, .iadd, 0, 0, 0, []), (134, .aload_n 0, 0, 0, 0, []), (135, .getfield 162, 38, 8, 0, []), (138, .iastore, 0, 0, 0, []), (139, .aload_n 0, 0, 0, 0, []), (140, .iconst 0, 0, 0, 0, []), (141, .putfield 105, 12, 8, 0, []), (144, .iload_n 1, 1, 0, 0, []), (145, .ifCond .ne (11), 11, 0, 0, []), (148, .bipush (-100), 0, 0, 0, []), (150, .aload_n 0, 0, 0, 0, []), (151, .getfield 149, 31, 8, 0, []), (154, .isub, 0, 0, 0, []), (155, .ireturn, 0, 0, 0, [])])
def mk_b94_11 : List Bool × List mj_I := ([true, false, false], [(156, .aload_n 0, 0, 0, 0, []), (157, .dup, 0, 0, 0, []), (158, .getfield 137, 15, 8, 0, []), (161, .iconst 1, 0, 0, 0, []), (162, .iadd, 0, 0, 0, []), (163, .putfield 137, 15, 8, 0, []), (166, .aload_n 0, 0, 0, 0, []), (167, .getfield 137, 15, 8, 0, []), (170, .iconst 1, 0, 0, 0, []), (171, .isub, 0, 0, 0, []), (172, .ireturn, 0, 0, 0, [])])
def mk_m94 : Nat × Nat × List (List Bool × List mj_I) := (3, 9, [mk_b94_0, mk_b94_1, mk_b94_2, mk_b94_3, mk_b94_4, mk_b94_5, mk_b94_6, mk_b94_7, mk_b94_8, mk_b94_9, mk_b94_10, mk_b94_11])
/-- NumbersCalledModel.two(III)I -/
def mk_b95_0 : List Bool × List mj_I := ([true, true, true], [(0, .iload_n 0, 0, 0, 0, []), (1, .tableswitch (101) 11 17 #[43, 57, 101, 71, 82, 93, 97], 16, 0, 0, [(11, 1), (12, 5), (13, 16), (14, 8), (15, 11), (16, 14), (17, 15)])])
def mk_b95_1 : List Bool × List mj_I := ([false, true, true], [(44, .iload_n 1, 1, 0, 0, []), (45, .ifCond .ne (7), 2, 0, 0, []), (48, .iload_n 2, 2, 0, 0, []), (49, .ifCond .eq (7), 3, 0, 0, []), (52, .nop, 2, 0, 0, [])])
def mk_b95_2 : List Bool × List mj_I := ([false, false, false], [(52, .iconst 1, 0, 0, 0, []), (53, .goto (4), 4, 0, 0, [])])
def mk_b95_3 : List Bool × List mj_I := ([false, false, false], [(56, .iconst 0, 0, 0, 0, []), (57, .nop, 4, 0, 0, [])])
def mk_b95_4 : List Bool × List mj_I := ([false, false, false], [(57, .ireturn, 0, 0, 0, [])])
def mk_b95_5 : List Bool × List mj_I := ([false, true, true], [(58, .iload_n 1, 1, 0, 0, []), (59, .ifCond .eq (11), 6, 0, 0, []), (62, .iload_n 2, 2, 0, 0, []), (63, .ifCond .eq (7), 6, 0, 0, []), (66, .iconst 1, 0, 0, 0, []), (67, .goto (4), 7, 0, 0, [])])
def mk_b95_6 : List Bool × List mj_I := ([false, false, false], [(70, .iconst 0, 0, 0, 0, []), (71, .nop, 7, 0, 0, [])])
def mk_b95_7 : List Bool × List mj_I := ([false, false, false], [(71, .ireturn, 0, 0, 0, [])])
def mk_b95_8 : List Bool × List mj_I := ([false, true, true], [(72, .iload_n 1, 1, 0, 0, []), (73, .iload_n 2, 2, 0, 0, []), (74, .if_icmp .ge (7), 9, 0, 0, []), (77, .iconst 1, 0, 0, 0, []), (78, .goto (4), 10, 0, 0, [])])
def mk_b95_9 : List Bool × List mj_I := ([false, false, false], [(81, .iconst 0, 0, 0, 0, []), (82, .nop, 10, 0, 0, [])])
def mk_b95_10 : List Bool × List mj_I := ([false, false, false], [(82, .ireturn, 0, 0, 0, [])])
def mk_b95_11 : List Bool × List mj_I := ([false, true, true], [(83, .iload_n 1, 1, 0, 0, []), (84, .iload_n 2, 2, 0, 0, []), (85, .if_icmp .ne (7), 12, 0, 0, []), (88, .iconst 1, 0, 0, 0, []), (89, .goto (4), 13, 0, 0, [])])
def mk_b95_12 : List Bool × List mj_I := ([false, false, false], [(92, .iconst 0, 0, 0, 0, []), (93, .nop, 13, 0, 0, [])])
def mk_b95_13 : List Bool × List mj_I := ([false, false, false], [(93, .ireturn, 0, 0, 0, [])])
def mk_b95_14 : List Bool × List mj_I := ([false, true, true], [(94, .iload_n 1, 1, 0, 0, []), (95, .iload_n 2, 2, 0, 0, []), (96, .iadd, 0, 0, 0, []), (97, .ireturn, 0, 0, 0, [])])
def mk_b95_15 : List Bool × List mj_I := ([false, true, true], [(98, .iload_n 1, 1, 0, 0, []), (99, .iload_n 2, 2, 0, 0, []), (100, .isub, 0, 0, 0, []), (101, .ireturn, 0, 0, 0, [])])
def mk_b95_16 : List Bool × List mj_I := ([false, true, true], [(102, .iload_n 1, 1, 0, 0, []), (103, .iload_n 2, 2, 0, 0, []), (104, .imul, 0, 0, 0, []), (105, .ireturn, 0, 0, 0, [])])
def mk_m95 : Nat × Nat × List (List Bool × List mj_I) := (3, 0, [mk_b95_0, mk_b95_1, mk_b95_2, mk_b95_3, mk_b95_4, mk_b95_5, mk_b95_6, mk_b95_7, mk_b95_8, mk_b95_9, mk_b95_10, mk_b95_11, mk_b95_12, mk_b95_13, mk_b95_14, mk_b95_15, mk_b95_16])
/-- NumbersCalledModel.worth(I)I -/
def mk_b96_0 : List Bool × List mj_I := ([true, true, false, false, false], [(0, .iconst 0, 0, 0, 0, []), (1, .istore_n 2, 2, 0, 0, []), (2, .aload_n 0, 0, 0, 0, []), (3, .getfield 41, 14, 8, 0, []), (6, .iconst 4, 0, 0, 0, []), (7, .aload_n 0, 0, 0, 0, []), (8, .getfield 140, 16, 8, 0, []), (11, .imul, 0, 0, 0, []), (12, .iload_n 1, 1, 0, 0, []), (13, .iadd, 0, 0, 0, []), (14, .iaload, 0, 0, 0, []), (15, .istore_n 3, 3, 0, 0, []), (16, .nop, 1, 0, 0, [])])
def mk_b96_1 : List Bool × List mj_I := ([true, true, true, true, false], [(16, .iload_n 3, 3, 0, 0, []), (17, .aload_n 0, 0, 0, 0, []), (18, .getfield 41, 14, 8, 0, []), (21, .iconst 4, 0, 0, 0, []), (22, .aload_n 0, 0, 0, 0, []), (23, .getfield 140, 16, 8, 0, []), (26, .imul, 0, 0, 0, []), (27, .iload_n 1, 1, 0, 0, []), (28, .iadd, 0, 0, 0, []), (29, .iconst 1, 0, 0, 0, []), (30, .iadd, 0, 0, 0, []), (31, .iaload, 0, 0, 0, []), (32, .if_icmp .ge (165), 11, 0, 0, []), (35, .aload_n 0, 0, 0, 0, []), (36, .getfield 38, 13, 8, 0, []), (39, .sipush 200, 0, 0, 0, []), (42, .aload_n 0, 0, 0, 0, []), (43, .getfield 140, 16, 8, 0, []), (46, .imul, 0, 0, 0, []), (47, .iload_n 3, 3, 0, 0, []), (48, .iadd, 0, 0, 0, []), (49, .iaload, 0, 0, 0, []), (50, .istore 4, 4, 0, 0, []), (52, .iload 4, 4, 0, 0, []), (54, .ldc 187, 8, 0, 0, []), (56, .if_icmp .ge (10), 2, 0, 0, []), (59, .iload 4, 4, 0, 0, []), (61, .bipush 11, 0, 0, 0, []), (63, .if_icmp .ge (37), 5, 0, 0, []), (66, .nop, 2, 0, 0, [])])
def mk_b96_2 : List Bool × List mj_I := ([true, true, true, true, true], [(66, .aload_n 0, 0, 0, 0, []), (67, .getfield 68, 39, 8, 0, []), (70, .iload_n 2, 2, 0, 0, []), (71, .iload 4, 4, 0, 0, []), (73, .bipush 11, 0, 0, 0, []), (75, .if_icmp .ge (13), 3, 0, 0, []), (78, .aload_n 0, 0, 0, 0, []), (79, .getfield 71, 40, 8, 0, []), (82, .iload 4, 4, 0, 0, []), (84, .iaload, 0, 0, 0, []), (85, .goto (8), 4, 0, 0, [])])
def mk_b96_3 : List Bool × List mj_I := ([true, true, true, true, true], [(88, .iload 4, 4, 0, 0, []), (90, .ldc 187, 8, 0, 0, []), (92, .isub, 0, 0, 0, []), (93, .nop, 4, 0, 0, [])])
def mk_b96_4 : List Bool × List mj_I := ([true, true, true, true, false], [(93, .iastore, 0, 0, 0, []), (94, .iinc 2 1, 2, 0, 0, []), (97, .goto (94), 10, 0, 0, [])])
def mk_b96_5 : List Bool × List mj_I := ([true, true, true, true, true], [(100, .iload 4, 4, 0, 0, []), (102, .bipush 13, 0, 0, 0, []), (104, .if_icmp .ne (30), 8, 0, 0, []), (107, .aload_n 0, 0, 0, 0, []), (108, .getfield 68, 39, 8, 0, []), (111, .iload_n 2, 2, 0, 0, []), (112, .iconst 1, 0, 0, 0, []), (113, .isub, 0, 0, 0, []), (114, .aload_n 0, 0, 0, 0, []), (115, .getfield 68, 39, 8, 0, []), (118, .iload_n 2, 2, 0, 0, []), (119, .iconst 1, 0, 0, 0, []), (120, .isub, 0, 0, 0, []), (121, .iaload, 0, 0, 0, []), (122, .ifCond .ne (7), 6, 0, 0, []), (125, .iconst 1, 0, 0, 0, []), (126, .goto (4), 7, 0, 0, [])])
def mk_b96_6 : List Bool × List mj_I := ([true, true, true, true, false], [(129, .iconst 0, 0, 0, 0, []), (130, .nop, 7, 0, 0, [])])
def mk_b96_7 : List Bool × List mj_I := ([true, true, true, true, false], [(130, .iastore, 0, 0, 0, []), (131, .goto (60), 10, 0, 0, [])])
def mk_b96_8 : List Bool × List mj_I := ([true, true, true, true, true], [(134, .iload 4, 4, 0, 0, []), (136, .bipush 19, 0, 0, 0, []), (138, .if_icmp .ne (23), 9, 0, 0, []), (141, .aload_n 0, 0, 0, 0, []), (142, .getfield 68, 39, 8, 0, []), (145, .iload_n 2, 2, 0, 0, []), (146, .iconst 1, 0, 0, 0, []), (147, .isub, 0, 0, 0, []), (148, .aload_n 0, 0, 0, 0, []), (149, .getfield 68, 39, 8, 0, []), (152, .iload_n 2, 2, 0, 0, []), (153, .iconst 1, 0, 0, 0, []), (154, .isub, 0, 0, 0, []), (155, .iaload, 0, 0, 0, []), (156, .ineg, 0, 0, 0, []), (157, .iastore, 0, 0, 0, []), (158, .goto (33), 10, 0, 0, [])])
def mk_b96_9 : List Bool × List mj_I := ([true, true, true, true, true], [(161, .iinc 2 (-1), 2, 0, 0, []), (164, .aload_n 0, 0, 0, 0, []), (165, .getfield 68, 39, 8, 0, []), (168, .iload_n 2, 2, 0, 0, []), (169, .iconst 1, 0, 0, 0, []), (170, .isub, 0, 0, 0, []), (171, .iload 4, 4, 0, 0, []), (173, .aload_n 0, 0, 0, 0, []), (174, .getfield 68, 39, 8, 0, []), (177, .iload_n 2, 2, 0, 0, []), (178, .iconst 1, 0, 0, 0, []), (179, .isub, 0, 0, 0, []), (180, .iaload, 0, 0, 0, []), (181, .aload_n 0, 0, 0, 0, []), (182, .getfield 68, 39, 8, 0, []), (185, .iload_n 2, 2, 0, 0, []), (186, .iaload, 0, 0, 0, []), (187, .invokestatic 201, 95, 3, 1, []), (190, .iastore, 0, 0, 0, []), (191, .nop, 10, 0, 0, [])])
def mk_b96_10 : List Bool × List mj_I := ([true, true, true, true, false], [(191, .iinc 3 1, 3, 0, 0, []), (194, .goto (-178), 1, 0, 0, [])])
def mk_b96_11 : List Bool × List mj_I := ([true, false, false, false, false], [(197, .aload_n 0, 0, 0, 0, []), (198, .getfield 68, 39, 8, 0, []), (201, .iconst 0, 0, 0, 0, []), (202, .iaload, 0, 0, 0, []), (203, .ireturn, 0, 0, 0, [])])
def mk_m96 : Nat × Nat × List (List Bool × List mj_I) := (5, 9, [mk_b96_0, mk_b96_1, mk_b96_2, mk_b96_3, mk_b96_4, mk_b96_5, mk_b96_6, mk_b96_7, mk_b96_8, mk_b96_9, mk_b96_10, mk_b96_11])
/-- NumbersCalledModel.force(I)I -/
def mk_b97_0 : List Bool × List mj_I := ([true, true, false], [(0, .iload_n 1, 1, 0, 0, []), (1, .iconst 0, 0, 0, 0, []), (2, .aload_n 0, 0, 0, 0, []), (3, .getfield 137, 15, 8, 0, []), (6, .iconst 1, 0, 0, 0, []), (7, .isub, 0, 0, 0, []), (8, .invokestatic 115, 72, 3, 1, []), (11, .ifCond .ne (6), 1, 0, 0, []), (14, .bipush (-2), 0, 0, 0, []), (16, .ireturn, 0, 0, 0, [])])
def mk_b97_1 : List Bool × List mj_I := ([true, true, false], [(17, .aload_n 0, 0, 0, 0, []), (18, .getfield 140, 16, 8, 0, []), (21, .istore_n 2, 2, 0, 0, []), (22, .aload_n 0, 0, 0, 0, []), (23, .iload_n 1, 1, 0, 0, []), (24, .putfield 140, 16, 8, 0, []), (27, .iload_n 2, 2, 0, 0, []), (28, .ireturn, 0, 0, 0, [])])
def mk_m97 : Nat × Nat × List (List Bool × List mj_I) := (3, 9, [mk_b97_0, mk_b97_1])
/-- NumbersCalledModel.asksOf(IIIII)I -/
def mk_b98_0 : List Bool × List mj_I := ([true, true, true, true, true, true], [(0, .aload_n 0, 0, 0, 0, []), (1, .getfield 71, 40, 8, 0, []), (4, .iconst 0, 0, 0, 0, []), (5, .aload_n 0, 0, 0, 0, []), (6, .getfield 26, 8, 8, 0, []), (9, .iload_n 2, 2, 0, 0, []), (10, .iaload, 0, 0, 0, []), (11, .iastore, 0, 0, 0, []), (12, .aload_n 0, 0, 0, 0, []), (13, .getfield 71, 40, 8, 0, []), (16, .iconst 1, 0, 0, 0, []), (17, .aload_n 0, 0, 0, 0, []), (18, .getfield 29, 9, 8, 0, []), (21, .iload_n 2, 2, 0, 0, []), (22, .iaload, 0, 0, 0, []), (23, .iastore, 0, 0, 0, []), (24, .aload_n 0, 0, 0, 0, []), (25, .getfield 71, 40, 8, 0, []), (28, .iconst 2, 0, 0, 0, []), (29, .iload_n 3, 3, 0, 0, []), (30, .iastore, 0, 0, 0, []), (31, .aload_n 0, 0, 0, 0, []), (32, .getfield 71, 40, 8, 0, []), (35, .iconst 3, 0, 0, 0, []), (36, .iload 4, 4, 0, 0, []), (38, .iastore, 0, 0, 0, []), (39, .aload_n 0, 0, 0, 0, []), (40, .getfield 71, 40, 8, 0, []), (43, .iconst 4, 0, 0, 0, []), (44, .iload 5, 5, 0, 0, []), (46, .iastore, 0, 0, 0, []), (47, .aload_n 0, 0, 0, 0, []), (48, .getfield 71, 40, 8, 0, []), (51, .iconst 5, 0, 0, 0, []), (52, .aload_n 0, 0, 0, 0, []), (53, .getfield 23, 7, 8, 0, []), (56, .iload_n 2, 2, 0, 0, []), (57, .iaload, 0, 0, 0, []), (58, .iastore, 0, 0, 0, []), (59, .aload_n 0, 0, 0, 0, []), (60, .iload_n 1, 1, 0, 0, []), (61, .invokevirtual 205, 96, 2, 1, []), (64, .iload_n 1, 1, 0, 0, []), (65, .ifCond .ne (7), 1, 0, 0, []), (68, .iconst 1, 0, 0, 0, []), (69, .goto (4), 2, 0, 0, [])])
def mk_b98_1 : List Bool × List mj_I := ([false, true, false, false, false, false], [(72, .iconst 0, 0, 0, 0, []), (73, .nop, 2, 0, 0, [])])
def mk_b98_2 : List Bool × List mj_I := ([false, true, false, false, false, false], [(73, .iload_n 1, 1, 0, 0, []), (74, .ifCond .ne (8), 3, 0, 0, []), (77, .bipush 60, 0, 0, 0, []), (79, .goto (6), 4, 0, 0, [])])
def mk_b98_3 : List Bool × List mj_I := ([false, false, false, false, false, false], [(82, .sipush 999, 0, 0, 0, []), (85, .nop, 4, 0, 0, [])])
def mk_b98_4 : List Bool × List mj_I := ([false, false, false, false, false, false], [(85, .invokestatic 208, 73, 3, 1, []), (88, .ireturn, 0, 0, 0, [])])
def mk_m98 : Nat × Nat × List (List Bool × List mj_I) := (6, 9, [mk_b98_0, mk_b98_1, mk_b98_2, mk_b98_3, mk_b98_4])
/-- NumbersCalledModel.pull(III)I -/
def mk_b99_0 : List Bool × List mj_I := ([true, true, true, true, false], [(0, .iload_n 2, 2, 0, 0, []), (1, .ifCond .lt (26), 1, 0, 0, []), (4, .iload_n 2, 2, 0, 0, []), (5, .sipush 1000, 0, 0, 0, []), (8, .idiv, 0, 0, 0, []), (9, .iconst 3, 0, 0, 0, []), (10, .if_icmp .gt (17), 1, 0, 0, []), (13, .iload_n 2, 2, 0, 0, []), (14, .sipush 1000, 0, 0, 0, []), (17, .irem, 0, 0, 0, []), (18, .bipush 9, 0, 0, 0, []), (20, .if_icmp .le (7), 1, 0, 0, []), (23, .iconst 1, 0, 0, 0, []), (24, .goto (4), 2, 0, 0, [])])
def mk_b99_1 : List Bool × List mj_I := ([true, true, true, true, false], [(27, .iconst 0, 0, 0, 0, []), (28, .nop, 2, 0, 0, [])])
def mk_b99_2 : List Bool × List mj_I := ([true, true, true, true, false], [(28, .istore 4, 4, 0, 0, []), (30, .iload_n 1, 1, 0, 0, []), (31, .iconst 0, 0, 0, 0, []), (32, .iconst 5, 0, 0, 0, []), (33, .invokestatic 115, 72, 3, 1, []), (36, .ifCond .eq (18), 3, 0, 0, []), (39, .iload 4, 4, 0, 0, []), (41, .ifCond .eq (13), 3, 0, 0, []), (44, .iload_n 3, 3, 0, 0, []), (45, .iconst 0, 0, 0, 0, []), (46, .bipush 119, 0, 0, 0, []), (48, .invokestatic 115, 72, 3, 1, []), (51, .ifCond .ne (6), 4, 0, 0, []), (54, .nop, 3, 0, 0, [])])
def mk_b99_3 : List Bool × List mj_I := ([false, false, false, false, false], [(54, .bipush (-2), 0, 0, 0, []), (56, .ireturn, 0, 0, 0, [])])
def mk_b99_4 : List Bool × List mj_I := ([true, true, true, true, false], [(57, .aload_n 0, 0, 0, 0, []), (58, .getfield 119, 5, 8, 0, []), (61, .bipush 16, 0, 0, 0, []), (63, .if_icmp .ne (6), 5, 0, 0, []), (66, .bipush (-4), 0, 0, 0, []), (68, .ireturn, 0, 0, 0, [])])
def mk_b99_5 : List Bool × List mj_I := ([true, true, true, true, false], [(69, .aload_n 0, 0, 0, 0, []), (70, .iload_n 1, 1, 0, 0, []), (71, .iload_n 2, 2, 0, 0, []), (72, .iload_n 3, 3, 0, 0, []), (73, .invokevirtual 211, 100, 4, 0, []), (76, .aload_n 0, 0, 0, 0, []), (77, .dup, 0, 0, 0, []), (78, .getfield 119, 5, 8, 0, []), (81, .iconst 1, 0, 0, 0, []), (82, .iadd, 0, 0, 0, []), (83, .putfield 119, 5, 8, 0, []), (86, .aload_n 0, 0, 0, 0, []), (87, .getfield 119, 5, 8, 0, []), (90, .iconst 1, 0, 0, 0, []), (91, .isub, 0, 0, 0, []), (92, .ireturn, 0, 0, 0, [])])
def mk_m99 : Nat × Nat × List (List Bool × List mj_I) := (5, 9, [mk_b99_0, mk_b99_1, mk_b99_2, mk_b99_3, mk_b99_4, mk_b99_5])
/-- NumbersCalledModel.comesAs(III)V -/
def mk_b100_0 : List Bool × List mj_I := ([true, true, true, true], [(0, .aload_n 0, 0, 0, 0, []), (1, .getfield 20, 6, 8, 0, []), (4, .aload_n 0, 0, 0, 0, []), (5, .getfield 119, 5, 8, 0, []), (8, .iload_n 1, 1, 0, 0, []), (9, .iastore, 0, 0, 0, []), (10, .aload_n 0, 0, 0, 0, []), (11, .getfield 23, 7, 8, 0, []), (14, .aload_n 0, 0, 0, 0, []), (15, .getfield 119, 5, 8, 0, []), (18, .iload_n 2, 2, 0, 0, []), (19, .sipush 1000, 0, 0, 0, []), (22, .idiv, 0, 0, 0, []), (23, .iastore, 0, 0, 0, []), (24, .aload_n 0, 0, 0, 0, []), (25, .getfield 26, 8, 8, 0, []), (28, .aload_n 0, 0, 0, 0, []), (29, .getfield 119, 5, 8, 0, []), (32, .iload_n 2, 2, 0, 0, []), (33, .bipush 10, 0, 0, 0, []), (35, .idiv, 0, 0, 0, []), (36, .bipush 100, 0, 0, 0, []), (38, .irem, 0, 0, 0, []), (39, .iastore, 0, 0, 0, []), (40, .aload_n 0, 0, 0, 0, []), (41, .getfield 29, 9, 8, 0, []), (44, .aload_n 0, 0, 0, 0, []), (45, .getfield 119, 5, 8, 0, []), (48, .iload_n 2, 2, 0, 0, []), (49, .bipush 10, 0, 0, 0, []), (51, .irem, 0, 0, 0, []), (52, .iastore, 0, 0, 0, []), (53, .aload_n 0, 0, 0, 0, []), (54, .getfield 32, 10, 8, 0, []), (57, .aload_n 0, 0, 0, 0, []), (58, .getfield 119, 5, 8, 0, []), (61, .iload_n 3, 3, 0, 0, []), (62, .iastore, 0, 0, 0, []), (63, .return_, 0, 0, 0, [])])
def mk_m100 : Nat × Nat × List (List Bool × List mj_I) := (4, 9, [mk_b100_0])
/-- NumbersCalledModel.move(II)I -/
def mk_b101_0 : List Bool × List mj_I := ([true, true, true, false], [(0, .aload_n 0, 0, 0, 0, []), (1, .iload_n 1, 1, 0, 0, []), (2, .invokevirtual 215, 75, 2, 1, []), (5, .ifCond .ne (6), 1, 0, 0, []), (8, .bipush (-5), 0, 0, 0, []), (10, .ireturn, 0, 0, 0, [])])
def mk_b101_1 : List Bool × List mj_I := ([true, true, true, false], [(11, .iload_n 2, 2, 0, 0, []), (12, .iconst 0, 0, 0, 0, []), (13, .bipush 119, 0, 0, 0, []), (15, .invokestatic 115, 72, 3, 1, []), (18, .ifCond .ne (6), 2, 0, 0, []), (21, .bipush (-7), 0, 0, 0, []), (23, .ireturn, 0, 0, 0, [])])
def mk_b101_2 : List Bool × List mj_I := ([true, true, true, false], [(24, .aload_n 0, 0, 0, 0, []), (25, .getfield 32, 10, 8, 0, []), (28, .iload_n 1, 1, 0, 0, []), (29, .iaload, 0, 0, 0, []), (30, .istore_n 3, 3, 0, 0, []), (31, .aload_n 0, 0, 0, 0, []), (32, .getfield 32, 10, 8, 0, []), (35, .iload_n 1, 1, 0, 0, []), (36, .iload_n 2, 2, 0, 0, []), (37, .iastore, 0, 0, 0, []), (38, .iload_n 3, 3, 0, 0, []), (39, .ireturn, 0, 0, 0, [])])
def mk_m101 : Nat × Nat × List (List Bool × List mj_I) := (4, 9, [mk_b101_0, mk_b101_1, mk_b101_2])
/-- NumbersCalledModel.forget()I -/
def mk_b102_0 : List Bool × List mj_I := ([true], [(0, .aload_n 0, 0, 0, 0, []), (1, .getfield 119, 5, 8, 0, []), (4, .ifCond .ne (6), 1, 0, 0, []), (7, .bipush (-3), 0, 0, 0, []), (9, .ireturn, 0, 0, 0, [])])
def mk_b102_1 : List Bool × List mj_I := ([true], [(10, .aload_n 0, 0, 0, 0, []), (11, .dup, 0, 0, 0, []), (12, .getfield 119, 5, 8, 0, []), (15, .iconst 1, 0, 0, 0, []), (16, .isub, 0, 0, 0, []), (17, .putfield 119, 5, 8, 0, []), (20, .aload_n 0, 0, 0, 0, []), (21, .aload_n 0, 0, 0, 0, []), (22, .getfield 218, 17, 8, 1, []), (25, .ifCond .eq (18), 2, 0, 0, []), (28, .aload_n 0, 0, 0, 0, []), (29, .getfield 222, 22, 8, 0, []), (32, .aload_n 0, 0, 0, 0, []), (33, .getfield 119, 5, 8, 0, []), (36, .if_icmp .gt (7), 2, 0, 0, []), (39, .iconst 1, 0, 0, 0, []), (40, .goto (4), 3, 0, 0, [])])
def mk_b102_2 : List Bool × List mj_I := ([true], [(43, .iconst 0, 0, 0, 0, []), (44, .nop, 3, 0, 0, [])])
def mk_b102_3 : List Bool × List mj_I := ([true], [(44, .putfield 218, 17, 8, 1, []), (47, .aload_n 0, 0, 0, 0, []), (48, .getfield 119, 5, 8, 0, []), (51, .ireturn, 0, 0, 0, [])])
def mk_m102 : Nat × Nat × List (List Bool × List mj_I) := (1, 9, [mk_b102_0, mk_b102_1, mk_b102_2, mk_b102_3])
/-- NumbersCalledModel.needs(I)I -/
def mk_b103_0 : List Bool × List mj_I := ([true, true], [(0, .aload_n 0, 0, 0, 0, []), (1, .getfield 20, 6, 8, 0, []), (4, .iload_n 1, 1, 0, 0, []), (5, .iaload, 0, 0, 0, []), (6, .iconst 2, 0, 0, 0, []), (7, .if_icmp .ne (16), 1, 0, 0, []), (10, .aload_n 0, 0, 0, 0, []), (11, .getfield 23, 7, 8, 0, []), (14, .iload_n 1, 1, 0, 0, []), (15, .iaload, 0, 0, 0, []), (16, .iconst 1, 0, 0, 0, []), (17, .iadd, 0, 0, 0, []), (18, .iconst 4, 0, 0, 0, []), (19, .irem, 0, 0, 0, []), (20, .goto (9), 2, 0, 0, [])])
def mk_b103_1 : List Bool × List mj_I := ([true, true], [(23, .aload_n 0, 0, 0, 0, []), (24, .getfield 23, 7, 8, 0, []), (27, .iload_n 1, 1, 0, 0, []), (28, .iaload, 0, 0, 0, []), (29, .nop, 2, 0, 0, [])])
def mk_b103_2 : List Bool × List mj_I := ([false, false], [(29, .ireturn, 0, 0, 0, [])])
def mk_m103 : Nat × Nat × List (List Bool × List mj_I) := (2, 9, [mk_b103_0, mk_b103_1, mk_b103_2])
/-- NumbersCalledModel.told(II)I -/
def mk_b104_0 : List Bool × List mj_I := ([true, true, true], [(0, .aload_n 0, 0, 0, 0, []), (1, .iload_n 1, 1, 0, 0, []), (2, .invokevirtual 215, 75, 2, 1, []), (5, .ifCond .ne (6), 1, 0, 0, []), (8, .bipush (-5), 0, 0, 0, []), (10, .ireturn, 0, 0, 0, [])])
def mk_b104_1 : List Bool × List mj_I := ([true, true, true], [(11, .iload_n 2, 2, 0, 0, []), (12, .tableswitch (81) 0 5 #[40, 47, 54, 61, 68, 75], 8, 0, 0, [(0, 2), (1, 3), (2, 4), (3, 5), (4, 6), (5, 7)])])
def mk_b104_2 : List Bool × List mj_I := ([true, true, false], [(52, .aload_n 0, 0, 0, 0, []), (53, .getfield 20, 6, 8, 0, []), (56, .iload_n 1, 1, 0, 0, []), (57, .iaload, 0, 0, 0, []), (58, .ireturn, 0, 0, 0, [])])
def mk_b104_3 : List Bool × List mj_I := ([true, true, false], [(59, .aload_n 0, 0, 0, 0, []), (60, .getfield 23, 7, 8, 0, []), (63, .iload_n 1, 1, 0, 0, []), (64, .iaload, 0, 0, 0, []), (65, .ireturn, 0, 0, 0, [])])
def mk_b104_4 : List Bool × List mj_I := ([true, true, false], [(66, .aload_n 0, 0, 0, 0, []), (67, .getfield 26, 8, 8, 0, []), (70, .iload_n 1, 1, 0, 0, []), (71, .iaload, 0, 0, 0, []), (72, .ireturn, 0, 0, 0, [])])
def mk_b104_5 : List Bool × List mj_I := ([true, true, false], [(73, .aload_n 0, 0, 0, 0, []), (74, .getfield 29, 9, 8, 0, []), (77, .iload_n 1, 1, 0, 0, []), (78, .iaload, 0, 0, 0, []), (79, .ireturn, 0, 0, 0, [])])
def mk_b104_6 : List Bool × List mj_I := ([true, true, false], [(80, .aload_n 0, 0, 0, 0, []), (81, .getfield 32, 10, 8, 0, []), (84, .iload_n 1, 1, 0, 0, []), (85, .iaload, 0, 0, 0, []), (86, .ireturn, 0, 0, 0, [])])
def mk_b104_7 : List Bool × List mj_I := ([true, true, false], [(87, .aload_n 0, 0, 0, 0, []), (88, .iload_n 1, 1, 0, 0, []), (89, .invokevirtual 225, 103, 2, 1, []), (92, .ireturn, 0, 0, 0, [])])
def mk_b104_8 : List Bool × List mj_I := ([false, false, false], [(93, .bipush (-7), 0, 0, 0, []), (95, .ireturn, 0, 0, 0, [])])
def mk_m104 : Nat × Nat × List (List Bool × List mj_I) := (3, 9, [mk_b104_0, mk_b104_1, mk_b104_2, mk_b104_3, mk_b104_4, mk_b104_5, mk_b104_6, mk_b104_7, mk_b104_8])
/-- NumbersCalledModel.takesOf(III)I -/
def mk_b105_0 : List Bool × List mj_I := ([true, true, true, true, false], [(0, .aload_n 0, 0, 0, 0, []), (1, .iconst 0, 0, 0, 0, []), (2, .iload_n 1, 1, 0, 0, []), (3, .aload_n 0, 0, 0, 0, []), (4, .getfield 7, 1, 8, 0, []), (7, .iconst 3, 0, 0, 0, []), (8, .iload_n 2, 2, 0, 0, []), (9, .imul, 0, 0, 0, []), (10, .iconst 1, 0, 0, 0, []), (11, .iadd, 0, 0, 0, []), (12, .iaload, 0, 0, 0, []), (13, .iload_n 3, 3, 0, 0, []), (14, .iconst 0, 0, 0, 0, []), (15, .invokevirtual 228, 98, 6, 1, []), (18, .istore 4, 4, 0, 0, []), (20, .aload_n 0, 0, 0, 0, []), (21, .getfield 20, 6, 8, 0, []), (24, .iload_n 1, 1, 0, 0, []), (25, .iaload, 0, 0, 0, []), (26, .iconst 3, 0, 0, 0, []), (27, .if_icmp .ne (23), 1, 0, 0, []), (30, .aload_n 0, 0, 0, 0, []), (31, .getfield 232, 41, 8, 1, []), (34, .ifCond .ne (16), 1, 0, 0, []), (37, .iconst 2, 0, 0, 0, []), (38, .iload 4, 4, 0, 0, []), (40, .imul, 0, 0, 0, []), (41, .iconst 1, 0, 0, 0, []), (42, .bipush 60, 0, 0, 0, []), (44, .invokestatic 208, 73, 3, 1, []), (47, .goto (5), 2, 0, 0, [])])
def mk_b105_1 : List Bool × List mj_I := ([false, false, false, false, true], [(50, .iload 4, 4, 0, 0, []), (52, .nop, 2, 0, 0, [])])
def mk_b105_2 : List Bool × List mj_I := ([false, false, false, false, false], [(52, .ireturn, 0, 0, 0, [])])
def mk_m105 : Nat × Nat × List (List Bool × List mj_I) := (5, 9, [mk_b105_0, mk_b105_1, mk_b105_2])
/-- NumbersCalledModel.isThere(II)Z -/
def mk_b106_0 : List Bool × List mj_I := ([true, true, true, false], [(0, .aload_n 0, 0, 0, 0, []), (1, .getfield 20, 6, 8, 0, []), (4, .iload_n 1, 1, 0, 0, []), (5, .iaload, 0, 0, 0, []), (6, .iconst 5, 0, 0, 0, []), (7, .if_icmp .ne (11), 1, 0, 0, []), (10, .iload_n 2, 2, 0, 0, []), (11, .bipush 30, 0, 0, 0, []), (13, .if_icmp .lt (5), 1, 0, 0, []), (16, .iconst 1, 0, 0, 0, []), (17, .ireturn, 0, 0, 1, [])])
def mk_b106_1 : List Bool × List mj_I := ([true, true, true, false], [(18, .aload_n 0, 0, 0, 0, []), (19, .getfield 20, 6, 8, 0, []), (22, .iload_n 1, 1, 0, 0, []), (23, .iaload, 0, 0, 0, []), (24, .iconst 1, 0, 0, 0, []), (25, .if_icmp .eq (13), 2, 0, 0, []), (28, .aload_n 0, 0, 0, 0, []), (29, .getfield 20, 6, 8, 0, []), (32, .iload_n 1, 1, 0, 0, []), (33, .iaload, 0, 0, 0, []), (34, .iconst 5, 0, 0, 0, []), (35, .if_icmp .ne (23), 3, 0, 0, []), (38, .nop, 2, 0, 0, [])])
def mk_b106_2 : List Bool × List mj_I := ([true, true, true, false], [(38, .iload_n 2, 2, 0, 0, []), (39, .aload_n 0, 0, 0, 0, []), (40, .getfield 29, 9, 8, 0, []), (43, .iload_n 1, 1, 0, 0, []), (44, .iaload, 0, 0, 0, []), (45, .iconst 2, 0, 0, 0, []), (46, .iadd, 0, 0, 0, []), (47, .idiv, 0, 0, 0, []), (48, .iconst 2, 0, 0, 0, []), (49, .irem, 0, 0, 0, []), (50, .iconst 1, 0, 0, 0, []), (51, .if_icmp .ne (7), 3, 0, 0, []), (54, .iconst 1, 0, 0, 0, []), (55, .goto (4), 4, 0, 0, [])])
def mk_b106_3 : List Bool × List mj_I := ([true, true, true, false], [(58, .iconst 0, 0, 0, 0, []), (59, .nop, 4, 0, 0, [])])
def mk_b106_4 : List Bool × List mj_I := ([true, true, true, false], [(59, .istore_n 3, 3, 0, 0, []), (60, .iload_n 3, 3, 0, 0, []), (61, .ifCond .ne (20), 5, 0, 0, []), (64, .iload_n 2, 2, 0, 0, []), (65, .aload_n 0, 0, 0, 0, []), (66, .iconst 1, 0, 0, 0, []), (67, .iload_n 1, 1, 0, 0, []), (68, .iconst 0, 0, 0, 0, []), (69, .iload_n 2, 2, 0, 0, []), (70, .iconst 0, 0, 0, 0, []), (71, .invokevirtual 228, 98, 6, 1, []), (74, .if_icmp .gt (7), 5, 0, 0, []), (77, .iconst 1, 0, 0, 0, []), (78, .goto (4), 6, 0, 0, [])])
def mk_b106_5 : List Bool × List mj_I := ([false, false, false, false], [(81, .iconst 0, 0, 0, 0, []), (82, .nop, 6, 0, 0, [])])
def mk_b106_6 : List Bool × List mj_I := ([false, false, false, false], [(82, .ireturn, 0, 0, 1, [])])
def mk_m106 : Nat × Nat × List (List Bool × List mj_I) := (4, 9, [mk_b106_0, mk_b106_1, mk_b106_2, mk_b106_3, mk_b106_4, mk_b106_5, mk_b106_6])
/-- NumbersCalledModel.asks(IIIII)I -/
def mk_b107_0 : List Bool × List mj_I := ([true, true, true, true, true, true], [(0, .aload_n 0, 0, 0, 0, []), (1, .iload_n 1, 1, 0, 0, []), (2, .invokevirtual 215, 75, 2, 1, []), (5, .ifCond .eq (11), 1, 0, 0, []), (8, .aload_n 0, 0, 0, 0, []), (9, .iload_n 2, 2, 0, 0, []), (10, .invokevirtual 126, 74, 2, 1, []), (13, .ifCond .ne (6), 2, 0, 0, []), (16, .nop, 1, 0, 0, [])])
def mk_b107_1 : List Bool × List mj_I := ([false, false, false, false, false, false], [(16, .bipush (-5), 0, 0, 0, []), (18, .ireturn, 0, 0, 0, [])])
def mk_b107_2 : List Bool × List mj_I := ([true, true, true, true, true, true], [(19, .iload_n 3, 3, 0, 0, []), (20, .iconst 0, 0, 0, 0, []), (21, .sipush 999, 0, 0, 0, []), (24, .invokestatic 115, 72, 3, 1, []), (27, .ifCond .eq (25), 3, 0, 0, []), (30, .iload 4, 4, 0, 0, []), (32, .iconst 0, 0, 0, 0, []), (33, .sipush 999, 0, 0, 0, []), (36, .invokestatic 115, 72, 3, 1, []), (39, .ifCond .eq (13), 3, 0, 0, []), (42, .iload 5, 5, 0, 0, []), (44, .iconst 0, 0, 0, 0, []), (45, .iconst 2, 0, 0, 0, []), (46, .invokestatic 115, 72, 3, 1, []), (49, .ifCond .ne (6), 4, 0, 0, []), (52, .nop, 3, 0, 0, [])])
def mk_b107_3 : List Bool × List mj_I := ([false, false, false, false, false, false], [(52, .bipush (-7), 0, 0, 0, []), (54, .ireturn, 0, 0, 0, [])])
def mk_b107_4 : List Bool × List mj_I := ([true, true, true, true, true, true], [(55, .iload 5, 5, 0, 0, []), (57, .ifCond .ne (13), 5, 0, 0, []), (60, .aload_n 0, 0, 0, 0, []), (61, .iload_n 1, 1, 0, 0, []), (62, .iload_n 2, 2, 0, 0, []), (63, .iload_n 3, 3, 0, 0, []), (64, .invokevirtual 235, 105, 4, 1, []), (67, .goto (36), 8, 0, 0, [])])
def mk_b107_5 : List Bool × List mj_I := ([true, true, false, true, true, true], [(70, .iload 5, 5, 0, 0, []), (72, .iconst 1, 0, 0, 0, []), (73, .if_icmp .ne (20), 7, 0, 0, []), (76, .aload_n 0, 0, 0, 0, []), (77, .iload_n 1, 1, 0, 0, []), (78, .iload_n 3, 3, 0, 0, []), (79, .invokevirtual 238, 106, 3, 1, []), (82, .ifCond .eq (7), 6, 0, 0, []), (85, .iconst 1, 0, 0, 0, []), (86, .goto (17), 8, 0, 0, [])])
def mk_b107_6 : List Bool × List mj_I := ([false, false, false, false, false, false], [(89, .iconst 0, 0, 0, 0, []), (90, .goto (13), 8, 0, 0, [])])
def mk_b107_7 : List Bool × List mj_I := ([true, true, false, true, true, false], [(93, .aload_n 0, 0, 0, 0, []), (94, .iconst 2, 0, 0, 0, []), (95, .iload_n 1, 1, 0, 0, []), (96, .iconst 0, 0, 0, 0, []), (97, .iload_n 3, 3, 0, 0, []), (98, .iload 4, 4, 0, 0, []), (100, .invokevirtual 228, 98, 6, 1, []), (103, .nop, 8, 0, 0, [])])
def mk_b107_8 : List Bool × List mj_I := ([false, false, false, false, false, false], [(103, .ireturn, 0, 0, 0, [])])
def mk_m107 : Nat × Nat × List (List Bool × List mj_I) := (6, 9, [mk_b107_0, mk_b107_1, mk_b107_2, mk_b107_3, mk_b107_4, mk_b107_5, mk_b107_6, mk_b107_7, mk_b107_8])
/-- NumbersCalledModel.isAhead(II)Z -/
def mk_b108_0 : List Bool × List mj_I := ([true, true, true, false, false], [(0, .aload_n 0, 0, 0, 0, []), (1, .getfield 134, 2, 8, 0, []), (4, .iconst 1, 0, 0, 0, []), (5, .if_icmp .ne (21), 2, 0, 0, []), (8, .aload_n 0, 0, 0, 0, []), (9, .getfield 20, 6, 8, 0, []), (12, .iload_n 1, 1, 0, 0, []), (13, .iaload, 0, 0, 0, []), (14, .iconst 4, 0, 0, 0, []), (15, .if_icmp .ne (7), 1, 0, 0, []), (18, .iconst 0, 0, 0, 0, []), (19, .goto (51), 6, 0, 0, [])])
def mk_b108_1 : List Bool × List mj_I := ([true, true, true, false, false], [(22, .iconst 1, 0, 0, 0, []), (23, .goto (47), 6, 0, 0, [])])
def mk_b108_2 : List Bool × List mj_I := ([true, true, true, false, false], [(26, .aload_n 0, 0, 0, 0, []), (27, .getfield 134, 2, 8, 0, []), (30, .iconst 2, 0, 0, 0, []), (31, .if_icmp .ne (12), 3, 0, 0, []), (34, .aload_n 0, 0, 0, 0, []), (35, .getfield 26, 8, 8, 0, []), (38, .iload_n 1, 1, 0, 0, []), (39, .iaload, 0, 0, 0, []), (40, .goto (30), 6, 0, 0, [])])
def mk_b108_3 : List Bool × List mj_I := ([true, true, true, false, false], [(43, .aload_n 0, 0, 0, 0, []), (44, .getfield 134, 2, 8, 0, []), (47, .iconst 3, 0, 0, 0, []), (48, .if_icmp .ne (21), 5, 0, 0, []), (51, .aload_n 0, 0, 0, 0, []), (52, .getfield 20, 6, 8, 0, []), (55, .iload_n 1, 1, 0, 0, []), (56, .iaload, 0, 0, 0, []), (57, .iconst 3, 0, 0, 0, []), (58, .if_icmp .ne (7), 4, 0, 0, []), (61, .iconst 0, 0, 0, 0, []), (62, .goto (8), 6, 0, 0, [])])
def mk_b108_4 : List Bool × List mj_I := ([true, true, true, false, false], [(65, .iconst 1, 0, 0, 0, []), (66, .goto (4), 6, 0, 0, [])])
def mk_b108_5 : List Bool × List mj_I := ([true, true, true, false, false], [(69, .iconst 0, 0, 0, 0, []), (70, .nop, 6, 0, 0, [])])
def mk_b108_6 : List Bool × List mj_I := ([true, true, true, false, false], [(70, .istore_n 3, 3, 0, 0, []), (71, .aload_n 0, 0, 0, 0, []), (72, .getfield 134, 2, 8, 0, []), (75, .iconst 1, 0, 0, 0, []), (76, .if_icmp .ne (21), 8, 0, 0, []), (79, .aload_n 0, 0, 0, 0, []), (80, .getfield 20, 6, 8, 0, []), (83, .iload_n 2, 2, 0, 0, []), (84, .iaload, 0, 0, 0, []), (85, .iconst 4, 0, 0, 0, []), (86, .if_icmp .ne (7), 7, 0, 0, []), (89, .iconst 0, 0, 0, 0, []), (90, .goto (51), 12, 0, 0, [])])
def mk_b108_7 : List Bool × List mj_I := ([true, true, true, true, false], [(93, .iconst 1, 0, 0, 0, []), (94, .goto (47), 12, 0, 0, [])])
def mk_b108_8 : List Bool × List mj_I := ([true, true, true, true, false], [(97, .aload_n 0, 0, 0, 0, []), (98, .getfield 134, 2, 8, 0, []), (101, .iconst 2, 0, 0, 0, []), (102, .if_icmp .ne (12), 9, 0, 0, []), (105, .aload_n 0, 0, 0, 0, []), (106, .getfield 26, 8, 8, 0, []), (109, .iload_n 2, 2, 0, 0, []), (110, .iaload, 0, 0, 0, []), (111, .goto (30), 12, 0, 0, [])])
def mk_b108_9 : List Bool × List mj_I := ([true, true, true, true, false], [(114, .aload_n 0, 0, 0, 0, []), (115, .getfield 134, 2, 8, 0, []), (118, .iconst 3, 0, 0, 0, []), (119, .if_icmp .ne (21), 11, 0, 0, []), (122, .aload_n 0, 0, 0, 0, []), (123, .getfield 20, 6, 8, 0, []), (126, .iload_n 2, 2, 0, 0, []), (127, .iaload, 0, 0, 0, []), (128, .iconst 3, 0, 0, 0, []), (129, .if_icmp .ne (7), 10, 0, 0, []), (132, .iconst 0, 0, 0, 0, []), (133, .goto (8), 12, 0, 0, [])])
def mk_b108_10 : List Bool × List mj_I := ([true, true, true, true, false], [(136, .iconst 1, 0, 0, 0, []), (137, .goto (4), 12, 0, 0, [])])
def mk_b108_11 : List Bool × List mj_I := ([true, true, true, true, false], [(140, .iconst 0, 0, 0, 0, []), (141, .nop, 12, 0, 0, [])])
def mk_b108_12 : List Bool × List mj_I := ([true, true, true, true, false], [(141, .istore 4, 4, 0, 0, []), (143, .iload_n 3, 3, 0, 0, []), (144, .iload 4, 4, 0, 0, []), (146, .if_icmp .eq (15), 15, 0, 0, []), (149, .iload_n 3, 3, 0, 0, []), (150, .iload 4, 4, 0, 0, []), (152, .if_icmp .ge (7), 13, 0, 0, []), (155, .iconst 1, 0, 0, 0, []), (156, .goto (4), 14, 0, 0, [])])
def mk_b108_13 : List Bool × List mj_I := ([false, false, false, false, false], [(159, .iconst 0, 0, 0, 0, []), (160, .nop, 14, 0, 0, [])])
def mk_b108_14 : List Bool × List mj_I := ([false, false, false, false, false], [(160, .ireturn, 0, 0, 1, [])])
def mk_b108_15 : List Bool × List mj_I := ([true, true, true, false, false], [(161, .aload_n 0, 0, 0, 0, []), (162, .getfield 32, 10, 8, 0, []), (165, .iload_n 1, 1, 0, 0, []), (166, .iaload, 0, 0, 0, []), (167, .aload_n 0, 0, 0, 0, []), (168, .getfield 32, 10, 8, 0, []), (171, .iload_n 2, 2, 0, 0, []), (172, .iaload, 0, 0, 0, []), (173, .if_icmp .lt (23), 16, 0, 0, []), (176, .aload_n 0, 0, 0, 0, []), (177, .getfield 32, 10, 8, 0, []), (180, .iload_n 1, 1, 0, 0, []), (181, .iaload, 0, 0, 0, []), (182, .aload_n 0, 0, 0, 0, []), (183, .getfield 32, 10, 8, 0, []), (186, .iload_n 2, 2, 0, 0, []), (187, .iaload, 0, 0, 0, []), (188, .if_icmp .ne (12), 17, 0, 0, []), (191, .iload_n 1, 1, 0, 0, []), (192, .iload_n 2, 2, 0, 0, []), (193, .if_icmp .ge (7), 17, 0, 0, []), (196, .nop, 16, 0, 0, [])])
def mk_b108_16 : List Bool × List mj_I := ([false, false, false, false, false], [(196, .iconst 1, 0, 0, 0, []), (197, .goto (4), 18, 0, 0, [])])
def mk_b108_17 : List Bool × List mj_I := ([false, false, false, false, false], [(200, .iconst 0, 0, 0, 0, []), (201, .nop, 18, 0, 0, [])])
def mk_b108_18 : List Bool × List mj_I := ([false, false, false, false, false], [(201, .ireturn, 0, 0, 1, [])])
def mk_m108 : Nat × Nat × List (List Bool × List mj_I) := (5, 9, [mk_b108_0, mk_b108_1, mk_b108_2, mk_b108_3, mk_b108_4, mk_b108_5, mk_b108_6, mk_b108_7, mk_b108_8, mk_b108_9, mk_b108_10, mk_b108_11, mk_b108_12, mk_b108_13, mk_b108_14, mk_b108_15, mk_b108_16, mk_b108_17, mk_b108_18])
/-- NumbersCalledModel.firstFor(I)I -/
def mk_b109_0 : List Bool × List mj_I := ([true, true, false, false], [(0, .iconst (-1), 0, 0, 0, []), (1, .istore_n 2, 2, 0, 0, []), (2, .iconst 0, 0, 0, 0, []), (3, .istore_n 3, 3, 0, 0, []), (4, .nop, 1, 0, 0, [])])
def mk_b109_1 : List Bool × List mj_I := ([true, true, true, true], [(4, .iload_n 3, 3, 0, 0, []), (5, .aload_n 0, 0, 0, 0, []), (6, .getfield 119, 5, 8, 0, []), (9, .if_icmp .ge (60), 6, 0, 0, []), (12, .aload_n 0, 0, 0, 0, []), (13, .getfield 74, 42, 8, 0, []), (16, .iload_n 3, 3, 0, 0, []), (17, .iaload, 0, 0, 0, []), (18, .iconst 1, 0, 0, 0, []), (19, .if_icmp .ne (44), 5, 0, 0, []), (22, .aload_n 0, 0, 0, 0, []), (23, .getfield 7, 1, 8, 0, []), (26, .iconst 3, 0, 0, 0, []), (27, .iload_n 1, 1, 0, 0, []), (28, .imul, 0, 0, 0, []), (29, .iaload, 0, 0, 0, []), (30, .aload_n 0, 0, 0, 0, []), (31, .getfield 77, 43, 8, 0, []), (34, .iload_n 3, 3, 0, 0, []), (35, .iaload, 0, 0, 0, []), (36, .ishr, 0, 0, 0, []), (37, .iconst 1, 0, 0, 0, []), (38, .iand, 0, 0, 0, []), (39, .iconst 1, 0, 0, 0, []), (40, .if_icmp .ne (23), 5, 0, 0, []), (43, .iload_n 2, 2, 0, 0, []), (44, .iconst (-1), 0, 0, 0, []), (45, .if_icmp .eq (12), 2, 0, 0, []), (48, .aload_n 0, 0, 0, 0, []), (49, .iload_n 3, 3, 0, 0, []), (50, .iload_n 2, 2, 0, 0, []), (51, .invokevirtual 241, 108, 3, 1, []), (54, .ifCond .eq (7), 3, 0, 0, []), (57, .nop, 2, 0, 0, [])])
def mk_b109_2 : List Bool × List mj_I := ([true, true, false, true], [(57, .iload_n 3, 3, 0, 0, []), (58, .goto (4), 4, 0, 0, [])])
def mk_b109_3 : List Bool × List mj_I := ([true, true, true, true], [(61, .iload_n 2, 2, 0, 0, []), (62, .nop, 4, 0, 0, [])])
def mk_b109_4 : List Bool × List mj_I := ([true, true, false, true], [(62, .istore_n 2, 2, 0, 0, []), (63, .nop, 5, 0, 0, [])])
def mk_b109_5 : List Bool × List mj_I := ([true, true, true, true], [(63, .iinc 3 1, 3, 0, 0, []), (66, .goto (-62), 1, 0, 0, [])])
def mk_b109_6 : List Bool × List mj_I := ([false, false, true, false], [(69, .iload_n 2, 2, 0, 0, []), (70, .ireturn, 0, 0, 0, [])])
def mk_m109 : Nat × Nat × List (List Bool × List mj_I) := (4, 9, [mk_b109_0, mk_b109_1, mk_b109_2, mk_b109_3, mk_b109_4, mk_b109_5, mk_b109_6])
/-- NumbersCalledModel.callsOne(III)V -/
def mk_b110_0 : List Bool × List mj_I := ([true, true, true, true, false], [(0, .iload_n 3, 3, 0, 0, []), (1, .aload_n 0, 0, 0, 0, []), (2, .getfield 32, 10, 8, 0, []), (5, .iload_n 2, 2, 0, 0, []), (6, .iaload, 0, 0, 0, []), (7, .isub, 0, 0, 0, []), (8, .istore 4, 4, 0, 0, []), (10, .aload_n 0, 0, 0, 0, []), (11, .getfield 89, 47, 8, 0, []), (14, .iload_n 2, 2, 0, 0, []), (15, .dup2, 0, 0, 0, []), (16, .iaload, 0, 0, 0, []), (17, .iconst 1, 0, 0, 0, []), (18, .iadd, 0, 0, 0, []), (19, .iastore, 0, 0, 0, []), (20, .aload_n 0, 0, 0, 0, []), (21, .iload_n 2, 2, 0, 0, []), (22, .iload 4, 4, 0, 0, []), (24, .invokevirtual 238, 106, 3, 1, []), (27, .ifCond .ne (30), 3, 0, 0, []), (30, .aload_n 0, 0, 0, 0, []), (31, .getfield 74, 42, 8, 0, []), (34, .iload_n 2, 2, 0, 0, []), (35, .aload_n 0, 0, 0, 0, []), (36, .getfield 89, 47, 8, 0, []), (39, .iload_n 2, 2, 0, 0, []), (40, .iaload, 0, 0, 0, []), (41, .aload_n 0, 0, 0, 0, []), (42, .getfield 13, 3, 8, 0, []), (45, .if_icmp .lt (7), 1, 0, 0, []), (48, .iconst 3, 0, 0, 0, []), (49, .goto (4), 2, 0, 0, [])])
def mk_b110_1 : List Bool × List mj_I := ([false, false, false, false, false], [(52, .iconst 1, 0, 0, 0, []), (53, .nop, 2, 0, 0, [])])
def mk_b110_2 : List Bool × List mj_I := ([false, false, false, false, false], [(53, .iastore, 0, 0, 0, []), (54, .goto (85), 5, 0, 0, [])])
def mk_b110_3 : List Bool × List mj_I := ([true, true, true, true, true], [(57, .aload_n 0, 0, 0, 0, []), (58, .getfield 7, 1, 8, 0, []), (61, .iconst 3, 0, 0, 0, []), (62, .iload_n 1, 1, 0, 0, []), (63, .imul, 0, 0, 0, []), (64, .iaload, 0, 0, 0, []), (65, .aload_n 0, 0, 0, 0, []), (66, .iload_n 2, 2, 0, 0, []), (67, .invokevirtual 225, 103, 2, 1, []), (70, .ishr, 0, 0, 0, []), (71, .iconst 1, 0, 0, 0, []), (72, .iand, 0, 0, 0, []), (73, .ifCond .ne (17), 4, 0, 0, []), (76, .aload_n 0, 0, 0, 0, []), (77, .getfield 77, 43, 8, 0, []), (80, .iload_n 2, 2, 0, 0, []), (81, .aload_n 0, 0, 0, 0, []), (82, .iload_n 2, 2, 0, 0, []), (83, .invokevirtual 225, 103, 2, 1, []), (86, .iastore, 0, 0, 0, []), (87, .goto (52), 5, 0, 0, [])])
def mk_b110_4 : List Bool × List mj_I := ([true, true, true, true, true], [(90, .aload_n 0, 0, 0, 0, []), (91, .getfield 74, 42, 8, 0, []), (94, .iload_n 2, 2, 0, 0, []), (95, .iconst 2, 0, 0, 0, []), (96, .iastore, 0, 0, 0, []), (97, .aload_n 0, 0, 0, 0, []), (98, .getfield 80, 44, 8, 0, []), (101, .iload_n 2, 2, 0, 0, []), (102, .iload_n 3, 3, 0, 0, []), (103, .iastore, 0, 0, 0, []), (104, .aload_n 0, 0, 0, 0, []), (105, .getfield 83, 45, 8, 0, []), (108, .iload_n 2, 2, 0, 0, []), (109, .iload_n 3, 3, 0, 0, []), (110, .aload_n 0, 0, 0, 0, []), (111, .iload_n 2, 2, 0, 0, []), (112, .iload_n 1, 1, 0, 0, []), (113, .iload 4, 4, 0, 0, []), (115, .invokevirtual 235, 105, 4, 1, []), (118, .iadd, 0, 0, 0, []), (119, .iastore, 0, 0, 0, []), (120, .aload_n 0, 0, 0, 0, []), (121, .getfield 86, 46, 8, 0, []), (124, .iload_n 2, 2, 0, 0, []), (125, .iload_n 1, 1, 0, 0, []), (126, .iastore, 0, 0, 0, []), (127, .aload_n 0, 0, 0, 0, []), (128, .getfield 92, 48, 8, 0, []), (131, .iload_n 1, 1, 0, 0, []), (132, .aload_n 0, 0, 0, 0, []), (133, .getfield 83, 45, 8, 0, []), (136, .iload_n 2, 2, 0, 0, []), (137, .iaload, 0, 0, 0, []), (138, .iastore, 0, 0, 0, []), (139, .nop, 5, 0, 0, [])])
def mk_b110_5 : List Bool × List mj_I := ([false, false, false, false, false], [(139, .return_, 0, 0, 0, [])])
def mk_m110 : Nat × Nat × List (List Bool × List mj_I) := (5, 9, [mk_b110_0, mk_b110_1, mk_b110_2, mk_b110_3, mk_b110_4, mk_b110_5])
/-- NumbersCalledModel.minute(I)V -/
def mk_b111_0 : List Bool × List mj_I := ([true, true, false, false, false, false], [(0, .iconst 0, 0, 0, 0, []), (1, .istore_n 2, 2, 0, 0, []), (2, .nop, 1, 0, 0, [])])
def mk_b111_1 : List Bool × List mj_I := ([true, true, true, false, false, false], [(2, .iload_n 2, 2, 0, 0, []), (3, .aload_n 0, 0, 0, 0, []), (4, .getfield 119, 5, 8, 0, []), (7, .if_icmp .ge (38), 5, 0, 0, []), (10, .aload_n 0, 0, 0, 0, []), (11, .getfield 32, 10, 8, 0, []), (14, .iload_n 2, 2, 0, 0, []), (15, .iaload, 0, 0, 0, []), (16, .iload_n 1, 1, 0, 0, []), (17, .if_icmp .ne (22), 4, 0, 0, []), (20, .aload_n 0, 0, 0, 0, []), (21, .getfield 74, 42, 8, 0, []), (24, .iload_n 2, 2, 0, 0, []), (25, .iload_n 1, 1, 0, 0, []), (26, .aload_n 0, 0, 0, 0, []), (27, .getfield 17, 4, 8, 0, []), (30, .if_icmp .lt (7), 2, 0, 0, []), (33, .iconst 4, 0, 0, 0, []), (34, .goto (4), 3, 0, 0, [])])
def mk_b111_2 : List Bool × List mj_I := ([true, true, true, false, false, false], [(37, .iconst 1, 0, 0, 0, []), (38, .nop, 3, 0, 0, [])])
def mk_b111_3 : List Bool × List mj_I := ([true, true, true, false, false, false], [(38, .iastore, 0, 0, 0, []), (39, .nop, 4, 0, 0, [])])
def mk_b111_4 : List Bool × List mj_I := ([true, true, true, false, false, false], [(39, .iinc 2 1, 2, 0, 0, []), (42, .goto (-40), 1, 0, 0, [])])
def mk_b111_5 : List Bool × List mj_I := ([true, true, false, false, false, false], [(45, .iconst 0, 0, 0, 0, []), (46, .istore_n 2, 2, 0, 0, []), (47, .nop, 6, 0, 0, [])])
def mk_b111_6 : List Bool × List mj_I := ([true, true, true, false, false, false], [(47, .iload_n 2, 2, 0, 0, []), (48, .aload_n 0, 0, 0, 0, []), (49, .getfield 112, 0, 8, 0, []), (52, .if_icmp .ge (93), 11, 0, 0, []), (55, .aload_n 0, 0, 0, 0, []), (56, .getfield 7, 1, 8, 0, []), (59, .iconst 3, 0, 0, 0, []), (60, .iload_n 2, 2, 0, 0, []), (61, .imul, 0, 0, 0, []), (62, .iconst 2, 0, 0, 0, []), (63, .iadd, 0, 0, 0, []), (64, .iaload, 0, 0, 0, []), (65, .istore_n 3, 3, 0, 0, []), (66, .iload_n 3, 3, 0, 0, []), (67, .iconst (-1), 0, 0, 0, []), (68, .if_icmp .eq (19), 7, 0, 0, []), (71, .iload_n 1, 1, 0, 0, []), (72, .iload_n 3, 3, 0, 0, []), (73, .iload_n 3, 3, 0, 0, []), (74, .bipush 9, 0, 0, 0, []), (76, .iadd, 0, 0, 0, []), (77, .invokestatic 115, 72, 3, 1, []), (80, .ifCond .eq (7), 7, 0, 0, []), (83, .iconst 1, 0, 0, 0, []), (84, .goto (4), 8, 0, 0, [])])
def mk_b111_7 : List Bool × List mj_I := ([true, true, true, false, false, false], [(87, .iconst 0, 0, 0, 0, []), (88, .nop, 8, 0, 0, [])])
def mk_b111_8 : List Bool × List mj_I := ([true, true, true, false, false, false], [(88, .istore 4, 4, 0, 0, []), (90, .aload_n 0, 0, 0, 0, []), (91, .getfield 92, 48, 8, 0, []), (94, .iload_n 2, 2, 0, 0, []), (95, .iaload, 0, 0, 0, []), (96, .iload_n 1, 1, 0, 0, []), (97, .if_icmp .gt (42), 10, 0, 0, []), (100, .iload 4, 4, 0, 0, []), (102, .ifCond .ne (37), 10, 0, 0, []), (105, .aload_n 0, 0, 0, 0, []), (106, .iload_n 2, 2, 0, 0, []), (107, .invokevirtual 244, 109, 2, 1, []), (110, .istore 5, 5, 0, 0, []), (112, .iload 5, 5, 0, 0, []), (114, .iconst (-1), 0, 0, 0, []), (115, .if_icmp .ne (16), 9, 0, 0, []), (118, .aload_n 0, 0, 0, 0, []), (119, .getfield 95, 49, 8, 0, []), (122, .iload_n 2, 2, 0, 0, []), (123, .dup2, 0, 0, 0, []), (124, .iaload, 0, 0, 0, []), (125, .iconst 1, 0, 0, 0, []), (126, .iadd, 0, 0, 0, []), (127, .iastore, 0, 0, 0, []), (128, .goto (11), 10, 0, 0, [])])
def mk_b111_9 : List Bool × List mj_I := ([true, true, true, false, false, true], [(131, .aload_n 0, 0, 0, 0, []), (132, .iload_n 2, 2, 0, 0, []), (133, .iload 5, 5, 0, 0, []), (135, .iload_n 1, 1, 0, 0, []), (136, .invokevirtual 247, 110, 4, 0, []), (139, .nop, 10, 0, 0, [])])
def mk_b111_10 : List Bool × List mj_I := ([true, true, true, false, false, false], [(139, .iinc 2 1, 2, 0, 0, []), (142, .goto (-95), 6, 0, 0, [])])
def mk_b111_11 : List Bool × List mj_I := ([false, false, false, false, false, false], [(145, .return_, 0, 0, 0, [])])
def mk_m111 : Nat × Nat × List (List Bool × List mj_I) := (6, 9, [mk_b111_0, mk_b111_1, mk_b111_2, mk_b111_3, mk_b111_4, mk_b111_5, mk_b111_6, mk_b111_7, mk_b111_8, mk_b111_9, mk_b111_10, mk_b111_11])
/-- NumbersCalledModel.lives()V -/
def mk_b112_0 : List Bool × List mj_I := ([true, false], [(0, .iconst 0, 0, 0, 0, []), (1, .istore_n 1, 1, 0, 0, []), (2, .nop, 1, 0, 0, [])])
def mk_b112_1 : List Bool × List mj_I := ([true, true], [(2, .iload_n 1, 1, 0, 0, []), (3, .aload_n 0, 0, 0, 0, []), (4, .getfield 119, 5, 8, 0, []), (7, .if_icmp .ge (71), 4, 0, 0, []), (10, .aload_n 0, 0, 0, 0, []), (11, .getfield 74, 42, 8, 0, []), (14, .iload_n 1, 1, 0, 0, []), (15, .iconst 0, 0, 0, 0, []), (16, .iastore, 0, 0, 0, []), (17, .aload_n 0, 0, 0, 0, []), (18, .getfield 77, 43, 8, 0, []), (21, .iload_n 1, 1, 0, 0, []), (22, .aload_n 0, 0, 0, 0, []), (23, .getfield 250, 50, 8, 1, []), (26, .ifCond .eq (11), 2, 0, 0, []), (29, .aload_n 0, 0, 0, 0, []), (30, .iload_n 1, 1, 0, 0, []), (31, .invokevirtual 225, 103, 2, 1, []), (34, .goto (9), 3, 0, 0, [])])
def mk_b112_2 : List Bool × List mj_I := ([true, true], [(37, .aload_n 0, 0, 0, 0, []), (38, .getfield 23, 7, 8, 0, []), (41, .iload_n 1, 1, 0, 0, []), (42, .iaload, 0, 0, 0, []), (43, .nop, 3, 0, 0, [])])
def mk_b112_3 : List Bool × List mj_I := ([true, true], [(43, .iastore, 0, 0, 0, []), (44, .aload_n 0, 0, 0, 0, []), (45, .getfield 80, 44, 8, 0, []), (48, .iload_n 1, 1, 0, 0, []), (49, .iconst (-1), 0, 0, 0, []), (50, .iastore, 0, 0, 0, []), (51, .aload_n 0, 0, 0, 0, []), (52, .getfield 83, 45, 8, 0, []), (55, .iload_n 1, 1, 0, 0, []), (56, .iconst (-1), 0, 0, 0, []), (57, .iastore, 0, 0, 0, []), (58, .aload_n 0, 0, 0, 0, []), (59, .getfield 86, 46, 8, 0, []), (62, .iload_n 1, 1, 0, 0, []), (63, .iconst (-1), 0, 0, 0, []), (64, .iastore, 0, 0, 0, []), (65, .aload_n 0, 0, 0, 0, []), (66, .getfield 89, 47, 8, 0, []), (69, .iload_n 1, 1, 0, 0, []), (70, .iconst 0, 0, 0, 0, []), (71, .iastore, 0, 0, 0, []), (72, .iinc 1 1, 1, 0, 0, []), (75, .goto (-73), 1, 0, 0, [])])
def mk_b112_4 : List Bool × List mj_I := ([true, false], [(78, .iconst 0, 0, 0, 0, []), (79, .istore_n 1, 1, 0, 0, []), (80, .nop, 5, 0, 0, [])])
def mk_b112_5 : List Bool × List mj_I := ([true, true], [(80, .iload_n 1, 1, 0, 0, []), (81, .iconst 4, 0, 0, 0, []), (82, .if_icmp .ge (23), 6, 0, 0, []), (85, .aload_n 0, 0, 0, 0, []), (86, .getfield 92, 48, 8, 0, []), (89, .iload_n 1, 1, 0, 0, []), (90, .iconst 0, 0, 0, 0, []), (91, .iastore, 0, 0, 0, []), (92, .aload_n 0, 0, 0, 0, []), (93, .getfield 95, 49, 8, 0, []), (96, .iload_n 1, 1, 0, 0, []), (97, .iconst 0, 0, 0, 0, []), (98, .iastore, 0, 0, 0, []), (99, .iinc 1 1, 1, 0, 0, []), (102, .goto (-22), 5, 0, 0, [])])
def mk_b112_6 : List Bool × List mj_I := ([true, false], [(105, .iconst 0, 0, 0, 0, []), (106, .istore_n 1, 1, 0, 0, []), (107, .nop, 7, 0, 0, [])])
def mk_b112_7 : List Bool × List mj_I := ([true, true], [(107, .iload_n 1, 1, 0, 0, []), (108, .sipush 240, 0, 0, 0, []), (111, .if_icmp .ge (14), 8, 0, 0, []), (114, .aload_n 0, 0, 0, 0, []), (115, .iload_n 1, 1, 0, 0, []), (116, .invokevirtual 253, 111, 2, 0, []), (119, .iinc 1 1, 1, 0, 0, []), (122, .goto (-15), 7, 0, 0, [])])
def mk_b112_8 : List Bool × List mj_I := ([false, false], [(125, .return_, 0, 0, 0, [])])
def mk_m112 : Nat × Nat × List (List Bool × List mj_I) := (2, 9, [mk_b112_0, mk_b112_1, mk_b112_2, mk_b112_3, mk_b112_4, mk_b112_5, mk_b112_6, mk_b112_7, mk_b112_8])
/-- NumbersCalledModel.waitOf(I)I -/
def mk_b113_0 : List Bool × List mj_I := ([true, true], [(0, .aload_n 0, 0, 0, 0, []), (1, .getfield 74, 42, 8, 0, []), (4, .iload_n 1, 1, 0, 0, []), (5, .iaload, 0, 0, 0, []), (6, .iconst 2, 0, 0, 0, []), (7, .if_icmp .ne (19), 1, 0, 0, []), (10, .aload_n 0, 0, 0, 0, []), (11, .getfield 80, 44, 8, 0, []), (14, .iload_n 1, 1, 0, 0, []), (15, .iaload, 0, 0, 0, []), (16, .aload_n 0, 0, 0, 0, []), (17, .getfield 32, 10, 8, 0, []), (20, .iload_n 1, 1, 0, 0, []), (21, .iaload, 0, 0, 0, []), (22, .isub, 0, 0, 0, []), (23, .goto (4), 2, 0, 0, [])])
def mk_b113_1 : List Bool × List mj_I := ([false, false], [(26, .iconst (-1), 0, 0, 0, []), (27, .nop, 2, 0, 0, [])])
def mk_b113_2 : List Bool × List mj_I := ([false, false], [(27, .ireturn, 0, 0, 0, [])])
def mk_m113 : Nat × Nat × List (List Bool × List mj_I) := (2, 9, [mk_b113_0, mk_b113_1, mk_b113_2])
/-- NumbersCalledModel.of(II)I -/
def mk_b114_0 : List Bool × List mj_I := ([true, true, true], [(0, .aload_n 0, 0, 0, 0, []), (1, .iload_n 1, 1, 0, 0, []), (2, .invokevirtual 215, 75, 2, 1, []), (5, .ifCond .ne (6), 1, 0, 0, []), (8, .bipush (-5), 0, 0, 0, []), (10, .ireturn, 0, 0, 0, [])])
def mk_b114_1 : List Bool × List mj_I := ([true, true, true], [(11, .iload_n 2, 2, 0, 0, []), (12, .iconst 0, 0, 0, 0, []), (13, .iconst 5, 0, 0, 0, []), (14, .invokestatic 115, 72, 3, 1, []), (17, .ifCond .ne (6), 2, 0, 0, []), (20, .bipush (-7), 0, 0, 0, []), (22, .ireturn, 0, 0, 0, [])])
def mk_b114_2 : List Bool × List mj_I := ([true, true, true], [(23, .aload_n 0, 0, 0, 0, []), (24, .invokevirtual 256, 112, 1, 0, []), (27, .iload_n 2, 2, 0, 0, []), (28, .tableswitch (70) 0 4 #[36, 43, 50, 57, 64], 8, 0, 0, [(0, 3), (1, 4), (2, 5), (3, 6), (4, 7)])])
def mk_b114_3 : List Bool × List mj_I := ([true, true, false], [(64, .aload_n 0, 0, 0, 0, []), (65, .getfield 74, 42, 8, 0, []), (68, .iload_n 1, 1, 0, 0, []), (69, .iaload, 0, 0, 0, []), (70, .ireturn, 0, 0, 0, [])])
def mk_b114_4 : List Bool × List mj_I := ([true, true, false], [(71, .aload_n 0, 0, 0, 0, []), (72, .getfield 80, 44, 8, 0, []), (75, .iload_n 1, 1, 0, 0, []), (76, .iaload, 0, 0, 0, []), (77, .ireturn, 0, 0, 0, [])])
def mk_b114_5 : List Bool × List mj_I := ([true, true, false], [(78, .aload_n 0, 0, 0, 0, []), (79, .getfield 83, 45, 8, 0, []), (82, .iload_n 1, 1, 0, 0, []), (83, .iaload, 0, 0, 0, []), (84, .ireturn, 0, 0, 0, [])])
def mk_b114_6 : List Bool × List mj_I := ([true, true, false], [(85, .aload_n 0, 0, 0, 0, []), (86, .getfield 86, 46, 8, 0, []), (89, .iload_n 1, 1, 0, 0, []), (90, .iaload, 0, 0, 0, []), (91, .ireturn, 0, 0, 0, [])])
def mk_b114_7 : List Bool × List mj_I := ([true, true, false], [(92, .aload_n 0, 0, 0, 0, []), (93, .iload_n 1, 1, 0, 0, []), (94, .invokevirtual 259, 113, 2, 1, []), (97, .ireturn, 0, 0, 0, [])])
def mk_b114_8 : List Bool × List mj_I := ([true, true, false], [(98, .aload_n 0, 0, 0, 0, []), (99, .getfield 89, 47, 8, 0, []), (102, .iload_n 1, 1, 0, 0, []), (103, .iaload, 0, 0, 0, []), (104, .ireturn, 0, 0, 0, [])])
def mk_m114 : Nat × Nat × List (List Bool × List mj_I) := (3, 9, [mk_b114_0, mk_b114_1, mk_b114_2, mk_b114_3, mk_b114_4, mk_b114_5, mk_b114_6, mk_b114_7, mk_b114_8])
/-- NumbersCalledModel.manyIn(I)I -/
def mk_b115_0 : List Bool × List mj_I := ([true, true, false, false], [(0, .iconst 0, 0, 0, 0, []), (1, .istore_n 2, 2, 0, 0, []), (2, .iconst 0, 0, 0, 0, []), (3, .istore_n 3, 3, 0, 0, []), (4, .nop, 1, 0, 0, [])])
def mk_b115_1 : List Bool × List mj_I := ([true, true, true, true], [(4, .iload_n 3, 3, 0, 0, []), (5, .aload_n 0, 0, 0, 0, []), (6, .getfield 119, 5, 8, 0, []), (9, .if_icmp .ge (27), 4, 0, 0, []), (12, .iload_n 2, 2, 0, 0, []), (13, .aload_n 0, 0, 0, 0, []), (14, .getfield 74, 42, 8, 0, []), (17, .iload_n 3, 3, 0, 0, []), (18, .iaload, 0, 0, 0, []), (19, .iload_n 1, 1, 0, 0, []), (20, .if_icmp .ne (7), 2, 0, 0, []), (23, .iconst 1, 0, 0, 0, []), (24, .goto (4), 3, 0, 0, [])])
def mk_b115_2 : List Bool × List mj_I := ([true, true, false, true], [(27, .iconst 0, 0, 0, 0, []), (28, .nop, 3, 0, 0, [])])
def mk_b115_3 : List Bool × List mj_I := ([true, true, false, true], [(28, .iadd, 0, 0, 0, []), (29, .istore_n 2, 2, 0, 0, []), (30, .iinc 3 1, 3, 0, 0, []), (33, .goto (-29), 1, 0, 0, [])])
def mk_b115_4 : List Bool × List mj_I := ([false, false, true, false], [(36, .iload_n 2, 2, 0, 0, []), (37, .ireturn, 0, 0, 0, [])])
def mk_m115 : Nat × Nat × List (List Bool × List mj_I) := (4, 9, [mk_b115_0, mk_b115_1, mk_b115_2, mk_b115_3, mk_b115_4])
/-- NumbersCalledModel.longest()I -/
def mk_b116_0 : List Bool × List mj_I := ([true, false, false], [(0, .iconst 0, 0, 0, 0, []), (1, .istore_n 1, 1, 0, 0, []), (2, .iconst 0, 0, 0, 0, []), (3, .istore_n 2, 2, 0, 0, []), (4, .nop, 1, 0, 0, [])])
def mk_b116_1 : List Bool × List mj_I := ([true, true, true], [(4, .iload_n 2, 2, 0, 0, []), (5, .aload_n 0, 0, 0, 0, []), (6, .getfield 119, 5, 8, 0, []), (9, .if_icmp .ge (28), 4, 0, 0, []), (12, .aload_n 0, 0, 0, 0, []), (13, .iload_n 2, 2, 0, 0, []), (14, .invokevirtual 259, 113, 2, 1, []), (17, .iload_n 1, 1, 0, 0, []), (18, .if_icmp .le (11), 2, 0, 0, []), (21, .aload_n 0, 0, 0, 0, []), (22, .iload_n 2, 2, 0, 0, []), (23, .invokevirtual 259, 113, 2, 1, []), (26, .goto (4), 3, 0, 0, [])])
def mk_b116_2 : List Bool × List mj_I := ([true, true, true], [(29, .iload_n 1, 1, 0, 0, []), (30, .nop, 3, 0, 0, [])])
def mk_b116_3 : List Bool × List mj_I := ([true, false, true], [(30, .istore_n 1, 1, 0, 0, []), (31, .iinc 2 1, 2, 0, 0, []), (34, .goto (-30), 1, 0, 0, [])])
def mk_b116_4 : List Bool × List mj_I := ([false, true, false], [(37, .iload_n 1, 1, 0, 0, []), (38, .ireturn, 0, 0, 0, [])])
def mk_m116 : Nat × Nat × List (List Bool × List mj_I) := (3, 9, [mk_b116_0, mk_b116_1, mk_b116_2, mk_b116_3, mk_b116_4])
/-- NumbersCalledModel.latest()I -/
def mk_b117_0 : List Bool × List mj_I := ([true, false, false], [(0, .iconst 0, 0, 0, 0, []), (1, .istore_n 1, 1, 0, 0, []), (2, .iconst 0, 0, 0, 0, []), (3, .istore_n 2, 2, 0, 0, []), (4, .nop, 1, 0, 0, [])])
def mk_b117_1 : List Bool × List mj_I := ([true, true, true], [(4, .iload_n 2, 2, 0, 0, []), (5, .aload_n 0, 0, 0, 0, []), (6, .getfield 119, 5, 8, 0, []), (9, .if_icmp .ge (30), 4, 0, 0, []), (12, .aload_n 0, 0, 0, 0, []), (13, .getfield 83, 45, 8, 0, []), (16, .iload_n 2, 2, 0, 0, []), (17, .iaload, 0, 0, 0, []), (18, .iload_n 1, 1, 0, 0, []), (19, .if_icmp .le (12), 2, 0, 0, []), (22, .aload_n 0, 0, 0, 0, []), (23, .getfield 83, 45, 8, 0, []), (26, .iload_n 2, 2, 0, 0, []), (27, .iaload, 0, 0, 0, []), (28, .goto (4), 3, 0, 0, [])])
def mk_b117_2 : List Bool × List mj_I := ([true, true, true], [(31, .iload_n 1, 1, 0, 0, []), (32, .nop, 3, 0, 0, [])])
def mk_b117_3 : List Bool × List mj_I := ([true, false, true], [(32, .istore_n 1, 1, 0, 0, []), (33, .iinc 2 1, 2, 0, 0, []), (36, .goto (-32), 1, 0, 0, [])])
def mk_b117_4 : List Bool × List mj_I := ([false, true, false], [(39, .iload_n 1, 1, 0, 0, []), (40, .ireturn, 0, 0, 0, [])])
def mk_m117 : Nat × Nat × List (List Bool × List mj_I) := (3, 9, [mk_b117_0, mk_b117_1, mk_b117_2, mk_b117_3, mk_b117_4])
/-- NumbersCalledModel.allWaits()I -/
def mk_b118_0 : List Bool × List mj_I := ([true, false, false], [(0, .iconst 0, 0, 0, 0, []), (1, .istore_n 1, 1, 0, 0, []), (2, .iconst 0, 0, 0, 0, []), (3, .istore_n 2, 2, 0, 0, []), (4, .nop, 1, 0, 0, [])])
def mk_b118_1 : List Bool × List mj_I := ([true, true, true], [(4, .iload_n 2, 2, 0, 0, []), (5, .aload_n 0, 0, 0, 0, []), (6, .getfield 119, 5, 8, 0, []), (9, .if_icmp .ge (31), 4, 0, 0, []), (12, .iload_n 1, 1, 0, 0, []), (13, .aload_n 0, 0, 0, 0, []), (14, .getfield 74, 42, 8, 0, []), (17, .iload_n 2, 2, 0, 0, []), (18, .iaload, 0, 0, 0, []), (19, .iconst 2, 0, 0, 0, []), (20, .if_icmp .ne (11), 2, 0, 0, []), (23, .aload_n 0, 0, 0, 0, []), (24, .iload_n 2, 2, 0, 0, []), (25, .invokevirtual 259, 113, 2, 1, []), (28, .goto (4), 3, 0, 0, [])])
def mk_b118_2 : List Bool × List mj_I := ([true, false, true], [(31, .iconst 0, 0, 0, 0, []), (32, .nop, 3, 0, 0, [])])
def mk_b118_3 : List Bool × List mj_I := ([true, false, true], [(32, .iadd, 0, 0, 0, []), (33, .istore_n 1, 1, 0, 0, []), (34, .iinc 2 1, 2, 0, 0, []), (37, .goto (-33), 1, 0, 0, [])])
def mk_b118_4 : List Bool × List mj_I := ([false, true, false], [(40, .iload_n 1, 1, 0, 0, []), (41, .ireturn, 0, 0, 0, [])])
def mk_m118 : Nat × Nat × List (List Bool × List mj_I) := (3, 9, [mk_b118_0, mk_b118_1, mk_b118_2, mk_b118_3, mk_b118_4])
/-- NumbersCalledModel.sumOf(I)I -/
def mk_b119_0 : List Bool × List mj_I := ([true, true], [(0, .iload_n 1, 1, 0, 0, []), (1, .tableswitch (82) 0 6 #[43, 49, 54, 59, 64, 70, 76], 8, 0, 0, [(0, 1), (1, 2), (2, 3), (3, 4), (4, 5), (5, 6), (6, 7)])])
def mk_b119_1 : List Bool × List mj_I := ([true, false], [(44, .aload_n 0, 0, 0, 0, []), (45, .iconst 2, 0, 0, 0, []), (46, .invokevirtual 262, 115, 2, 1, []), (49, .ireturn, 0, 0, 0, [])])
def mk_b119_2 : List Bool × List mj_I := ([true, false], [(50, .aload_n 0, 0, 0, 0, []), (51, .invokevirtual 265, 118, 1, 1, []), (54, .ireturn, 0, 0, 0, [])])
def mk_b119_3 : List Bool × List mj_I := ([true, false], [(55, .aload_n 0, 0, 0, 0, []), (56, .invokevirtual 268, 116, 1, 1, []), (59, .ireturn, 0, 0, 0, [])])
def mk_b119_4 : List Bool × List mj_I := ([true, false], [(60, .aload_n 0, 0, 0, 0, []), (61, .invokevirtual 271, 117, 1, 1, []), (64, .ireturn, 0, 0, 0, [])])
def mk_b119_5 : List Bool × List mj_I := ([true, false], [(65, .aload_n 0, 0, 0, 0, []), (66, .iconst 3, 0, 0, 0, []), (67, .invokevirtual 262, 115, 2, 1, []), (70, .ireturn, 0, 0, 0, [])])
def mk_b119_6 : List Bool × List mj_I := ([true, false], [(71, .aload_n 0, 0, 0, 0, []), (72, .iconst 4, 0, 0, 0, []), (73, .invokevirtual 262, 115, 2, 1, []), (76, .ireturn, 0, 0, 0, [])])
def mk_b119_7 : List Bool × List mj_I := ([true, false], [(77, .aload_n 0, 0, 0, 0, []), (78, .iconst 1, 0, 0, 0, []), (79, .invokevirtual 262, 115, 2, 1, []), (82, .ireturn, 0, 0, 0, [])])
def mk_b119_8 : List Bool × List mj_I := ([true, false], [(83, .aload_n 0, 0, 0, 0, []), (84, .getfield 95, 49, 8, 0, []), (87, .iconst 0, 0, 0, 0, []), (88, .iaload, 0, 0, 0, []), (89, .aload_n 0, 0, 0, 0, []), (90, .getfield 95, 49, 8, 0, []), (93, .iconst 1, 0, 0, 0, []), (94, .iaload, 0, 0, 0, []), (95, .iadd, 0, 0, 0, []), (96, .aload_n 0, 0, 0, 0, []), (97, .getfield 95, 49, 8, 0, []), (100, .iconst 2, 0, 0, 0, []), (101, .iaload, 0, 0, 0, []), (102, .iadd, 0, 0, 0, []), (103, .aload_n 0, 0, 0, 0, []), (104, .getfield 95, 49, 8, 0, []), (107, .iconst 3, 0, 0, 0, []), (108, .iaload, 0, 0, 0, []), (109, .iadd, 0, 0, 0, []), (110, .ireturn, 0, 0, 0, [])])
def mk_m119 : Nat × Nat × List (List Bool × List mj_I) := (2, 9, [mk_b119_0, mk_b119_1, mk_b119_2, mk_b119_3, mk_b119_4, mk_b119_5, mk_b119_6, mk_b119_7, mk_b119_8])
/-- NumbersCalledModel.sum(I)I -/
def mk_b120_0 : List Bool × List mj_I := ([true, true], [(0, .iload_n 1, 1, 0, 0, []), (1, .iconst 0, 0, 0, 0, []), (2, .bipush 7, 0, 0, 0, []), (4, .invokestatic 115, 72, 3, 1, []), (7, .ifCond .ne (6), 1, 0, 0, []), (10, .bipush (-2), 0, 0, 0, []), (12, .ireturn, 0, 0, 0, [])])
def mk_b120_1 : List Bool × List mj_I := ([true, true], [(13, .aload_n 0, 0, 0, 0, []), (14, .invokevirtual 256, 112, 1, 0, []), (17, .aload_n 0, 0, 0, 0, []), (18, .iload_n 1, 1, 0, 0, []), (19, .invokevirtual 274, 119, 2, 1, []), (22, .ireturn, 0, 0, 0, [])])
def mk_m120 : Nat × Nat × List (List Bool × List mj_I) := (2, 9, [mk_b120_0, mk_b120_1])
/-- NumbersCalledModel.idle(I)I -/
def mk_b121_0 : List Bool × List mj_I := ([true, true], [(0, .aload_n 0, 0, 0, 0, []), (1, .iload_n 1, 1, 0, 0, []), (2, .invokevirtual 126, 74, 2, 1, []), (5, .ifCond .ne (6), 1, 0, 0, []), (8, .bipush (-5), 0, 0, 0, []), (10, .ireturn, 0, 0, 0, [])])
def mk_b121_1 : List Bool × List mj_I := ([true, true], [(11, .aload_n 0, 0, 0, 0, []), (12, .invokevirtual 256, 112, 1, 0, []), (15, .aload_n 0, 0, 0, 0, []), (16, .getfield 95, 49, 8, 0, []), (19, .iload_n 1, 1, 0, 0, []), (20, .iaload, 0, 0, 0, []), (21, .ireturn, 0, 0, 0, [])])
def mk_m121 : Nat × Nat × List (List Bool × List mj_I) := (2, 9, [mk_b121_0, mk_b121_1])
/-- NumbersCalledModel.harmNow()I -/
def mk_b122_0 : List Bool × List mj_I := ([true], [(0, .aload_n 0, 0, 0, 0, []), (1, .invokevirtual 256, 112, 1, 0, []), (4, .aload_n 0, 0, 0, 0, []), (5, .invokevirtual 265, 118, 1, 1, []), (8, .bipush 60, 0, 0, 0, []), (10, .aload_n 0, 0, 0, 0, []), (11, .getfield 119, 5, 8, 0, []), (14, .aload_n 0, 0, 0, 0, []), (15, .iconst 2, 0, 0, 0, []), (16, .invokevirtual 262, 115, 2, 1, []), (19, .isub, 0, 0, 0, []), (20, .imul, 0, 0, 0, []), (21, .iadd, 0, 0, 0, []), (22, .ireturn, 0, 0, 0, [])])
def mk_m122 : Nat × Nat × List (List Bool × List mj_I) := (1, 9, [mk_b122_0])
/-- NumbersCalledModel.harmed()I -/
def mk_b123_0 : List Bool × List mj_I := ([true], [(0, .aload_n 0, 0, 0, 0, []), (1, .invokevirtual 277, 122, 1, 1, []), (4, .ireturn, 0, 0, 0, [])])
def mk_m123 : Nat × Nat × List (List Bool × List mj_I) := (1, 9, [mk_b123_0])
/-- NumbersCalledModel.letter(II)I -/
def mk_b124_0 : List Bool × List mj_I := ([true, true, true, false, false, false, false, false], [(0, .aload_n 0, 0, 0, 0, []), (1, .iload_n 1, 1, 0, 0, []), (2, .invokevirtual 126, 74, 2, 1, []), (5, .ifCond .ne (6), 1, 0, 0, []), (8, .bipush (-5), 0, 0, 0, []), (10, .ireturn, 0, 0, 0, [])])
def mk_b124_1 : List Bool × List mj_I := ([true, true, true, false, false, false, false, false], [(11, .iload_n 2, 2, 0, 0, []), (12, .iconst 0, 0, 0, 0, []), (13, .iconst 1, 0, 0, 0, []), (14, .invokestatic 115, 72, 3, 1, []), (17, .ifCond .ne (6), 2, 0, 0, []), (20, .bipush (-7), 0, 0, 0, []), (22, .ireturn, 0, 0, 0, [])])
def mk_b124_2 : List Bool × List mj_I := ([true, true, true, false, false, false, false, false], [(23, .aload_n 0, 0, 0, 0, []), (24, .getfield 7, 1, 8, 0, []), (27, .iconst 3, 0, 0, 0, []), (28, .iload_n 1, 1, 0, 0, []), (29, .imul, 0, 0, 0, []), (30, .iaload, 0, 0, 0, []), (31, .istore_n 3, 3, 0, 0, []), (32, .iconst (-1), 0, 0, 0, []), (33, .istore 4, 4, 0, 0, []), (35, .aload_n 0, 0, 0, 0, []), (36, .invokevirtual 277, 122, 1, 1, []), (39, .istore 5, 5, 0, 0, []), (41, .iconst 0, 0, 0, 0, []), (42, .istore 6, 6, 0, 0, []), (44, .nop, 3, 0, 0, [])])
def mk_b124_3 : List Bool × List mj_I := ([true, true, true, true, true, true, true, false], [(44, .iload 6, 6, 0, 0, []), (46, .iconst 4, 0, 0, 0, []), (47, .if_icmp .ge (61), 8, 0, 0, []), (50, .aload_n 0, 0, 0, 0, []), (51, .getfield 7, 1, 8, 0, []), (54, .iconst 3, 0, 0, 0, []), (55, .iload_n 1, 1, 0, 0, []), (56, .imul, 0, 0, 0, []), (57, .iload_n 3, 3, 0, 0, []), (58, .iconst 1, 0, 0, 0, []), (59, .iload 6, 6, 0, 0, []), (61, .ishl, 0, 0, 0, []), (62, .ior, 0, 0, 0, []), (63, .iastore, 0, 0, 0, []), (64, .aload_n 0, 0, 0, 0, []), (65, .invokevirtual 277, 122, 1, 1, []), (68, .istore 7, 7, 0, 0, []), (70, .iload 7, 7, 0, 0, []), (72, .iload 5, 5, 0, 0, []), (74, .if_icmp .ge (8), 4, 0, 0, []), (77, .iload 6, 6, 0, 0, []), (79, .goto (5), 5, 0, 0, [])])
def mk_b124_4 : List Bool × List mj_I := ([true, true, true, true, true, true, true, true], [(82, .iload 4, 4, 0, 0, []), (84, .nop, 5, 0, 0, [])])
def mk_b124_5 : List Bool × List mj_I := ([true, true, true, true, false, true, true, true], [(84, .istore 4, 4, 0, 0, []), (86, .iload 7, 7, 0, 0, []), (88, .iload 5, 5, 0, 0, []), (90, .if_icmp .ge (8), 6, 0, 0, []), (93, .iload 7, 7, 0, 0, []), (95, .goto (5), 7, 0, 0, [])])
def mk_b124_6 : List Bool × List mj_I := ([true, true, true, true, true, true, true, false], [(98, .iload 5, 5, 0, 0, []), (100, .nop, 7, 0, 0, [])])
def mk_b124_7 : List Bool × List mj_I := ([true, true, true, true, true, false, true, false], [(100, .istore 5, 5, 0, 0, []), (102, .iinc 6 1, 6, 0, 0, []), (105, .goto (-61), 3, 0, 0, [])])
def mk_b124_8 : List Bool × List mj_I := ([true, true, true, true, true, true, false, false], [(108, .aload_n 0, 0, 0, 0, []), (109, .getfield 7, 1, 8, 0, []), (112, .iconst 3, 0, 0, 0, []), (113, .iload_n 1, 1, 0, 0, []), (114, .imul, 0, 0, 0, []), (115, .iload_n 3, 3, 0, 0, []), (116, .iastore, 0, 0, 0, []), (117, .iload_n 2, 2, 0, 0, []), (118, .ifCond .ne (8), 9, 0, 0, []), (121, .iload 4, 4, 0, 0, []), (123, .goto (5), 10, 0, 0, [])])
def mk_b124_9 : List Bool × List mj_I := ([false, false, false, false, false, true, false, false], [(126, .iload 5, 5, 0, 0, []), (128, .nop, 10, 0, 0, [])])
def mk_b124_10 : List Bool × List mj_I := ([false, false, false, false, false, false, false, false], [(128, .ireturn, 0, 0, 0, [])])
def mk_m124 : Nat × Nat × List (List Bool × List mj_I) := (8, 9, [mk_b124_0, mk_b124_1, mk_b124_2, mk_b124_3, mk_b124_4, mk_b124_5, mk_b124_6, mk_b124_7, mk_b124_8, mk_b124_9, mk_b124_10])
/-- NumbersCalledModel.isWell(I)Z -/
def mk_b125_0 : List Bool × List mj_I := ([true, true], [(0, .aload_n 0, 0, 0, 0, []), (1, .invokevirtual 256, 112, 1, 0, []), (4, .aload_n 0, 0, 0, 0, []), (5, .iconst 2, 0, 0, 0, []), (6, .invokevirtual 262, 115, 2, 1, []), (9, .aload_n 0, 0, 0, 0, []), (10, .getfield 119, 5, 8, 0, []), (13, .if_icmp .ne (15), 1, 0, 0, []), (16, .aload_n 0, 0, 0, 0, []), (17, .invokevirtual 268, 116, 1, 1, []), (20, .iload_n 1, 1, 0, 0, []), (21, .if_icmp .gt (7), 1, 0, 0, []), (24, .iconst 1, 0, 0, 0, []), (25, .goto (4), 2, 0, 0, [])])
def mk_b125_1 : List Bool × List mj_I := ([false, false], [(28, .iconst 0, 0, 0, 0, []), (29, .nop, 2, 0, 0, [])])
def mk_b125_2 : List Bool × List mj_I := ([false, false], [(29, .ireturn, 0, 0, 1, [])])
def mk_m125 : Nat × Nat × List (List Bool × List mj_I) := (2, 9, [mk_b125_0, mk_b125_1, mk_b125_2])
/-- NumbersCalledModel.trains(IZ)I -/
def mk_b126_0 : List Bool × List mj_I := ([true, true, true, false, false, false, false, false, false], [(0, .iconst 0, 0, 0, 0, []), (1, .istore_n 3, 3, 0, 0, []), (2, .nop, 1, 0, 0, [])])
def mk_b126_1 : List Bool × List mj_I := ([true, true, true, true, false, false, false, false, false], [(2, .iload_n 3, 3, 0, 0, []), (3, .iconst 4, 0, 0, 0, []), (4, .aload_n 0, 0, 0, 0, []), (5, .getfield 112, 0, 8, 0, []), (8, .imul, 0, 0, 0, []), (9, .if_icmp .ge (202), 9, 0, 0, []), (12, .aload_n 0, 0, 0, 0, []), (13, .getfield 7, 1, 8, 0, []), (16, .iconst 3, 0, 0, 0, []), (17, .iload_n 3, 3, 0, 0, []), (18, .iconst 4, 0, 0, 0, []), (19, .idiv, 0, 0, 0, []), (20, .imul, 0, 0, 0, []), (21, .iaload, 0, 0, 0, []), (22, .istore 4, 4, 0, 0, []), (24, .aload_n 0, 0, 0, 0, []), (25, .getfield 7, 1, 8, 0, []), (28, .iconst 3, 0, 0, 0, []), (29, .iload_n 3, 3, 0, 0, []), (30, .iconst 4, 0, 0, 0, []), (31, .idiv, 0, 0, 0, []), (32, .imul, 0, 0, 0, []), (33, .iload 4, 4, 0, 0, []), (35, .iconst 1, 0, 0, 0, []), (36, .iload_n 3, 3, 0, 0, []), (37, .iconst 4, 0, 0, 0, []), (38, .irem, 0, 0, 0, []), (39, .ishl, 0, 0, 0, []), (40, .ior, 0, 0, 0, []), (41, .iastore, 0, 0, 0, []), (42, .bipush 10, 0, 0, 0, []), (44, .iload_n 3, 3, 0, 0, []), (45, .iconst 4, 0, 0, 0, []), (46, .idiv, 0, 0, 0, []), (47, .imul, 0, 0, 0, []), (48, .iload_n 3, 3, 0, 0, []), (49, .iconst 4, 0, 0, 0, []), (50, .irem, 0, 0, 0, []), (51, .iadd, 0, 0, 0, []), (52, .istore 5, 5, 0, 0, []), (54, .iload_n 2, 2, 0, 0, []), (55, .ifCond .ne (16), 2, 0, 0, []), (58, .aload_n 0, 0, 0, 0, []), (59, .iload_n 1, 1, 0, 0, []), (60, .invokevirtual 280, 125, 2, 1, []), (63, .ifCond .eq (8), 2, 0, 0, []), (66, .iload 5, 5, 0, 0, []), (68, .goto (4), 3, 0, 0, [])])
def mk_b126_2 : List Bool × List mj_I := ([true, true, true, true, true, true, false, false, false], [(71, .iconst (-1), 0, 0, 0, []), (72, .nop, 3, 0, 0, [])])
def mk_b126_3 : List Bool × List mj_I := ([true, true, true, true, true, true, false, false, false], [(72, .istore 6, 6, 0, 0, []), (74, .iload_n 3, 3, 0, 0, []), (75, .iconst 1, 0, 0, 0, []), (76, .iadd, 0, 0, 0, []), (77, .istore 7, 7, 0, 0, []), (79, .nop, 4, 0, 0, [])])
def mk_b126_4 : List Bool × List mj_I := ([true, true, true, true, true, true, true, true, false], [(79, .iload 7, 7, 0, 0, []), (81, .iconst 4, 0, 0, 0, []), (82, .aload_n 0, 0, 0, 0, []), (83, .getfield 112, 0, 8, 0, []), (86, .imul, 0, 0, 0, []), (87, .if_icmp .ge (97), 7, 0, 0, []), (90, .iload_n 2, 2, 0, 0, []), (91, .ifCond .eq (93), 7, 0, 0, []), (94, .iload 6, 6, 0, 0, []), (96, .iconst (-1), 0, 0, 0, []), (97, .if_icmp .ne (87), 7, 0, 0, []), (100, .aload_n 0, 0, 0, 0, []), (101, .getfield 7, 1, 8, 0, []), (104, .iconst 3, 0, 0, 0, []), (105, .iload 7, 7, 0, 0, []), (107, .iconst 4, 0, 0, 0, []), (108, .idiv, 0, 0, 0, []), (109, .imul, 0, 0, 0, []), (110, .iaload, 0, 0, 0, []), (111, .istore 8, 8, 0, 0, []), (113, .aload_n 0, 0, 0, 0, []), (114, .getfield 7, 1, 8, 0, []), (117, .iconst 3, 0, 0, 0, []), (118, .iload 7, 7, 0, 0, []), (120, .iconst 4, 0, 0, 0, []), (121, .idiv, 0, 0, 0, []), (122, .imul, 0, 0, 0, []), (123, .iload 8, 8, 0, 0, []), (125, .iconst 1, 0, 0, 0, []), (126, .iload 7, 7, 0, 0, []), (128, .iconst 4, 0, 0, 0, []), (129, .irem, 0, 0, 0, []), (130, .ishl, 0, 0, 0, []), (131, .ior, 0, 0, 0, []), (132, .iastore, 0, 0, 0, []), (133, .aload_n 0, 0, 0, 0, []), (134, .iload_n 1, 1, 0, 0, []), (135, .invokevirtual 280, 125, 2, 1, []), (138, .ifCond .eq (24), 5, 0, 0, []), (141, .bipush 100, 0, 0, 0, []), (143, .iload 5, 5, 0, 0, []), (145, .imul, 0, 0, 0, []), (146, .bipush 10, 0, 0, 0, []), (148, .iload 7, 7, 0, 0, []), (150, .iconst 4, 0, 0, 0, []), (151, .idiv, 0, 0, 0, []), (152, .imul, 0, 0, 0, []), (153, .iadd, 0, 0, 0, []), (154, .iload 7, 7, 0, 0, []), (156, .iconst 4, 0, 0, 0, []), (157, .irem, 0, 0, 0, []), (158, .iadd, 0, 0, 0, []), (159, .goto (4), 6, 0, 0, [])])
def mk_b126_5 : List Bool × List mj_I := ([true, true, true, true, true, true, false, true, true], [(162, .iconst (-1), 0, 0, 0, []), (163, .nop, 6, 0, 0, [])])
def mk_b126_6 : List Bool × List mj_I := ([true, true, true, true, true, true, false, true, true], [(163, .istore 6, 6, 0, 0, []), (165, .aload_n 0, 0, 0, 0, []), (166, .getfield 7, 1, 8, 0, []), (169, .iconst 3, 0, 0, 0, []), (170, .iload 7, 7, 0, 0, []), (172, .iconst 4, 0, 0, 0, []), (173, .idiv, 0, 0, 0, []), (174, .imul, 0, 0, 0, []), (175, .iload 8, 8, 0, 0, []), (177, .iastore, 0, 0, 0, []), (178, .iinc 7 1, 7, 0, 0, []), (181, .goto (-102), 4, 0, 0, [])])
def mk_b126_7 : List Bool × List mj_I := ([true, true, true, true, true, false, true, false, false], [(184, .aload_n 0, 0, 0, 0, []), (185, .getfield 7, 1, 8, 0, []), (188, .iconst 3, 0, 0, 0, []), (189, .iload_n 3, 3, 0, 0, []), (190, .iconst 4, 0, 0, 0, []), (191, .idiv, 0, 0, 0, []), (192, .imul, 0, 0, 0, []), (193, .iload 4, 4, 0, 0, []), (195, .iastore, 0, 0, 0, []), (196, .iload 6, 6, 0, 0, []), (198, .iconst (-1), 0, 0, 0, []), (199, .if_icmp .eq (6), 8, 0, 0, []), (202, .iload 6, 6, 0, 0, []), (204, .ireturn, 0, 0, 0, [])])
def mk_b126_8 : List Bool × List mj_I := ([true, true, true, true, false, false, false, false, false], [(205, .iinc 3 1, 3, 0, 0, []), (208, .goto (-206), 1, 0, 0, [])])
def mk_b126_9 : List Bool × List mj_I := ([false, false, false, false, false, false, false, false, false], [(211, .iconst (-1), 0, 0, 0, []), (212, .ireturn, 0, 0, 0, [])])
def mk_m126 : Nat × Nat × List (List Bool × List mj_I) := (9, 9, [mk_b126_0, mk_b126_1, mk_b126_2, mk_b126_3, mk_b126_4, mk_b126_5, mk_b126_6, mk_b126_7, mk_b126_8, mk_b126_9])
/-- NumbersCalledModel.train(II)I -/
def mk_b127_0 : List Bool × List mj_I := ([true, true, true, false, false], [(0, .iload_n 1, 1, 0, 0, []), (1, .iconst 0, 0, 0, 0, []), (2, .sipush 999, 0, 0, 0, []), (5, .invokestatic 115, 72, 3, 1, []), (8, .ifCond .eq (12), 1, 0, 0, []), (11, .iload_n 2, 2, 0, 0, []), (12, .iconst 0, 0, 0, 0, []), (13, .iconst 1, 0, 0, 0, []), (14, .invokestatic 115, 72, 3, 1, []), (17, .ifCond .ne (6), 2, 0, 0, []), (20, .nop, 1, 0, 0, [])])
def mk_b127_1 : List Bool × List mj_I := ([false, false, false, false, false], [(20, .bipush (-2), 0, 0, 0, []), (22, .ireturn, 0, 0, 0, [])])
def mk_b127_2 : List Bool × List mj_I := ([true, true, true, false, false], [(23, .aload_n 0, 0, 0, 0, []), (24, .iload_n 1, 1, 0, 0, []), (25, .invokevirtual 280, 125, 2, 1, []), (28, .ifCond .eq (13), 5, 0, 0, []), (31, .iload_n 2, 2, 0, 0, []), (32, .ifCond .ne (7), 3, 0, 0, []), (35, .iconst 0, 0, 0, 0, []), (36, .goto (4), 4, 0, 0, [])])
def mk_b127_3 : List Bool × List mj_I := ([false, false, false, false, false], [(39, .iconst (-1), 0, 0, 0, []), (40, .nop, 4, 0, 0, [])])
def mk_b127_4 : List Bool × List mj_I := ([false, false, false, false, false], [(40, .ireturn, 0, 0, 0, [])])
def mk_b127_5 : List Bool × List mj_I := ([true, true, true, false, false], [(41, .aload_n 0, 0, 0, 0, []), (42, .iload_n 1, 1, 0, 0, []), (43, .iconst 0, 0, 0, 0, []), (44, .invokevirtual 283, 126, 3, 1, []), (47, .istore_n 3, 3, 0, 0, []), (48, .iload_n 3, 3, 0, 0, []), (49, .iconst (-1), 0, 0, 0, []), (50, .if_icmp .eq (13), 8, 0, 0, []), (53, .iload_n 2, 2, 0, 0, []), (54, .ifCond .ne (7), 6, 0, 0, []), (57, .iconst 1, 0, 0, 0, []), (58, .goto (4), 7, 0, 0, [])])
def mk_b127_6 : List Bool × List mj_I := ([false, false, false, true, false], [(61, .iload_n 3, 3, 0, 0, []), (62, .nop, 7, 0, 0, [])])
def mk_b127_7 : List Bool × List mj_I := ([false, false, false, false, false], [(62, .ireturn, 0, 0, 0, [])])
def mk_b127_8 : List Bool × List mj_I := ([true, true, true, false, false], [(63, .aload_n 0, 0, 0, 0, []), (64, .iload_n 1, 1, 0, 0, []), (65, .iconst 1, 0, 0, 0, []), (66, .invokevirtual 283, 126, 3, 1, []), (69, .istore 4, 4, 0, 0, []), (71, .iload_n 2, 2, 0, 0, []), (72, .iconst 1, 0, 0, 0, []), (73, .if_icmp .eq (9), 9, 0, 0, []), (76, .iload 4, 4, 0, 0, []), (78, .iconst (-1), 0, 0, 0, []), (79, .if_icmp .ne (8), 10, 0, 0, []), (82, .nop, 9, 0, 0, [])])
def mk_b127_9 : List Bool × List mj_I := ([false, false, false, false, true], [(82, .iload 4, 4, 0, 0, []), (84, .goto (4), 11, 0, 0, [])])
def mk_b127_10 : List Bool × List mj_I := ([false, false, false, false, false], [(87, .iconst 2, 0, 0, 0, []), (88, .nop, 11, 0, 0, [])])
def mk_b127_11 : List Bool × List mj_I := ([false, false, false, false, false], [(88, .ireturn, 0, 0, 0, [])])
def mk_m127 : Nat × Nat × List (List Bool × List mj_I) := (5, 9, [mk_b127_0, mk_b127_1, mk_b127_2, mk_b127_3, mk_b127_4, mk_b127_5, mk_b127_6, mk_b127_7, mk_b127_8, mk_b127_9, mk_b127_10, mk_b127_11])
/-- NumbersCalledModel.rest(II)I -/
def mk_b128_0 : List Bool × List mj_I := ([true, true, true, false, false, false, false, false], [(0, .aload_n 0, 0, 0, 0, []), (1, .iload_n 1, 1, 0, 0, []), (2, .invokevirtual 126, 74, 2, 1, []), (5, .ifCond .ne (6), 1, 0, 0, []), (8, .bipush (-5), 0, 0, 0, []), (10, .ireturn, 0, 0, 0, [])])
def mk_b128_1 : List Bool × List mj_I := ([true, true, true, false, false, false, false, false], [(11, .iload_n 2, 2, 0, 0, []), (12, .iconst 0, 0, 0, 0, []), (13, .iconst 1, 0, 0, 0, []), (14, .invokestatic 115, 72, 3, 1, []), (17, .ifCond .ne (6), 2, 0, 0, []), (20, .bipush (-7), 0, 0, 0, []), (22, .ireturn, 0, 0, 0, [])])
def mk_b128_2 : List Bool × List mj_I := ([true, true, true, false, false, false, false, false], [(23, .aload_n 0, 0, 0, 0, []), (24, .getfield 7, 1, 8, 0, []), (27, .iconst 3, 0, 0, 0, []), (28, .iload_n 1, 1, 0, 0, []), (29, .imul, 0, 0, 0, []), (30, .iconst 2, 0, 0, 0, []), (31, .iadd, 0, 0, 0, []), (32, .iaload, 0, 0, 0, []), (33, .istore_n 3, 3, 0, 0, []), (34, .iconst 0, 0, 0, 0, []), (35, .istore 4, 4, 0, 0, []), (37, .iconst 0, 0, 0, 0, []), (38, .istore 5, 5, 0, 0, []), (40, .iconst 0, 0, 0, 0, []), (41, .istore 6, 6, 0, 0, []), (43, .nop, 3, 0, 0, [])])
def mk_b128_3 : List Bool × List mj_I := ([true, true, true, true, true, true, true, false], [(43, .iload 6, 6, 0, 0, []), (45, .bipush 110, 0, 0, 0, []), (47, .if_icmp .gt (69), 10, 0, 0, []), (50, .aload_n 0, 0, 0, 0, []), (51, .getfield 7, 1, 8, 0, []), (54, .iconst 3, 0, 0, 0, []), (55, .iload_n 1, 1, 0, 0, []), (56, .imul, 0, 0, 0, []), (57, .iconst 2, 0, 0, 0, []), (58, .iadd, 0, 0, 0, []), (59, .iload 6, 6, 0, 0, []), (61, .iastore, 0, 0, 0, []), (62, .aload_n 0, 0, 0, 0, []), (63, .invokevirtual 277, 122, 1, 1, []), (66, .istore 7, 7, 0, 0, []), (68, .iload 6, 6, 0, 0, []), (70, .ifCond .eq (10), 4, 0, 0, []), (73, .iload 7, 7, 0, 0, []), (75, .iload 5, 5, 0, 0, []), (77, .if_icmp .ge (8), 5, 0, 0, []), (80, .nop, 4, 0, 0, [])])
def mk_b128_4 : List Bool × List mj_I := ([true, true, true, true, false, true, true, true], [(80, .iload 6, 6, 0, 0, []), (82, .goto (5), 6, 0, 0, [])])
def mk_b128_5 : List Bool × List mj_I := ([true, true, true, true, true, true, true, true], [(85, .iload 4, 4, 0, 0, []), (87, .nop, 6, 0, 0, [])])
def mk_b128_6 : List Bool × List mj_I := ([true, true, true, true, false, true, true, true], [(87, .istore 4, 4, 0, 0, []), (89, .iload 6, 6, 0, 0, []), (91, .ifCond .eq (10), 7, 0, 0, []), (94, .iload 7, 7, 0, 0, []), (96, .iload 5, 5, 0, 0, []), (98, .if_icmp .ge (8), 8, 0, 0, []), (101, .nop, 7, 0, 0, [])])
def mk_b128_7 : List Bool × List mj_I := ([true, true, true, true, true, false, true, true], [(101, .iload 7, 7, 0, 0, []), (103, .goto (5), 9, 0, 0, [])])
def mk_b128_8 : List Bool × List mj_I := ([true, true, true, true, true, true, true, false], [(106, .iload 5, 5, 0, 0, []), (108, .nop, 9, 0, 0, [])])
def mk_b128_9 : List Bool × List mj_I := ([true, true, true, true, true, false, true, false], [(108, .istore 5, 5, 0, 0, []), (110, .iinc 6 10, 6, 0, 0, []), (113, .goto (-70), 3, 0, 0, [])])
def mk_b128_10 : List Bool × List mj_I := ([true, true, true, true, true, true, false, false], [(116, .aload_n 0, 0, 0, 0, []), (117, .getfield 7, 1, 8, 0, []), (120, .iconst 3, 0, 0, 0, []), (121, .iload_n 1, 1, 0, 0, []), (122, .imul, 0, 0, 0, []), (123, .iconst 2, 0, 0, 0, []), (124, .iadd, 0, 0, 0, []), (125, .iload_n 3, 3, 0, 0, []), (126, .iastore, 0, 0, 0, []), (127, .iload_n 2, 2, 0, 0, []), (128, .ifCond .ne (8), 11, 0, 0, []), (131, .iload 4, 4, 0, 0, []), (133, .goto (5), 12, 0, 0, [])])
def mk_b128_11 : List Bool × List mj_I := ([false, false, false, false, false, true, false, false], [(136, .iload 5, 5, 0, 0, []), (138, .nop, 12, 0, 0, [])])
def mk_b128_12 : List Bool × List mj_I := ([false, false, false, false, false, false, false, false], [(138, .ireturn, 0, 0, 0, [])])
def mk_m128 : Nat × Nat × List (List Bool × List mj_I) := (8, 9, [mk_b128_0, mk_b128_1, mk_b128_2, mk_b128_3, mk_b128_4, mk_b128_5, mk_b128_6, mk_b128_7, mk_b128_8, mk_b128_9, mk_b128_10, mk_b128_11, mk_b128_12])
/-- NumbersCalledModel.stop(I)I -/
def mk_b129_0 : List Bool × List mj_I := ([true, true, false, false, false], [(0, .iload_n 1, 1, 0, 0, []), (1, .iconst 0, 0, 0, 0, []), (2, .sipush 999, 0, 0, 0, []), (5, .invokestatic 115, 72, 3, 1, []), (8, .ifCond .ne (6), 1, 0, 0, []), (11, .bipush (-2), 0, 0, 0, []), (13, .ireturn, 0, 0, 0, [])])
def mk_b129_1 : List Bool × List mj_I := ([true, true, false, false, false], [(14, .aload_n 0, 0, 0, 0, []), (15, .getfield 17, 4, 8, 0, []), (18, .istore_n 2, 2, 0, 0, []), (19, .iconst (-1), 0, 0, 0, []), (20, .istore_n 3, 3, 0, 0, []), (21, .bipush 120, 0, 0, 0, []), (23, .istore 4, 4, 0, 0, []), (25, .nop, 2, 0, 0, [])])
def mk_b129_2 : List Bool × List mj_I := ([true, true, true, true, true], [(25, .iload 4, 4, 0, 0, []), (27, .ifCond .lt (47), 5, 0, 0, []), (30, .iload_n 3, 3, 0, 0, []), (31, .iconst (-1), 0, 0, 0, []), (32, .if_icmp .ne (42), 5, 0, 0, []), (35, .aload_n 0, 0, 0, 0, []), (36, .iload 4, 4, 0, 0, []), (38, .putfield 17, 4, 8, 0, []), (41, .aload_n 0, 0, 0, 0, []), (42, .invokevirtual 256, 112, 1, 0, []), (45, .aload_n 0, 0, 0, 0, []), (46, .invokevirtual 271, 117, 1, 1, []), (49, .iload_n 1, 1, 0, 0, []), (50, .if_icmp .gt (16), 3, 0, 0, []), (53, .aload_n 0, 0, 0, 0, []), (54, .iconst 1, 0, 0, 0, []), (55, .invokevirtual 262, 115, 2, 1, []), (58, .ifCond .ne (8), 3, 0, 0, []), (61, .iload 4, 4, 0, 0, []), (63, .goto (4), 4, 0, 0, [])])
def mk_b129_3 : List Bool × List mj_I := ([true, true, true, false, true], [(66, .iconst (-1), 0, 0, 0, []), (67, .nop, 4, 0, 0, [])])
def mk_b129_4 : List Bool × List mj_I := ([true, true, true, false, true], [(67, .istore_n 3, 3, 0, 0, []), (68, .iinc 4 (-1), 4, 0, 0, []), (71, .goto (-46), 2, 0, 0, [])])
def mk_b129_5 : List Bool × List mj_I := ([true, false, true, true, false], [(74, .aload_n 0, 0, 0, 0, []), (75, .iload_n 2, 2, 0, 0, []), (76, .putfield 17, 4, 8, 0, []), (79, .iload_n 3, 3, 0, 0, []), (80, .ireturn, 0, 0, 0, [])])
def mk_m129 : Nat × Nat × List (List Bool × List mj_I) := (5, 9, [mk_b129_0, mk_b129_1, mk_b129_2, mk_b129_3, mk_b129_4, mk_b129_5])
/-- NumbersCalledModel.call(I)I -/
def mk_b130_0 : List Bool × List mj_I := ([true, true, false, false, false, false, false], [(0, .iload_n 1, 1, 0, 0, []), (1, .iconst 0, 0, 0, 0, []), (2, .iconst 1, 0, 0, 0, []), (3, .invokestatic 115, 72, 3, 1, []), (6, .ifCond .ne (6), 1, 0, 0, []), (9, .bipush (-2), 0, 0, 0, []), (11, .ireturn, 0, 0, 0, [])])
def mk_b130_1 : List Bool × List mj_I := ([true, true, false, false, false, false, false], [(12, .aload_n 0, 0, 0, 0, []), (13, .getfield 13, 3, 8, 0, []), (16, .istore_n 2, 2, 0, 0, []), (17, .iconst 0, 0, 0, 0, []), (18, .istore_n 3, 3, 0, 0, []), (19, .iconst 0, 0, 0, 0, []), (20, .istore 4, 4, 0, 0, []), (22, .iconst 1, 0, 0, 0, []), (23, .istore 5, 5, 0, 0, []), (25, .nop, 2, 0, 0, [])])
def mk_b130_2 : List Bool × List mj_I := ([true, true, true, true, true, true, false], [(25, .iload 5, 5, 0, 0, []), (27, .bipush 9, 0, 0, 0, []), (29, .if_icmp .gt (63), 9, 0, 0, []), (32, .aload_n 0, 0, 0, 0, []), (33, .iload 5, 5, 0, 0, []), (35, .putfield 13, 3, 8, 0, []), (38, .aload_n 0, 0, 0, 0, []), (39, .invokevirtual 277, 122, 1, 1, []), (42, .istore 6, 6, 0, 0, []), (44, .iload 5, 5, 0, 0, []), (46, .iconst 1, 0, 0, 0, []), (47, .if_icmp .eq (10), 3, 0, 0, []), (50, .iload 6, 6, 0, 0, []), (52, .iload 4, 4, 0, 0, []), (54, .if_icmp .ge (8), 4, 0, 0, []), (57, .nop, 3, 0, 0, [])])
def mk_b130_3 : List Bool × List mj_I := ([true, true, true, false, true, true, true], [(57, .iload 5, 5, 0, 0, []), (59, .goto (4), 5, 0, 0, [])])
def mk_b130_4 : List Bool × List mj_I := ([true, true, true, true, true, true, true], [(62, .iload_n 3, 3, 0, 0, []), (63, .nop, 5, 0, 0, [])])
def mk_b130_5 : List Bool × List mj_I := ([true, true, true, false, true, true, true], [(63, .istore_n 3, 3, 0, 0, []), (64, .iload 5, 5, 0, 0, []), (66, .iconst 1, 0, 0, 0, []), (67, .if_icmp .eq (10), 6, 0, 0, []), (70, .iload 6, 6, 0, 0, []), (72, .iload 4, 4, 0, 0, []), (74, .if_icmp .ge (8), 7, 0, 0, []), (77, .nop, 6, 0, 0, [])])
def mk_b130_6 : List Bool × List mj_I := ([true, true, true, true, false, true, true], [(77, .iload 6, 6, 0, 0, []), (79, .goto (5), 8, 0, 0, [])])
def mk_b130_7 : List Bool × List mj_I := ([true, true, true, true, true, true, false], [(82, .iload 4, 4, 0, 0, []), (84, .nop, 8, 0, 0, [])])
def mk_b130_8 : List Bool × List mj_I := ([true, true, true, true, false, true, false], [(84, .istore 4, 4, 0, 0, []), (86, .iinc 5 1, 5, 0, 0, []), (89, .goto (-64), 2, 0, 0, [])])
def mk_b130_9 : List Bool × List mj_I := ([true, true, true, true, true, false, false], [(92, .aload_n 0, 0, 0, 0, []), (93, .iload_n 2, 2, 0, 0, []), (94, .putfield 13, 3, 8, 0, []), (97, .iload_n 1, 1, 0, 0, []), (98, .ifCond .ne (7), 10, 0, 0, []), (101, .iload_n 3, 3, 0, 0, []), (102, .goto (5), 11, 0, 0, [])])
def mk_b130_10 : List Bool × List mj_I := ([false, false, false, false, true, false, false], [(105, .iload 4, 4, 0, 0, []), (107, .nop, 11, 0, 0, [])])
def mk_b130_11 : List Bool × List mj_I := ([false, false, false, false, false, false, false], [(107, .ireturn, 0, 0, 0, [])])
def mk_m130 : Nat × Nat × List (List Bool × List mj_I) := (7, 9, [mk_b130_0, mk_b130_1, mk_b130_2, mk_b130_3, mk_b130_4, mk_b130_5, mk_b130_6, mk_b130_7, mk_b130_8, mk_b130_9, mk_b130_10, mk_b130_11])
/-- NumbersCalledModel.waitsBut(I)I -/
def mk_b131_0 : List Bool × List mj_I := ([true, true, false, false, false], [(0, .aload_n 0, 0, 0, 0, []), (1, .invokevirtual 256, 112, 1, 0, []), (4, .iconst 0, 0, 0, 0, []), (5, .istore_n 2, 2, 0, 0, []), (6, .iconst 0, 0, 0, 0, []), (7, .istore_n 3, 3, 0, 0, []), (8, .nop, 1, 0, 0, [])])
def mk_b131_1 : List Bool × List mj_I := ([true, true, true, true, false], [(8, .iload_n 3, 3, 0, 0, []), (9, .aload_n 0, 0, 0, 0, []), (10, .getfield 119, 5, 8, 0, []), (13, .if_icmp .ge (78), 8, 0, 0, []), (16, .iload_n 1, 1, 0, 0, []), (17, .iconst 2, 0, 0, 0, []), (18, .if_icmp .eq (33), 3, 0, 0, []), (21, .iload_n 1, 1, 0, 0, []), (22, .iconst 1, 0, 0, 0, []), (23, .if_icmp .ne (13), 2, 0, 0, []), (26, .aload_n 0, 0, 0, 0, []), (27, .getfield 20, 6, 8, 0, []), (30, .iload_n 3, 3, 0, 0, []), (31, .iaload, 0, 0, 0, []), (32, .iconst 4, 0, 0, 0, []), (33, .if_icmp .ne (18), 3, 0, 0, []), (36, .nop, 2, 0, 0, [])])
def mk_b131_2 : List Bool × List mj_I := ([true, true, true, true, false], [(36, .iload_n 1, 1, 0, 0, []), (37, .iconst 3, 0, 0, 0, []), (38, .if_icmp .ne (17), 4, 0, 0, []), (41, .aload_n 0, 0, 0, 0, []), (42, .getfield 20, 6, 8, 0, []), (45, .iload_n 3, 3, 0, 0, []), (46, .iaload, 0, 0, 0, []), (47, .iconst 3, 0, 0, 0, []), (48, .if_icmp .eq (7), 4, 0, 0, []), (51, .nop, 3, 0, 0, [])])
def mk_b131_3 : List Bool × List mj_I := ([true, true, true, true, false], [(51, .iconst 1, 0, 0, 0, []), (52, .goto (4), 5, 0, 0, [])])
def mk_b131_4 : List Bool × List mj_I := ([true, true, true, true, false], [(55, .iconst 0, 0, 0, 0, []), (56, .nop, 5, 0, 0, [])])
def mk_b131_5 : List Bool × List mj_I := ([true, true, true, true, false], [(56, .istore 4, 4, 0, 0, []), (58, .iload_n 2, 2, 0, 0, []), (59, .iload 4, 4, 0, 0, []), (61, .ifCond .eq (21), 6, 0, 0, []), (64, .aload_n 0, 0, 0, 0, []), (65, .getfield 74, 42, 8, 0, []), (68, .iload_n 3, 3, 0, 0, []), (69, .iaload, 0, 0, 0, []), (70, .iconst 2, 0, 0, 0, []), (71, .if_icmp .ne (11), 6, 0, 0, []), (74, .aload_n 0, 0, 0, 0, []), (75, .iload_n 3, 3, 0, 0, []), (76, .invokevirtual 259, 113, 2, 1, []), (79, .goto (4), 7, 0, 0, [])])
def mk_b131_6 : List Bool × List mj_I := ([true, true, false, true, false], [(82, .iconst 0, 0, 0, 0, []), (83, .nop, 7, 0, 0, [])])
def mk_b131_7 : List Bool × List mj_I := ([true, true, false, true, false], [(83, .iadd, 0, 0, 0, []), (84, .istore_n 2, 2, 0, 0, []), (85, .iinc 3 1, 3, 0, 0, []), (88, .goto (-80), 1, 0, 0, [])])
def mk_b131_8 : List Bool × List mj_I := ([false, false, true, false, false], [(91, .iload_n 2, 2, 0, 0, []), (92, .ireturn, 0, 0, 0, [])])
def mk_m131 : Nat × Nat × List (List Bool × List mj_I) := (5, 9, [mk_b131_0, mk_b131_1, mk_b131_2, mk_b131_3, mk_b131_4, mk_b131_5, mk_b131_6, mk_b131_7, mk_b131_8])
/-- NumbersCalledModel.pay(I)I -/
def mk_b132_0 : List Bool × List mj_I := ([true, true, false, false, false], [(0, .iload_n 1, 1, 0, 0, []), (1, .iconst 1, 0, 0, 0, []), (2, .iconst 3, 0, 0, 0, []), (3, .invokestatic 115, 72, 3, 1, []), (6, .ifCond .ne (6), 1, 0, 0, []), (9, .bipush (-2), 0, 0, 0, []), (11, .ireturn, 0, 0, 0, [])])
def mk_b132_1 : List Bool × List mj_I := ([true, true, false, false, false], [(12, .aload_n 0, 0, 0, 0, []), (13, .getfield 134, 2, 8, 0, []), (16, .istore_n 2, 2, 0, 0, []), (17, .aload_n 0, 0, 0, 0, []), (18, .iload_n 1, 1, 0, 0, []), (19, .putfield 134, 2, 8, 0, []), (22, .aload_n 0, 0, 0, 0, []), (23, .iload_n 1, 1, 0, 0, []), (24, .invokevirtual 287, 131, 2, 1, []), (27, .istore_n 3, 3, 0, 0, []), (28, .aload_n 0, 0, 0, 0, []), (29, .iconst 0, 0, 0, 0, []), (30, .putfield 134, 2, 8, 0, []), (33, .aload_n 0, 0, 0, 0, []), (34, .iload_n 1, 1, 0, 0, []), (35, .invokevirtual 287, 131, 2, 1, []), (38, .istore 4, 4, 0, 0, []), (40, .aload_n 0, 0, 0, 0, []), (41, .iload_n 2, 2, 0, 0, []), (42, .putfield 134, 2, 8, 0, []), (45, .iload_n 3, 3, 0, 0, []), (46, .iload 4, 4, 0, 0, []), (48, .isub, 0, 0, 0, []), (49, .ireturn, 0, 0, 0, [])])
def mk_m132 : Nat × Nat × List (List Bool × List mj_I) := (5, 9, [mk_b132_0, mk_b132_1])
/-- NumbersCalledModel.door(I)I -/
def mk_b133_0 : List Bool × List mj_I := ([true, true, false, false], [(0, .iload_n 1, 1, 0, 0, []), (1, .iconst 0, 0, 0, 0, []), (2, .iconst 1, 0, 0, 0, []), (3, .invokestatic 115, 72, 3, 1, []), (6, .ifCond .ne (6), 1, 0, 0, []), (9, .bipush (-2), 0, 0, 0, []), (11, .ireturn, 0, 0, 0, [])])
def mk_b133_1 : List Bool × List mj_I := ([true, true, false, false], [(12, .aload_n 0, 0, 0, 0, []), (13, .invokevirtual 277, 122, 1, 1, []), (16, .istore_n 2, 2, 0, 0, []), (17, .aload_n 0, 0, 0, 0, []), (18, .iload_n 1, 1, 0, 0, []), (19, .ifCond .ne (7), 2, 0, 0, []), (22, .iconst 1, 0, 0, 0, []), (23, .goto (4), 3, 0, 0, [])])
def mk_b133_2 : List Bool × List mj_I := ([true, true, true, false], [(26, .iconst 0, 0, 0, 0, []), (27, .nop, 3, 0, 0, [])])
def mk_b133_3 : List Bool × List mj_I := ([true, true, true, false], [(27, .putfield 232, 41, 8, 1, []), (30, .aload_n 0, 0, 0, 0, []), (31, .iload_n 1, 1, 0, 0, []), (32, .iconst 1, 0, 0, 0, []), (33, .if_icmp .ne (7), 4, 0, 0, []), (36, .iconst 1, 0, 0, 0, []), (37, .goto (4), 5, 0, 0, [])])
def mk_b133_4 : List Bool × List mj_I := ([true, false, true, false], [(40, .iconst 0, 0, 0, 0, []), (41, .nop, 5, 0, 0, [])])
def mk_b133_5 : List Bool × List mj_I := ([true, false, true, false], [(41, .putfield 250, 50, 8, 1, []), (44, .aload_n 0, 0, 0, 0, []), (45, .invokevirtual 277, 122, 1, 1, []), (48, .istore_n 3, 3, 0, 0, []), (49, .aload_n 0, 0, 0, 0, []), (50, .iconst 0, 0, 0, 0, []), (51, .putfield 232, 41, 8, 1, []), (54, .aload_n 0, 0, 0, 0, []), (55, .iconst 0, 0, 0, 0, []), (56, .putfield 250, 50, 8, 1, []), (59, .iload_n 2, 2, 0, 0, []), (60, .iload_n 3, 3, 0, 0, []), (61, .isub, 0, 0, 0, []), (62, .ireturn, 0, 0, 0, [])])
def mk_m133 : Nat × Nat × List (List Bool × List mj_I) := (4, 9, [mk_b133_0, mk_b133_1, mk_b133_2, mk_b133_3, mk_b133_4, mk_b133_5])
/-- NumbersCalledModel.say(I)I -/
def mk_b134_0 : List Bool × List mj_I := ([true, true, false, false, false, false, false], [(0, .iload_n 1, 1, 0, 0, []), (1, .iconst 0, 0, 0, 0, []), (2, .iconst 1, 0, 0, 0, []), (3, .invokestatic 115, 72, 3, 1, []), (6, .ifCond .ne (6), 1, 0, 0, []), (9, .bipush (-2), 0, 0, 0, []), (11, .ireturn, 0, 0, 0, [])])
def mk_b134_1 : List Bool × List mj_I := ([true, true, false, false, false, false, false], [(12, .aload_n 0, 0, 0, 0, []), (13, .invokevirtual 256, 112, 1, 0, []), (16, .iconst 0, 0, 0, 0, []), (17, .istore_n 2, 2, 0, 0, []), (18, .iconst 0, 0, 0, 0, []), (19, .istore_n 3, 3, 0, 0, []), (20, .iconst 0, 0, 0, 0, []), (21, .istore 4, 4, 0, 0, []), (23, .nop, 2, 0, 0, [])])
def mk_b134_2 : List Bool × List mj_I := ([true, true, true, true, true, false, false], [(23, .iload 4, 4, 0, 0, []), (25, .bipush 60, 0, 0, 0, []), (27, .if_icmp .gt (102), 13, 0, 0, []), (30, .iconst 0, 0, 0, 0, []), (31, .istore 5, 5, 0, 0, []), (33, .iconst 0, 0, 0, 0, []), (34, .istore 6, 6, 0, 0, []), (36, .nop, 3, 0, 0, [])])
def mk_b134_3 : List Bool × List mj_I := ([true, true, true, true, true, true, true], [(36, .iload 6, 6, 0, 0, []), (38, .aload_n 0, 0, 0, 0, []), (39, .getfield 119, 5, 8, 0, []), (42, .if_icmp .ge (45), 6, 0, 0, []), (45, .iload 5, 5, 0, 0, []), (47, .aload_n 0, 0, 0, 0, []), (48, .getfield 74, 42, 8, 0, []), (51, .iload 6, 6, 0, 0, []), (53, .iaload, 0, 0, 0, []), (54, .iconst 2, 0, 0, 0, []), (55, .if_icmp .ne (22), 4, 0, 0, []), (58, .aload_n 0, 0, 0, 0, []), (59, .iconst 2, 0, 0, 0, []), (60, .iload 6, 6, 0, 0, []), (62, .iconst 0, 0, 0, 0, []), (63, .aload_n 0, 0, 0, 0, []), (64, .iload 6, 6, 0, 0, []), (66, .invokevirtual 259, 113, 2, 1, []), (69, .iload 4, 4, 0, 0, []), (71, .invokevirtual 228, 98, 6, 1, []), (74, .goto (4), 5, 0, 0, [])])
def mk_b134_4 : List Bool × List mj_I := ([true, true, true, true, true, false, true], [(77, .iconst 0, 0, 0, 0, []), (78, .nop, 5, 0, 0, [])])
def mk_b134_5 : List Bool × List mj_I := ([true, true, true, true, true, false, true], [(78, .iadd, 0, 0, 0, []), (79, .istore 5, 5, 0, 0, []), (81, .iinc 6 1, 6, 0, 0, []), (84, .goto (-48), 3, 0, 0, [])])
def mk_b134_6 : List Bool × List mj_I := ([true, true, true, true, true, true, false], [(87, .iload 4, 4, 0, 0, []), (89, .ifCond .eq (9), 7, 0, 0, []), (92, .iload 5, 5, 0, 0, []), (94, .iload_n 3, 3, 0, 0, []), (95, .if_icmp .ge (8), 8, 0, 0, []), (98, .nop, 7, 0, 0, [])])
def mk_b134_7 : List Bool × List mj_I := ([true, true, false, true, true, true, false], [(98, .iload 4, 4, 0, 0, []), (100, .goto (4), 9, 0, 0, [])])
def mk_b134_8 : List Bool × List mj_I := ([true, true, true, true, true, true, false], [(103, .iload_n 2, 2, 0, 0, []), (104, .nop, 9, 0, 0, [])])
def mk_b134_9 : List Bool × List mj_I := ([true, true, false, true, true, true, false], [(104, .istore_n 2, 2, 0, 0, []), (105, .iload 4, 4, 0, 0, []), (107, .ifCond .eq (9), 10, 0, 0, []), (110, .iload 5, 5, 0, 0, []), (112, .iload_n 3, 3, 0, 0, []), (113, .if_icmp .ge (8), 11, 0, 0, []), (116, .nop, 10, 0, 0, [])])
def mk_b134_10 : List Bool × List mj_I := ([true, true, true, false, true, true, false], [(116, .iload 5, 5, 0, 0, []), (118, .goto (4), 12, 0, 0, [])])
def mk_b134_11 : List Bool × List mj_I := ([true, true, true, true, true, false, false], [(121, .iload_n 3, 3, 0, 0, []), (122, .nop, 12, 0, 0, [])])
def mk_b134_12 : List Bool × List mj_I := ([true, true, true, false, true, false, false], [(122, .istore_n 3, 3, 0, 0, []), (123, .iinc 4 5, 4, 0, 0, []), (126, .goto (-103), 2, 0, 0, [])])
def mk_b134_13 : List Bool × List mj_I := ([false, true, true, true, false, false, false], [(129, .iload_n 1, 1, 0, 0, []), (130, .ifCond .ne (7), 14, 0, 0, []), (133, .iload_n 2, 2, 0, 0, []), (134, .goto (4), 15, 0, 0, [])])
def mk_b134_14 : List Bool × List mj_I := ([false, false, false, true, false, false, false], [(137, .iload_n 3, 3, 0, 0, []), (138, .nop, 15, 0, 0, [])])
def mk_b134_15 : List Bool × List mj_I := ([false, false, false, false, false, false, false], [(138, .ireturn, 0, 0, 0, [])])
def mk_m134 : Nat × Nat × List (List Bool × List mj_I) := (7, 9, [mk_b134_0, mk_b134_1, mk_b134_2, mk_b134_3, mk_b134_4, mk_b134_5, mk_b134_6, mk_b134_7, mk_b134_8, mk_b134_9, mk_b134_10, mk_b134_11, mk_b134_12, mk_b134_13, mk_b134_14, mk_b134_15])
/-- NumbersCalledModel.badFor(I)I -/
def mk_b135_0 : List Bool × List mj_I := ([true, true], [(0, .aload_n 0, 0, 0, 0, []), (1, .invokevirtual 256, 112, 1, 0, []), (4, .aload_n 0, 0, 0, 0, []), (5, .getfield 74, 42, 8, 0, []), (8, .iload_n 1, 1, 0, 0, []), (9, .iaload, 0, 0, 0, []), (10, .iconst 2, 0, 0, 0, []), (11, .if_icmp .ne (11), 1, 0, 0, []), (14, .aload_n 0, 0, 0, 0, []), (15, .iload_n 1, 1, 0, 0, []), (16, .invokevirtual 259, 113, 2, 1, []), (19, .goto (5), 2, 0, 0, [])])
def mk_b135_1 : List Bool × List mj_I := ([false, false], [(22, .bipush 120, 0, 0, 0, []), (24, .nop, 2, 0, 0, [])])
def mk_b135_2 : List Bool × List mj_I := ([false, false], [(24, .ireturn, 0, 0, 0, [])])
def mk_m135 : Nat × Nat × List (List Bool × List mj_I) := (2, 9, [mk_b135_0, mk_b135_1, mk_b135_2])
/-- NumbersCalledModel.bestFor(I)I -/
def mk_b136_0 : List Bool × List mj_I := ([true, true, false, false, false, false], [(0, .aload_n 0, 0, 0, 0, []), (1, .getfield 32, 10, 8, 0, []), (4, .iload_n 1, 1, 0, 0, []), (5, .iaload, 0, 0, 0, []), (6, .istore_n 2, 2, 0, 0, []), (7, .iconst 0, 0, 0, 0, []), (8, .istore_n 3, 3, 0, 0, []), (9, .iconst 0, 0, 0, 0, []), (10, .istore 4, 4, 0, 0, []), (12, .nop, 1, 0, 0, [])])
def mk_b136_1 : List Bool × List mj_I := ([true, true, true, true, true, false], [(12, .iload 4, 4, 0, 0, []), (14, .bipush 100, 0, 0, 0, []), (16, .if_icmp .gt (72), 8, 0, 0, []), (19, .aload_n 0, 0, 0, 0, []), (20, .getfield 32, 10, 8, 0, []), (23, .iload_n 1, 1, 0, 0, []), (24, .iload 4, 4, 0, 0, []), (26, .iastore, 0, 0, 0, []), (27, .aload_n 0, 0, 0, 0, []), (28, .iload_n 1, 1, 0, 0, []), (29, .invokevirtual 290, 135, 2, 1, []), (32, .istore 5, 5, 0, 0, []), (34, .iload 4, 4, 0, 0, []), (36, .ifCond .eq (12), 2, 0, 0, []), (39, .iload 5, 5, 0, 0, []), (41, .aload_n 0, 0, 0, 0, []), (42, .getfield 293, 51, 8, 0, []), (45, .if_icmp .ge (8), 3, 0, 0, []), (48, .nop, 2, 0, 0, [])])
def mk_b136_2 : List Bool × List mj_I := ([true, true, true, false, true, true], [(48, .iload 4, 4, 0, 0, []), (50, .goto (4), 4, 0, 0, [])])
def mk_b136_3 : List Bool × List mj_I := ([true, true, true, true, true, true], [(53, .iload_n 3, 3, 0, 0, []), (54, .nop, 4, 0, 0, [])])
def mk_b136_4 : List Bool × List mj_I := ([true, true, true, false, true, true], [(54, .istore_n 3, 3, 0, 0, []), (55, .aload_n 0, 0, 0, 0, []), (56, .iload 4, 4, 0, 0, []), (58, .ifCond .eq (12), 5, 0, 0, []), (61, .iload 5, 5, 0, 0, []), (63, .aload_n 0, 0, 0, 0, []), (64, .getfield 293, 51, 8, 0, []), (67, .if_icmp .ge (8), 6, 0, 0, []), (70, .nop, 5, 0, 0, [])])
def mk_b136_5 : List Bool × List mj_I := ([true, true, true, true, true, true], [(70, .iload 5, 5, 0, 0, []), (72, .goto (7), 7, 0, 0, [])])
def mk_b136_6 : List Bool × List mj_I := ([true, true, true, true, true, false], [(75, .aload_n 0, 0, 0, 0, []), (76, .getfield 293, 51, 8, 0, []), (79, .nop, 7, 0, 0, [])])
def mk_b136_7 : List Bool × List mj_I := ([true, true, true, true, true, false], [(79, .putfield 293, 51, 8, 0, []), (82, .iinc 4 20, 4, 0, 0, []), (85, .goto (-73), 1, 0, 0, [])])
def mk_b136_8 : List Bool × List mj_I := ([true, true, true, true, false, false], [(88, .aload_n 0, 0, 0, 0, []), (89, .getfield 32, 10, 8, 0, []), (92, .iload_n 1, 1, 0, 0, []), (93, .iload_n 2, 2, 0, 0, []), (94, .iastore, 0, 0, 0, []), (95, .iload_n 3, 3, 0, 0, []), (96, .ireturn, 0, 0, 0, [])])
def mk_m136 : Nat × Nat × List (List Bool × List mj_I) := (6, 9, [mk_b136_0, mk_b136_1, mk_b136_2, mk_b136_3, mk_b136_4, mk_b136_5, mk_b136_6, mk_b136_7, mk_b136_8])
/-- NumbersCalledModel.best(II)I -/
def mk_b137_0 : List Bool × List mj_I := ([true, true, true, false], [(0, .aload_n 0, 0, 0, 0, []), (1, .iload_n 1, 1, 0, 0, []), (2, .invokevirtual 215, 75, 2, 1, []), (5, .ifCond .ne (6), 1, 0, 0, []), (8, .bipush (-5), 0, 0, 0, []), (10, .ireturn, 0, 0, 0, [])])
def mk_b137_1 : List Bool × List mj_I := ([true, true, true, false], [(11, .iload_n 2, 2, 0, 0, []), (12, .iconst 0, 0, 0, 0, []), (13, .iconst 1, 0, 0, 0, []), (14, .invokestatic 115, 72, 3, 1, []), (17, .ifCond .ne (6), 2, 0, 0, []), (20, .bipush (-7), 0, 0, 0, []), (22, .ireturn, 0, 0, 0, [])])
def mk_b137_2 : List Bool × List mj_I := ([true, true, true, false], [(23, .aload_n 0, 0, 0, 0, []), (24, .iload_n 1, 1, 0, 0, []), (25, .invokevirtual 296, 136, 2, 1, []), (28, .istore_n 3, 3, 0, 0, []), (29, .iload_n 2, 2, 0, 0, []), (30, .ifCond .ne (7), 3, 0, 0, []), (33, .iload_n 3, 3, 0, 0, []), (34, .goto (7), 4, 0, 0, [])])
def mk_b137_3 : List Bool × List mj_I := ([true, false, false, false], [(37, .aload_n 0, 0, 0, 0, []), (38, .getfield 293, 51, 8, 0, []), (41, .nop, 4, 0, 0, [])])
def mk_b137_4 : List Bool × List mj_I := ([false, false, false, false], [(41, .ireturn, 0, 0, 0, [])])
def mk_m137 : Nat × Nat × List (List Bool × List mj_I) := (4, 9, [mk_b137_0, mk_b137_1, mk_b137_2, mk_b137_3, mk_b137_4])
/-- NumbersCalledModel.uneasy()I -/
def mk_b138_0 : List Bool × List mj_I := ([true, false, false, false], [(0, .iconst 0, 0, 0, 0, []), (1, .istore_n 1, 1, 0, 0, []), (2, .iconst 0, 0, 0, 0, []), (3, .istore_n 2, 2, 0, 0, []), (4, .nop, 1, 0, 0, [])])
def mk_b138_1 : List Bool × List mj_I := ([true, true, true, false], [(4, .iload_n 2, 2, 0, 0, []), (5, .aload_n 0, 0, 0, 0, []), (6, .getfield 119, 5, 8, 0, []), (9, .if_icmp .ge (39), 4, 0, 0, []), (12, .aload_n 0, 0, 0, 0, []), (13, .iload_n 2, 2, 0, 0, []), (14, .invokevirtual 296, 136, 2, 1, []), (17, .pop, 0, 0, 0, []), (18, .aload_n 0, 0, 0, 0, []), (19, .getfield 293, 51, 8, 0, []), (22, .istore_n 3, 3, 0, 0, []), (23, .iload_n 1, 1, 0, 0, []), (24, .iload_n 3, 3, 0, 0, []), (25, .aload_n 0, 0, 0, 0, []), (26, .iload_n 2, 2, 0, 0, []), (27, .invokevirtual 290, 135, 2, 1, []), (30, .if_icmp .ge (9), 2, 0, 0, []), (33, .iconst 1, 0, 0, 0, []), (34, .iload_n 2, 2, 0, 0, []), (35, .ishl, 0, 0, 0, []), (36, .goto (4), 3, 0, 0, [])])
def mk_b138_2 : List Bool × List mj_I := ([true, false, true, false], [(39, .iconst 0, 0, 0, 0, []), (40, .nop, 3, 0, 0, [])])
def mk_b138_3 : List Bool × List mj_I := ([true, false, true, false], [(40, .ior, 0, 0, 0, []), (41, .istore_n 1, 1, 0, 0, []), (42, .iinc 2 1, 2, 0, 0, []), (45, .goto (-41), 1, 0, 0, [])])
def mk_b138_4 : List Bool × List mj_I := ([false, true, false, false], [(48, .iload_n 1, 1, 0, 0, []), (49, .ireturn, 0, 0, 0, [])])
def mk_m138 : Nat × Nat × List (List Bool × List mj_I) := (4, 9, [mk_b138_0, mk_b138_1, mk_b138_2, mk_b138_3, mk_b138_4])
/-- NumbersCalledModel.rests(I)I -/
def mk_b139_0 : List Bool × List mj_I := ([true, true, false, false, false, false, false, false], [(0, .iload_n 1, 1, 0, 0, []), (1, .iconst 0, 0, 0, 0, []), (2, .iconst 5, 0, 0, 0, []), (3, .invokestatic 115, 72, 3, 1, []), (6, .ifCond .ne (6), 1, 0, 0, []), (9, .bipush (-2), 0, 0, 0, []), (11, .ireturn, 0, 0, 0, [])])
def mk_b139_1 : List Bool × List mj_I := ([true, true, false, false, false, false, false, false], [(12, .iconst 0, 0, 0, 0, []), (13, .istore_n 2, 2, 0, 0, []), (14, .iconst 1, 0, 0, 0, []), (15, .istore_n 3, 3, 0, 0, []), (16, .iconst 0, 0, 0, 0, []), (17, .istore 4, 4, 0, 0, []), (19, .nop, 2, 0, 0, [])])
def mk_b139_2 : List Bool × List mj_I := ([true, true, true, true, true, false, false, false], [(19, .iload 4, 4, 0, 0, []), (21, .iload_n 1, 1, 0, 0, []), (22, .if_icmp .ge (72), 6, 0, 0, []), (25, .iload_n 3, 3, 0, 0, []), (26, .ifCond .eq (68), 6, 0, 0, []), (29, .iconst 0, 0, 0, 0, []), (30, .istore_n 3, 3, 0, 0, []), (31, .iconst 0, 0, 0, 0, []), (32, .istore 5, 5, 0, 0, []), (34, .nop, 3, 0, 0, [])])
def mk_b139_3 : List Bool × List mj_I := ([true, true, true, true, true, true, false, false], [(34, .iload 5, 5, 0, 0, []), (36, .aload_n 0, 0, 0, 0, []), (37, .getfield 119, 5, 8, 0, []), (40, .if_icmp .ge (48), 5, 0, 0, []), (43, .aload_n 0, 0, 0, 0, []), (44, .iload 5, 5, 0, 0, []), (46, .invokevirtual 296, 136, 2, 1, []), (49, .istore 6, 6, 0, 0, []), (51, .aload_n 0, 0, 0, 0, []), (52, .getfield 293, 51, 8, 0, []), (55, .istore 7, 7, 0, 0, []), (57, .iload 7, 7, 0, 0, []), (59, .aload_n 0, 0, 0, 0, []), (60, .iload 5, 5, 0, 0, []), (62, .invokevirtual 290, 135, 2, 1, []), (65, .if_icmp .ge (17), 4, 0, 0, []), (68, .aload_n 0, 0, 0, 0, []), (69, .getfield 32, 10, 8, 0, []), (72, .iload 5, 5, 0, 0, []), (74, .iload 6, 6, 0, 0, []), (76, .iastore, 0, 0, 0, []), (77, .iinc 2 1, 2, 0, 0, []), (80, .iconst 1, 0, 0, 0, []), (81, .istore_n 3, 3, 0, 0, []), (82, .nop, 4, 0, 0, [])])
def mk_b139_4 : List Bool × List mj_I := ([true, true, true, true, true, true, false, false], [(82, .iinc 5 1, 5, 0, 0, []), (85, .goto (-51), 3, 0, 0, [])])
def mk_b139_5 : List Bool × List mj_I := ([true, true, true, true, true, false, false, false], [(88, .iinc 4 1, 4, 0, 0, []), (91, .goto (-72), 2, 0, 0, [])])
def mk_b139_6 : List Bool × List mj_I := ([false, false, true, false, false, false, false, false], [(94, .iload_n 2, 2, 0, 0, []), (95, .ireturn, 0, 0, 0, [])])
def mk_m139 : Nat × Nat × List (List Bool × List mj_I) := (8, 9, [mk_b139_0, mk_b139_1, mk_b139_2, mk_b139_3, mk_b139_4, mk_b139_5, mk_b139_6])
/-- NumbersCalledModel.when(III)I -/
def mk_b140_0 : List Bool × List mj_I := ([true, true, true, true, false], [(0, .iload_n 1, 1, 0, 0, []), (1, .iconst 0, 0, 0, 0, []), (2, .iconst 3, 0, 0, 0, []), (3, .invokestatic 115, 72, 3, 1, []), (6, .ifCond .eq (22), 1, 0, 0, []), (9, .iload_n 2, 2, 0, 0, []), (10, .iconst 1, 0, 0, 0, []), (11, .bipush 99, 0, 0, 0, []), (13, .invokestatic 115, 72, 3, 1, []), (16, .ifCond .eq (12), 1, 0, 0, []), (19, .iload_n 3, 3, 0, 0, []), (20, .iconst 0, 0, 0, 0, []), (21, .iconst 1, 0, 0, 0, []), (22, .invokestatic 115, 72, 3, 1, []), (25, .ifCond .ne (6), 2, 0, 0, []), (28, .nop, 1, 0, 0, [])])
def mk_b140_1 : List Bool × List mj_I := ([false, false, false, false, false], [(28, .bipush (-2), 0, 0, 0, []), (30, .ireturn, 0, 0, 0, [])])
def mk_b140_2 : List Bool × List mj_I := ([true, true, true, true, false], [(31, .aload_n 0, 0, 0, 0, []), (32, .getfield 119, 5, 8, 0, []), (35, .bipush 16, 0, 0, 0, []), (37, .if_icmp .ne (6), 3, 0, 0, []), (40, .bipush (-3), 0, 0, 0, []), (42, .ireturn, 0, 0, 0, [])])
def mk_b140_3 : List Bool × List mj_I := ([true, true, true, true, false], [(43, .aload_n 0, 0, 0, 0, []), (44, .iconst 0, 0, 0, 0, []), (45, .sipush 1000, 0, 0, 0, []), (48, .iload_n 1, 1, 0, 0, []), (49, .imul, 0, 0, 0, []), (50, .bipush 10, 0, 0, 0, []), (52, .iload_n 2, 2, 0, 0, []), (53, .imul, 0, 0, 0, []), (54, .iadd, 0, 0, 0, []), (55, .bipush 9, 0, 0, 0, []), (57, .iadd, 0, 0, 0, []), (58, .iconst 0, 0, 0, 0, []), (59, .invokevirtual 211, 100, 4, 0, []), (62, .aload_n 0, 0, 0, 0, []), (63, .dup, 0, 0, 0, []), (64, .getfield 119, 5, 8, 0, []), (67, .iconst 1, 0, 0, 0, []), (68, .iadd, 0, 0, 0, []), (69, .putfield 119, 5, 8, 0, []), (72, .aload_n 0, 0, 0, 0, []), (73, .aload_n 0, 0, 0, 0, []), (74, .getfield 119, 5, 8, 0, []), (77, .iconst 1, 0, 0, 0, []), (78, .isub, 0, 0, 0, []), (79, .invokevirtual 296, 136, 2, 1, []), (82, .istore 4, 4, 0, 0, []), (84, .aload_n 0, 0, 0, 0, []), (85, .dup, 0, 0, 0, []), (86, .getfield 119, 5, 8, 0, []), (89, .iconst 1, 0, 0, 0, []), (90, .isub, 0, 0, 0, []), (91, .putfield 119, 5, 8, 0, []), (94, .iload_n 3, 3, 0, 0, []), (95, .ifCond .ne (8), 4, 0, 0, []), (98, .iload 4, 4, 0, 0, []), (100, .goto (7), 5, 0, 0, [])])
def mk_b140_4 : List Bool × List mj_I := ([true, false, false, false, false], [(103, .aload_n 0, 0, 0, 0, []), (104, .getfield 293, 51, 8, 0, []), (107, .nop, 5, 0, 0, [])])
def mk_b140_5 : List Bool × List mj_I := ([false, false, false, false, false], [(107, .ireturn, 0, 0, 0, [])])
def mk_m140 : Nat × Nat × List (List Bool × List mj_I) := (5, 9, [mk_b140_0, mk_b140_1, mk_b140_2, mk_b140_3, mk_b140_4, mk_b140_5])
/-- NumbersCalledModel.overOf(III)J -/
def mk_b141_0 : List Bool × List mj_I := ([true, true, true, true, false, false, false], [(0, .iconst 0, 0, 0, 0, []), (1, .istore 4, 4, 0, 0, []), (3, .nop, 1, 0, 0, [])])
def mk_b141_1 : List Bool × List mj_I := ([true, true, true, true, true, false, false], [(3, .iload 4, 4, 0, 0, []), (5, .bipush 40, 0, 0, 0, []), (7, .if_icmp .gt (28), 4, 0, 0, []), (10, .aload_n 0, 0, 0, 0, []), (11, .getfield 98, 52, 8, 0, []), (14, .iload 4, 4, 0, 0, []), (16, .iload 4, 4, 0, 0, []), (18, .ifCond .ne (9), 2, 0, 0, []), (21, .ldc2_w 299, 6, 0, 0, []), (24, .goto (4), 3, 0, 0, [])])
def mk_b141_2 : List Bool × List mj_I := ([true, true, true, true, true, false, false], [(27, .lconst 0, 0, 0, 0, []), (28, .nop, 3, 0, 0, [])])
def mk_b141_3 : List Bool × List mj_I := ([true, true, true, true, true, false, false], [(28, .lastore, 0, 0, 0, []), (29, .iinc 4 1, 4, 0, 0, []), (32, .goto (-29), 1, 0, 0, [])])
def mk_b141_4 : List Bool × List mj_I := ([true, true, true, true, false, false, false], [(35, .iconst 0, 0, 0, 0, []), (36, .istore 4, 4, 0, 0, []), (38, .nop, 5, 0, 0, [])])
def mk_b141_5 : List Bool × List mj_I := ([true, true, true, true, true, false, false], [(38, .iload 4, 4, 0, 0, []), (40, .iload_n 1, 1, 0, 0, []), (41, .if_icmp .ge (87), 8, 0, 0, []), (44, .bipush 40, 0, 0, 0, []), (46, .istore 5, 5, 0, 0, []), (48, .nop, 6, 0, 0, [])])
def mk_b141_6 : List Bool × List mj_I := ([true, true, true, true, true, true, false], [(48, .iload 5, 5, 0, 0, []), (50, .ifCond .le (50), 7, 0, 0, []), (53, .aload_n 0, 0, 0, 0, []), (54, .getfield 98, 52, 8, 0, []), (57, .iload 5, 5, 0, 0, []), (59, .aload_n 0, 0, 0, 0, []), (60, .getfield 98, 52, 8, 0, []), (63, .iload 5, 5, 0, 0, []), (65, .laload, 0, 0, 0, []), (66, .bipush 100, 0, 0, 0, []), (68, .iload_n 2, 2, 0, 0, []), (69, .isub, 0, 0, 0, []), (70, .i2l, 0, 0, 0, []), (71, .lmul, 0, 0, 0, []), (72, .ldc2_w 301, 7, 0, 0, []), (75, .ldiv, 0, 0, 0, []), (76, .aload_n 0, 0, 0, 0, []), (77, .getfield 98, 52, 8, 0, []), (80, .iload 5, 5, 0, 0, []), (82, .iconst 1, 0, 0, 0, []), (83, .isub, 0, 0, 0, []), (84, .laload, 0, 0, 0, []), (85, .iload_n 2, 2, 0, 0, []), (86, .i2l, 0, 0, 0, []), (87, .lmul, 0, 0, 0, []), (88, .ldc2_w 301, 7, 0, 0, []), (91, .ldiv, 0, 0, 0, []), (92, .ladd, 0, 0, 0, []), (93, .lastore, 0, 0, 0, []), (94, .iinc 5 (-1), 5, 0, 0, []), (97, .goto (-49), 6, 0, 0, [])])
def mk_b141_7 : List Bool × List mj_I := ([true, true, true, true, true, false, false], [(100, .aload_n 0, 0, 0, 0, []), (101, .getfield 98, 52, 8, 0, []), (104, .iconst 0, 0, 0, 0, []), (105, .aload_n 0, 0, 0, 0, []), (106, .getfield 98, 52, 8, 0, []), (109, .iconst 0, 0, 0, 0, []), (110, .laload, 0, 0, 0, []), (111, .bipush 100, 0, 0, 0, []), (113, .iload_n 2, 2, 0, 0, []), (114, .isub, 0, 0, 0, []), (115, .i2l, 0, 0, 0, []), (116, .lmul, 0, 0, 0, []), (117, .ldc2_w 301, 7, 0, 0, []), (120, .ldiv, 0, 0, 0, []), (121, .lastore, 0, 0, 0, []), (122, .iinc 4 1, 4, 0, 0, []), (125, .goto (-87), 5, 0, 0, [])])
def mk_b141_8 : List Bool × List mj_I := ([true, false, false, true, false, false, false], [(128, .lconst 0, 0, 0, 0, []), (129, .lstore 4, 4, 0, 0, []), (131, .iload_n 3, 3, 0, 0, []), (132, .iconst 1, 0, 0, 0, []), (133, .iadd, 0, 0, 0, []), (134, .istore 6, 6, 0, 0, []), (136, .nop, 9, 0, 0, [])])
def mk_b141_9 : List Bool × List mj_I := ([true, false, false, false, true, false, true], [(136, .iload 6, 6, 0, 0, []), (138, .bipush 40, 0, 0, 0, []), (140, .if_icmp .gt (21), 10, 0, 0, []), (143, .lload 4, 4, 0, 0, []), (145, .aload_n 0, 0, 0, 0, []), (146, .getfield 98, 52, 8, 0, []), (149, .iload 6, 6, 0, 0, []), (151, .laload, 0, 0, 0, []), (152, .ladd, 0, 0, 0, []), (153, .lstore 4, 4, 0, 0, []), (155, .iinc 6 1, 6, 0, 0, []), (158, .goto (-22), 9, 0, 0, [])])
def mk_b141_10 : List Bool × List mj_I := ([false, false, false, false, true, false, false], [(161, .lload 4, 4, 0, 0, []), (163, .lreturn, 0, 0, 0, [])])
def mk_m141 : Nat × Nat × List (List Bool × List mj_I) := (7, 9, [mk_b141_0, mk_b141_1, mk_b141_2, mk_b141_3, mk_b141_4, mk_b141_5, mk_b141_6, mk_b141_7, mk_b141_8, mk_b141_9, mk_b141_10])
/-- NumbersCalledModel.over(III)J -/
def mk_b142_0 : List Bool × List mj_I := ([true, true, true, true], [(0, .iload_n 1, 1, 0, 0, []), (1, .iconst 0, 0, 0, 0, []), (2, .bipush 40, 0, 0, 0, []), (4, .invokestatic 115, 72, 3, 1, []), (7, .ifCond .eq (33), 1, 0, 0, []), (10, .iload_n 2, 2, 0, 0, []), (11, .iconst 0, 0, 0, 0, []), (12, .bipush 100, 0, 0, 0, []), (14, .invokestatic 115, 72, 3, 1, []), (17, .ifCond .eq (23), 1, 0, 0, []), (20, .iload_n 3, 3, 0, 0, []), (21, .iconst 0, 0, 0, 0, []), (22, .bipush 40, 0, 0, 0, []), (24, .invokestatic 115, 72, 3, 1, []), (27, .ifCond .eq (13), 1, 0, 0, []), (30, .aload_n 0, 0, 0, 0, []), (31, .iload_n 1, 1, 0, 0, []), (32, .iload_n 2, 2, 0, 0, []), (33, .iload_n 3, 3, 0, 0, []), (34, .invokevirtual 303, 141, 4, 2, []), (37, .goto (6), 2, 0, 0, [])])
def mk_b142_1 : List Bool × List mj_I := ([false, false, false, false], [(40, .ldc2_w 307, 0, 0, 0, []), (43, .nop, 2, 0, 0, [])])
def mk_b142_2 : List Bool × List mj_I := ([false, false, false, false], [(43, .lreturn, 0, 0, 0, [])])
def mk_m142 : Nat × Nat × List (List Bool × List mj_I) := (4, 9, [mk_b142_0, mk_b142_1, mk_b142_2])
/-- NumbersCalledModel.give(III)I -/
def mk_b143_0 : List Bool × List mj_I := ([true, true, true, true, false], [(0, .iload_n 1, 1, 0, 0, []), (1, .iconst 0, 0, 0, 0, []), (2, .bipush 100, 0, 0, 0, []), (4, .invokestatic 115, 72, 3, 1, []), (7, .ifCond .eq (24), 1, 0, 0, []), (10, .iload_n 2, 2, 0, 0, []), (11, .iconst 0, 0, 0, 0, []), (12, .bipush 40, 0, 0, 0, []), (14, .invokestatic 115, 72, 3, 1, []), (17, .ifCond .eq (14), 1, 0, 0, []), (20, .iload_n 3, 3, 0, 0, []), (21, .iconst 0, 0, 0, 0, []), (22, .sipush 1000, 0, 0, 0, []), (25, .invokestatic 115, 72, 3, 1, []), (28, .ifCond .ne (6), 2, 0, 0, []), (31, .nop, 1, 0, 0, [])])
def mk_b143_1 : List Bool × List mj_I := ([false, false, false, false, false], [(31, .bipush (-2), 0, 0, 0, []), (33, .ireturn, 0, 0, 0, [])])
def mk_b143_2 : List Bool × List mj_I := ([true, true, true, true, false], [(34, .bipush 40, 0, 0, 0, []), (36, .istore 4, 4, 0, 0, []), (38, .nop, 3, 0, 0, [])])
def mk_b143_3 : List Bool × List mj_I := ([true, true, true, true, true], [(38, .iload 4, 4, 0, 0, []), (40, .ifCond .le (30), 5, 0, 0, []), (43, .aload_n 0, 0, 0, 0, []), (44, .iload 4, 4, 0, 0, []), (46, .iload_n 1, 1, 0, 0, []), (47, .iload_n 2, 2, 0, 0, []), (48, .invokevirtual 303, 141, 4, 2, []), (51, .ldc2_w 309, 1, 0, 0, []), (54, .iload_n 3, 3, 0, 0, []), (55, .i2l, 0, 0, 0, []), (56, .lmul, 0, 0, 0, []), (57, .lcmp, 0, 0, 0, []), (58, .ifCond .gt (6), 4, 0, 0, []), (61, .iload 4, 4, 0, 0, []), (63, .ireturn, 0, 0, 0, [])])
def mk_b143_4 : List Bool × List mj_I := ([true, true, true, true, true], [(64, .iinc 4 (-1), 4, 0, 0, []), (67, .goto (-29), 3, 0, 0, [])])
def mk_b143_5 : List Bool × List mj_I := ([false, false, false, false, false], [(70, .iconst 0, 0, 0, 0, []), (71, .ireturn, 0, 0, 0, [])])
def mk_m143 : Nat × Nat × List (List Bool × List mj_I) := (5, 9, [mk_b143_0, mk_b143_1, mk_b143_2, mk_b143_3, mk_b143_4, mk_b143_5])
/-- NumbersCalledModel.rollWrong(I)I -/
def mk_b144_0 : List Bool × List mj_I := ([true, true], [(0, .iload_n 1, 1, 0, 0, []), (1, .iconst 0, 0, 0, 0, []), (2, .iconst 3, 0, 0, 0, []), (3, .invokestatic 115, 72, 3, 1, []), (6, .ifCond .ne (6), 1, 0, 0, []), (9, .bipush (-2), 0, 0, 0, []), (11, .ireturn, 0, 0, 0, [])])
def mk_b144_1 : List Bool × List mj_I := ([true, true], [(12, .aload_n 0, 0, 0, 0, []), (13, .getfield 50, 26, 8, 0, []), (16, .iload_n 1, 1, 0, 0, []), (17, .iaload, 0, 0, 0, []), (18, .iconst (-1), 0, 0, 0, []), (19, .if_icmp .ne (6), 2, 0, 0, []), (22, .bipush (-11), 0, 0, 0, []), (24, .ireturn, 0, 0, 0, [])])
def mk_b144_2 : List Bool × List mj_I := ([true, true], [(25, .aload_n 0, 0, 0, 0, []), (26, .getfield 53, 27, 8, 0, []), (29, .iload_n 1, 1, 0, 0, []), (30, .iaload, 0, 0, 0, []), (31, .aload_n 0, 0, 0, 0, []), (32, .getfield 119, 5, 8, 0, []), (35, .if_icmp .ne (7), 3, 0, 0, []), (38, .iconst 0, 0, 0, 0, []), (39, .goto (5), 4, 0, 0, [])])
def mk_b144_3 : List Bool × List mj_I := ([false, false], [(42, .bipush (-2), 0, 0, 0, []), (44, .nop, 4, 0, 0, [])])
def mk_b144_4 : List Bool × List mj_I := ([false, false], [(44, .ireturn, 0, 0, 0, [])])
def mk_m144 : Nat × Nat × List (List Bool × List mj_I) := (2, 9, [mk_b144_0, mk_b144_1, mk_b144_2, mk_b144_3, mk_b144_4])
/-- NumbersCalledModel.unlike(I)I -/
def mk_b145_0 : List Bool × List mj_I := ([true, true, false], [(0, .aload_n 0, 0, 0, 0, []), (1, .invokevirtual 256, 112, 1, 0, []), (4, .iconst 0, 0, 0, 0, []), (5, .istore_n 2, 2, 0, 0, []), (6, .nop, 1, 0, 0, [])])
def mk_b145_1 : List Bool × List mj_I := ([true, true, true], [(6, .iload_n 2, 2, 0, 0, []), (7, .aload_n 0, 0, 0, 0, []), (8, .getfield 119, 5, 8, 0, []), (11, .if_icmp .ge (31), 3, 0, 0, []), (14, .aload_n 0, 0, 0, 0, []), (15, .getfield 56, 28, 8, 0, []), (18, .bipush 40, 0, 0, 0, []), (20, .iload_n 1, 1, 0, 0, []), (21, .imul, 0, 0, 0, []), (22, .iload_n 2, 2, 0, 0, []), (23, .iadd, 0, 0, 0, []), (24, .iaload, 0, 0, 0, []), (25, .aload_n 0, 0, 0, 0, []), (26, .getfield 83, 45, 8, 0, []), (29, .iload_n 2, 2, 0, 0, []), (30, .iaload, 0, 0, 0, []), (31, .if_icmp .eq (5), 2, 0, 0, []), (34, .iload_n 2, 2, 0, 0, []), (35, .ireturn, 0, 0, 0, [])])
def mk_b145_2 : List Bool × List mj_I := ([true, true, true], [(36, .iinc 2 1, 2, 0, 0, []), (39, .goto (-33), 1, 0, 0, [])])
def mk_b145_3 : List Bool × List mj_I := ([false, false, false], [(42, .iconst (-1), 0, 0, 0, []), (43, .ireturn, 0, 0, 0, [])])
def mk_m145 : Nat × Nat × List (List Bool × List mj_I) := (3, 9, [mk_b145_0, mk_b145_1, mk_b145_2, mk_b145_3])
/-- NumbersCalledModel.judge(I)I -/
def mk_b146_0 : List Bool × List mj_I := ([true, true, false], [(0, .aload_n 0, 0, 0, 0, []), (1, .iload_n 1, 1, 0, 0, []), (2, .invokevirtual 311, 144, 2, 1, []), (5, .istore_n 2, 2, 0, 0, []), (6, .iload_n 2, 2, 0, 0, []), (7, .ifCond .ne (11), 1, 0, 0, []), (10, .aload_n 0, 0, 0, 0, []), (11, .iload_n 1, 1, 0, 0, []), (12, .invokevirtual 314, 145, 2, 1, []), (15, .goto (4), 2, 0, 0, [])])
def mk_b146_1 : List Bool × List mj_I := ([false, false, true], [(18, .iload_n 2, 2, 0, 0, []), (19, .nop, 2, 0, 0, [])])
def mk_b146_2 : List Bool × List mj_I := ([false, false, false], [(19, .ireturn, 0, 0, 0, [])])
def mk_m146 : Nat × Nat × List (List Bool × List mj_I) := (3, 9, [mk_b146_0, mk_b146_1, mk_b146_2])
/-- NumbersCalledModel.laws(I)I -/
def mk_b147_0 : List Bool × List mj_I := ([true, true, false, false, false, false], [(0, .aload_n 0, 0, 0, 0, []), (1, .iload_n 1, 1, 0, 0, []), (2, .invokevirtual 311, 144, 2, 1, []), (5, .istore_n 2, 2, 0, 0, []), (6, .iload_n 2, 2, 0, 0, []), (7, .ifCond .eq (5), 1, 0, 0, []), (10, .iload_n 2, 2, 0, 0, []), (11, .ireturn, 0, 0, 0, [])])
def mk_b147_1 : List Bool × List mj_I := ([true, true, false, false, false, false], [(12, .aload_n 0, 0, 0, 0, []), (13, .getfield 140, 16, 8, 0, []), (16, .istore_n 3, 3, 0, 0, []), (17, .iconst 0, 0, 0, 0, []), (18, .istore 4, 4, 0, 0, []), (20, .iconst 0, 0, 0, 0, []), (21, .istore 5, 5, 0, 0, []), (23, .nop, 2, 0, 0, [])])
def mk_b147_2 : List Bool × List mj_I := ([true, true, false, true, true, true], [(23, .iload 5, 5, 0, 0, []), (25, .aload_n 0, 0, 0, 0, []), (26, .getfield 137, 15, 8, 0, []), (29, .if_icmp .ge (37), 5, 0, 0, []), (32, .aload_n 0, 0, 0, 0, []), (33, .iload 5, 5, 0, 0, []), (35, .putfield 140, 16, 8, 0, []), (38, .iload 4, 4, 0, 0, []), (40, .aload_n 0, 0, 0, 0, []), (41, .iload_n 1, 1, 0, 0, []), (42, .invokevirtual 314, 145, 2, 1, []), (45, .iconst (-1), 0, 0, 0, []), (46, .if_icmp .ne (10), 3, 0, 0, []), (49, .iconst 1, 0, 0, 0, []), (50, .iload 5, 5, 0, 0, []), (52, .ishl, 0, 0, 0, []), (53, .goto (4), 4, 0, 0, [])])
def mk_b147_3 : List Bool × List mj_I := ([true, true, false, true, false, true], [(56, .iconst 0, 0, 0, 0, []), (57, .nop, 4, 0, 0, [])])
def mk_b147_4 : List Bool × List mj_I := ([true, true, false, true, false, true], [(57, .ior, 0, 0, 0, []), (58, .istore 4, 4, 0, 0, []), (60, .iinc 5 1, 5, 0, 0, []), (63, .goto (-40), 2, 0, 0, [])])
def mk_b147_5 : List Bool × List mj_I := ([true, false, false, true, true, false], [(66, .aload_n 0, 0, 0, 0, []), (67, .iload_n 3, 3, 0, 0, []), (68, .putfield 140, 16, 8, 0, []), (71, .iload 4, 4, 0, 0, []), (73, .ireturn, 0, 0, 0, [])])
def mk_m147 : Nat × Nat × List (List Bool × List mj_I) := (6, 9, [mk_b147_0, mk_b147_1, mk_b147_2, mk_b147_3, mk_b147_4, mk_b147_5])
/-- NumbersCalledModel.which(I)I -/
def mk_b148_0 : List Bool × List mj_I := ([true, true, false, false, false, false], [(0, .aload_n 0, 0, 0, 0, []), (1, .iload_n 1, 1, 0, 0, []), (2, .invokevirtual 311, 144, 2, 1, []), (5, .istore_n 2, 2, 0, 0, []), (6, .iload_n 2, 2, 0, 0, []), (7, .ifCond .eq (5), 1, 0, 0, []), (10, .iload_n 2, 2, 0, 0, []), (11, .ireturn, 0, 0, 0, [])])
def mk_b148_1 : List Bool × List mj_I := ([true, true, false, false, false, false], [(12, .aload_n 0, 0, 0, 0, []), (13, .getfield 134, 2, 8, 0, []), (16, .istore_n 3, 3, 0, 0, []), (17, .iconst 0, 0, 0, 0, []), (18, .istore 4, 4, 0, 0, []), (20, .iconst 0, 0, 0, 0, []), (21, .istore 5, 5, 0, 0, []), (23, .nop, 2, 0, 0, [])])
def mk_b148_2 : List Bool × List mj_I := ([true, true, false, true, true, true], [(23, .iload 5, 5, 0, 0, []), (25, .iconst 4, 0, 0, 0, []), (26, .if_icmp .ge (37), 5, 0, 0, []), (29, .aload_n 0, 0, 0, 0, []), (30, .iload 5, 5, 0, 0, []), (32, .putfield 134, 2, 8, 0, []), (35, .iload 4, 4, 0, 0, []), (37, .aload_n 0, 0, 0, 0, []), (38, .iload_n 1, 1, 0, 0, []), (39, .invokevirtual 314, 145, 2, 1, []), (42, .iconst (-1), 0, 0, 0, []), (43, .if_icmp .ne (10), 3, 0, 0, []), (46, .iconst 1, 0, 0, 0, []), (47, .iload 5, 5, 0, 0, []), (49, .ishl, 0, 0, 0, []), (50, .goto (4), 4, 0, 0, [])])
def mk_b148_3 : List Bool × List mj_I := ([true, true, false, true, false, true], [(53, .iconst 0, 0, 0, 0, []), (54, .nop, 4, 0, 0, [])])
def mk_b148_4 : List Bool × List mj_I := ([true, true, false, true, false, true], [(54, .ior, 0, 0, 0, []), (55, .istore 4, 4, 0, 0, []), (57, .iinc 5 1, 5, 0, 0, []), (60, .goto (-37), 2, 0, 0, [])])
def mk_b148_5 : List Bool × List mj_I := ([true, false, false, true, true, false], [(63, .aload_n 0, 0, 0, 0, []), (64, .iload_n 3, 3, 0, 0, []), (65, .putfield 134, 2, 8, 0, []), (68, .iload 4, 4, 0, 0, []), (70, .ireturn, 0, 0, 0, [])])
def mk_m148 : Nat × Nat × List (List Bool × List mj_I) := (6, 9, [mk_b148_0, mk_b148_1, mk_b148_2, mk_b148_3, mk_b148_4, mk_b148_5])
/-- NumbersCalledModel.film(I)I -/
def mk_b149_0 : List Bool × List mj_I := ([true, true, false], [(0, .iload_n 1, 1, 0, 0, []), (1, .iconst 0, 0, 0, 0, []), (2, .iconst 3, 0, 0, 0, []), (3, .invokestatic 115, 72, 3, 1, []), (6, .ifCond .ne (6), 1, 0, 0, []), (9, .bipush (-2), 0, 0, 0, []), (11, .ireturn, 0, 0, 0, [])])
def mk_b149_1 : List Bool × List mj_I := ([true, true, false], [(12, .aload_n 0, 0, 0, 0, []), (13, .invokevirtual 256, 112, 1, 0, []), (16, .aload_n 0, 0, 0, 0, []), (17, .getfield 50, 26, 8, 0, []), (20, .iload_n 1, 1, 0, 0, []), (21, .iconst 2, 0, 0, 0, []), (22, .iastore, 0, 0, 0, []), (23, .aload_n 0, 0, 0, 0, []), (24, .getfield 53, 27, 8, 0, []), (27, .iload_n 1, 1, 0, 0, []), (28, .aload_n 0, 0, 0, 0, []), (29, .getfield 119, 5, 8, 0, []), (32, .iastore, 0, 0, 0, []), (33, .iconst 0, 0, 0, 0, []), (34, .istore_n 2, 2, 0, 0, []), (35, .nop, 2, 0, 0, [])])
def mk_b149_2 : List Bool × List mj_I := ([true, true, true], [(35, .iload_n 2, 2, 0, 0, []), (36, .bipush 40, 0, 0, 0, []), (38, .if_icmp .ge (38), 5, 0, 0, []), (41, .aload_n 0, 0, 0, 0, []), (42, .getfield 56, 28, 8, 0, []), (45, .bipush 40, 0, 0, 0, []), (47, .iload_n 1, 1, 0, 0, []), (48, .imul, 0, 0, 0, []), (49, .iload_n 2, 2, 0, 0, []), (50, .iadd, 0, 0, 0, []), (51, .iload_n 2, 2, 0, 0, []), (52, .aload_n 0, 0, 0, 0, []), (53, .getfield 119, 5, 8, 0, []), (56, .if_icmp .ge (12), 3, 0, 0, []), (59, .aload_n 0, 0, 0, 0, []), (60, .getfield 83, 45, 8, 0, []), (63, .iload_n 2, 2, 0, 0, []), (64, .iaload, 0, 0, 0, []), (65, .goto (4), 4, 0, 0, [])])
def mk_b149_3 : List Bool × List mj_I := ([true, true, true], [(68, .iconst 0, 0, 0, 0, []), (69, .nop, 4, 0, 0, [])])
def mk_b149_4 : List Bool × List mj_I := ([true, true, true], [(69, .iastore, 0, 0, 0, []), (70, .iinc 2 1, 2, 0, 0, []), (73, .goto (-38), 2, 0, 0, [])])
def mk_b149_5 : List Bool × List mj_I := ([true, false, false], [(76, .aload_n 0, 0, 0, 0, []), (77, .getfield 119, 5, 8, 0, []), (80, .ireturn, 0, 0, 0, [])])
def mk_m149 : Nat × Nat × List (List Bool × List mj_I) := (3, 9, [mk_b149_0, mk_b149_1, mk_b149_2, mk_b149_3, mk_b149_4, mk_b149_5])
/-- NumbersCalledModel.draws(I)V -/
def mk_b150_0 : List Bool × List mj_I := ([true, true, false, false, false], [(0, .iload_n 1, 1, 0, 0, []), (1, .i2l, 0, 0, 0, []), (2, .lconst 1, 0, 0, 0, []), (3, .ladd, 0, 0, 0, []), (4, .lstore_n 2, 2, 0, 0, []), (5, .iconst 0, 0, 0, 0, []), (6, .istore 4, 4, 0, 0, []), (8, .nop, 1, 0, 0, [])])
def mk_b150_1 : List Bool × List mj_I := ([true, false, true, false, true], [(8, .iload 4, 4, 0, 0, []), (10, .aload_n 0, 0, 0, 0, []), (11, .getfield 119, 5, 8, 0, []), (14, .if_icmp .ge (63), 2, 0, 0, []), (17, .aload_n 0, 0, 0, 0, []), (18, .getfield 102, 53, 8, 0, []), (21, .iload 4, 4, 0, 0, []), (23, .aload_n 0, 0, 0, 0, []), (24, .getfield 32, 10, 8, 0, []), (27, .iload 4, 4, 0, 0, []), (29, .iaload, 0, 0, 0, []), (30, .iastore, 0, 0, 0, []), (31, .lload_n 2, 2, 0, 0, []), (32, .ldc2_w 317, 3, 0, 0, []), (35, .lmul, 0, 0, 0, []), (36, .ldc2_w 319, 4, 0, 0, []), (39, .lrem, 0, 0, 0, []), (40, .lstore_n 2, 2, 0, 0, []), (41, .aload_n 0, 0, 0, 0, []), (42, .getfield 32, 10, 8, 0, []), (45, .iload 4, 4, 0, 0, []), (47, .aload_n 0, 0, 0, 0, []), (48, .getfield 32, 10, 8, 0, []), (51, .iload 4, 4, 0, 0, []), (53, .iaload, 0, 0, 0, []), (54, .lload_n 2, 2, 0, 0, []), (55, .ldc2_w 321, 5, 0, 0, []), (58, .lrem, 0, 0, 0, []), (59, .l2i, 0, 0, 0, []), (60, .iadd, 0, 0, 0, []), (61, .bipush 10, 0, 0, 0, []), (63, .isub, 0, 0, 0, []), (64, .iconst 0, 0, 0, 0, []), (65, .bipush 119, 0, 0, 0, []), (67, .invokestatic 208, 73, 3, 1, []), (70, .iastore, 0, 0, 0, []), (71, .iinc 4 1, 4, 0, 0, []), (74, .goto (-66), 1, 0, 0, [])])
def mk_b150_2 : List Bool × List mj_I := ([true, false, false, false, false], [(77, .aload_n 0, 0, 0, 0, []), (78, .invokevirtual 256, 112, 1, 0, []), (81, .return_, 0, 0, 0, [])])
def mk_m150 : Nat × Nat × List (List Bool × List mj_I) := (5, 9, [mk_b150_0, mk_b150_1, mk_b150_2])
/-- NumbersCalledModel.undraws()V -/
def mk_b151_0 : List Bool × List mj_I := ([true, false], [(0, .iconst 0, 0, 0, 0, []), (1, .istore_n 1, 1, 0, 0, []), (2, .nop, 1, 0, 0, [])])
def mk_b151_1 : List Bool × List mj_I := ([true, true], [(2, .iload_n 1, 1, 0, 0, []), (3, .aload_n 0, 0, 0, 0, []), (4, .getfield 119, 5, 8, 0, []), (7, .if_icmp .ge (21), 2, 0, 0, []), (10, .aload_n 0, 0, 0, 0, []), (11, .getfield 32, 10, 8, 0, []), (14, .iload_n 1, 1, 0, 0, []), (15, .aload_n 0, 0, 0, 0, []), (16, .getfield 102, 53, 8, 0, []), (19, .iload_n 1, 1, 0, 0, []), (20, .iaload, 0, 0, 0, []), (21, .iastore, 0, 0, 0, []), (22, .iinc 1 1, 1, 0, 0, []), (25, .goto (-23), 1, 0, 0, [])])
def mk_b151_2 : List Bool × List mj_I := ([false, false], [(28, .return_, 0, 0, 0, [])])
def mk_m151 : Nat × Nat × List (List Bool × List mj_I) := (2, 9, [mk_b151_0, mk_b151_1, mk_b151_2])
/-- NumbersCalledModel.drawn(II)I -/
def mk_b152_0 : List Bool × List mj_I := ([true, true, true, false], [(0, .iload_n 1, 1, 0, 0, []), (1, .iconst 0, 0, 0, 0, []), (2, .ldc_w 323, 2, 0, 0, []), (5, .invokestatic 115, 72, 3, 1, []), (8, .ifCond .eq (13), 1, 0, 0, []), (11, .iload_n 2, 2, 0, 0, []), (12, .iconst 0, 0, 0, 0, []), (13, .bipush 7, 0, 0, 0, []), (15, .invokestatic 115, 72, 3, 1, []), (18, .ifCond .ne (6), 2, 0, 0, []), (21, .nop, 1, 0, 0, [])])
def mk_b152_1 : List Bool × List mj_I := ([false, false, false, false], [(21, .bipush (-2), 0, 0, 0, []), (23, .ireturn, 0, 0, 0, [])])
def mk_b152_2 : List Bool × List mj_I := ([true, true, true, false], [(24, .aload_n 0, 0, 0, 0, []), (25, .iload_n 1, 1, 0, 0, []), (26, .invokevirtual 324, 150, 2, 0, []), (29, .aload_n 0, 0, 0, 0, []), (30, .iload_n 2, 2, 0, 0, []), (31, .invokevirtual 274, 119, 2, 1, []), (34, .istore_n 3, 3, 0, 0, []), (35, .aload_n 0, 0, 0, 0, []), (36, .invokevirtual 327, 151, 1, 0, []), (39, .iload_n 3, 3, 0, 0, []), (40, .ireturn, 0, 0, 0, [])])
def mk_m152 : Nat × Nat × List (List Bool × List mj_I) := (4, 9, [mk_b152_0, mk_b152_1, mk_b152_2])
/-- NumbersCalledModel.lowest(JJI)J -/
def mk_b153_0 : List Bool × List mj_I := ([true, false, true, false, true, false, false, false, false, false, false], [(0, .lload_n 0, 0, 0, 0, []), (1, .lconst 0, 0, 0, 0, []), (2, .lcmp, 0, 0, 0, []), (3, .ifCond .ne (7), 1, 0, 0, []), (6, .iload 4, 4, 0, 0, []), (8, .i2l, 0, 0, 0, []), (9, .lreturn, 0, 0, 0, [])])
def mk_b153_1 : List Bool × List mj_I := ([true, false, true, false, true, false, false, false, false, false, false], [(10, .lload_n 0, 0, 0, 0, []), (11, .lstore 5, 5, 0, 0, []), (13, .lload_n 2, 2, 0, 0, []), (14, .lstore 7, 7, 0, 0, []), (16, .nop, 2, 0, 0, [])])
def mk_b153_2 : List Bool × List mj_I := ([true, false, true, false, true, true, false, true, false, false, false], [(16, .lload 7, 7, 0, 0, []), (18, .lconst 0, 0, 0, 0, []), (19, .lcmp, 0, 0, 0, []), (20, .ifCond .eq (21), 3, 0, 0, []), (23, .lload 5, 5, 0, 0, []), (25, .lload 7, 7, 0, 0, []), (27, .lrem, 0, 0, 0, []), (28, .lstore 9, 9, 0, 0, []), (30, .lload 7, 7, 0, 0, []), (32, .lstore 5, 5, 0, 0, []), (34, .lload 9, 9, 0, 0, []), (36, .lstore 7, 7, 0, 0, []), (38, .goto (-22), 2, 0, 0, [])])
def mk_b153_3 : List Bool × List mj_I := ([true, false, true, false, true, true, false, false, false, false, false], [(41, .iload 4, 4, 0, 0, []), (43, .ifCond .ne (7), 4, 0, 0, []), (46, .lload_n 0, 0, 0, 0, []), (47, .goto (4), 5, 0, 0, [])])
def mk_b153_4 : List Bool × List mj_I := ([false, false, true, false, false, true, false, false, false, false, false], [(50, .lload_n 2, 2, 0, 0, []), (51, .nop, 5, 0, 0, [])])
def mk_b153_5 : List Bool × List mj_I := ([false, false, false, false, false, true, false, false, false, false, false], [(51, .lload 5, 5, 0, 0, []), (53, .ldiv, 0, 0, 0, []), (54, .lreturn, 0, 0, 0, [])])
def mk_m153 : Nat × Nat × List (List Bool × List mj_I) := (11, 0, [mk_b153_0, mk_b153_1, mk_b153_2, mk_b153_3, mk_b153_4, mk_b153_5])
/-- NumbersCalledModel.odds(IIII)J -/
def mk_b154_0 : List Bool × List mj_I := ([true, true, true, true, true, false, false, false], [(0, .iload_n 1, 1, 0, 0, []), (1, .iconst 0, 0, 0, 0, []), (2, .ldc_w 323, 2, 0, 0, []), (5, .invokestatic 115, 72, 3, 1, []), (8, .ifCond .eq (34), 1, 0, 0, []), (11, .iload_n 2, 2, 0, 0, []), (12, .iconst 1, 0, 0, 0, []), (13, .bipush 20, 0, 0, 0, []), (15, .invokestatic 115, 72, 3, 1, []), (18, .ifCond .eq (24), 1, 0, 0, []), (21, .iload_n 3, 3, 0, 0, []), (22, .iconst 0, 0, 0, 0, []), (23, .sipush 999, 0, 0, 0, []), (26, .invokestatic 115, 72, 3, 1, []), (29, .ifCond .eq (13), 1, 0, 0, []), (32, .iload 4, 4, 0, 0, []), (34, .iconst 0, 0, 0, 0, []), (35, .iconst 1, 0, 0, 0, []), (36, .invokestatic 115, 72, 3, 1, []), (39, .ifCond .ne (7), 2, 0, 0, []), (42, .nop, 1, 0, 0, [])])
def mk_b154_1 : List Bool × List mj_I := ([false, false, false, false, false, false, false, false], [(42, .ldc2_w 307, 0, 0, 0, []), (45, .lreturn, 0, 0, 0, [])])
def mk_b154_2 : List Bool × List mj_I := ([true, true, true, true, true, false, false, false], [(46, .lconst 0, 0, 0, 0, []), (47, .lstore 5, 5, 0, 0, []), (49, .iconst 0, 0, 0, 0, []), (50, .istore 7, 7, 0, 0, []), (52, .nop, 3, 0, 0, [])])
def mk_b154_3 : List Bool × List mj_I := ([true, true, true, true, true, true, false, true], [(52, .iload 7, 7, 0, 0, []), (54, .iload_n 2, 2, 0, 0, []), (55, .if_icmp .ge (47), 6, 0, 0, []), (58, .aload_n 0, 0, 0, 0, []), (59, .iload_n 1, 1, 0, 0, []), (60, .iload 7, 7, 0, 0, []), (62, .iadd, 0, 0, 0, []), (63, .invokevirtual 324, 150, 2, 0, []), (66, .lload 5, 5, 0, 0, []), (68, .aload_n 0, 0, 0, 0, []), (69, .invokevirtual 271, 117, 1, 1, []), (72, .iload_n 3, 3, 0, 0, []), (73, .if_icmp .gt (15), 4, 0, 0, []), (76, .aload_n 0, 0, 0, 0, []), (77, .iconst 1, 0, 0, 0, []), (78, .invokevirtual 262, 115, 2, 1, []), (81, .ifCond .ne (7), 4, 0, 0, []), (84, .lconst 1, 0, 0, 0, []), (85, .goto (4), 5, 0, 0, [])])
def mk_b154_4 : List Bool × List mj_I := ([true, true, true, true, true, false, false, true], [(88, .lconst 0, 0, 0, 0, []), (89, .nop, 5, 0, 0, [])])
def mk_b154_5 : List Bool × List mj_I := ([true, true, true, true, true, false, false, true], [(89, .ladd, 0, 0, 0, []), (90, .lstore 5, 5, 0, 0, []), (92, .aload_n 0, 0, 0, 0, []), (93, .invokevirtual 327, 151, 1, 0, []), (96, .iinc 7 1, 7, 0, 0, []), (99, .goto (-47), 3, 0, 0, [])])
def mk_b154_6 : List Bool × List mj_I := ([false, false, true, false, true, true, false, false], [(102, .lload 5, 5, 0, 0, []), (104, .iload_n 2, 2, 0, 0, []), (105, .i2l, 0, 0, 0, []), (106, .iload 4, 4, 0, 0, []), (108, .invokestatic 330, 153, 3, 2, []), (111, .lreturn, 0, 0, 0, [])])
def mk_m154 : Nat × Nat × List (List Bool × List mj_I) := (8, 9, [mk_b154_0, mk_b154_1, mk_b154_2, mk_b154_3, mk_b154_4, mk_b154_5, mk_b154_6])
/-- NumbersCalledModel.image()I -/
def mk_b155_0 : List Bool × List mj_I := ([true, false], [(0, .aload_n 0, 0, 0, 0, []), (1, .iconst 1, 0, 0, 0, []), (2, .putfield 218, 17, 8, 1, []), (5, .aload_n 0, 0, 0, 0, []), (6, .aload_n 0, 0, 0, 0, []), (7, .getfield 112, 0, 8, 0, []), (10, .putfield 334, 18, 8, 0, []), (13, .aload_n 0, 0, 0, 0, []), (14, .aload_n 0, 0, 0, 0, []), (15, .getfield 134, 2, 8, 0, []), (18, .putfield 337, 19, 8, 0, []), (21, .aload_n 0, 0, 0, 0, []), (22, .aload_n 0, 0, 0, 0, []), (23, .getfield 13, 3, 8, 0, []), (26, .putfield 340, 20, 8, 0, []), (29, .aload_n 0, 0, 0, 0, []), (30, .aload_n 0, 0, 0, 0, []), (31, .getfield 17, 4, 8, 0, []), (34, .putfield 343, 21, 8, 0, []), (37, .aload_n 0, 0, 0, 0, []), (38, .aload_n 0, 0, 0, 0, []), (39, .getfield 119, 5, 8, 0, []), (42, .putfield 222, 22, 8, 0, []), (45, .aload_n 0, 0, 0, 0, []), (46, .aload_n 0, 0, 0, 0, []), (47, .getfield 140, 16, 8, 0, []), (50, .putfield 346, 23, 8, 0, []), (53, .iconst 0, 0, 0, 0, []), (54, .istore_n 1, 1, 0, 0, []), (55, .nop, 1, 0, 0, [])])
def mk_b155_1 : List Bool × List mj_I := ([true, true], [(55, .iload_n 1, 1, 0, 0, []), (56, .bipush 12, 0, 0, 0, []), (58, .if_icmp .ge (21), 2, 0, 0, []), (61, .aload_n 0, 0, 0, 0, []), (62, .getfield 44, 24, 8, 0, []), (65, .iload_n 1, 1, 0, 0, []), (66, .aload_n 0, 0, 0, 0, []), (67, .getfield 7, 1, 8, 0, []), (70, .iload_n 1, 1, 0, 0, []), (71, .iaload, 0, 0, 0, []), (72, .iastore, 0, 0, 0, []), (73, .iinc 1 1, 1, 0, 0, []), (76, .goto (-21), 1, 0, 0, [])])
def mk_b155_2 : List Bool × List mj_I := ([true, false], [(79, .iconst 0, 0, 0, 0, []), (80, .istore_n 1, 1, 0, 0, []), (81, .nop, 3, 0, 0, [])])
def mk_b155_3 : List Bool × List mj_I := ([true, true], [(81, .iload_n 1, 1, 0, 0, []), (82, .bipush 16, 0, 0, 0, []), (84, .if_icmp .ge (21), 4, 0, 0, []), (87, .aload_n 0, 0, 0, 0, []), (88, .getfield 47, 25, 8, 0, []), (91, .iload_n 1, 1, 0, 0, []), (92, .aload_n 0, 0, 0, 0, []), (93, .getfield 32, 10, 8, 0, []), (96, .iload_n 1, 1, 0, 0, []), (97, .iaload, 0, 0, 0, []), (98, .iastore, 0, 0, 0, []), (99, .iinc 1 1, 1, 0, 0, []), (102, .goto (-21), 3, 0, 0, [])])
def mk_b155_4 : List Bool × List mj_I := ([true, false], [(105, .aload_n 0, 0, 0, 0, []), (106, .getfield 119, 5, 8, 0, []), (109, .ireturn, 0, 0, 0, [])])
def mk_m155 : Nat × Nat × List (List Bool × List mj_I) := (2, 9, [mk_b155_0, mk_b155_1, mk_b155_2, mk_b155_3, mk_b155_4])
/-- NumbersCalledModel.back()I -/
def mk_b156_0 : List Bool × List mj_I := ([true, false], [(0, .aload_n 0, 0, 0, 0, []), (1, .getfield 218, 17, 8, 1, []), (4, .ifCond .ne (6), 1, 0, 0, []), (7, .bipush (-3), 0, 0, 0, []), (9, .ireturn, 0, 0, 0, [])])
def mk_b156_1 : List Bool × List mj_I := ([true, false], [(10, .aload_n 0, 0, 0, 0, []), (11, .aload_n 0, 0, 0, 0, []), (12, .getfield 334, 18, 8, 0, []), (15, .putfield 112, 0, 8, 0, []), (18, .aload_n 0, 0, 0, 0, []), (19, .aload_n 0, 0, 0, 0, []), (20, .getfield 337, 19, 8, 0, []), (23, .putfield 134, 2, 8, 0, []), (26, .aload_n 0, 0, 0, 0, []), (27, .aload_n 0, 0, 0, 0, []), (28, .getfield 340, 20, 8, 0, []), (31, .putfield 13, 3, 8, 0, []), (34, .aload_n 0, 0, 0, 0, []), (35, .aload_n 0, 0, 0, 0, []), (36, .getfield 343, 21, 8, 0, []), (39, .putfield 17, 4, 8, 0, []), (42, .aload_n 0, 0, 0, 0, []), (43, .aload_n 0, 0, 0, 0, []), (44, .getfield 222, 22, 8, 0, []), (47, .putfield 119, 5, 8, 0, []), (50, .aload_n 0, 0, 0, 0, []), (51, .aload_n 0, 0, 0, 0, []), (52, .getfield 346, 23, 8, 0, []), (55, .putfield 140, 16, 8, 0, []), (58, .iconst 0, 0, 0, 0, []), (59, .istore_n 1, 1, 0, 0, []), (60, .nop, 2, 0, 0, [])])
def mk_b156_2 : List Bool × List mj_I := ([true, true], [(60, .iload_n 1, 1, 0, 0, []), (61, .bipush 12, 0, 0, 0, []), (63, .if_icmp .ge (21), 3, 0, 0, []), (66, .aload_n 0, 0, 0, 0, []), (67, .getfield 7, 1, 8, 0, []), (70, .iload_n 1, 1, 0, 0, []), (71, .aload_n 0, 0, 0, 0, []), (72, .getfield 44, 24, 8, 0, []), (75, .iload_n 1, 1, 0, 0, []), (76, .iaload, 0, 0, 0, []), (77, .iastore, 0, 0, 0, []), (78, .iinc 1 1, 1, 0, 0, []), (81, .goto (-21), 2, 0, 0, [])])
def mk_b156_3 : List Bool × List mj_I := ([true, false], [(84, .iconst 0, 0, 0, 0, []), (85, .istore_n 1, 1, 0, 0, []), (86, .nop, 4, 0, 0, [])])
def mk_b156_4 : List Bool × List mj_I := ([true, true], [(86, .iload_n 1, 1, 0, 0, []), (87, .bipush 16, 0, 0, 0, []), (89, .if_icmp .ge (21), 5, 0, 0, []), (92, .aload_n 0, 0, 0, 0, []), (93, .getfield 32, 10, 8, 0, []), (96, .iload_n 1, 1, 0, 0, []), (97, .aload_n 0, 0, 0, 0, []), (98, .getfield 47, 25, 8, 0, []), (101, .iload_n 1, 1, 0, 0, []), (102, .iaload, 0, 0, 0, []), (103, .iastore, 0, 0, 0, []), (104, .iinc 1 1, 1, 0, 0, []), (107, .goto (-21), 4, 0, 0, [])])
def mk_b156_5 : List Bool × List mj_I := ([true, false], [(110, .aload_n 0, 0, 0, 0, []), (111, .getfield 119, 5, 8, 0, []), (114, .ireturn, 0, 0, 0, [])])
def mk_m156 : Nat × Nat × List (List Bool × List mj_I) := (2, 9, [mk_b156_0, mk_b156_1, mk_b156_2, mk_b156_3, mk_b156_4, mk_b156_5])
/-- NumbersCalledModel.sheet(III)I -/
def mk_b157_0 : List Bool × List mj_I := ([true, true, true, true, false], [(0, .iload_n 1, 1, 0, 0, []), (1, .iconst 0, 0, 0, 0, []), (2, .iconst 3, 0, 0, 0, []), (3, .invokestatic 115, 72, 3, 1, []), (6, .ifCond .eq (23), 1, 0, 0, []), (9, .iload_n 2, 2, 0, 0, []), (10, .iconst (-1), 0, 0, 0, []), (11, .iconst 2, 0, 0, 0, []), (12, .invokestatic 115, 72, 3, 1, []), (15, .ifCond .eq (14), 1, 0, 0, []), (18, .iload_n 2, 2, 0, 0, []), (19, .iconst (-1), 0, 0, 0, []), (20, .if_icmp .eq (12), 2, 0, 0, []), (23, .iload_n 3, 3, 0, 0, []), (24, .bipush 40, 0, 0, 0, []), (26, .if_icmp .le (6), 2, 0, 0, []), (29, .nop, 1, 0, 0, [])])
def mk_b157_1 : List Bool × List mj_I := ([false, false, false, false, false], [(29, .bipush (-2), 0, 0, 0, []), (31, .ireturn, 0, 0, 0, [])])
def mk_b157_2 : List Bool × List mj_I := ([true, true, true, true, false], [(32, .iload_n 2, 2, 0, 0, []), (33, .iconst (-1), 0, 0, 0, []), (34, .if_icmp .eq (10), 3, 0, 0, []), (37, .iload_n 3, 3, 0, 0, []), (38, .ifCond .ge (6), 3, 0, 0, []), (41, .bipush (-14), 0, 0, 0, []), (43, .ireturn, 0, 0, 0, [])])
def mk_b157_3 : List Bool × List mj_I := ([true, true, true, true, false], [(44, .aload_n 0, 0, 0, 0, []), (45, .getfield 50, 26, 8, 0, []), (48, .iload_n 1, 1, 0, 0, []), (49, .iload_n 2, 2, 0, 0, []), (50, .iastore, 0, 0, 0, []), (51, .aload_n 0, 0, 0, 0, []), (52, .getfield 53, 27, 8, 0, []), (55, .iload_n 1, 1, 0, 0, []), (56, .iload_n 2, 2, 0, 0, []), (57, .iconst (-1), 0, 0, 0, []), (58, .if_icmp .ne (7), 4, 0, 0, []), (61, .iconst 0, 0, 0, 0, []), (62, .goto (4), 5, 0, 0, [])])
def mk_b157_4 : List Bool × List mj_I := ([true, true, false, true, false], [(65, .iload_n 3, 3, 0, 0, []), (66, .nop, 5, 0, 0, [])])
def mk_b157_5 : List Bool × List mj_I := ([true, true, false, false, false], [(66, .iastore, 0, 0, 0, []), (67, .iconst 0, 0, 0, 0, []), (68, .istore 4, 4, 0, 0, []), (70, .nop, 6, 0, 0, [])])
def mk_b157_6 : List Bool × List mj_I := ([true, true, false, false, true], [(70, .iload 4, 4, 0, 0, []), (72, .bipush 40, 0, 0, 0, []), (74, .if_icmp .ge (22), 7, 0, 0, []), (77, .aload_n 0, 0, 0, 0, []), (78, .getfield 56, 28, 8, 0, []), (81, .bipush 40, 0, 0, 0, []), (83, .iload_n 1, 1, 0, 0, []), (84, .imul, 0, 0, 0, []), (85, .iload 4, 4, 0, 0, []), (87, .iadd, 0, 0, 0, []), (88, .iconst 0, 0, 0, 0, []), (89, .iastore, 0, 0, 0, []), (90, .iinc 4 1, 4, 0, 0, []), (93, .goto (-23), 6, 0, 0, [])])
def mk_b157_7 : List Bool × List mj_I := ([false, false, false, false, false], [(96, .iconst 1, 0, 0, 0, []), (97, .ireturn, 0, 0, 0, [])])
def mk_m157 : Nat × Nat × List (List Bool × List mj_I) := (5, 9, [mk_b157_0, mk_b157_1, mk_b157_2, mk_b157_3, mk_b157_4, mk_b157_5, mk_b157_6, mk_b157_7])
/-- NumbersCalledModel.cell(III)I -/
def mk_b158_0 : List Bool × List mj_I := ([true, true, true, true], [(0, .iload_n 1, 1, 0, 0, []), (1, .iconst 0, 0, 0, 0, []), (2, .iconst 3, 0, 0, 0, []), (3, .invokestatic 115, 72, 3, 1, []), (6, .ifCond .ne (6), 1, 0, 0, []), (9, .bipush (-2), 0, 0, 0, []), (11, .ireturn, 0, 0, 0, [])])
def mk_b158_1 : List Bool × List mj_I := ([true, true, true, true], [(12, .aload_n 0, 0, 0, 0, []), (13, .getfield 50, 26, 8, 0, []), (16, .iload_n 1, 1, 0, 0, []), (17, .iaload, 0, 0, 0, []), (18, .iconst (-1), 0, 0, 0, []), (19, .if_icmp .ne (6), 2, 0, 0, []), (22, .bipush (-11), 0, 0, 0, []), (24, .ireturn, 0, 0, 0, [])])
def mk_b158_2 : List Bool × List mj_I := ([true, true, true, true], [(25, .iload_n 2, 2, 0, 0, []), (26, .iconst 0, 0, 0, 0, []), (27, .aload_n 0, 0, 0, 0, []), (28, .getfield 53, 27, 8, 0, []), (31, .iload_n 1, 1, 0, 0, []), (32, .iaload, 0, 0, 0, []), (33, .iconst 1, 0, 0, 0, []), (34, .isub, 0, 0, 0, []), (35, .invokestatic 115, 72, 3, 1, []), (38, .ifCond .ne (6), 3, 0, 0, []), (41, .bipush (-12), 0, 0, 0, []), (43, .ireturn, 0, 0, 0, [])])
def mk_b158_3 : List Bool × List mj_I := ([true, true, true, true], [(44, .aload_n 0, 0, 0, 0, []), (45, .getfield 56, 28, 8, 0, []), (48, .bipush 40, 0, 0, 0, []), (50, .iload_n 1, 1, 0, 0, []), (51, .imul, 0, 0, 0, []), (52, .iload_n 2, 2, 0, 0, []), (53, .iadd, 0, 0, 0, []), (54, .aload_n 0, 0, 0, 0, []), (55, .getfield 50, 26, 8, 0, []), (58, .iload_n 1, 1, 0, 0, []), (59, .iaload, 0, 0, 0, []), (60, .ifCond .ne (8), 4, 0, 0, []), (63, .iload_n 3, 3, 0, 0, []), (64, .i2b, 0, 0, 0, []), (65, .goto (19), 6, 0, 0, [])])
def mk_b158_4 : List Bool × List mj_I := ([true, true, false, true], [(68, .aload_n 0, 0, 0, 0, []), (69, .getfield 50, 26, 8, 0, []), (72, .iload_n 1, 1, 0, 0, []), (73, .iaload, 0, 0, 0, []), (74, .iconst 1, 0, 0, 0, []), (75, .if_icmp .ne (8), 5, 0, 0, []), (78, .iload_n 3, 3, 0, 0, []), (79, .i2s, 0, 0, 0, []), (80, .goto (4), 6, 0, 0, [])])
def mk_b158_5 : List Bool × List mj_I := ([false, false, false, true], [(83, .iload_n 3, 3, 0, 0, []), (84, .nop, 6, 0, 0, [])])
def mk_b158_6 : List Bool × List mj_I := ([false, false, false, false], [(84, .iastore, 0, 0, 0, []), (85, .iconst 1, 0, 0, 0, []), (86, .ireturn, 0, 0, 0, [])])
def mk_m158 : Nat × Nat × List (List Bool × List mj_I) := (4, 9, [mk_b158_0, mk_b158_1, mk_b158_2, mk_b158_3, mk_b158_4, mk_b158_5, mk_b158_6])
/-- NumbersCalledModel.copy(IIIII)I -/
def mk_b159_0 : List Bool × List mj_I := ([true, true, true, true, true, true, false, false, false, false], [(0, .iload_n 1, 1, 0, 0, []), (1, .iconst 0, 0, 0, 0, []), (2, .iconst 3, 0, 0, 0, []), (3, .invokestatic 115, 72, 3, 1, []), (6, .ifCond .eq (12), 1, 0, 0, []), (9, .iload_n 3, 3, 0, 0, []), (10, .iconst 0, 0, 0, 0, []), (11, .iconst 3, 0, 0, 0, []), (12, .invokestatic 115, 72, 3, 1, []), (15, .ifCond .ne (6), 2, 0, 0, []), (18, .nop, 1, 0, 0, [])])
def mk_b159_1 : List Bool × List mj_I := ([false, false, false, false, false, false, false, false, false, false], [(18, .bipush (-2), 0, 0, 0, []), (20, .ireturn, 0, 0, 0, [])])
def mk_b159_2 : List Bool × List mj_I := ([true, true, true, true, true, true, false, false, false, false], [(21, .aload_n 0, 0, 0, 0, []), (22, .getfield 50, 26, 8, 0, []), (25, .iload_n 1, 1, 0, 0, []), (26, .iaload, 0, 0, 0, []), (27, .iconst (-1), 0, 0, 0, []), (28, .if_icmp .eq (13), 3, 0, 0, []), (31, .aload_n 0, 0, 0, 0, []), (32, .getfield 50, 26, 8, 0, []), (35, .iload_n 3, 3, 0, 0, []), (36, .iaload, 0, 0, 0, []), (37, .iconst (-1), 0, 0, 0, []), (38, .if_icmp .ne (6), 4, 0, 0, []), (41, .nop, 3, 0, 0, [])])
def mk_b159_3 : List Bool × List mj_I := ([false, false, false, false, false, false, false, false, false, false], [(41, .bipush (-11), 0, 0, 0, []), (43, .ireturn, 0, 0, 0, [])])
def mk_b159_4 : List Bool × List mj_I := ([true, true, true, true, true, true, false, false, false, false], [(44, .aload_n 0, 0, 0, 0, []), (45, .getfield 50, 26, 8, 0, []), (48, .iload_n 1, 1, 0, 0, []), (49, .iaload, 0, 0, 0, []), (50, .aload_n 0, 0, 0, 0, []), (51, .getfield 50, 26, 8, 0, []), (54, .iload_n 3, 3, 0, 0, []), (55, .iaload, 0, 0, 0, []), (56, .if_icmp .eq (6), 5, 0, 0, []), (59, .bipush (-13), 0, 0, 0, []), (61, .ireturn, 0, 0, 0, [])])
def mk_b159_5 : List Bool × List mj_I := ([true, true, true, true, true, true, false, false, false, false], [(62, .iload 5, 5, 0, 0, []), (64, .ifCond .lt (60), 6, 0, 0, []), (67, .iload_n 2, 2, 0, 0, []), (68, .ifCond .lt (56), 6, 0, 0, []), (71, .iload 4, 4, 0, 0, []), (73, .ifCond .lt (51), 6, 0, 0, []), (76, .iload_n 2, 2, 0, 0, []), (77, .aload_n 0, 0, 0, 0, []), (78, .getfield 53, 27, 8, 0, []), (81, .iload_n 1, 1, 0, 0, []), (82, .iaload, 0, 0, 0, []), (83, .if_icmp .gt (41), 6, 0, 0, []), (86, .iload 4, 4, 0, 0, []), (88, .aload_n 0, 0, 0, 0, []), (89, .getfield 53, 27, 8, 0, []), (92, .iload_n 3, 3, 0, 0, []), (93, .iaload, 0, 0, 0, []), (94, .if_icmp .gt (30), 6, 0, 0, []), (97, .iload 5, 5, 0, 0, []), (99, .aload_n 0, 0, 0, 0, []), (100, .getfield 53, 27, 8, 0, []), (103, .iload_n 1, 1, 0, 0, []), (104, .iaload, 0, 0, 0, []), (105, .iload_n 2, 2, 0, 0, []), (106, .isub, 0, 0, 0, []), (107, .if_icmp .gt (17), 6, 0, 0, []), (110, .iload 5, 5, 0, 0, []), (112, .aload_n 0, 0, 0, 0, []), (113, .getfield 53, 27, 8, 0, []), (116, .iload_n 3, 3, 0, 0, []), (117, .iaload, 0, 0, 0, []), (118, .iload 4, 4, 0, 0, []), (120, .isub, 0, 0, 0, []), (121, .if_icmp .le (6), 7, 0, 0, []), (124, .nop, 6, 0, 0, [])])
def mk_b159_6 : List Bool × List mj_I := ([false, false, false, false, false, false, false, false, false, false], [(124, .bipush (-12), 0, 0, 0, []), (126, .ireturn, 0, 0, 0, [])])
def mk_b159_7 : List Bool × List mj_I := ([true, true, true, true, true, true, false, false, false, false], [(127, .bipush 40, 0, 0, 0, []), (129, .iload_n 1, 1, 0, 0, []), (130, .imul, 0, 0, 0, []), (131, .iload_n 2, 2, 0, 0, []), (132, .iadd, 0, 0, 0, []), (133, .istore 6, 6, 0, 0, []), (135, .bipush 40, 0, 0, 0, []), (137, .iload_n 3, 3, 0, 0, []), (138, .imul, 0, 0, 0, []), (139, .iload 4, 4, 0, 0, []), (141, .iadd, 0, 0, 0, []), (142, .istore 7, 7, 0, 0, []), (144, .iconst 0, 0, 0, 0, []), (145, .istore 8, 8, 0, 0, []), (147, .nop, 8, 0, 0, [])])
def mk_b159_8 : List Bool × List mj_I := ([true, false, false, false, false, true, true, true, true, false], [(147, .iload 8, 8, 0, 0, []), (149, .iload 5, 5, 0, 0, []), (151, .if_icmp .ge (50), 11, 0, 0, []), (154, .iload 6, 6, 0, 0, []), (156, .iload 7, 7, 0, 0, []), (158, .if_icmp .ge (13), 9, 0, 0, []), (161, .iload 5, 5, 0, 0, []), (163, .iconst 1, 0, 0, 0, []), (164, .isub, 0, 0, 0, []), (165, .iload 8, 8, 0, 0, []), (167, .isub, 0, 0, 0, []), (168, .goto (5), 10, 0, 0, [])])
def mk_b159_9 : List Bool × List mj_I := ([true, false, false, false, false, true, true, true, true, false], [(171, .iload 8, 8, 0, 0, []), (173, .nop, 10, 0, 0, [])])
def mk_b159_10 : List Bool × List mj_I := ([true, false, false, false, false, true, true, true, true, false], [(173, .istore 9, 9, 0, 0, []), (175, .aload_n 0, 0, 0, 0, []), (176, .getfield 56, 28, 8, 0, []), (179, .iload 7, 7, 0, 0, []), (181, .iload 9, 9, 0, 0, []), (183, .iadd, 0, 0, 0, []), (184, .aload_n 0, 0, 0, 0, []), (185, .getfield 56, 28, 8, 0, []), (188, .iload 6, 6, 0, 0, []), (190, .iload 9, 9, 0, 0, []), (192, .iadd, 0, 0, 0, []), (193, .iaload, 0, 0, 0, []), (194, .iastore, 0, 0, 0, []), (195, .iinc 8 1, 8, 0, 0, []), (198, .goto (-51), 8, 0, 0, [])])
def mk_b159_11 : List Bool × List mj_I := ([false, false, false, false, false, true, false, false, false, false], [(201, .iload 5, 5, 0, 0, []), (203, .ireturn, 0, 0, 0, [])])
def mk_m159 : Nat × Nat × List (List Bool × List mj_I) := (10, 9, [mk_b159_0, mk_b159_1, mk_b159_2, mk_b159_3, mk_b159_4, mk_b159_5, mk_b159_6, mk_b159_7, mk_b159_8, mk_b159_9, mk_b159_10, mk_b159_11])
/-- NumbersCalledModel.pulls(IIII)I -/
def mk_b160_0 : List Bool × List mj_I := ([true, true, true, true, true, false, false, false, false], [(0, .iload_n 1, 1, 0, 0, []), (1, .iconst 0, 0, 0, 0, []), (2, .iconst 3, 0, 0, 0, []), (3, .invokestatic 115, 72, 3, 1, []), (6, .ifCond .eq (23), 1, 0, 0, []), (9, .iload_n 2, 2, 0, 0, []), (10, .iconst 0, 0, 0, 0, []), (11, .iconst 2, 0, 0, 0, []), (12, .invokestatic 115, 72, 3, 1, []), (15, .ifCond .eq (14), 1, 0, 0, []), (18, .iload 4, 4, 0, 0, []), (20, .iconst 0, 0, 0, 0, []), (21, .bipush 13, 0, 0, 0, []), (23, .invokestatic 115, 72, 3, 1, []), (26, .ifCond .ne (6), 2, 0, 0, []), (29, .nop, 1, 0, 0, [])])
def mk_b160_1 : List Bool × List mj_I := ([false, false, false, false, false, false, false, false, false], [(29, .bipush (-2), 0, 0, 0, []), (31, .ireturn, 0, 0, 0, [])])
def mk_b160_2 : List Bool × List mj_I := ([true, true, true, true, true, false, false, false, false], [(32, .aload_n 0, 0, 0, 0, []), (33, .getfield 50, 26, 8, 0, []), (36, .iload_n 1, 1, 0, 0, []), (37, .iaload, 0, 0, 0, []), (38, .iconst (-1), 0, 0, 0, []), (39, .if_icmp .ne (6), 3, 0, 0, []), (42, .bipush (-11), 0, 0, 0, []), (44, .ireturn, 0, 0, 0, [])])
def mk_b160_3 : List Bool × List mj_I := ([true, true, true, true, true, false, false, false, false], [(45, .aload_n 0, 0, 0, 0, []), (46, .getfield 50, 26, 8, 0, []), (49, .iload_n 1, 1, 0, 0, []), (50, .iaload, 0, 0, 0, []), (51, .iload_n 2, 2, 0, 0, []), (52, .if_icmp .eq (6), 4, 0, 0, []), (55, .bipush (-13), 0, 0, 0, []), (57, .ireturn, 0, 0, 0, [])])
def mk_b160_4 : List Bool × List mj_I := ([true, true, false, true, true, false, false, false, false], [(58, .iconst 0, 0, 0, 0, []), (59, .istore 5, 5, 0, 0, []), (61, .iconst 0, 0, 0, 0, []), (62, .istore 6, 6, 0, 0, []), (64, .nop, 5, 0, 0, [])])
def mk_b160_5 : List Bool × List mj_I := ([true, true, false, true, true, true, true, false, false], [(64, .iload 6, 6, 0, 0, []), (66, .iload 4, 4, 0, 0, []), (68, .if_icmp .ge (94), 10, 0, 0, []), (71, .iload_n 3, 3, 0, 0, []), (72, .iconst 3, 0, 0, 0, []), (73, .iload 6, 6, 0, 0, []), (75, .imul, 0, 0, 0, []), (76, .iadd, 0, 0, 0, []), (77, .istore 7, 7, 0, 0, []), (79, .iload_n 3, 3, 0, 0, []), (80, .ifCond .lt (22), 6, 0, 0, []), (83, .iload 7, 7, 0, 0, []), (85, .iload_n 3, 3, 0, 0, []), (86, .if_icmp .lt (16), 6, 0, 0, []), (89, .iload 7, 7, 0, 0, []), (91, .aload_n 0, 0, 0, 0, []), (92, .getfield 53, 27, 8, 0, []), (95, .iload_n 1, 1, 0, 0, []), (96, .iaload, 0, 0, 0, []), (97, .iconst 3, 0, 0, 0, []), (98, .isub, 0, 0, 0, []), (99, .if_icmp .le (6), 7, 0, 0, []), (102, .nop, 6, 0, 0, [])])
def mk_b160_6 : List Bool × List mj_I := ([false, false, false, false, false, false, false, false, false], [(102, .bipush (-12), 0, 0, 0, []), (104, .ireturn, 0, 0, 0, [])])
def mk_b160_7 : List Bool × List mj_I := ([true, true, false, true, true, true, true, true, false], [(105, .bipush 40, 0, 0, 0, []), (107, .iload_n 1, 1, 0, 0, []), (108, .imul, 0, 0, 0, []), (109, .iload 7, 7, 0, 0, []), (111, .iadd, 0, 0, 0, []), (112, .istore 8, 8, 0, 0, []), (114, .iload 5, 5, 0, 0, []), (116, .aload_n 0, 0, 0, 0, []), (117, .aload_n 0, 0, 0, 0, []), (118, .getfield 56, 28, 8, 0, []), (121, .iload 8, 8, 0, 0, []), (123, .iaload, 0, 0, 0, []), (124, .aload_n 0, 0, 0, 0, []), (125, .getfield 56, 28, 8, 0, []), (128, .iload 8, 8, 0, 0, []), (130, .iconst 1, 0, 0, 0, []), (131, .iadd, 0, 0, 0, []), (132, .iaload, 0, 0, 0, []), (133, .aload_n 0, 0, 0, 0, []), (134, .getfield 56, 28, 8, 0, []), (137, .iload 8, 8, 0, 0, []), (139, .iconst 2, 0, 0, 0, []), (140, .iadd, 0, 0, 0, []), (141, .iaload, 0, 0, 0, []), (142, .invokevirtual 349, 99, 4, 1, []), (145, .ifCond .lt (7), 8, 0, 0, []), (148, .iconst 1, 0, 0, 0, []), (149, .goto (4), 9, 0, 0, [])])
def mk_b160_8 : List Bool × List mj_I := ([true, true, false, true, true, false, true, false, false], [(152, .iconst 0, 0, 0, 0, []), (153, .nop, 9, 0, 0, [])])
def mk_b160_9 : List Bool × List mj_I := ([true, true, false, true, true, false, true, false, false], [(153, .iadd, 0, 0, 0, []), (154, .istore 5, 5, 0, 0, []), (156, .iinc 6 1, 6, 0, 0, []), (159, .goto (-95), 5, 0, 0, [])])
def mk_b160_10 : List Bool × List mj_I := ([false, false, false, false, false, true, false, false, false], [(162, .iload 5, 5, 0, 0, []), (164, .ireturn, 0, 0, 0, [])])
def mk_m160 : Nat × Nat × List (List Bool × List mj_I) := (9, 9, [mk_b160_0, mk_b160_1, mk_b160_2, mk_b160_3, mk_b160_4, mk_b160_5, mk_b160_6, mk_b160_7, mk_b160_8, mk_b160_9, mk_b160_10])
/-- NumbersCalledModel.isUnder(II)Z -/
def mk_b161_0 : List Bool × List mj_I := ([true, true], [(0, .iload_n 1, 1, 0, 0, []), (1, .ifCond .eq (28), 2, 0, 0, []), (4, .iload_n 0, 0, 0, 0, []), (5, .iload_n 1, 1, 0, 0, []), (6, .if_icmp .eq (23), 2, 0, 0, []), (9, .iload_n 1, 1, 0, 0, []), (10, .iconst 2, 0, 0, 0, []), (11, .if_icmp .ne (8), 1, 0, 0, []), (14, .iload_n 0, 0, 0, 0, []), (15, .iconst 3, 0, 0, 0, []), (16, .if_icmp .eq (13), 2, 0, 0, []), (19, .nop, 1, 0, 0, [])])
def mk_b161_1 : List Bool × List mj_I := ([true, true], [(19, .iload_n 1, 1, 0, 0, []), (20, .iconst 1, 0, 0, 0, []), (21, .if_icmp .ne (12), 3, 0, 0, []), (24, .iload_n 0, 0, 0, 0, []), (25, .iconst 5, 0, 0, 0, []), (26, .if_icmp .ne (7), 3, 0, 0, []), (29, .nop, 2, 0, 0, [])])
def mk_b161_2 : List Bool × List mj_I := ([false, false], [(29, .iconst 1, 0, 0, 0, []), (30, .goto (4), 4, 0, 0, [])])
def mk_b161_3 : List Bool × List mj_I := ([false, false], [(33, .iconst 0, 0, 0, 0, []), (34, .nop, 4, 0, 0, [])])
def mk_b161_4 : List Bool × List mj_I := ([false, false], [(34, .ireturn, 0, 0, 1, [])])
def mk_m161 : Nat × Nat × List (List Bool × List mj_I) := (2, 0, [mk_b161_0, mk_b161_1, mk_b161_2, mk_b161_3, mk_b161_4])
/-- NumbersCalledModel.taken(II)I -/
def mk_b162_0 : List Bool × List mj_I := ([true, true, true], [(0, .iload_n 2, 2, 0, 0, []), (1, .iconst 0, 0, 0, 0, []), (2, .bipush 6, 0, 0, 0, []), (4, .invokestatic 115, 72, 3, 1, []), (7, .ifCond .ne (6), 1, 0, 0, []), (10, .bipush (-2), 0, 0, 0, []), (12, .ireturn, 0, 0, 0, [])])
def mk_b162_1 : List Bool × List mj_I := ([true, true, true], [(13, .iload_n 1, 1, 0, 0, []), (14, .iconst 0, 0, 0, 0, []), (15, .bipush 19, 0, 0, 0, []), (17, .invokestatic 115, 72, 3, 1, []), (20, .ifCond .ne (6), 2, 0, 0, []), (23, .bipush (-12), 0, 0, 0, []), (25, .ireturn, 0, 0, 0, [])])
def mk_b162_2 : List Bool × List mj_I := ([true, true, true], [(26, .iload_n 1, 1, 0, 0, []), (27, .iconst 4, 0, 0, 0, []), (28, .if_icmp .ge (36), 6, 0, 0, []), (31, .iload_n 1, 1, 0, 0, []), (32, .aload_n 0, 0, 0, 0, []), (33, .getfield 112, 0, 8, 0, []), (36, .if_icmp .lt (8), 3, 0, 0, []), (39, .bipush (-11), 0, 0, 0, []), (41, .goto (22), 5, 0, 0, [])])
def mk_b162_3 : List Bool × List mj_I := ([true, true, true], [(44, .iload_n 2, 2, 0, 0, []), (45, .bipush 6, 0, 0, 0, []), (47, .if_icmp .ne (14), 4, 0, 0, []), (50, .aload_n 0, 0, 0, 0, []), (51, .getfield 7, 1, 8, 0, []), (54, .iconst 3, 0, 0, 0, []), (55, .iload_n 1, 1, 0, 0, []), (56, .imul, 0, 0, 0, []), (57, .iaload, 0, 0, 0, []), (58, .goto (5), 5, 0, 0, [])])
def mk_b162_4 : List Bool × List mj_I := ([false, false, false], [(61, .bipush (-13), 0, 0, 0, []), (63, .nop, 5, 0, 0, [])])
def mk_b162_5 : List Bool × List mj_I := ([false, false, false], [(63, .ireturn, 0, 0, 0, [])])
def mk_b162_6 : List Bool × List mj_I := ([true, true, true], [(64, .iload_n 1, 1, 0, 0, []), (65, .iconst 4, 0, 0, 0, []), (66, .isub, 0, 0, 0, []), (67, .aload_n 0, 0, 0, 0, []), (68, .getfield 119, 5, 8, 0, []), (71, .if_icmp .lt (8), 7, 0, 0, []), (74, .bipush (-11), 0, 0, 0, []), (76, .goto (32), 9, 0, 0, [])])
def mk_b162_7 : List Bool × List mj_I := ([true, true, true], [(79, .iload_n 2, 2, 0, 0, []), (80, .bipush 6, 0, 0, 0, []), (82, .if_icmp .ge (24), 8, 0, 0, []), (85, .aload_n 0, 0, 0, 0, []), (86, .getfield 20, 6, 8, 0, []), (89, .iload_n 1, 1, 0, 0, []), (90, .iconst 4, 0, 0, 0, []), (91, .isub, 0, 0, 0, []), (92, .iaload, 0, 0, 0, []), (93, .iload_n 2, 2, 0, 0, []), (94, .invokestatic 352, 161, 2, 1, []), (97, .ifCond .eq (9), 8, 0, 0, []), (100, .iload_n 1, 1, 0, 0, []), (101, .iconst 4, 0, 0, 0, []), (102, .isub, 0, 0, 0, []), (103, .goto (5), 9, 0, 0, [])])
def mk_b162_8 : List Bool × List mj_I := ([false, false, false], [(106, .bipush (-13), 0, 0, 0, []), (108, .nop, 9, 0, 0, [])])
def mk_b162_9 : List Bool × List mj_I := ([false, false, false], [(108, .ireturn, 0, 0, 0, [])])
def mk_m162 : Nat × Nat × List (List Bool × List mj_I) := (3, 9, [mk_b162_0, mk_b162_1, mk_b162_2, mk_b162_3, mk_b162_4, mk_b162_5, mk_b162_6, mk_b162_7, mk_b162_8, mk_b162_9])
/-- NumbersCalled$Asker.become(IIII)V -/
def mk_b163_0 : List Bool × List mj_I := ([true, true, true, true, true], [(0, .aload_n 0, 0, 0, 0, []), (1, .iload_n 1, 1, 0, 0, []), (2, .putfield 9, 0, 0, 0, []), (5, .aload_n 0, 0, 0, 0, []), (6, .iload_n 2, 2, 0, 0, []), (7, .putfield 15, 1, 0, 0, []), (10, .aload_n 0, 0, 0, 0, []), (11, .iload_n 3, 3, 0, 0, []), (12, .putfield 18, 2, 0, 0, []), (15, .aload_n 0, 0, 0, 0, []), (16, .iload 4, 4, 0, 0, []), (18, .putfield 21, 3, 0, 0, []), (21, .return_, 0, 0, 0, [])])
def mk_m163 : Nat × Nat × List (List Bool × List mj_I) := (5, 1, [mk_b163_0])
/-- NumbersCalled$Asker.isA(I)Z -/
def mk_b164_0 : List Bool × List mj_I := ([true, true, false, false], [(0, .aload_n 0, 0, 0, 0, []), (1, .getfield 9, 0, 0, 0, []), (4, .istore_n 2, 2, 0, 0, []), (5, .iconst 0, 0, 0, 0, []), (6, .istore_n 3, 3, 0, 0, []), (7, .nop, 1, 0, 0, [])])
def mk_b164_1 : List Bool × List mj_I := ([false, true, true, true], [(7, .iload_n 3, 3, 0, 0, []), (8, .bipush 6, 0, 0, 0, []), (10, .if_icmp .ge (32), 3, 0, 0, []), (13, .iload_n 2, 2, 0, 0, []), (14, .ifCond .lt (28), 3, 0, 0, []), (17, .iload_n 2, 2, 0, 0, []), (18, .bipush 6, 0, 0, 0, []), (20, .if_icmp .ge (22), 3, 0, 0, []), (23, .iload_n 2, 2, 0, 0, []), (24, .iload_n 1, 1, 0, 0, []), (25, .if_icmp .ne (5), 2, 0, 0, []), (28, .iconst 1, 0, 0, 0, []), (29, .ireturn, 0, 0, 1, [])])
def mk_b164_2 : List Bool × List mj_I := ([false, true, true, true], [(30, .getstatic 24, 64, 0, 0, []), (33, .iload_n 2, 2, 0, 0, []), (34, .iaload, 0, 0, 0, []), (35, .istore_n 2, 2, 0, 0, []), (36, .iinc 3 1, 3, 0, 0, []), (39, .goto (-32), 1, 0, 0, [])])
def mk_b164_3 : List Bool × List mj_I := ([false, false, false, false], [(42, .iconst 0, 0, 0, 0, []), (43, .ireturn, 0, 0, 1, [])])
def mk_m164 : Nat × Nat × List (List Bool × List mj_I) := (4, 1, [mk_b164_0, mk_b164_1, mk_b164_2, mk_b164_3])
/-- NumbersCalled$Asker.isOld()Z -/
def mk_b165_0 : List Bool × List mj_I := ([true], [(0, .aload_n 0, 0, 0, 0, []), (1, .getfield 9, 0, 0, 0, []), (4, .iconst 4, 0, 0, 0, []), (5, .if_icmp .ne (7), 1, 0, 0, []), (8, .iconst 1, 0, 0, 0, []), (9, .goto (4), 2, 0, 0, [])])
def mk_b165_1 : List Bool × List mj_I := ([false], [(12, .iconst 0, 0, 0, 0, []), (13, .nop, 2, 0, 0, [])])
def mk_b165_2 : List Bool × List mj_I := ([false], [(13, .ireturn, 0, 0, 1, [])])
def mk_m165 : Nat × Nat × List (List Bool × List mj_I) := (1, 1, [mk_b165_0, mk_b165_1, mk_b165_2])
/-- NumbersCalled$Asker.isBack()Z -/
def mk_b166_0 : List Bool × List mj_I := ([true], [(0, .aload_n 0, 0, 0, 0, []), (1, .getfield 9, 0, 0, 0, []), (4, .iconst 3, 0, 0, 0, []), (5, .if_icmp .ne (7), 1, 0, 0, []), (8, .iconst 1, 0, 0, 0, []), (9, .goto (4), 2, 0, 0, [])])
def mk_b166_1 : List Bool × List mj_I := ([false], [(12, .iconst 0, 0, 0, 0, []), (13, .nop, 2, 0, 0, [])])
def mk_b166_2 : List Bool × List mj_I := ([false], [(13, .ireturn, 0, 0, 1, [])])
def mk_m166 : Nat × Nat × List (List Bool × List mj_I) := (1, 1, [mk_b166_0, mk_b166_1, mk_b166_2])
/-- NumbersCalled$Asker.needs()I -/
def mk_b167_0 : List Bool × List mj_I := ([true], [(0, .aload_n 0, 0, 0, 0, []), (1, .getfield 9, 0, 0, 0, []), (4, .iconst 2, 0, 0, 0, []), (5, .if_icmp .ne (14), 1, 0, 0, []), (8, .aload_n 0, 0, 0, 0, []), (9, .getfield 15, 1, 0, 0, []), (12, .iconst 1, 0, 0, 0, []), (13, .iadd, 0, 0, 0, []), (14, .iconst 4, 0, 0, 0, []), (15, .irem, 0, 0, 0, []), (16, .goto (7), 2, 0, 0, [])])
def mk_b167_1 : List Bool × List mj_I := ([true], [(19, .aload_n 0, 0, 0, 0, []), (20, .getfield 15, 1, 0, 0, []), (23, .nop, 2, 0, 0, [])])
def mk_b167_2 : List Bool × List mj_I := ([false], [(23, .ireturn, 0, 0, 0, [])])
def mk_m167 : Nat × Nat × List (List Bool × List mj_I) := (1, 1, [mk_b167_0, mk_b167_1, mk_b167_2])
/-- NumbersCalled$Asker.isThere(II)Z -/
def mk_b168_0 : List Bool × List mj_I := ([true, true, true, false], [(0, .aload_n 0, 0, 0, 0, []), (1, .getfield 9, 0, 0, 0, []), (4, .iconst 5, 0, 0, 0, []), (5, .if_icmp .ne (11), 1, 0, 0, []), (8, .iload_n 1, 1, 0, 0, []), (9, .bipush 30, 0, 0, 0, []), (11, .if_icmp .lt (5), 1, 0, 0, []), (14, .iconst 1, 0, 0, 0, []), (15, .ireturn, 0, 0, 1, [])])
def mk_b168_1 : List Bool × List mj_I := ([true, true, true, false], [(16, .iload_n 1, 1, 0, 0, []), (17, .iload_n 2, 2, 0, 0, []), (18, .iconst 0, 0, 0, 0, []), (19, .sipush 999, 0, 0, 0, []), (22, .invokestatic 28, 45, 3, 1, []), (25, .if_icmp .le (5), 2, 0, 0, []), (28, .iconst 0, 0, 0, 0, []), (29, .ireturn, 0, 0, 1, [])])
def mk_b168_2 : List Bool × List mj_I := ([true, true, false, false], [(30, .aload_n 0, 0, 0, 0, []), (31, .getfield 9, 0, 0, 0, []), (34, .iconst 1, 0, 0, 0, []), (35, .if_icmp .eq (11), 3, 0, 0, []), (38, .aload_n 0, 0, 0, 0, []), (39, .getfield 9, 0, 0, 0, []), (42, .iconst 5, 0, 0, 0, []), (43, .if_icmp .ne (7), 4, 0, 0, []), (46, .nop, 3, 0, 0, [])])
def mk_b168_3 : List Bool × List mj_I := ([true, true, false, false], [(46, .iconst 1, 0, 0, 0, []), (47, .goto (4), 5, 0, 0, [])])
def mk_b168_4 : List Bool × List mj_I := ([true, true, false, false], [(50, .iconst 0, 0, 0, 0, []), (51, .nop, 5, 0, 0, [])])
def mk_b168_5 : List Bool × List mj_I := ([true, true, false, false], [(51, .istore_n 3, 3, 0, 0, []), (52, .iload_n 3, 3, 0, 0, []), (53, .ifCond .eq (20), 6, 0, 0, []), (56, .iload_n 1, 1, 0, 0, []), (57, .iconst 2, 0, 0, 0, []), (58, .aload_n 0, 0, 0, 0, []), (59, .getfield 21, 3, 0, 0, []), (62, .iconst 2, 0, 0, 0, []), (63, .iadd, 0, 0, 0, []), (64, .invokestatic 32, 0, 0, 5, []), (67, .idiv, 0, 0, 0, []), (68, .iconst 2, 0, 0, 0, []), (69, .irem, 0, 0, 0, []), (70, .ifCond .ne (7), 7, 0, 0, []), (73, .nop, 6, 0, 0, [])])
def mk_b168_6 : List Bool × List mj_I := ([false, false, false, false], [(73, .iconst 1, 0, 0, 0, []), (74, .goto (4), 8, 0, 0, [])])
def mk_b168_7 : List Bool × List mj_I := ([false, false, false, false], [(77, .iconst 0, 0, 0, 0, []), (78, .nop, 8, 0, 0, [])])
def mk_b168_8 : List Bool × List mj_I := ([false, false, false, false], [(78, .ireturn, 0, 0, 1, [])])
def mk_m168 : Nat × Nat × List (List Bool × List mj_I) := (4, 1, [mk_b168_0, mk_b168_1, mk_b168_2, mk_b168_3, mk_b168_4, mk_b168_5, mk_b168_6, mk_b168_7, mk_b168_8])
/-- NumbersCalled$Asker.takes(IZ)I -/
def mk_b169_0 : List Bool × List mj_I := ([true, true, true, false], [(0, .iload_n 1, 1, 0, 0, []), (1, .iconst 1, 0, 0, 0, []), (2, .bipush 60, 0, 0, 0, []), (4, .invokestatic 28, 45, 3, 1, []), (7, .istore_n 3, 3, 0, 0, []), (8, .aload_n 0, 0, 0, 0, []), (9, .getfield 9, 0, 0, 0, []), (12, .iconst 3, 0, 0, 0, []), (13, .if_icmp .ne (19), 1, 0, 0, []), (16, .iload_n 2, 2, 0, 0, []), (17, .ifCond .ne (15), 1, 0, 0, []), (20, .iconst 2, 0, 0, 0, []), (21, .iload_n 3, 3, 0, 0, []), (22, .imul, 0, 0, 0, []), (23, .iconst 1, 0, 0, 0, []), (24, .bipush 60, 0, 0, 0, []), (26, .invokestatic 28, 45, 3, 1, []), (29, .goto (4), 2, 0, 0, [])])
def mk_b169_1 : List Bool × List mj_I := ([false, false, false, true], [(32, .iload_n 3, 3, 0, 0, []), (33, .nop, 2, 0, 0, [])])
def mk_b169_2 : List Bool × List mj_I := ([false, false, false, false], [(33, .ireturn, 0, 0, 0, [])])
def mk_m169 : Nat × Nat × List (List Bool × List mj_I) := (4, 1, [mk_b169_0, mk_b169_1, mk_b169_2])
/-- NumbersCalled$Day.run([LNumbersCalled$Asker;LNumbersCalled$Text;)V -/
def mk_b170_0 : List Bool × List mj_I := ([true, true, true, false, false, false], [(0, .aload_n 0, 0, 0, 0, []), (1, .aload_n 1, 1, 0, 0, []), (2, .invokevirtual 53, 171, 2, 0, []), (5, .iconst 0, 0, 0, 0, []), (6, .istore_n 3, 3, 0, 0, []), (7, .nop, 1, 0, 0, [])])
def mk_b170_1 : List Bool × List mj_I := ([true, true, true, true, false, false], [(7, .iload_n 3, 3, 0, 0, []), (8, .sipush 240, 0, 0, 0, []), (11, .if_icmp .ge (119), 8, 0, 0, []), (14, .aload_n 0, 0, 0, 0, []), (15, .getfield 46, 10, 1, 0, []), (18, .ifCond .le (8), 2, 0, 0, []), (21, .aload_n 0, 0, 0, 0, []), (22, .iload_n 3, 3, 0, 0, []), (23, .invokevirtual 57, 174, 2, 0, []), (26, .nop, 2, 0, 0, [])])
def mk_b170_2 : List Bool × List mj_I := ([true, true, true, true, false, false], [(26, .iconst 0, 0, 0, 0, []), (27, .istore 4, 4, 0, 0, []), (29, .nop, 3, 0, 0, [])])
def mk_b170_3 : List Bool × List mj_I := ([true, true, true, true, true, false], [(29, .iload 4, 4, 0, 0, []), (31, .aload_n 0, 0, 0, 0, []), (32, .getfield 12, 0, 1, 0, []), (35, .getfield 61, 0, 3, 0, []), (38, .if_icmp .ge (86), 7, 0, 0, []), (41, .iload_n 3, 3, 0, 0, []), (42, .aload_n 0, 0, 0, 0, []), (43, .getfield 40, 8, 1, 0, []), (46, .iload 4, 4, 0, 0, []), (48, .iaload, 0, 0, 0, []), (49, .if_icmp .lt (69), 6, 0, 0, []), (52, .aload_n 0, 0, 0, 0, []), (53, .getfield 12, 0, 1, 0, []), (56, .iload 4, 4, 0, 0, []), (58, .iload_n 3, 3, 0, 0, []), (59, .invokevirtual 64, 193, 3, 1, []), (62, .ifCond .eq (6), 4, 0, 0, []), (65, .goto (53), 6, 0, 0, [])])
def mk_b170_4 : List Bool × List mj_I := ([true, true, true, true, true, false], [(68, .aload_n 0, 0, 0, 0, []), (69, .aload_n 0, 0, 0, 0, []), (70, .getfield 12, 0, 1, 0, []), (73, .getfield 68, 1, 3, 0, []), (76, .iload 4, 4, 0, 0, []), (78, .iaload, 0, 0, 0, []), (79, .invokevirtual 71, 176, 2, 1, []), (82, .istore 5, 5, 0, 0, []), (84, .iload 5, 5, 0, 0, []), (86, .iconst (-1), 0, 0, 0, []), (87, .if_icmp .ne (17), 5, 0, 0, []), (90, .aload_n 0, 0, 0, 0, []), (91, .getfield 34, 6, 1, 0, []), (94, .iload 4, 4, 0, 0, []), (96, .dup2, 0, 0, 0, []), (97, .iaload, 0, 0, 0, []), (98, .iconst 1, 0, 0, 0, []), (99, .iadd, 0, 0, 0, []), (100, .iastore, 0, 0, 0, []), (101, .goto (17), 6, 0, 0, [])])
def mk_b170_5 : List Bool × List mj_I := ([true, true, true, true, true, true], [(104, .aload_n 0, 0, 0, 0, []), (105, .aload_n 1, 1, 0, 0, []), (106, .iload 5, 5, 0, 0, []), (108, .aaload, 0, 0, 0, []), (109, .aload_n 2, 2, 0, 0, []), (110, .iload 5, 5, 0, 0, []), (112, .iload 4, 4, 0, 0, []), (114, .iload_n 3, 3, 0, 0, []), (115, .invokevirtual 75, 177, 6, 0, []), (118, .nop, 6, 0, 0, [])])
def mk_b170_6 : List Bool × List mj_I := ([true, true, true, true, true, false], [(118, .iinc 4 1, 4, 0, 0, []), (121, .goto (-92), 3, 0, 0, [])])
def mk_b170_7 : List Bool × List mj_I := ([true, true, true, true, false, false], [(124, .iinc 3 1, 3, 0, 0, []), (127, .goto (-120), 1, 0, 0, [])])
def mk_b170_8 : List Bool × List mj_I := ([false, false, false, false, false, false], [(130, .return_, 0, 0, 0, [])])
def mk_m170 : Nat × Nat × List (List Bool × List mj_I) := (6, 2, [mk_b170_0, mk_b170_1, mk_b170_2, mk_b170_3, mk_b170_4, mk_b170_5, mk_b170_6, mk_b170_7, mk_b170_8])
/-- NumbersCalled$Day.begin([LNumbersCalled$Asker;)V -/
def mk_b171_0 : List Bool × List mj_I := ([true, true, false], [(0, .iconst 0, 0, 0, 0, []), (1, .istore_n 2, 2, 0, 0, []), (2, .nop, 1, 0, 0, [])])
def mk_b171_1 : List Bool × List mj_I := ([true, true, true], [(2, .iload_n 2, 2, 0, 0, []), (3, .aload_n 0, 0, 0, 0, []), (4, .getfield 12, 0, 1, 0, []), (7, .getfield 61, 0, 3, 0, []), (10, .if_icmp .ge (23), 2, 0, 0, []), (13, .aload_n 0, 0, 0, 0, []), (14, .getfield 40, 8, 1, 0, []), (17, .iload_n 2, 2, 0, 0, []), (18, .iconst 0, 0, 0, 0, []), (19, .iastore, 0, 0, 0, []), (20, .aload_n 0, 0, 0, 0, []), (21, .getfield 34, 6, 1, 0, []), (24, .iload_n 2, 2, 0, 0, []), (25, .iconst 0, 0, 0, 0, []), (26, .iastore, 0, 0, 0, []), (27, .iinc 2 1, 2, 0, 0, []), (30, .goto (-28), 1, 0, 0, [])])
def mk_b171_2 : List Bool × List mj_I := ([true, true, false], [(33, .iconst 0, 0, 0, 0, []), (34, .istore_n 2, 2, 0, 0, []), (35, .nop, 3, 0, 0, [])])
def mk_b171_3 : List Bool × List mj_I := ([true, true, true], [(35, .iload_n 2, 2, 0, 0, []), (36, .aload_n 0, 0, 0, 0, []), (37, .getfield 12, 0, 1, 0, []), (40, .getfield 79, 4, 3, 0, []), (43, .if_icmp .ge (105), 6, 0, 0, []), (46, .aload_n 0, 0, 0, 0, []), (47, .getfield 18, 1, 1, 0, []), (50, .iload_n 2, 2, 0, 0, []), (51, .iconst 0, 0, 0, 0, []), (52, .iastore, 0, 0, 0, []), (53, .aload_n 0, 0, 0, 0, []), (54, .getfield 22, 2, 1, 0, []), (57, .iload_n 2, 2, 0, 0, []), (58, .iconst (-1), 0, 0, 0, []), (59, .iastore, 0, 0, 0, []), (60, .aload_n 0, 0, 0, 0, []), (61, .getfield 25, 3, 1, 0, []), (64, .iload_n 2, 2, 0, 0, []), (65, .iconst (-1), 0, 0, 0, []), (66, .iastore, 0, 0, 0, []), (67, .aload_n 0, 0, 0, 0, []), (68, .getfield 28, 4, 1, 0, []), (71, .iload_n 2, 2, 0, 0, []), (72, .iconst (-1), 0, 0, 0, []), (73, .iastore, 0, 0, 0, []), (74, .aload_n 0, 0, 0, 0, []), (75, .getfield 31, 5, 1, 0, []), (78, .iload_n 2, 2, 0, 0, []), (79, .iconst 0, 0, 0, 0, []), (80, .iastore, 0, 0, 0, []), (81, .aload_n 0, 0, 0, 0, []), (82, .getfield 37, 7, 1, 0, []), (85, .iload_n 2, 2, 0, 0, []), (86, .aload_n 0, 0, 0, 0, []), (87, .getfield 12, 0, 1, 0, []), (90, .getfield 82, 11, 3, 1, []), (93, .ifCond .eq (12), 4, 0, 0, []), (96, .aload_n 1, 1, 0, 0, []), (97, .iload_n 2, 2, 0, 0, []), (98, .aaload, 0, 0, 0, []), (99, .invokevirtual 86, 167, 1, 1, []), (102, .goto (9), 5, 0, 0, [])])
def mk_b171_4 : List Bool × List mj_I := ([true, true, true], [(105, .aload_n 1, 1, 0, 0, []), (106, .iload_n 2, 2, 0, 0, []), (107, .aaload, 0, 0, 0, []), (108, .getfield 92, 1, 0, 0, []), (111, .nop, 5, 0, 0, [])])
def mk_b171_5 : List Bool × List mj_I := ([true, true, true], [(111, .iastore, 0, 0, 0, []), (112, .aload_n 0, 0, 0, 0, []), (113, .iload_n 2, 2, 0, 0, []), (114, .aload_n 0, 0, 0, 0, []), (115, .aload_n 1, 1, 0, 0, []), (116, .iload_n 2, 2, 0, 0, []), (117, .aaload, 0, 0, 0, []), (118, .invokevirtual 95, 172, 2, 1, []), (121, .bipush 120, 0, 0, 0, []), (123, .imul, 0, 0, 0, []), (124, .aload_n 0, 0, 0, 0, []), (125, .getfield 12, 0, 1, 0, []), (128, .getfield 99, 5, 3, 0, []), (131, .iload_n 2, 2, 0, 0, []), (132, .iaload, 0, 0, 0, []), (133, .iadd, 0, 0, 0, []), (134, .bipush 16, 0, 0, 0, []), (136, .imul, 0, 0, 0, []), (137, .iload_n 2, 2, 0, 0, []), (138, .iadd, 0, 0, 0, []), (139, .invokevirtual 102, 173, 3, 0, []), (142, .iinc 2 1, 2, 0, 0, []), (145, .goto (-110), 3, 0, 0, [])])
def mk_b171_6 : List Bool × List mj_I := ([true, false, false], [(148, .aload_n 0, 0, 0, 0, []), (149, .aload_n 0, 0, 0, 0, []), (150, .getfield 12, 0, 1, 0, []), (153, .getfield 79, 4, 3, 0, []), (156, .putfield 46, 10, 1, 0, []), (159, .aload_n 0, 0, 0, 0, []), (160, .iconst 0, 0, 0, 0, []), (161, .putfield 50, 11, 1, 0, []), (164, .return_, 0, 0, 0, [])])
def mk_m171 : Nat × Nat × List (List Bool × List mj_I) := (3, 2, [mk_b171_0, mk_b171_1, mk_b171_2, mk_b171_3, mk_b171_4, mk_b171_5, mk_b171_6])
/-- NumbersCalled$Day.rank(LNumbersCalled$Asker;)I -/
def mk_b172_0 : List Bool × List mj_I := ([true, true], [(0, .aload_n 0, 0, 0, 0, []), (1, .getfield 12, 0, 1, 0, []), (4, .getfield 106, 6, 3, 0, []), (7, .tableswitch (56) 1 3 #[25, 38, 43], 8, 0, 0, [(1, 1), (2, 4), (3, 5)])])
def mk_b172_1 : List Bool × List mj_I := ([false, true], [(32, .aload_n 1, 1, 0, 0, []), (33, .invokevirtual 109, 165, 1, 1, []), (36, .ifCond .eq (7), 2, 0, 0, []), (39, .iconst 0, 0, 0, 0, []), (40, .goto (4), 3, 0, 0, [])])
def mk_b172_2 : List Bool × List mj_I := ([false, false], [(43, .iconst 1, 0, 0, 0, []), (44, .nop, 3, 0, 0, [])])
def mk_b172_3 : List Bool × List mj_I := ([false, false], [(44, .ireturn, 0, 0, 0, [])])
def mk_b172_4 : List Bool × List mj_I := ([false, true], [(45, .aload_n 1, 1, 0, 0, []), (46, .getfield 113, 2, 0, 0, []), (49, .ireturn, 0, 0, 0, [])])
def mk_b172_5 : List Bool × List mj_I := ([false, true], [(50, .aload_n 1, 1, 0, 0, []), (51, .invokevirtual 116, 166, 1, 1, []), (54, .ifCond .eq (7), 6, 0, 0, []), (57, .iconst 0, 0, 0, 0, []), (58, .goto (4), 7, 0, 0, [])])
def mk_b172_6 : List Bool × List mj_I := ([false, false], [(61, .iconst 1, 0, 0, 0, []), (62, .nop, 7, 0, 0, [])])
def mk_b172_7 : List Bool × List mj_I := ([false, false], [(62, .ireturn, 0, 0, 0, [])])
def mk_b172_8 : List Bool × List mj_I := ([false, false], [(63, .iconst 0, 0, 0, 0, []), (64, .ireturn, 0, 0, 0, [])])
def mk_m172 : Nat × Nat × List (List Bool × List mj_I) := (2, 2, [mk_b172_0, mk_b172_1, mk_b172_2, mk_b172_3, mk_b172_4, mk_b172_5, mk_b172_6, mk_b172_7, mk_b172_8])
/-- NumbersCalled$Day.lineUp(II)V -/
def mk_b173_0 : List Bool × List mj_I := ([true, true, true, false], [(0, .iload_n 1, 1, 0, 0, []), (1, .istore_n 3, 3, 0, 0, []), (2, .nop, 1, 0, 0, [])])
def mk_b173_1 : List Bool × List mj_I := ([true, false, true, true], [(2, .iload_n 3, 3, 0, 0, []), (3, .ifCond .le (35), 2, 0, 0, []), (6, .aload_n 0, 0, 0, 0, []), (7, .getfield 43, 9, 1, 0, []), (10, .iload_n 3, 3, 0, 0, []), (11, .iconst 1, 0, 0, 0, []), (12, .isub, 0, 0, 0, []), (13, .iaload, 0, 0, 0, []), (14, .iload_n 2, 2, 0, 0, []), (15, .if_icmp .le (23), 2, 0, 0, []), (18, .aload_n 0, 0, 0, 0, []), (19, .getfield 43, 9, 1, 0, []), (22, .iload_n 3, 3, 0, 0, []), (23, .aload_n 0, 0, 0, 0, []), (24, .getfield 43, 9, 1, 0, []), (27, .iload_n 3, 3, 0, 0, []), (28, .iconst 1, 0, 0, 0, []), (29, .isub, 0, 0, 0, []), (30, .iaload, 0, 0, 0, []), (31, .iastore, 0, 0, 0, []), (32, .iinc 3 (-1), 3, 0, 0, []), (35, .goto (-33), 1, 0, 0, [])])
def mk_b173_2 : List Bool × List mj_I := ([true, false, true, true], [(38, .aload_n 0, 0, 0, 0, []), (39, .getfield 43, 9, 1, 0, []), (42, .iload_n 3, 3, 0, 0, []), (43, .iload_n 2, 2, 0, 0, []), (44, .iastore, 0, 0, 0, []), (45, .return_, 0, 0, 0, [])])
def mk_m173 : Nat × Nat × List (List Bool × List mj_I) := (4, 2, [mk_b173_0, mk_b173_1, mk_b173_2])
/-- NumbersCalled$Day.letIn(I)V -/
def mk_b174_0 : List Bool × List mj_I := ([true, true, false], [(0, .iconst 0, 0, 0, 0, []), (1, .istore_n 2, 2, 0, 0, []), (2, .nop, 1, 0, 0, [])])
def mk_b174_1 : List Bool × List mj_I := ([true, true, true], [(2, .iload_n 2, 2, 0, 0, []), (3, .aload_n 0, 0, 0, 0, []), (4, .getfield 12, 0, 1, 0, []), (7, .getfield 79, 4, 3, 0, []), (10, .if_icmp .ge (54), 5, 0, 0, []), (13, .aload_n 0, 0, 0, 0, []), (14, .getfield 12, 0, 1, 0, []), (17, .getfield 99, 5, 3, 0, []), (20, .iload_n 2, 2, 0, 0, []), (21, .iaload, 0, 0, 0, []), (22, .iload_n 1, 1, 0, 0, []), (23, .if_icmp .ne (35), 4, 0, 0, []), (26, .aload_n 0, 0, 0, 0, []), (27, .getfield 18, 1, 1, 0, []), (30, .iload_n 2, 2, 0, 0, []), (31, .iload_n 1, 1, 0, 0, []), (32, .aload_n 0, 0, 0, 0, []), (33, .getfield 12, 0, 1, 0, []), (36, .getfield 119, 8, 3, 0, []), (39, .if_icmp .ge (7), 2, 0, 0, []), (42, .iconst 1, 0, 0, 0, []), (43, .goto (4), 3, 0, 0, [])])
def mk_b174_2 : List Bool × List mj_I := ([true, true, true], [(46, .iconst 4, 0, 0, 0, []), (47, .nop, 3, 0, 0, [])])
def mk_b174_3 : List Bool × List mj_I := ([true, true, true], [(47, .iastore, 0, 0, 0, []), (48, .aload_n 0, 0, 0, 0, []), (49, .dup, 0, 0, 0, []), (50, .getfield 46, 10, 1, 0, []), (53, .iconst 1, 0, 0, 0, []), (54, .isub, 0, 0, 0, []), (55, .putfield 46, 10, 1, 0, []), (58, .nop, 4, 0, 0, [])])
def mk_b174_4 : List Bool × List mj_I := ([true, true, true], [(58, .iinc 2 1, 2, 0, 0, []), (61, .goto (-59), 1, 0, 0, [])])
def mk_b174_5 : List Bool × List mj_I := ([true, false, false], [(64, .aload_n 0, 0, 0, 0, []), (65, .invokevirtual 122, 175, 1, 0, []), (68, .return_, 0, 0, 0, [])])
def mk_m174 : Nat × Nat × List (List Bool × List mj_I) := (3, 2, [mk_b174_0, mk_b174_1, mk_b174_2, mk_b174_3, mk_b174_4, mk_b174_5])
/-- NumbersCalled$Day.lookAround()V -/
def mk_b175_0 : List Bool × List mj_I := ([true, false], [(0, .aload_n 0, 0, 0, 0, []), (1, .iconst 0, 0, 0, 0, []), (2, .putfield 50, 11, 1, 0, []), (5, .iconst 0, 0, 0, 0, []), (6, .istore_n 1, 1, 0, 0, []), (7, .nop, 1, 0, 0, [])])
def mk_b175_1 : List Bool × List mj_I := ([true, true], [(7, .iload_n 1, 1, 0, 0, []), (8, .aload_n 0, 0, 0, 0, []), (9, .getfield 12, 0, 1, 0, []), (12, .getfield 79, 4, 3, 0, []), (15, .if_icmp .ge (36), 3, 0, 0, []), (18, .aload_n 0, 0, 0, 0, []), (19, .getfield 18, 1, 1, 0, []), (22, .iload_n 1, 1, 0, 0, []), (23, .iaload, 0, 0, 0, []), (24, .iconst 1, 0, 0, 0, []), (25, .if_icmp .ne (20), 2, 0, 0, []), (28, .aload_n 0, 0, 0, 0, []), (29, .dup, 0, 0, 0, []), (30, .getfield 50, 11, 1, 0, []), (33, .iconst 1, 0, 0, 0, []), (34, .aload_n 0, 0, 0, 0, []), (35, .getfield 37, 7, 1, 0, []), (38, .iload_n 1, 1, 0, 0, []), (39, .iaload, 0, 0, 0, []), (40, .ishl, 0, 0, 0, []), (41, .ior, 0, 0, 0, []), (42, .putfield 50, 11, 1, 0, []), (45, .nop, 2, 0, 0, [])])
def mk_b175_2 : List Bool × List mj_I := ([true, true], [(45, .iinc 1 1, 1, 0, 0, []), (48, .goto (-41), 1, 0, 0, [])])
def mk_b175_3 : List Bool × List mj_I := ([false, false], [(51, .return_, 0, 0, 0, [])])
def mk_m175 : Nat × Nat × List (List Bool × List mj_I) := (2, 2, [mk_b175_0, mk_b175_1, mk_b175_2, mk_b175_3])
/-- NumbersCalled$Day.firstFor(I)I -/
def mk_b176_0 : List Bool × List mj_I := ([true, true, false, false], [(0, .iload_n 1, 1, 0, 0, []), (1, .aload_n 0, 0, 0, 0, []), (2, .getfield 50, 11, 1, 0, []), (5, .iand, 0, 0, 0, []), (6, .ifCond .ne (5), 1, 0, 0, []), (9, .iconst (-1), 0, 0, 0, []), (10, .ireturn, 0, 0, 0, [])])
def mk_b176_1 : List Bool × List mj_I := ([true, true, false, false], [(11, .iconst 0, 0, 0, 0, []), (12, .istore_n 2, 2, 0, 0, []), (13, .nop, 2, 0, 0, [])])
def mk_b176_2 : List Bool × List mj_I := ([true, true, true, false], [(13, .iload_n 2, 2, 0, 0, []), (14, .aload_n 0, 0, 0, 0, []), (15, .getfield 12, 0, 1, 0, []), (18, .getfield 79, 4, 3, 0, []), (21, .if_icmp .ge (45), 4, 0, 0, []), (24, .aload_n 0, 0, 0, 0, []), (25, .getfield 43, 9, 1, 0, []), (28, .iload_n 2, 2, 0, 0, []), (29, .iaload, 0, 0, 0, []), (30, .bipush 16, 0, 0, 0, []), (32, .irem, 0, 0, 0, []), (33, .istore_n 3, 3, 0, 0, []), (34, .aload_n 0, 0, 0, 0, []), (35, .getfield 18, 1, 1, 0, []), (38, .iload_n 3, 3, 0, 0, []), (39, .iaload, 0, 0, 0, []), (40, .iconst 1, 0, 0, 0, []), (41, .if_icmp .ne (19), 3, 0, 0, []), (44, .iload_n 1, 1, 0, 0, []), (45, .aload_n 0, 0, 0, 0, []), (46, .getfield 37, 7, 1, 0, []), (49, .iload_n 3, 3, 0, 0, []), (50, .iaload, 0, 0, 0, []), (51, .ishr, 0, 0, 0, []), (52, .iconst 1, 0, 0, 0, []), (53, .iand, 0, 0, 0, []), (54, .iconst 1, 0, 0, 0, []), (55, .if_icmp .ne (5), 3, 0, 0, []), (58, .iload_n 3, 3, 0, 0, []), (59, .ireturn, 0, 0, 0, [])])
def mk_b176_3 : List Bool × List mj_I := ([true, true, true, false], [(60, .iinc 2 1, 2, 0, 0, []), (63, .goto (-50), 2, 0, 0, [])])
def mk_b176_4 : List Bool × List mj_I := ([false, false, false, false], [(66, .iconst (-1), 0, 0, 0, []), (67, .ireturn, 0, 0, 0, [])])
def mk_m176 : Nat × Nat × List (List Bool × List mj_I) := (4, 2, [mk_b176_0, mk_b176_1, mk_b176_2, mk_b176_3, mk_b176_4])
/-- NumbersCalled$Day.beckon(LNumbersCalled$Asker;LNumbersCalled$Text;III)V -/
def mk_b177_0 : List Bool × List mj_I := ([true, true, true, true, true, true, false, false], [(0, .iload 5, 5, 0, 0, []), (2, .aload_n 0, 0, 0, 0, []), (3, .getfield 12, 0, 1, 0, []), (6, .getfield 99, 5, 3, 0, []), (9, .iload_n 3, 3, 0, 0, []), (10, .iaload, 0, 0, 0, []), (11, .isub, 0, 0, 0, []), (12, .istore 6, 6, 0, 0, []), (14, .aload_n 0, 0, 0, 0, []), (15, .getfield 31, 5, 1, 0, []), (18, .iload_n 3, 3, 0, 0, []), (19, .dup2, 0, 0, 0, []), (20, .iaload, 0, 0, 0, []), (21, .iconst 1, 0, 0, 0, []), (22, .iadd, 0, 0, 0, []), (23, .iastore, 0, 0, 0, []), (24, .aload_n 1, 1, 0, 0, []), (25, .iload 6, 6, 0, 0, []), (27, .aload_n 2, 2, 0, 0, []), (28, .iconst 1, 0, 0, 0, []), (29, .aload_n 1, 1, 0, 0, []), (30, .iload 6, 6, 0, 0, []), (32, .iconst 0, 0, 0, 0, []), (33, .iconst 0, 0, 0, 0, []), (34, .invokevirtual 127, 215, 6, 1, []), (37, .invokevirtual 131, 168, 3, 1, []), (40, .ifCond .ne (29), 1, 0, 0, []), (43, .aload_n 0, 0, 0, 0, []), (44, .getfield 31, 5, 1, 0, []), (47, .iload_n 3, 3, 0, 0, []), (48, .iaload, 0, 0, 0, []), (49, .aload_n 0, 0, 0, 0, []), (50, .getfield 12, 0, 1, 0, []), (53, .getfield 134, 7, 3, 0, []), (56, .if_icmp .lt (125), 3, 0, 0, []), (59, .aload_n 0, 0, 0, 0, []), (60, .getfield 18, 1, 1, 0, []), (63, .iload_n 3, 3, 0, 0, []), (64, .iconst 3, 0, 0, 0, []), (65, .iastore, 0, 0, 0, []), (66, .goto (115), 3, 0, 0, [])])
def mk_b177_1 : List Bool × List mj_I := ([true, true, true, true, true, true, true, false], [(69, .aload_n 0, 0, 0, 0, []), (70, .getfield 12, 0, 1, 0, []), (73, .getfield 68, 1, 3, 0, []), (76, .iload 4, 4, 0, 0, []), (78, .iaload, 0, 0, 0, []), (79, .aload_n 1, 1, 0, 0, []), (80, .invokevirtual 86, 167, 1, 1, []), (83, .ishr, 0, 0, 0, []), (84, .iconst 1, 0, 0, 0, []), (85, .iand, 0, 0, 0, []), (86, .ifCond .ne (16), 2, 0, 0, []), (89, .aload_n 0, 0, 0, 0, []), (90, .getfield 37, 7, 1, 0, []), (93, .iload_n 3, 3, 0, 0, []), (94, .aload_n 1, 1, 0, 0, []), (95, .invokevirtual 86, 167, 1, 1, []), (98, .iastore, 0, 0, 0, []), (99, .goto (82), 3, 0, 0, [])])
def mk_b177_2 : List Bool × List mj_I := ([true, true, true, true, true, true, true, false], [(102, .aload_n 2, 2, 0, 0, []), (103, .iconst 0, 0, 0, 0, []), (104, .aload_n 1, 1, 0, 0, []), (105, .iload 6, 6, 0, 0, []), (107, .aload_n 0, 0, 0, 0, []), (108, .getfield 12, 0, 1, 0, []), (111, .getfield 137, 2, 3, 0, []), (114, .iload 4, 4, 0, 0, []), (116, .iaload, 0, 0, 0, []), (117, .iconst 0, 0, 0, 0, []), (118, .invokevirtual 127, 215, 6, 1, []), (121, .istore 7, 7, 0, 0, []), (123, .aload_n 0, 0, 0, 0, []), (124, .getfield 18, 1, 1, 0, []), (127, .iload_n 3, 3, 0, 0, []), (128, .iconst 2, 0, 0, 0, []), (129, .iastore, 0, 0, 0, []), (130, .aload_n 0, 0, 0, 0, []), (131, .getfield 22, 2, 1, 0, []), (134, .iload_n 3, 3, 0, 0, []), (135, .iload 5, 5, 0, 0, []), (137, .iastore, 0, 0, 0, []), (138, .aload_n 0, 0, 0, 0, []), (139, .getfield 25, 3, 1, 0, []), (142, .iload_n 3, 3, 0, 0, []), (143, .iload 5, 5, 0, 0, []), (145, .aload_n 1, 1, 0, 0, []), (146, .iload 7, 7, 0, 0, []), (148, .aload_n 0, 0, 0, 0, []), (149, .getfield 12, 0, 1, 0, []), (152, .getfield 140, 10, 3, 1, []), (155, .invokevirtual 143, 169, 3, 1, []), (158, .iadd, 0, 0, 0, []), (159, .iastore, 0, 0, 0, []), (160, .aload_n 0, 0, 0, 0, []), (161, .getfield 28, 4, 1, 0, []), (164, .iload_n 3, 3, 0, 0, []), (165, .iload 4, 4, 0, 0, []), (167, .iastore, 0, 0, 0, []), (168, .aload_n 0, 0, 0, 0, []), (169, .getfield 40, 8, 1, 0, []), (172, .iload 4, 4, 0, 0, []), (174, .aload_n 0, 0, 0, 0, []), (175, .getfield 25, 3, 1, 0, []), (178, .iload_n 3, 3, 0, 0, []), (179, .iaload, 0, 0, 0, []), (180, .iastore, 0, 0, 0, []), (181, .nop, 3, 0, 0, [])])
def mk_b177_3 : List Bool × List mj_I := ([true, false, false, false, false, false, false, false], [(181, .aload_n 0, 0, 0, 0, []), (182, .invokevirtual 122, 175, 1, 0, []), (185, .return_, 0, 0, 0, [])])
def mk_m177 : Nat × Nat × List (List Bool × List mj_I) := (8, 2, [mk_b177_0, mk_b177_1, mk_b177_2, mk_b177_3])
/-- NumbersCalled$Day.waited(I)I -/
def mk_b178_0 : List Bool × List mj_I := ([true, true], [(0, .aload_n 0, 0, 0, 0, []), (1, .getfield 18, 1, 1, 0, []), (4, .iload_n 1, 1, 0, 0, []), (5, .iaload, 0, 0, 0, []), (6, .iconst 2, 0, 0, 0, []), (7, .if_icmp .ne (22), 1, 0, 0, []), (10, .aload_n 0, 0, 0, 0, []), (11, .getfield 22, 2, 1, 0, []), (14, .iload_n 1, 1, 0, 0, []), (15, .iaload, 0, 0, 0, []), (16, .aload_n 0, 0, 0, 0, []), (17, .getfield 12, 0, 1, 0, []), (20, .getfield 99, 5, 3, 0, []), (23, .iload_n 1, 1, 0, 0, []), (24, .iaload, 0, 0, 0, []), (25, .isub, 0, 0, 0, []), (26, .goto (4), 2, 0, 0, [])])
def mk_b178_1 : List Bool × List mj_I := ([false, false], [(29, .iconst (-1), 0, 0, 0, []), (30, .nop, 2, 0, 0, [])])
def mk_b178_2 : List Bool × List mj_I := ([false, false], [(30, .ireturn, 0, 0, 0, [])])
def mk_m178 : Nat × Nat × List (List Bool × List mj_I) := (2, 2, [mk_b178_0, mk_b178_1, mk_b178_2])
/-- NumbersCalled$Day.badFor(I)I -/
def mk_b179_0 : List Bool × List mj_I := ([true, true], [(0, .aload_n 0, 0, 0, 0, []), (1, .getfield 18, 1, 1, 0, []), (4, .iload_n 1, 1, 0, 0, []), (5, .iaload, 0, 0, 0, []), (6, .iconst 2, 0, 0, 0, []), (7, .if_icmp .ne (11), 1, 0, 0, []), (10, .aload_n 0, 0, 0, 0, []), (11, .iload_n 1, 1, 0, 0, []), (12, .invokevirtual 147, 178, 2, 1, []), (15, .goto (5), 2, 0, 0, [])])
def mk_b179_1 : List Bool × List mj_I := ([false, false], [(18, .bipush 120, 0, 0, 0, []), (20, .nop, 2, 0, 0, [])])
def mk_b179_2 : List Bool × List mj_I := ([false, false], [(20, .ireturn, 0, 0, 0, [])])
def mk_m179 : Nat × Nat × List (List Bool × List mj_I) := (2, 2, [mk_b179_0, mk_b179_1, mk_b179_2])
/-- NumbersCalled$Day.many(I)I -/
def mk_b180_0 : List Bool × List mj_I := ([true, true, false, false], [(0, .iconst 0, 0, 0, 0, []), (1, .istore_n 2, 2, 0, 0, []), (2, .iconst 0, 0, 0, 0, []), (3, .istore_n 3, 3, 0, 0, []), (4, .nop, 1, 0, 0, [])])
def mk_b180_1 : List Bool × List mj_I := ([true, true, true, true], [(4, .iload_n 3, 3, 0, 0, []), (5, .aload_n 0, 0, 0, 0, []), (6, .getfield 12, 0, 1, 0, []), (9, .getfield 79, 4, 3, 0, []), (12, .if_icmp .ge (22), 3, 0, 0, []), (15, .aload_n 0, 0, 0, 0, []), (16, .getfield 18, 1, 1, 0, []), (19, .iload_n 3, 3, 0, 0, []), (20, .iaload, 0, 0, 0, []), (21, .iload_n 1, 1, 0, 0, []), (22, .if_icmp .ne (6), 2, 0, 0, []), (25, .iinc 2 1, 2, 0, 0, []), (28, .nop, 2, 0, 0, [])])
def mk_b180_2 : List Bool × List mj_I := ([true, true, true, true], [(28, .iinc 3 1, 3, 0, 0, []), (31, .goto (-27), 1, 0, 0, [])])
def mk_b180_3 : List Bool × List mj_I := ([false, false, true, false], [(34, .iload_n 2, 2, 0, 0, []), (35, .ireturn, 0, 0, 0, [])])
def mk_m180 : Nat × Nat × List (List Bool × List mj_I) := (4, 2, [mk_b180_0, mk_b180_1, mk_b180_2, mk_b180_3])
/-- NumbersCalled$Day.allWaits()I -/
def mk_b181_0 : List Bool × List mj_I := ([true, false, false], [(0, .iconst 0, 0, 0, 0, []), (1, .istore_n 1, 1, 0, 0, []), (2, .iconst 0, 0, 0, 0, []), (3, .istore_n 2, 2, 0, 0, []), (4, .nop, 1, 0, 0, [])])
def mk_b181_1 : List Bool × List mj_I := ([true, true, true], [(4, .iload_n 2, 2, 0, 0, []), (5, .aload_n 0, 0, 0, 0, []), (6, .getfield 12, 0, 1, 0, []), (9, .getfield 79, 4, 3, 0, []), (12, .if_icmp .ge (27), 3, 0, 0, []), (15, .aload_n 0, 0, 0, 0, []), (16, .getfield 18, 1, 1, 0, []), (19, .iload_n 2, 2, 0, 0, []), (20, .iaload, 0, 0, 0, []), (21, .iconst 2, 0, 0, 0, []), (22, .if_icmp .ne (11), 2, 0, 0, []), (25, .iload_n 1, 1, 0, 0, []), (26, .aload_n 0, 0, 0, 0, []), (27, .iload_n 2, 2, 0, 0, []), (28, .invokevirtual 147, 178, 2, 1, []), (31, .iadd, 0, 0, 0, []), (32, .istore_n 1, 1, 0, 0, []), (33, .nop, 2, 0, 0, [])])
def mk_b181_2 : List Bool × List mj_I := ([true, true, true], [(33, .iinc 2 1, 2, 0, 0, []), (36, .goto (-32), 1, 0, 0, [])])
def mk_b181_3 : List Bool × List mj_I := ([false, true, false], [(39, .iload_n 1, 1, 0, 0, []), (40, .ireturn, 0, 0, 0, [])])
def mk_m181 : Nat × Nat × List (List Bool × List mj_I) := (3, 2, [mk_b181_0, mk_b181_1, mk_b181_2, mk_b181_3])
/-- NumbersCalled$Day.longest()I -/
def mk_b182_0 : List Bool × List mj_I := ([true, false, false], [(0, .iconst 0, 0, 0, 0, []), (1, .istore_n 1, 1, 0, 0, []), (2, .iconst 0, 0, 0, 0, []), (3, .istore_n 2, 2, 0, 0, []), (4, .nop, 1, 0, 0, [])])
def mk_b182_1 : List Bool × List mj_I := ([true, true, true], [(4, .iload_n 2, 2, 0, 0, []), (5, .aload_n 0, 0, 0, 0, []), (6, .getfield 12, 0, 1, 0, []), (9, .getfield 79, 4, 3, 0, []), (12, .if_icmp .ge (19), 2, 0, 0, []), (15, .iload_n 1, 1, 0, 0, []), (16, .aload_n 0, 0, 0, 0, []), (17, .iload_n 2, 2, 0, 0, []), (18, .invokevirtual 147, 178, 2, 1, []), (21, .invokestatic 150, 0, 0, 5, []), (24, .istore_n 1, 1, 0, 0, []), (25, .iinc 2 1, 2, 0, 0, []), (28, .goto (-24), 1, 0, 0, [])])
def mk_b182_2 : List Bool × List mj_I := ([false, true, false], [(31, .iload_n 1, 1, 0, 0, []), (32, .ireturn, 0, 0, 0, [])])
def mk_m182 : Nat × Nat × List (List Bool × List mj_I) := (3, 2, [mk_b182_0, mk_b182_1, mk_b182_2])
/-- NumbersCalled$Day.latestEnd()I -/
def mk_b183_0 : List Bool × List mj_I := ([true, false, false], [(0, .iconst 0, 0, 0, 0, []), (1, .istore_n 1, 1, 0, 0, []), (2, .iconst 0, 0, 0, 0, []), (3, .istore_n 2, 2, 0, 0, []), (4, .nop, 1, 0, 0, [])])
def mk_b183_1 : List Bool × List mj_I := ([true, true, true], [(4, .iload_n 2, 2, 0, 0, []), (5, .aload_n 0, 0, 0, 0, []), (6, .getfield 12, 0, 1, 0, []), (9, .getfield 79, 4, 3, 0, []), (12, .if_icmp .ge (20), 2, 0, 0, []), (15, .iload_n 1, 1, 0, 0, []), (16, .aload_n 0, 0, 0, 0, []), (17, .getfield 25, 3, 1, 0, []), (20, .iload_n 2, 2, 0, 0, []), (21, .iaload, 0, 0, 0, []), (22, .invokestatic 150, 0, 0, 5, []), (25, .istore_n 1, 1, 0, 0, []), (26, .iinc 2 1, 2, 0, 0, []), (29, .goto (-25), 1, 0, 0, [])])
def mk_b183_2 : List Bool × List mj_I := ([false, true, false], [(32, .iload_n 1, 1, 0, 0, []), (33, .ireturn, 0, 0, 0, [])])
def mk_m183 : Nat × Nat × List (List Bool × List mj_I) := (3, 2, [mk_b183_0, mk_b183_1, mk_b183_2])
/-- NumbersCalled$Day.allIdled()I -/
def mk_b184_0 : List Bool × List mj_I := ([true, false, false], [(0, .iconst 0, 0, 0, 0, []), (1, .istore_n 1, 1, 0, 0, []), (2, .iconst 0, 0, 0, 0, []), (3, .istore_n 2, 2, 0, 0, []), (4, .nop, 1, 0, 0, [])])
def mk_b184_1 : List Bool × List mj_I := ([true, true, true], [(4, .iload_n 2, 2, 0, 0, []), (5, .aload_n 0, 0, 0, 0, []), (6, .getfield 12, 0, 1, 0, []), (9, .getfield 61, 0, 3, 0, []), (12, .if_icmp .ge (18), 2, 0, 0, []), (15, .iload_n 1, 1, 0, 0, []), (16, .aload_n 0, 0, 0, 0, []), (17, .getfield 34, 6, 1, 0, []), (20, .iload_n 2, 2, 0, 0, []), (21, .iaload, 0, 0, 0, []), (22, .iadd, 0, 0, 0, []), (23, .istore_n 1, 1, 0, 0, []), (24, .iinc 2 1, 2, 0, 0, []), (27, .goto (-23), 1, 0, 0, [])])
def mk_b184_2 : List Bool × List mj_I := ([false, true, false], [(30, .iload_n 1, 1, 0, 0, []), (31, .ireturn, 0, 0, 0, [])])
def mk_m184 : Nat × Nat × List (List Bool × List mj_I) := (3, 2, [mk_b184_0, mk_b184_1, mk_b184_2])
/-- NumbersCalled$Day.harm()I -/
def mk_b185_0 : List Bool × List mj_I := ([true], [(0, .aload_n 0, 0, 0, 0, []), (1, .invokevirtual 156, 181, 1, 1, []), (4, .bipush 60, 0, 0, 0, []), (6, .aload_n 0, 0, 0, 0, []), (7, .getfield 12, 0, 1, 0, []), (10, .getfield 79, 4, 3, 0, []), (13, .aload_n 0, 0, 0, 0, []), (14, .iconst 2, 0, 0, 0, []), (15, .invokevirtual 159, 180, 2, 1, []), (18, .isub, 0, 0, 0, []), (19, .imul, 0, 0, 0, []), (20, .iadd, 0, 0, 0, []), (21, .ireturn, 0, 0, 0, [])])
def mk_m185 : Nat × Nat × List (List Bool × List mj_I) := (1, 2, [mk_b185_0])
/-- NumbersCalled$Day.isOver(I)Z -/
def mk_b186_0 : List Bool × List mj_I := ([true, true], [(0, .aload_n 0, 0, 0, 0, []), (1, .invokevirtual 162, 183, 1, 1, []), (4, .iload_n 1, 1, 0, 0, []), (5, .if_icmp .gt (15), 1, 0, 0, []), (8, .aload_n 0, 0, 0, 0, []), (9, .iconst 1, 0, 0, 0, []), (10, .invokevirtual 159, 180, 2, 1, []), (13, .ifCond .ne (7), 1, 0, 0, []), (16, .iconst 1, 0, 0, 0, []), (17, .goto (4), 2, 0, 0, [])])
def mk_b186_1 : List Bool × List mj_I := ([false, false], [(20, .iconst 0, 0, 0, 0, []), (21, .nop, 2, 0, 0, [])])
def mk_b186_2 : List Bool × List mj_I := ([false, false], [(21, .ireturn, 0, 0, 1, [])])
def mk_m186 : Nat × Nat × List (List Bool × List mj_I) := (2, 2, [mk_b186_0, mk_b186_1, mk_b186_2])
/-- NumbersCalled$Day.total(I)I -/
def mk_b187_0 : List Bool × List mj_I := ([true, true], [(0, .iload_n 1, 1, 0, 0, []), (1, .tableswitch (82) 0 6 #[43, 49, 54, 59, 64, 70, 76], 8, 0, 0, [(0, 1), (1, 2), (2, 3), (3, 4), (4, 5), (5, 6), (6, 7)])])
def mk_b187_1 : List Bool × List mj_I := ([true, false], [(44, .aload_n 0, 0, 0, 0, []), (45, .iconst 2, 0, 0, 0, []), (46, .invokevirtual 159, 180, 2, 1, []), (49, .ireturn, 0, 0, 0, [])])
def mk_b187_2 : List Bool × List mj_I := ([true, false], [(50, .aload_n 0, 0, 0, 0, []), (51, .invokevirtual 156, 181, 1, 1, []), (54, .ireturn, 0, 0, 0, [])])
def mk_b187_3 : List Bool × List mj_I := ([true, false], [(55, .aload_n 0, 0, 0, 0, []), (56, .invokevirtual 165, 182, 1, 1, []), (59, .ireturn, 0, 0, 0, [])])
def mk_b187_4 : List Bool × List mj_I := ([true, false], [(60, .aload_n 0, 0, 0, 0, []), (61, .invokevirtual 162, 183, 1, 1, []), (64, .ireturn, 0, 0, 0, [])])
def mk_b187_5 : List Bool × List mj_I := ([true, false], [(65, .aload_n 0, 0, 0, 0, []), (66, .iconst 3, 0, 0, 0, []), (67, .invokevirtual 159, 180, 2, 1, []), (70, .ireturn, 0, 0, 0, [])])
def mk_b187_6 : List Bool × List mj_I := ([true, false], [(71, .aload_n 0, 0, 0, 0, []), (72, .iconst 4, 0, 0, 0, []), (73, .invokevirtual 159, 180, 2, 1, []), (76, .ireturn, 0, 0, 0, [])])
def mk_b187_7 : List Bool × List mj_I := ([true, false], [(77, .aload_n 0, 0, 0, 0, []), (78, .iconst 1, 0, 0, 0, []), (79, .invokevirtual 159, 180, 2, 1, []), (82, .ireturn, 0, 0, 0, [])])
def mk_b187_8 : List Bool × List mj_I := ([true, false], [(83, .aload_n 0, 0, 0, 0, []), (84, .invokevirtual 168, 184, 1, 1, []), (87, .ireturn, 0, 0, 0, [])])
def mk_m187 : Nat × Nat × List (List Bool × List mj_I) := (2, 2, [mk_b187_0, mk_b187_1, mk_b187_2, mk_b187_3, mk_b187_4, mk_b187_5, mk_b187_6, mk_b187_7, mk_b187_8])
/-- NumbersCalled$Least.start()V -/
def mk_b188_0 : List Bool × List mj_I := ([true], [(0, .aload_n 0, 0, 0, 0, []), (1, .iconst (-1), 0, 0, 0, []), (2, .putfield 9, 0, 2, 0, []), (5, .aload_n 0, 0, 0, 0, []), (6, .ldc 15, 4, 0, 0, []), (8, .putfield 16, 1, 2, 0, []), (11, .return_, 0, 0, 0, [])])
def mk_m188 : Nat × Nat × List (List Bool × List mj_I) := (1, 3, [mk_b188_0])
/-- NumbersCalled$Least.offer(II)V -/
def mk_b189_0 : List Bool × List mj_I := ([true, true, true], [(0, .iload_n 2, 2, 0, 0, []), (1, .aload_n 0, 0, 0, 0, []), (2, .getfield 16, 1, 2, 0, []), (5, .if_icmp .ge (13), 1, 0, 0, []), (8, .aload_n 0, 0, 0, 0, []), (9, .iload_n 1, 1, 0, 0, []), (10, .putfield 9, 0, 2, 0, []), (13, .aload_n 0, 0, 0, 0, []), (14, .iload_n 2, 2, 0, 0, []), (15, .putfield 16, 1, 2, 0, []), (18, .nop, 1, 0, 0, [])])
def mk_b189_1 : List Bool × List mj_I := ([false, false, false], [(18, .return_, 0, 0, 0, [])])
def mk_m189 : Nat × Nat × List (List Bool × List mj_I) := (3, 3, [mk_b189_0, mk_b189_1])
/-- NumbersCalled$Least.tell(I)I -/
def mk_b190_0 : List Bool × List mj_I := ([true, true], [(0, .iload_n 1, 1, 0, 0, []), (1, .ifCond .ne (10), 1, 0, 0, []), (4, .aload_n 0, 0, 0, 0, []), (5, .getfield 9, 0, 2, 0, []), (8, .goto (7), 2, 0, 0, [])])
def mk_b190_1 : List Bool × List mj_I := ([true, false], [(11, .aload_n 0, 0, 0, 0, []), (12, .getfield 16, 1, 2, 0, []), (15, .nop, 2, 0, 0, [])])
def mk_b190_2 : List Bool × List mj_I := ([false, false], [(15, .ireturn, 0, 0, 0, [])])
def mk_m190 : Nat × Nat × List (List Bool × List mj_I) := (2, 3, [mk_b190_0, mk_b190_1, mk_b190_2])
/-- NumbersCalled$Plan.become(LNumbersCalled$Plan;)V -/
def mk_b191_0 : List Bool × List mj_I := ([true, true, false], [(0, .aload_n 0, 0, 0, 0, []), (1, .aload_n 1, 1, 0, 0, []), (2, .getfield 9, 0, 3, 0, []), (5, .putfield 9, 0, 3, 0, []), (8, .iconst 0, 0, 0, 0, []), (9, .istore_n 2, 2, 0, 0, []), (10, .nop, 1, 0, 0, [])])
def mk_b191_1 : List Bool × List mj_I := ([true, true, true], [(10, .iload_n 2, 2, 0, 0, []), (11, .iconst 4, 0, 0, 0, []), (12, .if_icmp .ge (45), 2, 0, 0, []), (15, .aload_n 0, 0, 0, 0, []), (16, .getfield 15, 1, 3, 0, []), (19, .iload_n 2, 2, 0, 0, []), (20, .aload_n 1, 1, 0, 0, []), (21, .getfield 15, 1, 3, 0, []), (24, .iload_n 2, 2, 0, 0, []), (25, .iaload, 0, 0, 0, []), (26, .iastore, 0, 0, 0, []), (27, .aload_n 0, 0, 0, 0, []), (28, .getfield 19, 2, 3, 0, []), (31, .iload_n 2, 2, 0, 0, []), (32, .aload_n 1, 1, 0, 0, []), (33, .getfield 19, 2, 3, 0, []), (36, .iload_n 2, 2, 0, 0, []), (37, .iaload, 0, 0, 0, []), (38, .iastore, 0, 0, 0, []), (39, .aload_n 0, 0, 0, 0, []), (40, .getfield 22, 3, 3, 0, []), (43, .iload_n 2, 2, 0, 0, []), (44, .aload_n 1, 1, 0, 0, []), (45, .getfield 22, 3, 3, 0, []), (48, .iload_n 2, 2, 0, 0, []), (49, .iaload, 0, 0, 0, []), (50, .iastore, 0, 0, 0, []), (51, .iinc 2 1, 2, 0, 0, []), (54, .goto (-44), 1, 0, 0, [])])
def mk_b191_2 : List Bool × List mj_I := ([true, true, false], [(57, .aload_n 0, 0, 0, 0, []), (58, .aload_n 1, 1, 0, 0, []), (59, .getfield 25, 4, 3, 0, []), (62, .putfield 25, 4, 3, 0, []), (65, .iconst 0, 0, 0, 0, []), (66, .istore_n 2, 2, 0, 0, []), (67, .nop, 3, 0, 0, [])])
def mk_b191_3 : List Bool × List mj_I := ([true, true, true], [(67, .iload_n 2, 2, 0, 0, []), (68, .bipush 16, 0, 0, 0, []), (70, .if_icmp .ge (21), 4, 0, 0, []), (73, .aload_n 0, 0, 0, 0, []), (74, .getfield 28, 5, 3, 0, []), (77, .iload_n 2, 2, 0, 0, []), (78, .aload_n 1, 1, 0, 0, []), (79, .getfield 28, 5, 3, 0, []), (82, .iload_n 2, 2, 0, 0, []), (83, .iaload, 0, 0, 0, []), (84, .iastore, 0, 0, 0, []), (85, .iinc 2 1, 2, 0, 0, []), (88, .goto (-21), 3, 0, 0, [])])
def mk_b191_4 : List Bool × List mj_I := ([true, true, false], [(91, .aload_n 0, 0, 0, 0, []), (92, .aload_n 1, 1, 0, 0, []), (93, .getfield 31, 6, 3, 0, []), (96, .putfield 31, 6, 3, 0, []), (99, .aload_n 0, 0, 0, 0, []), (100, .aload_n 1, 1, 0, 0, []), (101, .getfield 34, 7, 3, 0, []), (104, .putfield 34, 7, 3, 0, []), (107, .aload_n 0, 0, 0, 0, []), (108, .aload_n 1, 1, 0, 0, []), (109, .getfield 37, 8, 3, 0, []), (112, .putfield 37, 8, 3, 0, []), (115, .aload_n 0, 0, 0, 0, []), (116, .aload_n 1, 1, 0, 0, []), (117, .getfield 40, 9, 3, 0, []), (120, .putfield 40, 9, 3, 0, []), (123, .aload_n 0, 0, 0, 0, []), (124, .aload_n 1, 1, 0, 0, []), (125, .getfield 43, 10, 3, 1, []), (128, .putfield 43, 10, 3, 1, []), (131, .aload_n 0, 0, 0, 0, []), (132, .aload_n 1, 1, 0, 0, []), (133, .getfield 47, 11, 3, 1, []), (136, .putfield 47, 11, 3, 1, []), (139, .return_, 0, 0, 0, [])])
def mk_m191 : Nat × Nat × List (List Bool × List mj_I) := (3, 4, [mk_b191_0, mk_b191_1, mk_b191_2, mk_b191_3, mk_b191_4])
/-- NumbersCalled$Plan.teach(I)V -/
def mk_b192_0 : List Bool × List mj_I := ([true, true], [(0, .iload_n 1, 1, 0, 0, []), (1, .iconst 0, 0, 0, 0, []), (2, .bipush 15, 0, 0, 0, []), (4, .invokestatic 50, 44, 3, 1, []), (7, .ifCond .eq (19), 1, 0, 0, []), (10, .aload_n 0, 0, 0, 0, []), (11, .getfield 15, 1, 3, 0, []), (14, .iload_n 1, 1, 0, 0, []), (15, .iconst 4, 0, 0, 0, []), (16, .idiv, 0, 0, 0, []), (17, .dup2, 0, 0, 0, []), (18, .iaload, 0, 0, 0, []), (19, .iconst 1, 0, 0, 0, []), (20, .iload_n 1, 1, 0, 0, []), (21, .iconst 4, 0, 0, 0, []), (22, .irem, 0, 0, 0, []), (23, .ishl, 0, 0, 0, []), (24, .ior, 0, 0, 0, []), (25, .iastore, 0, 0, 0, []), (26, .nop, 1, 0, 0, [])])
def mk_b192_1 : List Bool × List mj_I := ([false, false], [(26, .return_, 0, 0, 0, [])])
def mk_m192 : Nat × Nat × List (List Bool × List mj_I) := (2, 4, [mk_b192_0, mk_b192_1])
/-- NumbersCalled$Plan.isPausing(II)Z -/
def mk_b193_0 : List Bool × List mj_I := ([true, true, true], [(0, .aload_n 0, 0, 0, 0, []), (1, .getfield 22, 3, 3, 0, []), (4, .iload_n 1, 1, 0, 0, []), (5, .iaload, 0, 0, 0, []), (6, .ifCond .lt (31), 1, 0, 0, []), (9, .iload_n 2, 2, 0, 0, []), (10, .aload_n 0, 0, 0, 0, []), (11, .getfield 22, 3, 3, 0, []), (14, .iload_n 1, 1, 0, 0, []), (15, .iaload, 0, 0, 0, []), (16, .aload_n 0, 0, 0, 0, []), (17, .getfield 22, 3, 3, 0, []), (20, .iload_n 1, 1, 0, 0, []), (21, .iaload, 0, 0, 0, []), (22, .bipush 10, 0, 0, 0, []), (24, .iadd, 0, 0, 0, []), (25, .iconst 1, 0, 0, 0, []), (26, .isub, 0, 0, 0, []), (27, .invokestatic 50, 44, 3, 1, []), (30, .ifCond .eq (7), 1, 0, 0, []), (33, .iconst 1, 0, 0, 0, []), (34, .goto (4), 2, 0, 0, [])])
def mk_b193_1 : List Bool × List mj_I := ([false, false, false], [(37, .iconst 0, 0, 0, 0, []), (38, .nop, 2, 0, 0, [])])
def mk_b193_2 : List Bool × List mj_I := ([false, false, false], [(38, .ireturn, 0, 0, 1, [])])
def mk_m193 : Nat × Nat × List (List Bool × List mj_I) := (3, 4, [mk_b193_0, mk_b193_1, mk_b193_2])
/-- NumbersCalled$Sheet.isMissing()Z -/
def mk_b194_0 : List Bool × List mj_I := ([true], [(0, .aload_n 0, 0, 0, 0, []), (1, .getfield 9, 0, 4, 0, []), (4, .iconst (-1), 0, 0, 0, []), (5, .if_icmp .ne (7), 1, 0, 0, []), (8, .iconst 1, 0, 0, 0, []), (9, .goto (4), 2, 0, 0, [])])
def mk_b194_1 : List Bool × List mj_I := ([false], [(12, .iconst 0, 0, 0, 0, []), (13, .nop, 2, 0, 0, [])])
def mk_b194_2 : List Bool × List mj_I := ([false], [(13, .ireturn, 0, 0, 1, [])])
def mk_m194 : Nat × Nat × List (List Bool × List mj_I) := (1, 5, [mk_b194_0, mk_b194_1, mk_b194_2])
/-- NumbersCalled$Sheet.become(II)V -/
def mk_b195_0 : List Bool × List mj_I := ([true, true, true, false], [(0, .aload_n 0, 0, 0, 0, []), (1, .iload_n 1, 1, 0, 0, []), (2, .putfield 9, 0, 4, 0, []), (5, .aload_n 0, 0, 0, 0, []), (6, .iload_n 2, 2, 0, 0, []), (7, .putfield 15, 1, 4, 0, []), (10, .iconst 0, 0, 0, 0, []), (11, .istore_n 3, 3, 0, 0, []), (12, .nop, 1, 0, 0, [])])
def mk_b195_1 : List Bool × List mj_I := ([true, false, false, true], [(12, .iload_n 3, 3, 0, 0, []), (13, .bipush 40, 0, 0, 0, []), (15, .if_icmp .ge (16), 2, 0, 0, []), (18, .aload_n 0, 0, 0, 0, []), (19, .getfield 18, 2, 4, 0, []), (22, .iload_n 3, 3, 0, 0, []), (23, .iconst 0, 0, 0, 0, []), (24, .iastore, 0, 0, 0, []), (25, .iinc 3 1, 3, 0, 0, []), (28, .goto (-16), 1, 0, 0, [])])
def mk_b195_2 : List Bool × List mj_I := ([false, false, false, false], [(31, .return_, 0, 0, 0, [])])
def mk_m195 : Nat × Nat × List (List Bool × List mj_I) := (4, 5, [mk_b195_0, mk_b195_1, mk_b195_2])
/-- NumbersCalled$Sheet.write(II)V -/
def mk_b196_0 : List Bool × List mj_I := ([true, true, true], [(0, .aload_n 0, 0, 0, 0, []), (1, .getfield 9, 0, 4, 0, []), (4, .lookupswitch (50) #[(0, 28), (1, 39)], 3, 0, 0, [(0, 1), (1, 2)])])
def mk_b196_1 : List Bool × List mj_I := ([true, true, true], [(32, .aload_n 0, 0, 0, 0, []), (33, .getfield 18, 2, 4, 0, []), (36, .iload_n 1, 1, 0, 0, []), (37, .iload_n 2, 2, 0, 0, []), (38, .i2b, 0, 0, 0, []), (39, .iastore, 0, 0, 0, []), (40, .goto (21), 4, 0, 0, [])])
def mk_b196_2 : List Bool × List mj_I := ([true, true, true], [(43, .aload_n 0, 0, 0, 0, []), (44, .getfield 18, 2, 4, 0, []), (47, .iload_n 1, 1, 0, 0, []), (48, .iload_n 2, 2, 0, 0, []), (49, .i2s, 0, 0, 0, []), (50, .iastore, 0, 0, 0, []), (51, .goto (10), 4, 0, 0, [])])
def mk_b196_3 : List Bool × List mj_I := ([true, true, true], [(54, .aload_n 0, 0, 0, 0, []), (55, .getfield 18, 2, 4, 0, []), (58, .iload_n 1, 1, 0, 0, []), (59, .iload_n 2, 2, 0, 0, []), (60, .iastore, 0, 0, 0, []), (61, .nop, 4, 0, 0, [])])
def mk_b196_4 : List Bool × List mj_I := ([false, false, false], [(61, .return_, 0, 0, 0, [])])
def mk_m196 : Nat × Nat × List (List Bool × List mj_I) := (3, 5, [mk_b196_0, mk_b196_1, mk_b196_2, mk_b196_3, mk_b196_4])
/-- NumbersCalled$Tape.append(I)V -/
def mk_b197_0 : List Bool × List mj_I := ([true, true], [(0, .aload_n 0, 0, 0, 0, []), (1, .getfield 15, 1, 5, 0, []), (4, .sipush 160, 0, 0, 0, []), (7, .if_icmp .ge (23), 1, 0, 0, []), (10, .aload_n 0, 0, 0, 0, []), (11, .getfield 9, 0, 5, 0, []), (14, .aload_n 0, 0, 0, 0, []), (15, .getfield 15, 1, 5, 0, []), (18, .iload_n 1, 1, 0, 0, []), (19, .iastore, 0, 0, 0, []), (20, .aload_n 0, 0, 0, 0, []), (21, .dup, 0, 0, 0, []), (22, .getfield 15, 1, 5, 0, []), (25, .iconst 1, 0, 0, 0, []), (26, .iadd, 0, 0, 0, []), (27, .putfield 15, 1, 5, 0, []), (30, .nop, 1, 0, 0, [])])
def mk_b197_1 : List Bool × List mj_I := ([false, false], [(30, .return_, 0, 0, 0, [])])
def mk_m197 : Nat × Nat × List (List Bool × List mj_I) := (2, 6, [mk_b197_0, mk_b197_1])
/-- NumbersCalled$Tape.read()I -/
def mk_b198_0 : List Bool × List mj_I := ([true, false], [(0, .aload_n 0, 0, 0, 0, []), (1, .iconst 0, 0, 0, 0, []), (2, .putfield 27, 4, 5, 0, []), (5, .aload_n 0, 0, 0, 0, []), (6, .iconst 0, 0, 0, 0, []), (7, .putfield 30, 5, 5, 0, []), (10, .aload_n 0, 0, 0, 0, []), (11, .invokevirtual 42, 208, 1, 0, []), (14, .iconst 0, 0, 0, 0, []), (15, .istore_n 1, 1, 0, 0, []), (16, .nop, 1, 0, 0, [])])
def mk_b198_1 : List Bool × List mj_I := ([true, true], [(16, .iload_n 1, 1, 0, 0, []), (17, .iconst 2, 0, 0, 0, []), (18, .if_icmp .gt (49), 4, 0, 0, []), (21, .aload_n 0, 0, 0, 0, []), (22, .iload_n 1, 1, 0, 0, []), (23, .invokevirtual 45, 199, 2, 1, []), (26, .ifCond .eq (20), 2, 0, 0, []), (29, .aload_n 0, 0, 0, 0, []), (30, .iconst 0, 0, 0, 0, []), (31, .invokevirtual 49, 201, 2, 1, []), (34, .ifCond .eq (12), 2, 0, 0, []), (37, .aload_n 0, 0, 0, 0, []), (38, .bipush 59, 0, 0, 0, []), (40, .invokevirtual 45, 199, 2, 1, []), (43, .ifCond .ne (8), 3, 0, 0, []), (46, .nop, 2, 0, 0, [])])
def mk_b198_2 : List Bool × List mj_I := ([true, false], [(46, .aload_n 0, 0, 0, 0, []), (47, .getfield 33, 6, 5, 0, []), (50, .ireturn, 0, 0, 0, [])])
def mk_b198_3 : List Bool × List mj_I := ([true, true], [(51, .aload_n 0, 0, 0, 0, []), (52, .getfield 24, 3, 5, 0, []), (55, .iload_n 1, 1, 0, 0, []), (56, .aload_n 0, 0, 0, 0, []), (57, .getfield 27, 4, 5, 0, []), (60, .iastore, 0, 0, 0, []), (61, .iinc 1 1, 1, 0, 0, []), (64, .goto (-48), 1, 0, 0, [])])
def mk_b198_4 : List Bool × List mj_I := ([true, false], [(67, .aload_n 0, 0, 0, 0, []), (68, .getfield 36, 7, 5, 0, []), (71, .bipush 14, 0, 0, 0, []), (73, .if_icmp .ne (7), 5, 0, 0, []), (76, .iconst (-1), 0, 0, 0, []), (77, .goto (7), 6, 0, 0, [])])
def mk_b198_5 : List Bool × List mj_I := ([true, false], [(80, .aload_n 0, 0, 0, 0, []), (81, .getfield 33, 6, 5, 0, []), (84, .nop, 6, 0, 0, [])])
def mk_b198_6 : List Bool × List mj_I := ([false, false], [(84, .ireturn, 0, 0, 0, [])])
def mk_m198 : Nat × Nat × List (List Bool × List mj_I) := (2, 6, [mk_b198_0, mk_b198_1, mk_b198_2, mk_b198_3, mk_b198_4, mk_b198_5, mk_b198_6])
/-- NumbersCalled$Tape.skip(I)Z -/
def mk_b199_0 : List Bool × List mj_I := ([true, true], [(0, .aload_n 0, 0, 0, 0, []), (1, .getfield 36, 7, 5, 0, []), (4, .iload_n 1, 1, 0, 0, []), (5, .if_icmp .eq (5), 1, 0, 0, []), (8, .iconst 0, 0, 0, 0, []), (9, .ireturn, 0, 0, 1, [])])
def mk_b199_1 : List Bool × List mj_I := ([true, false], [(10, .aload_n 0, 0, 0, 0, []), (11, .invokevirtual 42, 208, 1, 0, []), (14, .iconst 1, 0, 0, 0, []), (15, .ireturn, 0, 0, 1, [])])
def mk_m199 : Nat × Nat × List (List Bool × List mj_I) := (2, 6, [mk_b199_0, mk_b199_1])
/-- NumbersCalled$Tape.tell(I)V -/
def mk_b200_0 : List Bool × List mj_I := ([true, true], [(0, .aload_n 0, 0, 0, 0, []), (1, .getfield 27, 4, 5, 0, []), (4, .sipush 160, 0, 0, 0, []), (7, .if_icmp .ge (23), 1, 0, 0, []), (10, .aload_n 0, 0, 0, 0, []), (11, .getfield 19, 2, 5, 0, []), (14, .aload_n 0, 0, 0, 0, []), (15, .getfield 27, 4, 5, 0, []), (18, .iload_n 1, 1, 0, 0, []), (19, .iastore, 0, 0, 0, []), (20, .aload_n 0, 0, 0, 0, []), (21, .dup, 0, 0, 0, []), (22, .getfield 27, 4, 5, 0, []), (25, .iconst 1, 0, 0, 0, []), (26, .iadd, 0, 0, 0, []), (27, .putfield 27, 4, 5, 0, []), (30, .nop, 1, 0, 0, [])])
def mk_b200_1 : List Bool × List mj_I := ([false, false], [(30, .return_, 0, 0, 0, [])])
def mk_m200 : Nat × Nat × List (List Bool × List mj_I) := (2, 6, [mk_b200_0, mk_b200_1])
/-- NumbersCalled$Tape.readEither(I)Z -/
def mk_b201_0 : List Bool × List mj_I := ([true, true, false, false], [(0, .aload_n 0, 0, 0, 0, []), (1, .iload_n 1, 1, 0, 0, []), (2, .invokevirtual 52, 202, 2, 1, []), (5, .istore_n 2, 2, 0, 0, []), (6, .iconst 0, 0, 0, 0, []), (7, .istore_n 3, 3, 0, 0, []), (8, .nop, 1, 0, 0, [])])
def mk_b201_1 : List Bool × List mj_I := ([true, true, true, true], [(8, .iload_n 3, 3, 0, 0, []), (9, .sipush 160, 0, 0, 0, []), (12, .if_icmp .ge (37), 2, 0, 0, []), (15, .iload_n 2, 2, 0, 0, []), (16, .ifCond .eq (33), 2, 0, 0, []), (19, .aload_n 0, 0, 0, 0, []), (20, .getfield 36, 7, 5, 0, []), (23, .iconst 3, 0, 0, 0, []), (24, .if_icmp .ne (25), 2, 0, 0, []), (27, .aload_n 0, 0, 0, 0, []), (28, .invokevirtual 42, 208, 1, 0, []), (31, .aload_n 0, 0, 0, 0, []), (32, .iload_n 1, 1, 0, 0, []), (33, .invokevirtual 52, 202, 2, 1, []), (36, .istore_n 2, 2, 0, 0, []), (37, .aload_n 0, 0, 0, 0, []), (38, .bipush (-4), 0, 0, 0, []), (40, .invokevirtual 55, 200, 2, 0, []), (43, .iinc 3 1, 3, 0, 0, []), (46, .goto (-38), 1, 0, 0, [])])
def mk_b201_2 : List Bool × List mj_I := ([false, false, true, false], [(49, .iload_n 2, 2, 0, 0, []), (50, .ireturn, 0, 0, 1, [])])
def mk_m201 : Nat × Nat × List (List Bool × List mj_I) := (4, 6, [mk_b201_0, mk_b201_1, mk_b201_2])
/-- NumbersCalled$Tape.readBoth(I)Z -/
def mk_b202_0 : List Bool × List mj_I := ([true, true, false, false], [(0, .aload_n 0, 0, 0, 0, []), (1, .iload_n 1, 1, 0, 0, []), (2, .invokevirtual 59, 203, 2, 1, []), (5, .istore_n 2, 2, 0, 0, []), (6, .iconst 0, 0, 0, 0, []), (7, .istore_n 3, 3, 0, 0, []), (8, .nop, 1, 0, 0, [])])
def mk_b202_1 : List Bool × List mj_I := ([true, true, true, true], [(8, .iload_n 3, 3, 0, 0, []), (9, .sipush 160, 0, 0, 0, []), (12, .if_icmp .ge (37), 2, 0, 0, []), (15, .iload_n 2, 2, 0, 0, []), (16, .ifCond .eq (33), 2, 0, 0, []), (19, .aload_n 0, 0, 0, 0, []), (20, .getfield 36, 7, 5, 0, []), (23, .iconst 4, 0, 0, 0, []), (24, .if_icmp .ne (25), 2, 0, 0, []), (27, .aload_n 0, 0, 0, 0, []), (28, .invokevirtual 42, 208, 1, 0, []), (31, .aload_n 0, 0, 0, 0, []), (32, .iload_n 1, 1, 0, 0, []), (33, .invokevirtual 59, 203, 2, 1, []), (36, .istore_n 2, 2, 0, 0, []), (37, .aload_n 0, 0, 0, 0, []), (38, .bipush (-5), 0, 0, 0, []), (40, .invokevirtual 55, 200, 2, 0, []), (43, .iinc 3 1, 3, 0, 0, []), (46, .goto (-38), 1, 0, 0, [])])
def mk_b202_2 : List Bool × List mj_I := ([false, false, true, false], [(49, .iload_n 2, 2, 0, 0, []), (50, .ireturn, 0, 0, 1, [])])
def mk_m202 : Nat × Nat × List (List Bool × List mj_I) := (4, 6, [mk_b202_0, mk_b202_1, mk_b202_2])
/-- NumbersCalled$Tape.readNot(I)Z -/
def mk_b203_0 : List Bool × List mj_I := ([true, true, false, false], [(0, .aload_n 0, 0, 0, 0, []), (1, .getfield 36, 7, 5, 0, []), (4, .iconst 5, 0, 0, 0, []), (5, .if_icmp .ne (10), 1, 0, 0, []), (8, .aload_n 0, 0, 0, 0, []), (9, .iconst 5, 0, 0, 0, []), (10, .iload_n 1, 1, 0, 0, []), (11, .invokevirtual 62, 207, 3, 1, []), (14, .ireturn, 0, 0, 1, [])])
def mk_b203_1 : List Bool × List mj_I := ([true, true, false, false], [(15, .aload_n 0, 0, 0, 0, []), (16, .iload_n 1, 1, 0, 0, []), (17, .invokevirtual 66, 204, 2, 1, []), (20, .istore_n 2, 2, 0, 0, []), (21, .aload_n 0, 0, 0, 0, []), (22, .getfield 36, 7, 5, 0, []), (25, .istore_n 3, 3, 0, 0, []), (26, .iload_n 2, 2, 0, 0, []), (27, .ifCond .eq (32), 3, 0, 0, []), (30, .iload_n 3, 3, 0, 0, []), (31, .bipush 60, 0, 0, 0, []), (33, .if_icmp .eq (9), 2, 0, 0, []), (36, .iload_n 3, 3, 0, 0, []), (37, .bipush 61, 0, 0, 0, []), (39, .if_icmp .ne (20), 3, 0, 0, []), (42, .nop, 2, 0, 0, [])])
def mk_b203_2 : List Bool × List mj_I := ([true, true, false, true], [(42, .aload_n 0, 0, 0, 0, []), (43, .invokevirtual 42, 208, 1, 0, []), (46, .aload_n 0, 0, 0, 0, []), (47, .iload_n 1, 1, 0, 0, []), (48, .invokevirtual 66, 204, 2, 1, []), (51, .istore_n 2, 2, 0, 0, []), (52, .aload_n 0, 0, 0, 0, []), (53, .iload_n 3, 3, 0, 0, []), (54, .iconst (-1), 0, 0, 0, []), (55, .ixor, 0, 0, 0, []), (56, .invokevirtual 55, 200, 2, 0, []), (59, .nop, 3, 0, 0, [])])
def mk_b203_3 : List Bool × List mj_I := ([false, false, true, false], [(59, .iload_n 2, 2, 0, 0, []), (60, .ireturn, 0, 0, 1, [])])
def mk_m203 : Nat × Nat × List (List Bool × List mj_I) := (4, 6, [mk_b203_0, mk_b203_1, mk_b203_2, mk_b203_3])
/-- NumbersCalled$Tape.readSum(I)Z -/
def mk_b204_0 : List Bool × List mj_I := ([true, true, false, false, false], [(0, .aload_n 0, 0, 0, 0, []), (1, .iload_n 1, 1, 0, 0, []), (2, .invokevirtual 69, 205, 2, 1, []), (5, .istore_n 2, 2, 0, 0, []), (6, .iconst 0, 0, 0, 0, []), (7, .istore_n 3, 3, 0, 0, []), (8, .nop, 1, 0, 0, [])])
def mk_b204_1 : List Bool × List mj_I := ([true, true, true, true, false], [(8, .iload_n 3, 3, 0, 0, []), (9, .sipush 160, 0, 0, 0, []), (12, .if_icmp .ge (55), 3, 0, 0, []), (15, .iload_n 2, 2, 0, 0, []), (16, .ifCond .eq (51), 3, 0, 0, []), (19, .aload_n 0, 0, 0, 0, []), (20, .getfield 36, 7, 5, 0, []), (23, .bipush 43, 0, 0, 0, []), (25, .if_icmp .eq (12), 2, 0, 0, []), (28, .aload_n 0, 0, 0, 0, []), (29, .getfield 36, 7, 5, 0, []), (32, .bipush 45, 0, 0, 0, []), (34, .if_icmp .ne (33), 3, 0, 0, []), (37, .nop, 2, 0, 0, [])])
def mk_b204_2 : List Bool × List mj_I := ([true, true, false, true, false], [(37, .aload_n 0, 0, 0, 0, []), (38, .getfield 36, 7, 5, 0, []), (41, .istore 4, 4, 0, 0, []), (43, .aload_n 0, 0, 0, 0, []), (44, .invokevirtual 42, 208, 1, 0, []), (47, .aload_n 0, 0, 0, 0, []), (48, .iload_n 1, 1, 0, 0, []), (49, .invokevirtual 69, 205, 2, 1, []), (52, .istore_n 2, 2, 0, 0, []), (53, .aload_n 0, 0, 0, 0, []), (54, .iload 4, 4, 0, 0, []), (56, .iconst (-1), 0, 0, 0, []), (57, .ixor, 0, 0, 0, []), (58, .invokevirtual 55, 200, 2, 0, []), (61, .iinc 3 1, 3, 0, 0, []), (64, .goto (-56), 1, 0, 0, [])])
def mk_b204_3 : List Bool × List mj_I := ([false, false, true, false, false], [(67, .iload_n 2, 2, 0, 0, []), (68, .ireturn, 0, 0, 1, [])])
def mk_m204 : Nat × Nat × List (List Bool × List mj_I) := (5, 6, [mk_b204_0, mk_b204_1, mk_b204_2, mk_b204_3])
/-- NumbersCalled$Tape.readTerm(I)Z -/
def mk_b205_0 : List Bool × List mj_I := ([true, true, false, false], [(0, .aload_n 0, 0, 0, 0, []), (1, .iload_n 1, 1, 0, 0, []), (2, .invokevirtual 72, 206, 2, 1, []), (5, .istore_n 2, 2, 0, 0, []), (6, .iconst 0, 0, 0, 0, []), (7, .istore_n 3, 3, 0, 0, []), (8, .nop, 1, 0, 0, [])])
def mk_b205_1 : List Bool × List mj_I := ([true, true, true, true], [(8, .iload_n 3, 3, 0, 0, []), (9, .sipush 160, 0, 0, 0, []), (12, .if_icmp .ge (38), 2, 0, 0, []), (15, .iload_n 2, 2, 0, 0, []), (16, .ifCond .eq (34), 2, 0, 0, []), (19, .aload_n 0, 0, 0, 0, []), (20, .getfield 36, 7, 5, 0, []), (23, .bipush 42, 0, 0, 0, []), (25, .if_icmp .ne (25), 2, 0, 0, []), (28, .aload_n 0, 0, 0, 0, []), (29, .invokevirtual 42, 208, 1, 0, []), (32, .aload_n 0, 0, 0, 0, []), (33, .iload_n 1, 1, 0, 0, []), (34, .invokevirtual 72, 206, 2, 1, []), (37, .istore_n 2, 2, 0, 0, []), (38, .aload_n 0, 0, 0, 0, []), (39, .bipush (-43), 0, 0, 0, []), (41, .invokevirtual 55, 200, 2, 0, []), (44, .iinc 3 1, 3, 0, 0, []), (47, .goto (-39), 1, 0, 0, [])])
def mk_b205_2 : List Bool × List mj_I := ([false, false, true, false], [(50, .iload_n 2, 2, 0, 0, []), (51, .ireturn, 0, 0, 1, [])])
def mk_m205 : Nat × Nat × List (List Bool × List mj_I) := (4, 6, [mk_b205_0, mk_b205_1, mk_b205_2])
/-- NumbersCalled$Tape.readOne(I)Z -/
def mk_b206_0 : List Bool × List mj_I := ([true, true, false], [(0, .aload_n 0, 0, 0, 0, []), (1, .getfield 36, 7, 5, 0, []), (4, .bipush 45, 0, 0, 0, []), (6, .if_icmp .ne (11), 1, 0, 0, []), (9, .aload_n 0, 0, 0, 0, []), (10, .bipush 12, 0, 0, 0, []), (12, .iload_n 1, 1, 0, 0, []), (13, .invokevirtual 62, 207, 3, 1, []), (16, .ireturn, 0, 0, 1, [])])
def mk_b206_1 : List Bool × List mj_I := ([true, true, false], [(17, .aload_n 0, 0, 0, 0, []), (18, .getfield 36, 7, 5, 0, []), (21, .bipush 40, 0, 0, 0, []), (23, .if_icmp .ne (11), 2, 0, 0, []), (26, .aload_n 0, 0, 0, 0, []), (27, .bipush 40, 0, 0, 0, []), (29, .iload_n 1, 1, 0, 0, []), (30, .invokevirtual 62, 207, 3, 1, []), (33, .ireturn, 0, 0, 1, [])])
def mk_b206_2 : List Bool × List mj_I := ([true, false, false], [(34, .aload_n 0, 0, 0, 0, []), (35, .getfield 36, 7, 5, 0, []), (38, .bipush 6, 0, 0, 0, []), (40, .bipush 11, 0, 0, 0, []), (42, .invokestatic 75, 44, 3, 1, []), (45, .istore_n 2, 2, 0, 0, []), (46, .aload_n 0, 0, 0, 0, []), (47, .getfield 36, 7, 5, 0, []), (50, .bipush 13, 0, 0, 0, []), (52, .if_icmp .eq (9), 3, 0, 0, []), (55, .iload_n 2, 2, 0, 0, []), (56, .ifCond .ne (5), 3, 0, 0, []), (59, .iconst 0, 0, 0, 0, []), (60, .ireturn, 0, 0, 1, [])])
def mk_b206_3 : List Bool × List mj_I := ([true, false, true], [(61, .aload_n 0, 0, 0, 0, []), (62, .iload_n 2, 2, 0, 0, []), (63, .ifCond .eq (12), 4, 0, 0, []), (66, .aload_n 0, 0, 0, 0, []), (67, .getfield 36, 7, 5, 0, []), (70, .iconst (-1), 0, 0, 0, []), (71, .ixor, 0, 0, 0, []), (72, .goto (7), 5, 0, 0, [])])
def mk_b206_4 : List Bool × List mj_I := ([true, false, false], [(75, .aload_n 0, 0, 0, 0, []), (76, .getfield 39, 8, 5, 0, []), (79, .nop, 5, 0, 0, [])])
def mk_b206_5 : List Bool × List mj_I := ([true, false, false], [(79, .invokevirtual 55, 200, 2, 0, []), (82, .aload_n 0, 0, 0, 0, []), (83, .invokevirtual 42, 208, 1, 0, []), (86, .iconst 1, 0, 0, 0, []), (87, .ireturn, 0, 0, 1, [])])
def mk_m206 : Nat × Nat × List (List Bool × List mj_I) := (3, 6, [mk_b206_0, mk_b206_1, mk_b206_2, mk_b206_3, mk_b206_4, mk_b206_5])
/-- NumbersCalled$Tape.readBehind(II)Z -/
def mk_b207_0 : List Bool × List mj_I := ([true, true, true, false], [(0, .iload_n 2, 2, 0, 0, []), (1, .iconst 5, 0, 0, 0, []), (2, .if_icmp .lt (5), 1, 0, 0, []), (5, .iconst 0, 0, 0, 0, []), (6, .ireturn, 0, 0, 1, [])])
def mk_b207_1 : List Bool × List mj_I := ([true, true, true, false], [(7, .aload_n 0, 0, 0, 0, []), (8, .invokevirtual 42, 208, 1, 0, []), (11, .iload_n 1, 1, 0, 0, []), (12, .bipush 40, 0, 0, 0, []), (14, .if_icmp .ne (28), 4, 0, 0, []), (17, .aload_n 0, 0, 0, 0, []), (18, .iload_n 2, 2, 0, 0, []), (19, .iconst 1, 0, 0, 0, []), (20, .iadd, 0, 0, 0, []), (21, .invokevirtual 49, 201, 2, 1, []), (24, .ifCond .eq (16), 2, 0, 0, []), (27, .aload_n 0, 0, 0, 0, []), (28, .bipush 41, 0, 0, 0, []), (30, .invokevirtual 45, 199, 2, 1, []), (33, .ifCond .eq (7), 2, 0, 0, []), (36, .iconst 1, 0, 0, 0, []), (37, .goto (4), 3, 0, 0, [])])
def mk_b207_2 : List Bool × List mj_I := ([false, false, false, false], [(40, .iconst 0, 0, 0, 0, []), (41, .nop, 3, 0, 0, [])])
def mk_b207_3 : List Bool × List mj_I := ([false, false, false, false], [(41, .ireturn, 0, 0, 1, [])])
def mk_b207_4 : List Bool × List mj_I := ([true, true, true, false], [(42, .iload_n 1, 1, 0, 0, []), (43, .iconst 5, 0, 0, 0, []), (44, .if_icmp .ne (13), 5, 0, 0, []), (47, .aload_n 0, 0, 0, 0, []), (48, .iload_n 2, 2, 0, 0, []), (49, .iconst 1, 0, 0, 0, []), (50, .iadd, 0, 0, 0, []), (51, .invokevirtual 59, 203, 2, 1, []), (54, .goto (10), 6, 0, 0, [])])
def mk_b207_5 : List Bool × List mj_I := ([true, true, true, false], [(57, .aload_n 0, 0, 0, 0, []), (58, .iload_n 2, 2, 0, 0, []), (59, .iconst 1, 0, 0, 0, []), (60, .iadd, 0, 0, 0, []), (61, .invokevirtual 72, 206, 2, 1, []), (64, .nop, 6, 0, 0, [])])
def mk_b207_6 : List Bool × List mj_I := ([true, true, false, false], [(64, .istore_n 3, 3, 0, 0, []), (65, .aload_n 0, 0, 0, 0, []), (66, .iload_n 1, 1, 0, 0, []), (67, .iconst (-1), 0, 0, 0, []), (68, .ixor, 0, 0, 0, []), (69, .invokevirtual 55, 200, 2, 0, []), (72, .iload_n 3, 3, 0, 0, []), (73, .ireturn, 0, 0, 1, [])])
def mk_m207 : Nat × Nat × List (List Bool × List mj_I) := (4, 6, [mk_b207_0, mk_b207_1, mk_b207_2, mk_b207_3, mk_b207_4, mk_b207_5, mk_b207_6])
/-- NumbersCalled$Tape.step()V -/
def mk_b208_0 : List Bool × List mj_I := ([true, false], [(0, .aload_n 0, 0, 0, 0, []), (1, .getfield 30, 5, 5, 0, []), (4, .aload_n 0, 0, 0, 0, []), (5, .getfield 15, 1, 5, 0, []), (8, .if_icmp .ge (44), 2, 0, 0, []), (11, .aload_n 0, 0, 0, 0, []), (12, .getfield 9, 0, 5, 0, []), (15, .aload_n 0, 0, 0, 0, []), (16, .getfield 30, 5, 5, 0, []), (19, .iaload, 0, 0, 0, []), (20, .bipush 32, 0, 0, 0, []), (22, .if_icmp .eq (17), 1, 0, 0, []), (25, .aload_n 0, 0, 0, 0, []), (26, .getfield 9, 0, 5, 0, []), (29, .aload_n 0, 0, 0, 0, []), (30, .getfield 30, 5, 5, 0, []), (33, .iaload, 0, 0, 0, []), (34, .bipush 10, 0, 0, 0, []), (36, .if_icmp .ne (16), 2, 0, 0, []), (39, .nop, 1, 0, 0, [])])
def mk_b208_1 : List Bool × List mj_I := ([true, false], [(39, .aload_n 0, 0, 0, 0, []), (40, .dup, 0, 0, 0, []), (41, .getfield 30, 5, 5, 0, []), (44, .iconst 1, 0, 0, 0, []), (45, .iadd, 0, 0, 0, []), (46, .putfield 30, 5, 5, 0, []), (49, .goto (-49), 0, 0, 0, [])])
def mk_b208_2 : List Bool × List mj_I := ([true, false], [(52, .aload_n 0, 0, 0, 0, []), (53, .aload_n 0, 0, 0, 0, []), (54, .getfield 30, 5, 5, 0, []), (57, .putfield 33, 6, 5, 0, []), (60, .aload_n 0, 0, 0, 0, []), (61, .getfield 30, 5, 5, 0, []), (64, .aload_n 0, 0, 0, 0, []), (65, .getfield 15, 1, 5, 0, []), (68, .if_icmp .lt (10), 3, 0, 0, []), (71, .aload_n 0, 0, 0, 0, []), (72, .bipush 14, 0, 0, 0, []), (74, .putfield 36, 7, 5, 0, []), (77, .return_, 0, 0, 0, [])])
def mk_b208_3 : List Bool × List mj_I := ([true, false], [(78, .aload_n 0, 0, 0, 0, []), (79, .getfield 9, 0, 5, 0, []), (82, .aload_n 0, 0, 0, 0, []), (83, .getfield 30, 5, 5, 0, []), (86, .iaload, 0, 0, 0, []), (87, .istore_n 1, 1, 0, 0, []), (88, .iload_n 1, 1, 0, 0, []), (89, .bipush 97, 0, 0, 0, []), (91, .bipush 122, 0, 0, 0, []), (93, .invokestatic 75, 44, 3, 1, []), (96, .ifCond .eq (22), 4, 0, 0, []), (99, .aload_n 0, 0, 0, 0, []), (100, .bipush 97, 0, 0, 0, []), (102, .bipush 122, 0, 0, 0, []), (104, .invokevirtual 79, 209, 3, 0, []), (107, .aload_n 0, 0, 0, 0, []), (108, .aload_n 0, 0, 0, 0, []), (109, .invokevirtual 83, 212, 1, 1, []), (112, .putfield 36, 7, 5, 0, []), (115, .goto (60), 8, 0, 0, [])])
def mk_b208_4 : List Bool × List mj_I := ([true, true], [(118, .iload_n 1, 1, 0, 0, []), (119, .bipush 48, 0, 0, 0, []), (121, .bipush 57, 0, 0, 0, []), (123, .invokestatic 75, 44, 3, 1, []), (126, .ifCond .eq (22), 5, 0, 0, []), (129, .aload_n 0, 0, 0, 0, []), (130, .bipush 48, 0, 0, 0, []), (132, .bipush 57, 0, 0, 0, []), (134, .invokevirtual 79, 209, 3, 0, []), (137, .aload_n 0, 0, 0, 0, []), (138, .aload_n 0, 0, 0, 0, []), (139, .invokevirtual 87, 211, 1, 1, []), (142, .putfield 36, 7, 5, 0, []), (145, .goto (30), 8, 0, 0, [])])
def mk_b208_5 : List Bool × List mj_I := ([true, true], [(148, .aload_n 0, 0, 0, 0, []), (149, .dup, 0, 0, 0, []), (150, .getfield 30, 5, 5, 0, []), (153, .iconst 1, 0, 0, 0, []), (154, .iadd, 0, 0, 0, []), (155, .putfield 30, 5, 5, 0, []), (158, .aload_n 0, 0, 0, 0, []), (159, .iload_n 1, 1, 0, 0, []), (160, .invokestatic 90, 210, 1, 1, []), (163, .ifCond .eq (7), 6, 0, 0, []), (166, .iload_n 1, 1, 0, 0, []), (167, .goto (5), 7, 0, 0, [])])
def mk_b208_6 : List Bool × List mj_I := ([false, false], [(170, .bipush 15, 0, 0, 0, []), (172, .nop, 7, 0, 0, [])])
def mk_b208_7 : List Bool × List mj_I := ([false, false], [(172, .putfield 36, 7, 5, 0, []), (175, .nop, 8, 0, 0, [])])
def mk_b208_8 : List Bool × List mj_I := ([false, false], [(175, .return_, 0, 0, 0, [])])
def mk_m208 : Nat × Nat × List (List Bool × List mj_I) := (2, 6, [mk_b208_0, mk_b208_1, mk_b208_2, mk_b208_3, mk_b208_4, mk_b208_5, mk_b208_6, mk_b208_7, mk_b208_8])
/-- NumbersCalled$Tape.passAll(II)V -/
def mk_b209_0 : List Bool × List mj_I := ([true, true, true], [(0, .aload_n 0, 0, 0, 0, []), (1, .getfield 30, 5, 5, 0, []), (4, .aload_n 0, 0, 0, 0, []), (5, .getfield 15, 1, 5, 0, []), (8, .if_icmp .ge (33), 1, 0, 0, []), (11, .aload_n 0, 0, 0, 0, []), (12, .getfield 9, 0, 5, 0, []), (15, .aload_n 0, 0, 0, 0, []), (16, .getfield 30, 5, 5, 0, []), (19, .iaload, 0, 0, 0, []), (20, .iload_n 1, 1, 0, 0, []), (21, .iload_n 2, 2, 0, 0, []), (22, .invokestatic 75, 44, 3, 1, []), (25, .ifCond .eq (16), 1, 0, 0, []), (28, .aload_n 0, 0, 0, 0, []), (29, .dup, 0, 0, 0, []), (30, .getfield 30, 5, 5, 0, []), (33, .iconst 1, 0, 0, 0, []), (34, .iadd, 0, 0, 0, []), (35, .putfield 30, 5, 5, 0, []), (38, .goto (-38), 0, 0, 0, [])])
def mk_b209_1 : List Bool × List mj_I := ([false, false, false], [(41, .return_, 0, 0, 0, [])])
def mk_m209 : Nat × Nat × List (List Bool × List mj_I) := (3, 6, [mk_b209_0, mk_b209_1])
/-- NumbersCalled$Tape.isSign(I)Z -/
def mk_b210_0 : List Bool × List mj_I := ([true], [(0, .iload_n 0, 0, 0, 0, []), (1, .bipush 40, 0, 0, 0, []), (3, .if_icmp .eq (45), 1, 0, 0, []), (6, .iload_n 0, 0, 0, 0, []), (7, .bipush 41, 0, 0, 0, []), (9, .if_icmp .eq (39), 1, 0, 0, []), (12, .iload_n 0, 0, 0, 0, []), (13, .bipush 59, 0, 0, 0, []), (15, .if_icmp .eq (33), 1, 0, 0, []), (18, .iload_n 0, 0, 0, 0, []), (19, .bipush 43, 0, 0, 0, []), (21, .if_icmp .eq (27), 1, 0, 0, []), (24, .iload_n 0, 0, 0, 0, []), (25, .bipush 45, 0, 0, 0, []), (27, .if_icmp .eq (21), 1, 0, 0, []), (30, .iload_n 0, 0, 0, 0, []), (31, .bipush 42, 0, 0, 0, []), (33, .if_icmp .eq (15), 1, 0, 0, []), (36, .iload_n 0, 0, 0, 0, []), (37, .bipush 60, 0, 0, 0, []), (39, .if_icmp .eq (9), 1, 0, 0, []), (42, .iload_n 0, 0, 0, 0, []), (43, .bipush 61, 0, 0, 0, []), (45, .if_icmp .ne (7), 2, 0, 0, []), (48, .nop, 1, 0, 0, [])])
def mk_b210_1 : List Bool × List mj_I := ([false], [(48, .iconst 1, 0, 0, 0, []), (49, .goto (4), 3, 0, 0, [])])
def mk_b210_2 : List Bool × List mj_I := ([false], [(52, .iconst 0, 0, 0, 0, []), (53, .nop, 3, 0, 0, [])])
def mk_b210_3 : List Bool × List mj_I := ([false], [(53, .ireturn, 0, 0, 1, [])])
def mk_m210 : Nat × Nat × List (List Bool × List mj_I) := (1, 0, [mk_b210_0, mk_b210_1, mk_b210_2, mk_b210_3])
/-- NumbersCalled$Tape.numberToken()I -/
def mk_b211_0 : List Bool × List mj_I := ([true, false], [(0, .aload_n 0, 0, 0, 0, []), (1, .getfield 30, 5, 5, 0, []), (4, .aload_n 0, 0, 0, 0, []), (5, .getfield 33, 6, 5, 0, []), (8, .isub, 0, 0, 0, []), (9, .iconst 4, 0, 0, 0, []), (10, .if_icmp .le (6), 1, 0, 0, []), (13, .bipush 15, 0, 0, 0, []), (15, .ireturn, 0, 0, 0, [])])
def mk_b211_1 : List Bool × List mj_I := ([true, false], [(16, .aload_n 0, 0, 0, 0, []), (17, .iconst 0, 0, 0, 0, []), (18, .putfield 39, 8, 5, 0, []), (21, .aload_n 0, 0, 0, 0, []), (22, .getfield 33, 6, 5, 0, []), (25, .istore_n 1, 1, 0, 0, []), (26, .nop, 2, 0, 0, [])])
def mk_b211_2 : List Bool × List mj_I := ([true, true], [(26, .iload_n 1, 1, 0, 0, []), (27, .aload_n 0, 0, 0, 0, []), (28, .getfield 30, 5, 5, 0, []), (31, .if_icmp .ge (30), 3, 0, 0, []), (34, .aload_n 0, 0, 0, 0, []), (35, .aload_n 0, 0, 0, 0, []), (36, .getfield 39, 8, 5, 0, []), (39, .bipush 10, 0, 0, 0, []), (41, .imul, 0, 0, 0, []), (42, .aload_n 0, 0, 0, 0, []), (43, .getfield 9, 0, 5, 0, []), (46, .iload_n 1, 1, 0, 0, []), (47, .iaload, 0, 0, 0, []), (48, .iadd, 0, 0, 0, []), (49, .bipush 48, 0, 0, 0, []), (51, .isub, 0, 0, 0, []), (52, .putfield 39, 8, 5, 0, []), (55, .iinc 1 1, 1, 0, 0, []), (58, .goto (-32), 2, 0, 0, [])])
def mk_b211_3 : List Bool × List mj_I := ([false, false], [(61, .bipush 13, 0, 0, 0, []), (63, .ireturn, 0, 0, 0, [])])
def mk_m211 : Nat × Nat × List (List Bool × List mj_I) := (2, 6, [mk_b211_0, mk_b211_1, mk_b211_2, mk_b211_3])
/-- NumbersCalled$Tape.wordToken()I -/
def mk_b212_0 : List Bool × List mj_I := ([true, false], [(0, .aload_n 0, 0, 0, 0, []), (1, .getfield 30, 5, 5, 0, []), (4, .aload_n 0, 0, 0, 0, []), (5, .getfield 33, 6, 5, 0, []), (8, .isub, 0, 0, 0, []), (9, .bipush 6, 0, 0, 0, []), (11, .if_icmp .le (6), 1, 0, 0, []), (14, .bipush 15, 0, 0, 0, []), (16, .ireturn, 0, 0, 0, [])])
def mk_b212_1 : List Bool × List mj_I := ([true, false], [(17, .iconst 0, 0, 0, 0, []), (18, .istore_n 1, 1, 0, 0, []), (19, .nop, 2, 0, 0, [])])
def mk_b212_2 : List Bool × List mj_I := ([true, true], [(19, .iload_n 1, 1, 0, 0, []), (20, .bipush 12, 0, 0, 0, []), (22, .if_icmp .ge (19), 4, 0, 0, []), (25, .aload_n 0, 0, 0, 0, []), (26, .iload_n 1, 1, 0, 0, []), (27, .invokevirtual 93, 213, 2, 1, []), (30, .ifCond .eq (5), 3, 0, 0, []), (33, .iload_n 1, 1, 0, 0, []), (34, .ireturn, 0, 0, 0, [])])
def mk_b212_3 : List Bool × List mj_I := ([true, true], [(35, .iinc 1 1, 1, 0, 0, []), (38, .goto (-19), 2, 0, 0, [])])
def mk_b212_4 : List Bool × List mj_I := ([false, false], [(41, .bipush 15, 0, 0, 0, []), (43, .ireturn, 0, 0, 0, [])])
def mk_m212 : Nat × Nat × List (List Bool × List mj_I) := (2, 6, [mk_b212_0, mk_b212_1, mk_b212_2, mk_b212_3, mk_b212_4])
/-- NumbersCalled$Tape.isWord(I)Z -/
def mk_b213_0 : List Bool × List mj_I := ([true, true, false, false], [(0, .iconst 0, 0, 0, 0, []), (1, .istore_n 2, 2, 0, 0, []), (2, .nop, 1, 0, 0, [])])
def mk_b213_1 : List Bool × List mj_I := ([true, true, true, false], [(2, .iload_n 2, 2, 0, 0, []), (3, .bipush 6, 0, 0, 0, []), (5, .if_icmp .ge (56), 5, 0, 0, []), (8, .aload_n 0, 0, 0, 0, []), (9, .getfield 33, 6, 5, 0, []), (12, .iload_n 2, 2, 0, 0, []), (13, .iadd, 0, 0, 0, []), (14, .aload_n 0, 0, 0, 0, []), (15, .getfield 30, 5, 5, 0, []), (18, .if_icmp .ge (17), 2, 0, 0, []), (21, .aload_n 0, 0, 0, 0, []), (22, .getfield 9, 0, 5, 0, []), (25, .aload_n 0, 0, 0, 0, []), (26, .getfield 33, 6, 5, 0, []), (29, .iload_n 2, 2, 0, 0, []), (30, .iadd, 0, 0, 0, []), (31, .iaload, 0, 0, 0, []), (32, .goto (5), 3, 0, 0, [])])
def mk_b213_2 : List Bool × List mj_I := ([true, true, true, false], [(35, .bipush 32, 0, 0, 0, []), (37, .nop, 3, 0, 0, [])])
def mk_b213_3 : List Bool × List mj_I := ([true, true, true, false], [(37, .istore_n 3, 3, 0, 0, []), (38, .ldc 96, 63, 0, 1, []), (40, .iload_n 1, 1, 0, 0, []), (41, .bipush 6, 0, 0, 0, []), (43, .imul, 0, 0, 0, []), (44, .iload_n 2, 2, 0, 0, []), (45, .iadd, 0, 0, 0, []), (46, .invokevirtual 98, 0, 0, 7, []), (49, .iload_n 3, 3, 0, 0, []), (50, .if_icmp .eq (5), 4, 0, 0, []), (53, .iconst 0, 0, 0, 0, []), (54, .ireturn, 0, 0, 1, [])])
def mk_b213_4 : List Bool × List mj_I := ([true, true, true, false], [(55, .iinc 2 1, 2, 0, 0, []), (58, .goto (-56), 1, 0, 0, [])])
def mk_b213_5 : List Bool × List mj_I := ([false, false, false, false], [(61, .iconst 1, 0, 0, 0, []), (62, .ireturn, 0, 0, 1, [])])
def mk_m213 : Nat × Nat × List (List Bool × List mj_I) := (4, 6, [mk_b213_0, mk_b213_1, mk_b213_2, mk_b213_3, mk_b213_4, mk_b213_5])
/-- NumbersCalled$Text.become(LNumbersCalled$Tape;)V -/
def mk_b214_0 : List Bool × List mj_I := ([true, true, false], [(0, .iconst 0, 0, 0, 0, []), (1, .istore_n 2, 2, 0, 0, []), (2, .nop, 1, 0, 0, [])])
def mk_b214_1 : List Bool × List mj_I := ([true, true, true], [(2, .iload_n 2, 2, 0, 0, []), (3, .sipush 160, 0, 0, 0, []), (6, .if_icmp .ge (21), 2, 0, 0, []), (9, .aload_n 0, 0, 0, 0, []), (10, .getfield 9, 0, 6, 0, []), (13, .iload_n 2, 2, 0, 0, []), (14, .aload_n 1, 1, 0, 0, []), (15, .getfield 24, 2, 5, 0, []), (18, .iload_n 2, 2, 0, 0, []), (19, .iaload, 0, 0, 0, []), (20, .iastore, 0, 0, 0, []), (21, .iinc 2 1, 2, 0, 0, []), (24, .goto (-22), 1, 0, 0, [])])
def mk_b214_2 : List Bool × List mj_I := ([true, true, false], [(27, .iconst 0, 0, 0, 0, []), (28, .istore_n 2, 2, 0, 0, []), (29, .nop, 3, 0, 0, [])])
def mk_b214_3 : List Bool × List mj_I := ([true, true, true], [(29, .iload_n 2, 2, 0, 0, []), (30, .iconst 2, 0, 0, 0, []), (31, .if_icmp .gt (21), 4, 0, 0, []), (34, .aload_n 0, 0, 0, 0, []), (35, .getfield 15, 1, 6, 0, []), (38, .iload_n 2, 2, 0, 0, []), (39, .aload_n 1, 1, 0, 0, []), (40, .getfield 27, 3, 5, 0, []), (43, .iload_n 2, 2, 0, 0, []), (44, .iaload, 0, 0, 0, []), (45, .iastore, 0, 0, 0, []), (46, .iinc 2 1, 2, 0, 0, []), (49, .goto (-20), 3, 0, 0, [])])
def mk_b214_4 : List Bool × List mj_I := ([false, false, false], [(52, .return_, 0, 0, 0, [])])
def mk_m214 : Nat × Nat × List (List Bool × List mj_I) := (3, 7, [mk_b214_0, mk_b214_1, mk_b214_2, mk_b214_3, mk_b214_4])
/-- NumbersCalled$Text.worth(ILNumbersCalled$Asker;III)I -/
def mk_b215_0 : List Bool × List mj_I := ([true, true, true, true, true, true, false, false, false, false, false], [(0, .aload_n 0, 0, 0, 0, []), (1, .getfield 21, 3, 6, 0, []), (4, .iconst 0, 0, 0, 0, []), (5, .aload_n 2, 2, 0, 0, []), (6, .getfield 28, 2, 0, 0, []), (9, .iastore, 0, 0, 0, []), (10, .aload_n 0, 0, 0, 0, []), (11, .getfield 21, 3, 6, 0, []), (14, .iconst 1, 0, 0, 0, []), (15, .aload_n 2, 2, 0, 0, []), (16, .getfield 34, 3, 0, 0, []), (19, .iastore, 0, 0, 0, []), (20, .aload_n 0, 0, 0, 0, []), (21, .getfield 21, 3, 6, 0, []), (24, .iconst 2, 0, 0, 0, []), (25, .iload 4, 4, 0, 0, []), (27, .iastore, 0, 0, 0, []), (28, .aload_n 0, 0, 0, 0, []), (29, .getfield 21, 3, 6, 0, []), (32, .iconst 3, 0, 0, 0, []), (33, .iload_n 3, 3, 0, 0, []), (34, .iastore, 0, 0, 0, []), (35, .aload_n 0, 0, 0, 0, []), (36, .getfield 21, 3, 6, 0, []), (39, .iconst 4, 0, 0, 0, []), (40, .iload 5, 5, 0, 0, []), (42, .iastore, 0, 0, 0, []), (43, .aload_n 0, 0, 0, 0, []), (44, .getfield 21, 3, 6, 0, []), (47, .iconst 5, 0, 0, 0, []), (48, .aload_n 2, 2, 0, 0, []), (49, .getfield 37, 1, 0, 0, []), (52, .iastore, 0, 0, 0, []), (53, .iconst 0, 0, 0, 0, []), (54, .istore 6, 6, 0, 0, []), (56, .iload_n 1, 1, 0, 0, []), (57, .ifCond .ne (7), 1, 0, 0, []), (60, .iconst 0, 0, 0, 0, []), (61, .goto (11), 2, 0, 0, [])])
def mk_b215_1 : List Bool × List mj_I := ([true, true, false, false, false, false, true, false, false, false, false], [(64, .aload_n 0, 0, 0, 0, []), (65, .getfield 15, 1, 6, 0, []), (68, .iload_n 1, 1, 0, 0, []), (69, .iconst 1, 0, 0, 0, []), (70, .isub, 0, 0, 0, []), (71, .iaload, 0, 0, 0, []), (72, .nop, 2, 0, 0, [])])
def mk_b215_2 : List Bool × List mj_I := ([true, true, false, false, false, false, true, false, false, false, false], [(72, .istore 7, 7, 0, 0, []), (74, .nop, 3, 0, 0, [])])
def mk_b215_3 : List Bool × List mj_I := ([true, true, false, false, false, false, true, true, false, false, false], [(74, .iload 7, 7, 0, 0, []), (76, .aload_n 0, 0, 0, 0, []), (77, .getfield 15, 1, 6, 0, []), (80, .iload_n 1, 1, 0, 0, []), (81, .iaload, 0, 0, 0, []), (82, .if_icmp .ge (199), 16, 0, 0, []), (85, .aload_n 0, 0, 0, 0, []), (86, .getfield 9, 0, 6, 0, []), (89, .iload 7, 7, 0, 0, []), (91, .iaload, 0, 0, 0, []), (92, .iconst (-1), 0, 0, 0, []), (93, .ixor, 0, 0, 0, []), (94, .istore 8, 8, 0, 0, []), (96, .iload 8, 8, 0, 0, []), (98, .bipush 6, 0, 0, 0, []), (100, .if_icmp .lt (14), 4, 0, 0, []), (103, .iload 8, 8, 0, 0, []), (105, .bipush 11, 0, 0, 0, []), (107, .if_icmp .gt (7), 4, 0, 0, []), (110, .iconst 1, 0, 0, 0, []), (111, .goto (4), 5, 0, 0, [])])
def mk_b215_4 : List Bool × List mj_I := ([true, true, false, false, false, false, true, true, true, false, false], [(114, .iconst 0, 0, 0, 0, []), (115, .nop, 5, 0, 0, [])])
def mk_b215_5 : List Bool × List mj_I := ([true, true, false, false, false, false, true, true, true, false, false], [(115, .istore 9, 9, 0, 0, []), (117, .iload 8, 8, 0, 0, []), (119, .ifCond .lt (8), 6, 0, 0, []), (122, .iload 9, 9, 0, 0, []), (124, .ifCond .eq (48), 9, 0, 0, []), (127, .nop, 6, 0, 0, [])])
def mk_b215_6 : List Bool × List mj_I := ([true, true, false, false, false, false, true, true, true, true, false], [(127, .iload 6, 6, 0, 0, []), (129, .bipush 32, 0, 0, 0, []), (131, .if_icmp .ge (144), 15, 0, 0, []), (134, .aload_n 0, 0, 0, 0, []), (135, .getfield 18, 2, 6, 0, []), (138, .iload 6, 6, 0, 0, []), (140, .iload 9, 9, 0, 0, []), (142, .ifCond .eq (16), 7, 0, 0, []), (145, .aload_n 0, 0, 0, 0, []), (146, .getfield 21, 3, 6, 0, []), (149, .iload 8, 8, 0, 0, []), (151, .bipush 6, 0, 0, 0, []), (153, .isub, 0, 0, 0, []), (154, .iaload, 0, 0, 0, []), (155, .goto (10), 8, 0, 0, [])])
def mk_b215_7 : List Bool × List mj_I := ([true, true, false, false, false, false, true, true, false, false, false], [(158, .aload_n 0, 0, 0, 0, []), (159, .getfield 9, 0, 6, 0, []), (162, .iload 7, 7, 0, 0, []), (164, .iaload, 0, 0, 0, []), (165, .nop, 8, 0, 0, [])])
def mk_b215_8 : List Bool × List mj_I := ([true, true, false, false, false, false, true, true, false, false, false], [(165, .iastore, 0, 0, 0, []), (166, .iinc 6 1, 6, 0, 0, []), (169, .goto (106), 15, 0, 0, [])])
def mk_b215_9 : List Bool × List mj_I := ([true, true, false, false, false, false, true, true, true, false, false], [(172, .iload 8, 8, 0, 0, []), (174, .iconst 5, 0, 0, 0, []), (175, .if_icmp .eq (10), 10, 0, 0, []), (178, .iload 8, 8, 0, 0, []), (180, .bipush 12, 0, 0, 0, []), (182, .if_icmp .ne (54), 14, 0, 0, []), (185, .nop, 10, 0, 0, [])])
def mk_b215_10 : List Bool × List mj_I := ([true, true, false, false, false, false, true, true, true, false, false], [(185, .iload 6, 6, 0, 0, []), (187, .ifCond .le (88), 15, 0, 0, []), (190, .aload_n 0, 0, 0, 0, []), (191, .getfield 18, 2, 6, 0, []), (194, .iload 6, 6, 0, 0, []), (196, .iconst 1, 0, 0, 0, []), (197, .isub, 0, 0, 0, []), (198, .iaload, 0, 0, 0, []), (199, .istore 10, 10, 0, 0, []), (201, .aload_n 0, 0, 0, 0, []), (202, .getfield 18, 2, 6, 0, []), (205, .iload 6, 6, 0, 0, []), (207, .iconst 1, 0, 0, 0, []), (208, .isub, 0, 0, 0, []), (209, .iload 8, 8, 0, 0, []), (211, .bipush 12, 0, 0, 0, []), (213, .if_icmp .ne (9), 11, 0, 0, []), (216, .iload 10, 10, 0, 0, []), (218, .ineg, 0, 0, 0, []), (219, .goto (13), 13, 0, 0, [])])
def mk_b215_11 : List Bool × List mj_I := ([true, true, false, false, false, false, true, true, false, false, true], [(222, .iload 10, 10, 0, 0, []), (224, .ifCond .ne (7), 12, 0, 0, []), (227, .iconst 1, 0, 0, 0, []), (228, .goto (4), 13, 0, 0, [])])
def mk_b215_12 : List Bool × List mj_I := ([true, true, false, false, false, false, true, true, false, false, false], [(231, .iconst 0, 0, 0, 0, []), (232, .nop, 13, 0, 0, [])])
def mk_b215_13 : List Bool × List mj_I := ([true, true, false, false, false, false, true, true, false, false, false], [(232, .iastore, 0, 0, 0, []), (233, .goto (42), 15, 0, 0, [])])
def mk_b215_14 : List Bool × List mj_I := ([true, true, false, false, false, false, true, true, true, false, false], [(236, .iload 6, 6, 0, 0, []), (238, .iconst 1, 0, 0, 0, []), (239, .if_icmp .le (36), 15, 0, 0, []), (242, .iinc 6 (-1), 6, 0, 0, []), (245, .aload_n 0, 0, 0, 0, []), (246, .getfield 18, 2, 6, 0, []), (249, .iload 6, 6, 0, 0, []), (251, .iconst 1, 0, 0, 0, []), (252, .isub, 0, 0, 0, []), (253, .iload 8, 8, 0, 0, []), (255, .aload_n 0, 0, 0, 0, []), (256, .getfield 18, 2, 6, 0, []), (259, .iload 6, 6, 0, 0, []), (261, .iconst 1, 0, 0, 0, []), (262, .isub, 0, 0, 0, []), (263, .iaload, 0, 0, 0, []), (264, .aload_n 0, 0, 0, 0, []), (265, .getfield 18, 2, 6, 0, []), (268, .iload 6, 6, 0, 0, []), (270, .iaload, 0, 0, 0, []), (271, .invokestatic 40, 216, 3, 1, []), (274, .iastore, 0, 0, 0, []), (275, .nop, 15, 0, 0, [])])
def mk_b215_15 : List Bool × List mj_I := ([true, true, false, false, false, false, true, true, false, false, false], [(275, .iinc 7 1, 7, 0, 0, []), (278, .goto (-204), 3, 0, 0, [])])
def mk_b215_16 : List Bool × List mj_I := ([true, false, false, false, false, false, true, false, false, false, false], [(281, .iload 6, 6, 0, 0, []), (283, .ifCond .le (12), 17, 0, 0, []), (286, .aload_n 0, 0, 0, 0, []), (287, .getfield 18, 2, 6, 0, []), (290, .iconst 0, 0, 0, 0, []), (291, .iaload, 0, 0, 0, []), (292, .goto (4), 18, 0, 0, [])])
def mk_b215_17 : List Bool × List mj_I := ([false, false, false, false, false, false, false, false, false, false, false], [(295, .iconst 0, 0, 0, 0, []), (296, .nop, 18, 0, 0, [])])
def mk_b215_18 : List Bool × List mj_I := ([false, false, false, false, false, false, false, false, false, false, false], [(296, .ireturn, 0, 0, 0, [])])
def mk_m215 : Nat × Nat × List (List Bool × List mj_I) := (11, 7, [mk_b215_0, mk_b215_1, mk_b215_2, mk_b215_3, mk_b215_4, mk_b215_5, mk_b215_6, mk_b215_7, mk_b215_8, mk_b215_9, mk_b215_10, mk_b215_11, mk_b215_12, mk_b215_13, mk_b215_14, mk_b215_15, mk_b215_16, mk_b215_17, mk_b215_18])
/-- NumbersCalled$Text.joined(III)I -/
def mk_b216_0 : List Bool × List mj_I := ([true, true, true], [(0, .iload_n 0, 0, 0, 0, []), (1, .lookupswitch (117) #[(3, 59), (4, 73), (43, 109), (45, 113), (60, 87), (61, 98)], 16, 0, 0, [(3, 1), (4, 5), (43, 14), (45, 15), (60, 8), (61, 11)])])
def mk_b216_1 : List Bool × List mj_I := ([false, true, true], [(60, .iload_n 1, 1, 0, 0, []), (61, .ifCond .ne (7), 2, 0, 0, []), (64, .iload_n 2, 2, 0, 0, []), (65, .ifCond .eq (7), 3, 0, 0, []), (68, .nop, 2, 0, 0, [])])
def mk_b216_2 : List Bool × List mj_I := ([false, false, false], [(68, .iconst 1, 0, 0, 0, []), (69, .goto (4), 4, 0, 0, [])])
def mk_b216_3 : List Bool × List mj_I := ([false, false, false], [(72, .iconst 0, 0, 0, 0, []), (73, .nop, 4, 0, 0, [])])
def mk_b216_4 : List Bool × List mj_I := ([false, false, false], [(73, .ireturn, 0, 0, 0, [])])
def mk_b216_5 : List Bool × List mj_I := ([false, true, true], [(74, .iload_n 1, 1, 0, 0, []), (75, .ifCond .eq (11), 6, 0, 0, []), (78, .iload_n 2, 2, 0, 0, []), (79, .ifCond .eq (7), 6, 0, 0, []), (82, .iconst 1, 0, 0, 0, []), (83, .goto (4), 7, 0, 0, [])])
def mk_b216_6 : List Bool × List mj_I := ([false, false, false], [(86, .iconst 0, 0, 0, 0, []), (87, .nop, 7, 0, 0, [])])
def mk_b216_7 : List Bool × List mj_I := ([false, false, false], [(87, .ireturn, 0, 0, 0, [])])
def mk_b216_8 : List Bool × List mj_I := ([false, true, true], [(88, .iload_n 1, 1, 0, 0, []), (89, .iload_n 2, 2, 0, 0, []), (90, .if_icmp .ge (7), 9, 0, 0, []), (93, .iconst 1, 0, 0, 0, []), (94, .goto (4), 10, 0, 0, [])])
def mk_b216_9 : List Bool × List mj_I := ([false, false, false], [(97, .iconst 0, 0, 0, 0, []), (98, .nop, 10, 0, 0, [])])
def mk_b216_10 : List Bool × List mj_I := ([false, false, false], [(98, .ireturn, 0, 0, 0, [])])
def mk_b216_11 : List Bool × List mj_I := ([false, true, true], [(99, .iload_n 1, 1, 0, 0, []), (100, .iload_n 2, 2, 0, 0, []), (101, .if_icmp .ne (7), 12, 0, 0, []), (104, .iconst 1, 0, 0, 0, []), (105, .goto (4), 13, 0, 0, [])])
def mk_b216_12 : List Bool × List mj_I := ([false, false, false], [(108, .iconst 0, 0, 0, 0, []), (109, .nop, 13, 0, 0, [])])
def mk_b216_13 : List Bool × List mj_I := ([false, false, false], [(109, .ireturn, 0, 0, 0, [])])
def mk_b216_14 : List Bool × List mj_I := ([false, true, true], [(110, .iload_n 1, 1, 0, 0, []), (111, .iload_n 2, 2, 0, 0, []), (112, .iadd, 0, 0, 0, []), (113, .ireturn, 0, 0, 0, [])])
def mk_b216_15 : List Bool × List mj_I := ([false, true, true], [(114, .iload_n 1, 1, 0, 0, []), (115, .iload_n 2, 2, 0, 0, []), (116, .isub, 0, 0, 0, []), (117, .ireturn, 0, 0, 0, [])])
def mk_b216_16 : List Bool × List mj_I := ([false, true, true], [(118, .iload_n 1, 1, 0, 0, []), (119, .iload_n 2, 2, 0, 0, []), (120, .imul, 0, 0, 0, []), (121, .ireturn, 0, 0, 0, [])])
def mk_m216 : Nat × Nat × List (List Bool × List mj_I) := (3, 0, [mk_b216_0, mk_b216_1, mk_b216_2, mk_b216_3, mk_b216_4, mk_b216_5, mk_b216_6, mk_b216_7, mk_b216_8, mk_b216_9, mk_b216_10, mk_b216_11, mk_b216_12, mk_b216_13, mk_b216_14, mk_b216_15, mk_b216_16])
def mk_CS : List Int := [(-4611686018427387904), 1000000, 99999, 48271, 2147483647, 21, 1000000000, 100, 100000]
def mk_PG : mj_P := [mk_m0, mk_m1, mk_m2, mk_m3, mk_m4, mk_m5, mk_m6, mk_m7, mk_m8, mk_m9, mk_m10, mk_m11, mk_m12, mk_m13, mk_m14, mk_m15, mk_m16, mk_m17, mk_m18, mk_m19, mk_m20, mk_m21, mk_m22, mk_m23, mk_m24, mk_m25, mk_m26, mk_m27, mk_m28, mk_m29, mk_m30, mk_m31, mk_m32, mk_m33, mk_m34, mk_m35, mk_m36, mk_m37, mk_m38, mk_m39, mk_m40, mk_m41, mk_m42, mk_m43, mk_m44, mk_m45, mk_m46, mk_m47, mk_m48, mk_m49, mk_m50, mk_m51, mk_m52, mk_m53, mk_m54, mk_m55, mk_m56, mk_m57, mk_m58, mk_m59, mk_m60, mk_m61, mk_m62, mk_m63, mk_m64, mk_m65, mk_m66, mk_m67, mk_m68, mk_m69, mk_m70, mk_m71, mk_m72, mk_m73, mk_m74, mk_m75, mk_m76, mk_m77, mk_m78, mk_m79, mk_m80, mk_m81, mk_m82, mk_m83, mk_m84, mk_m85, mk_m86, mk_m87, mk_m88, mk_m89, mk_m90, mk_m91, mk_m92, mk_m93, mk_m94, mk_m95, mk_m96, mk_m97, mk_m98, mk_m99, mk_m100, mk_m101, mk_m102, mk_m103, mk_m104, mk_m105, mk_m106, mk_m107, mk_m108, mk_m109, mk_m110, mk_m111, mk_m112, mk_m113, mk_m114, mk_m115, mk_m116, mk_m117, mk_m118, mk_m119, mk_m120, mk_m121, mk_m122, mk_m123, mk_m124, mk_m125, mk_m126, mk_m127, mk_m128, mk_m129, mk_m130, mk_m131, mk_m132, mk_m133, mk_m134, mk_m135, mk_m136, mk_m137, mk_m138, mk_m139, mk_m140, mk_m141, mk_m142, mk_m143, mk_m144, mk_m145, mk_m146, mk_m147, mk_m148, mk_m149, mk_m150, mk_m151, mk_m152, mk_m153, mk_m154, mk_m155, mk_m156, mk_m157, mk_m158, mk_m159, mk_m160, mk_m161, mk_m162, mk_m163, mk_m164, mk_m165, mk_m166, mk_m167, mk_m168, mk_m169, mk_m170, mk_m171, mk_m172, mk_m173, mk_m174, mk_m175, mk_m176, mk_m177, mk_m178, mk_m179, mk_m180, mk_m181, mk_m182, mk_m183, mk_m184, mk_m185, mk_m186, mk_m187, mk_m188, mk_m189, mk_m190, mk_m191, mk_m192, mk_m193, mk_m194, mk_m195, mk_m196, mk_m197, mk_m198, mk_m199, mk_m200, mk_m201, mk_m202, mk_m203, mk_m204, mk_m205, mk_m206, mk_m207, mk_m208, mk_m209, mk_m210, mk_m211, mk_m212, mk_m213, mk_m214, mk_m215, mk_m216]
noncomputable def kd (d y l : Nat) (ls : mj_L) (st : List mj_V) (μ : mj_M) : mj_R := mj_den mk_LY mk_TB mk_CS mk_PG d y l ls st μ
noncomputable def kc (d y : Nat) (as : List mj_V) (μ : mj_M) : mj_R := mj_call mk_LY mk_TB mk_CS mk_PG d y as μ
abbrev v_i (x : Int) : mj_V := .inl x
abbrev v_l (x : Int) : mj_V := .inr (.inl x)
abbrev v_r (s i : Nat) : mj_V := .inr (.inr (s, i))
theorem kd_fix {d y l : Nat} {ls : mj_L} {st : List mj_V} {μ : mj_M} : kd d y l ls st μ = mj_blk mk_LY mk_TB mk_CS (fun l' => kd d y l') (kc d) (mj_bk mk_PG y l).2 (mj_keep (mj_bk mk_PG y l).1 ls) st μ := mj_fix
def mj_mem : List Nat → Nat → Bool
  | [], _ => false
  | a :: l, x => match Nat.beq a x with
    | true => true
    | false => mj_mem l x
noncomputable def kd_u (d y : Nat) (cs : List Nat) : Nat → Nat → mj_L → List mj_V → mj_M → mj_R
  | 0, l, ls, st, μ => kd d y l ls st μ
  | n + 1, l, ls, st, μ => match mj_mem cs l with
    | true => kd d y l ls st μ
    | false => mj_blk mk_LY mk_TB mk_CS (kd_u d y cs n) (kc d) (mj_bk mk_PG y l).2 (mj_keep (mj_bk mk_PG y l).1 ls) st μ
theorem kd_u_eq {d y : Nat} {cs : List Nat} : ∀ n : Nat, kd_u d y cs n = fun l => kd d y l := by
  intro n
  induction n with
  | zero => rfl
  | succ n ih =>
    funext l ls st μ
    unfold kd_u
    split
    · rfl
    · rw [ih]
      exact kd_fix.symm
theorem kd_unf {d y l : Nat} {ls : mj_L} {st : List mj_V} {μ : mj_M} (cs : List Nat) (n : Nat) : kd d y l ls st μ = mj_blk mk_LY mk_TB mk_CS (kd_u d y cs n) (kc d) (mj_bk mk_PG y l).2 (mj_keep (mj_bk mk_PG y l).1 ls) st μ := by
  rw [kd_u_eq]
  exact kd_fix
end
section
/-! printed by wip/whole/eqs.py: what each cut of each method comes to -/
-- 0 NumbersCalled.counter(II)I
set_option maxRecDepth 20000 in
theorem ke0_0 (d : Nat) (p1 : Int) (p2 : Int) (μ : mj_M) : kc (d + 1) 0 [v_r 0 0, v_i p1, v_i p2] μ = mj_rI (kc d 44 [v_i p1, v_i 0, v_i 15] μ) fun x1 m2 => if x1 = 0 then (some (some (v_i (-2)), m2)) else (mj_rI (kc d 44 [v_i p2, v_i 0, v_i 9] m2) fun x3 m4 => if x3 = 0 then (some (some (v_i (-2)), m4)) else (if (m4 1 0 0) < 4 then (if 0 ≤ (m4 1 0 0) ∧ (m4 1 0 0) < 4 then (if 0 ≤ (m4 1 0 0) ∧ (m4 1 0 0) < 4 then (if 0 ≤ (m4 1 0 0) ∧ (m4 1 0 0) < 4 then (some (some (v_i (m4 1 0 0)), mj_up (mj_up (mj_up (mj_up m4 2 0 ((m4 1 0 0).toNat) p1) 3 0 ((m4 1 0 0).toNat) p2) 4 0 ((m4 1 0 0).toNat) (-1)) 1 0 0 (mj_w ((m4 1 0 0) + 1)))) else (none)) else (none)) else (none)) else (some (some (v_i (-4)), m4)))) := (kd_unf [] 40).trans rfl
-- 1 NumbersCalled.change(III)I
set_option maxRecDepth 20000 in
theorem ke1_0 (d : Nat) (p1 : Int) (p2 : Int) (p3 : Int) (μ : mj_M) : kc (d + 1) 1 [v_r 0 0, v_i p1, v_i p2, v_i p3] μ = mj_rI (kc d 49 [v_r 0 0, v_i p1] μ) fun x1 m2 => if x1 = 0 then (some (some (v_i (-5)), m2)) else (mj_rI (kc d 51 [v_i p2, v_i p3] m2) fun x3 m4 => if x3 = 0 then (some (some (v_i (-7)), m4)) else (mj_rI (kc d 52 [v_r 0 0, v_i p1, v_i p2] m4) fun x5 m6 => if p2 = 0 then (if 0 ≤ p1 ∧ p1 < 4 then (some (some (v_i x5), mj_up m6 2 0 p1.toNat p3)) else (none)) else if p2 = 1 then (if 0 ≤ p1 ∧ p1 < 4 then (some (some (v_i x5), mj_up m6 3 0 p1.toNat p3)) else (none)) else (if 0 ≤ p1 ∧ p1 < 4 then (some (some (v_i x5), mj_up m6 4 0 p1.toNat p3)) else (none)))) := (kd_unf [] 40).trans rfl
-- 2 NumbersCalled.counterTold(II)I
set_option maxRecDepth 20000 in
theorem ke2_0 (d : Nat) (p1 : Int) (p2 : Int) (μ : mj_M) : kc (d + 1) 2 [v_r 0 0, v_i p1, v_i p2] μ = mj_rI (kc d 49 [v_r 0 0, v_i p1] μ) fun x1 m2 => if x1 = 0 then (some (some (v_i (-5)), m2)) else (mj_rI (kc d 44 [v_i p2, v_i 0, v_i 2] m2) fun x3 m4 => if x3 = 0 then (some (some (v_i (-7)), m4)) else (mj_rI (kc d 52 [v_r 0 0, v_i p1, v_i p2] m4) fun x5 m6 => some (some (v_i x5), m6))) := (kd_unf [] 40).trans rfl
-- 3 NumbersCalled.set(II)I
set_option maxRecDepth 20000 in
theorem ke3_0 (d : Nat) (p1 : Int) (p2 : Int) (μ : mj_M) : kc (d + 1) 3 [v_r 0 0, v_i p1, v_i p2] μ = mj_rI (kc d 44 [v_i p1, v_i 0, v_i 2] μ) fun x1 m2 => if x1 = 0 then (some (some (v_i (-1)), m2)) else (mj_rI (kc d 53 [v_i p1, v_i p2] m2) fun x3 m4 => if x3 = 0 then (some (some (v_i (-2)), m4)) else (mj_rI (kc d 54 [v_r 0 0, v_i p1] m4) fun x5 m6 => if p1 = 0 then (some (some (v_i x5), mj_up m6 1 0 6 p2)) else if p1 = 1 then (some (some (v_i x5), mj_up m6 1 0 7 p2)) else (some (some (v_i x5), mj_up m6 1 0 8 p2)))) := (kd_unf [] 40).trans rfl
-- 4 NumbersCalled.count(I)I
set_option maxRecDepth 20000 in
theorem ke4_0 (d : Nat) (p1 : Int) (μ : mj_M) : kc (d + 1) 4 [v_r 0 0, v_i p1] μ = if p1 = 0 then (mj_rI (kc d 54 [v_r 0 0, v_i p1] μ) fun x1 m2 => some (some (v_i x1), m2)) else if p1 = 1 then (mj_rI (kc d 54 [v_r 0 0, v_i p1] μ) fun x3 m4 => some (some (v_i x3), m4)) else if p1 = 2 then (mj_rI (kc d 54 [v_r 0 0, v_i p1] μ) fun x5 m6 => some (some (v_i x5), m6)) else if p1 = 3 then (some (some (v_i (μ 1 0 0)), μ)) else if p1 = 4 then (some (some (v_i (μ 1 0 4)), μ)) else if p1 = 5 then (some (some (v_i (μ 0 0 5)), μ)) else if p1 = 6 then (some (some (v_i (μ 1 0 9)), μ)) else if p1 = 7 then (some (some (v_i (μ 14 0 1)), μ)) else (some (some (v_i (-2)), μ)) := (kd_unf [] 40).trans rfl
-- 5 NumbersCalled.feed(IIIIII)I
set_option maxRecDepth 20000 in
theorem ke5_0 (d : Nat) (p1 : Int) (p2 : Int) (p3 : Int) (p4 : Int) (p5 : Int) (p6 : Int) (μ : mj_M) : kc (d + 1) 5 [v_r 0 0, v_i p1, v_i p2, v_i p3, v_i p4, v_i p5, v_i p6] μ = mj_rI (kc d 44 [v_i p1, v_i 1, v_i 5] μ) fun x1 m2 => if x1 = 0 then (some (some (v_i (-2)), m2)) else (mj_rI (kc d 46 [v_i p2] m2) fun x3 m4 => if x3 = 0 then (some (some (v_i (-2)), m4)) else (mj_rI (kc d 46 [v_i p3] m4) fun x5 m6 => if x5 = 0 then (some (some (v_i (-2)), m6)) else (mj_rI (kc d 46 [v_i p4] m6) fun x7 m8 => if x7 = 0 then (some (some (v_i (-2)), m8)) else (mj_rI (kc d 46 [v_i p5] m8) fun x9 m10 => if x9 = 0 then (some (some (v_i (-2)), m10)) else (mj_rI (kc d 46 [v_i p6] m10) fun x11 m12 => if x11 = 0 then (some (some (v_i (-2)), m12)) else (if (mj_w (160 - (m12 14 0 1))) < p1 then (some (some (v_i (-4)), m12)) else (kd d 5 4 [some (v_r 0 0), some (v_i p1), some (v_i p2), some (v_i p3), some (v_i p4), some (v_i p5), some (v_i p6), some (v_i 0)] [] m12))))))) := (kd_unf [4] 40).trans rfl
set_option maxRecDepth 20000 in
theorem ke5_4 (d : Nat) (a1 : Int) (a2 : Int) (a3 : Int) (a4 : Int) (a5 : Int) (a6 : Int) (a7 : Int) (μ : mj_M) : kd d 5 4 [some (v_r 0 0), some (v_i a1), some (v_i a2), some (v_i a3), some (v_i a4), some (v_i a5), some (v_i a6), some (v_i a7)] [] μ = if a7 < a1 then (if a7 = 0 then (mj_rV (kc d 197 [v_r 14 0, v_i a2] μ) fun m1 => kd d 5 4 [some (v_r 0 0), some (v_i a1), some (v_i a2), some (v_i a3), some (v_i a4), some (v_i a5), some (v_i a6), some (v_i (mj_w (a7 + 1)))] [] m1) else if a7 = 1 then (mj_rV (kc d 197 [v_r 14 0, v_i a3] μ) fun m2 => kd d 5 4 [some (v_r 0 0), some (v_i a1), some (v_i a2), some (v_i a3), some (v_i a4), some (v_i a5), some (v_i a6), some (v_i (mj_w (a7 + 1)))] [] m2) else if a7 = 2 then (mj_rV (kc d 197 [v_r 14 0, v_i a4] μ) fun m3 => kd d 5 4 [some (v_r 0 0), some (v_i a1), some (v_i a2), some (v_i a3), some (v_i a4), some (v_i a5), some (v_i a6), some (v_i (mj_w (a7 + 1)))] [] m3) else if a7 = 3 then (mj_rV (kc d 197 [v_r 14 0, v_i a5] μ) fun m4 => kd d 5 4 [some (v_r 0 0), some (v_i a1), some (v_i a2), some (v_i a3), some (v_i a4), some (v_i a5), some (v_i a6), some (v_i (mj_w (a7 + 1)))] [] m4) else (mj_rV (kc d 197 [v_r 14 0, v_i a6] μ) fun m5 => kd d 5 4 [some (v_r 0 0), some (v_i a1), some (v_i a2), some (v_i a3), some (v_i a4), some (v_i a5), some (v_i a6), some (v_i (mj_w (a7 + 1)))] [] m5)) else (some (some (v_i (μ 14 0 1)), μ)) := (kd_unf [4] 40).trans rfl
-- 6 NumbersCalled.text()I
set_option maxRecDepth 20000 in
theorem ke6_0 (d : Nat)  (μ : mj_M) : kc (d + 1) 6 [v_r 0 0] μ = if (μ 0 0 5) < 6 then (mj_rI (kc d 198 [v_r 14 0] μ) fun x1 m2 => if x1 = (-1) then (if 0 ≤ (m2 0 0 5) ∧ (m2 0 0 5) < 6 then (mj_rV (kc d 214 [v_r 9 ((m2 0 0 5).toNat), v_r 14 0] (mj_up m2 14 0 1 0)) fun m3 => some (some (v_i (mj_w ((mj_w ((m3 0 0 5) + 1)) - 1))), mj_up m3 0 0 5 (mj_w ((m3 0 0 5) + 1)))) else (none)) else (some (some (v_i (mj_w ((-100) - x1))), mj_up m2 14 0 1 0))) else (some (some (v_i (-4)), μ)) := (kd_unf [] 40).trans rfl
-- 7 NumbersCalled.force(I)I
set_option maxRecDepth 20000 in
theorem ke7_0 (d : Nat) (p1 : Int) (μ : mj_M) : kc (d + 1) 7 [v_r 0 0, v_i p1] μ = mj_rI (kc d 44 [v_i p1, v_i 0, v_i (mj_w ((μ 0 0 5) - 1))] μ) fun x1 m2 => if x1 = 0 then (some (some (v_i (-2)), m2)) else (some (some (v_i (m2 1 0 9)), mj_up m2 1 0 9 p1)) := (kd_unf [] 40).trans rfl
-- 8 NumbersCalled.pull(III)I
set_option maxRecDepth 20000 in
theorem ke8_0 (d : Nat) (p1 : Int) (p2 : Int) (p3 : Int) (μ : mj_M) : kc (d + 1) 8 [v_r 0 0, v_i p1, v_i p2, v_i p3] μ = mj_rI (kc d 44 [v_i p1, v_i 0, v_i 5] μ) fun x1 m2 => if x1 = 0 then (some (some (v_i (-2)), m2)) else (mj_rI (kc d 44 [v_i p3, v_i 0, v_i 119] m2) fun x3 m4 => if x3 = 0 then (some (some (v_i (-2)), m4)) else (mj_rI (kc d 47 [v_i p2] m4) fun x5 m6 => if x5 = 0 then (some (some (v_i (-2)), m6)) else (if (m6 1 0 4) < 16 then (if 0 ≤ (m6 1 0 4) ∧ (m6 1 0 4) < 16 then (mj_rV (kc d 163 [v_r 7 ((m6 1 0 4).toNat), v_i p1, v_i (mj_w (p2.tdiv 1000)), v_i ((mj_w (p2.tdiv 10)).tmod 100), v_i (p2.tmod 10)] m6) fun m7 => if 0 ≤ (m6 1 0 4) ∧ (m6 1 0 4) < 16 then (some (some (v_i (m6 1 0 4)), mj_up (mj_up m7 5 0 ((m6 1 0 4).toNat) p3) 1 0 4 (mj_w ((m7 1 0 4) + 1)))) else (none)) else (none)) else (some (some (v_i (-4)), m6))))) := (kd_unf [] 40).trans rfl
-- 9 NumbersCalled.move(II)I
set_option maxRecDepth 20000 in
theorem ke9_0 (d : Nat) (p1 : Int) (p2 : Int) (μ : mj_M) : kc (d + 1) 9 [v_r 0 0, v_i p1, v_i p2] μ = mj_rI (kc d 50 [v_r 0 0, v_i p1] μ) fun x1 m2 => if x1 = 0 then (some (some (v_i (-5)), m2)) else (mj_rI (kc d 44 [v_i p2, v_i 0, v_i 119] m2) fun x3 m4 => if x3 = 0 then (some (some (v_i (-7)), m4)) else (if 0 ≤ p1 ∧ p1 < 16 then (if 0 ≤ p1 ∧ p1 < 16 then (some (some (v_i (m4 5 0 p1.toNat)), mj_up m4 5 0 p1.toNat p2)) else (none)) else (none))) := (kd_unf [] 40).trans rfl
-- 10 NumbersCalled.forget()I
set_option maxRecDepth 20000 in
theorem ke10_0 (d : Nat)  (μ : mj_M) : kc (d + 1) 10 [v_r 0 0] μ = if 0 < (μ 1 0 4) then (if (mj_w ((μ 1 0 4) - 1)) < (μ 1 1 4) then (some (some (v_i (mj_w ((μ 1 0 4) - 1))), mj_up (mj_up μ 1 0 4 (mj_w ((μ 1 0 4) - 1))) 0 0 2 0)) else (some (some (v_i (mj_w ((μ 1 0 4) - 1))), mj_up μ 1 0 4 (mj_w ((μ 1 0 4) - 1))))) else (some (some (v_i (-3)), μ)) := (kd_unf [] 40).trans rfl
-- 11 NumbersCalled.told(II)I
set_option maxRecDepth 20000 in
theorem ke11_0 (d : Nat) (p1 : Int) (p2 : Int) (μ : mj_M) : kc (d + 1) 11 [v_r 0 0, v_i p1, v_i p2] μ = mj_rI (kc d 50 [v_r 0 0, v_i p1] μ) fun x1 m2 => if x1 = 0 then (some (some (v_i (-5)), m2)) else (if p2 = 0 then (if 0 ≤ p1 ∧ p1 < 16 then (some (some (v_i (m2 7 p1.toNat 0)), m2)) else (none)) else if p2 = 1 then (if 0 ≤ p1 ∧ p1 < 16 then (some (some (v_i (m2 7 p1.toNat 1)), m2)) else (none)) else if p2 = 2 then (if 0 ≤ p1 ∧ p1 < 16 then (some (some (v_i (m2 7 p1.toNat 2)), m2)) else (none)) else if p2 = 3 then (if 0 ≤ p1 ∧ p1 < 16 then (some (some (v_i (m2 7 p1.toNat 3)), m2)) else (none)) else if p2 = 4 then (if 0 ≤ p1 ∧ p1 < 16 then (some (some (v_i (m2 5 0 p1.toNat)), m2)) else (none)) else if p2 = 5 then (if 0 ≤ p1 ∧ p1 < 16 then (mj_rI (kc d 167 [v_r 7 p1.toNat] m2) fun x3 m4 => some (some (v_i x3), m4)) else (none)) else (some (some (v_i (-7)), m2))) := (kd_unf [] 40).trans rfl
-- 12 NumbersCalled.asks(IIIII)I
set_option maxRecDepth 20000 in
theorem ke12_0 (d : Nat) (p1 : Int) (p2 : Int) (p3 : Int) (p4 : Int) (p5 : Int) (μ : mj_M) : kc (d + 1) 12 [v_r 0 0, v_i p1, v_i p2, v_i p3, v_i p4, v_i p5] μ = mj_rI (kc d 50 [v_r 0 0, v_i p1] μ) fun x1 m2 => if x1 = 0 then (some (some (v_i (-5)), m2)) else (mj_rI (kc d 49 [v_r 0 0, v_i p2] m2) fun x3 m4 => if x3 = 0 then (some (some (v_i (-5)), m4)) else (mj_rI (kc d 44 [v_i p3, v_i 0, v_i 999] m4) fun x5 m6 => if x5 = 0 then (some (some (v_i (-7)), m6)) else (mj_rI (kc d 44 [v_i p4, v_i 0, v_i 999] m6) fun x7 m8 => if x7 = 0 then (some (some (v_i (-7)), m8)) else (if 0 ≤ (m8 1 0 9) ∧ (m8 1 0 9) < 6 then (if p5 = 0 then (if 0 ≤ p1 ∧ p1 < 16 then (if 0 ≤ p1 ∧ p1 < 16 then (if 0 ≤ p2 ∧ p2 < 4 then (mj_rI (kc d 215 [v_r 9 ((m8 1 0 9).toNat), v_i 0, v_r 7 p1.toNat, v_i p3, v_i (m8 3 0 p2.toNat), v_i 0] m8) fun x9 m10 => mj_rI (kc d 169 [v_r 7 p1.toNat, v_i x9, v_i 0] m10) fun x11 m12 => some (some (v_i x11), m12)) else (none)) else (none)) else (none)) else if p5 = 1 then (if 0 ≤ p1 ∧ p1 < 16 then (if 0 ≤ p1 ∧ p1 < 16 then (mj_rI (kc d 215 [v_r 9 ((m8 1 0 9).toNat), v_i 1, v_r 7 p1.toNat, v_i p3, v_i 0, v_i 0] m8) fun x13 m14 => mj_rI (kc d 168 [v_r 7 p1.toNat, v_i p3, v_i x13] m14) fun x15 m16 => if x15 = 0 then (some (some (v_i 0), m16)) else (some (some (v_i 1), m16))) else (none)) else (none)) else if p5 = 2 then (if 0 ≤ p1 ∧ p1 < 16 then (mj_rI (kc d 64 [v_r 0 0, v_r 7 p1.toNat, v_i p3, v_i p4] m8) fun x17 m18 => some (some (v_i x17), m18)) else (none)) else (some (some (v_i (-7)), m8))) else (none))))) := (kd_unf [] 40).trans rfl
-- 13 NumbersCalled.of(II)I
set_option maxRecDepth 20000 in
theorem ke13_0 (d : Nat) (p1 : Int) (p2 : Int) (μ : mj_M) : kc (d + 1) 13 [v_r 0 0, v_i p1, v_i p2] μ = mj_rI (kc d 50 [v_r 0 0, v_i p1] μ) fun x1 m2 => if x1 = 0 then (some (some (v_i (-5)), m2)) else (mj_rI (kc d 44 [v_i p2, v_i 0, v_i 5] m2) fun x3 m4 => if x3 = 0 then (some (some (v_i (-7)), m4)) else (mj_rV (kc d 58 [v_r 0 0] m4) fun m5 => if p2 = 0 then (if 0 ≤ p1 ∧ p1 < 16 then (some (some (v_i (m5 22 0 p1.toNat)), m5)) else (none)) else if p2 = 1 then (if 0 ≤ p1 ∧ p1 < 16 then (some (some (v_i (m5 23 0 p1.toNat)), m5)) else (none)) else if p2 = 2 then (if 0 ≤ p1 ∧ p1 < 16 then (some (some (v_i (m5 24 0 p1.toNat)), m5)) else (none)) else if p2 = 3 then (if 0 ≤ p1 ∧ p1 < 16 then (some (some (v_i (m5 25 0 p1.toNat)), m5)) else (none)) else if p2 = 4 then (mj_rI (kc d 178 [v_r 21 0, v_i p1] m5) fun x6 m7 => some (some (v_i x6), m7)) else (if 0 ≤ p1 ∧ p1 < 16 then (some (some (v_i (m5 26 0 p1.toNat)), m5)) else (none)))) := (kd_unf [] 40).trans rfl
-- 14 NumbersCalled.sum(I)I
set_option maxRecDepth 20000 in
theorem ke14_0 (d : Nat) (p1 : Int) (μ : mj_M) : kc (d + 1) 14 [v_r 0 0, v_i p1] μ = mj_rI (kc d 44 [v_i p1, v_i 0, v_i 7] μ) fun x1 m2 => if x1 = 0 then (some (some (v_i (-2)), m2)) else (mj_rV (kc d 58 [v_r 0 0] m2) fun m3 => mj_rI (kc d 187 [v_r 21 0, v_i p1] m3) fun x4 m5 => some (some (v_i x4), m5)) := (kd_unf [] 40).trans rfl
-- 15 NumbersCalled.idle(I)I
set_option maxRecDepth 20000 in
theorem ke15_0 (d : Nat) (p1 : Int) (μ : mj_M) : kc (d + 1) 15 [v_r 0 0, v_i p1] μ = mj_rI (kc d 49 [v_r 0 0, v_i p1] μ) fun x1 m2 => if x1 = 0 then (some (some (v_i (-5)), m2)) else (mj_rV (kc d 58 [v_r 0 0] m2) fun m3 => if 0 ≤ p1 ∧ p1 < 4 then (some (some (v_i (m3 27 0 p1.toNat)), m3)) else (none)) := (kd_unf [] 40).trans rfl
-- 16 NumbersCalled.harmed()I
set_option maxRecDepth 20000 in
theorem ke16_0 (d : Nat)  (μ : mj_M) : kc (d + 1) 16 [v_r 0 0] μ = mj_rV (kc d 58 [v_r 0 0] μ) fun m1 => mj_rI (kc d 185 [v_r 21 0] m1) fun x2 m3 => some (some (v_i x2), m3) := (kd_unf [] 40).trans rfl
-- 17 NumbersCalled.letter(II)I
set_option maxRecDepth 20000 in
theorem ke17_0 (d : Nat) (p1 : Int) (p2 : Int) (μ : mj_M) : kc (d + 1) 17 [v_r 0 0, v_i p1, v_i p2] μ = mj_rI (kc d 49 [v_r 0 0, v_i p1] μ) fun x1 m2 => if x1 = 0 then (some (some (v_i (-5)), m2)) else (mj_rI (kc d 44 [v_i p2, v_i 0, v_i 1] m2) fun x3 m4 => if x3 = 0 then (some (some (v_i (-7)), m4)) else (mj_rV (kc d 188 [v_r 31 0] m4) fun m5 => mj_rV (kc d 58 [v_r 0 0] m5) fun m6 => mj_rI (kc d 185 [v_r 21 0] m6) fun x7 m8 => mj_rV (kc d 189 [v_r 31 0, v_i (-1), v_i x7] m8) fun m9 => kd d 17 3 [some (v_r 0 0), some (v_i p1), some (v_i p2), some (v_i 0)] [] m9)) := (kd_unf [3] 40).trans rfl
set_option maxRecDepth 20000 in
theorem ke17_3 (d : Nat) (a1 : Int) (a2 : Int) (a3 : Int) (μ : mj_M) : kd d 17 3 [some (v_r 0 0), some (v_i a1), some (v_i a2), some (v_i a3)] [] μ = if a3 < 4 then (if 0 ≤ a1 ∧ a1 < 4 then (if (0 : Int) ≤ a3 ∧ a3 < (32 : Int) then (if (0 : Int) ≤ (μ 2 0 a1.toNat) ∧ (0 : Int) ≤ (mj_w (1 * 2 ^ a3.toNat)) then (if 0 ≤ a1 ∧ a1 < 4 then (mj_rV (kc d 57 [v_r 0 0] (mj_up μ 2 2 a1.toNat (((μ 2 0 a1.toNat).toNat ||| (mj_w (1 * 2 ^ a3.toNat)).toNat : Nat) : Int))) fun m3 => mj_rI (kc d 185 [v_r 21 0] m3) fun x4 m5 => mj_rV (kc d 189 [v_r 31 0, v_i a3, v_i x4] m5) fun m6 => kd d 17 3 [some (v_r 0 0), some (v_i a1), some (v_i a2), some (v_i (mj_w (a3 + 1)))] [] m6) else (none)) else (none)) else (none)) else (none)) else (mj_rI (kc d 190 [v_r 31 0, v_i a2] μ) fun x1 m2 => some (some (v_i x1), m2)) := (kd_unf [3] 40).trans rfl
-- 18 NumbersCalled.train(II)I
set_option maxRecDepth 20000 in
theorem ke18_0 (d : Nat) (p1 : Int) (p2 : Int) (μ : mj_M) : kc (d + 1) 18 [v_r 0 0, v_i p1, v_i p2] μ = mj_rI (kc d 44 [v_i p1, v_i 0, v_i 999] μ) fun x1 m2 => if x1 = 0 then (some (some (v_i (-2)), m2)) else (mj_rI (kc d 44 [v_i p2, v_i 0, v_i 1] m2) fun x3 m4 => if x3 = 0 then (some (some (v_i (-2)), m4)) else (mj_rI (kc d 60 [v_r 0 0, v_i (-1), v_i (-1), v_i p1] m4) fun x5 m6 => if x5 = 0 then (kd d 18 6 [some (v_r 0 0), some (v_i p1), some (v_i p2), some (v_i (mj_w ((m6 1 0 0) * 4))), some (v_i 0), none] [] m6) else (if p2 = 0 then (some (some (v_i 0), m6)) else (some (some (v_i (-1)), m6))))) := (kd_unf [6, 11, 12] 40).trans rfl
set_option maxRecDepth 20000 in
theorem ke18_6 (d : Nat) (a1 : Int) (a2 : Int) (a3 : Int) (a4 : Int) (o5 : Option mj_V) (μ : mj_M) : kd d 18 6 [some (v_r 0 0), some (v_i a1), some (v_i a2), some (v_i a3), some (v_i a4), o5] [] μ = if a4 < a3 then (mj_rI (kc d 60 [v_r 0 0, v_i a4, v_i (-1), v_i a1] μ) fun x1 m2 => if x1 = 0 then (kd d 18 6 [some (v_r 0 0), some (v_i a1), some (v_i a2), some (v_i a3), some (v_i (mj_w (a4 + 1))), none] [] m2) else (if a2 = 0 then (some (some (v_i 1), m2)) else (mj_rI (kc d 61 [v_i a4] m2) fun x3 m4 => some (some (v_i x3), m4)))) else (kd d 18 11 [some (v_r 0 0), some (v_i a1), some (v_i a2), some (v_i a3), some (v_i 0), none] [] μ) := (kd_unf [6, 11, 12] 40).trans rfl
set_option maxRecDepth 20000 in
theorem ke18_11 (d : Nat) (a1 : Int) (a2 : Int) (a3 : Int) (a4 : Int) (o5 : Option mj_V) (μ : mj_M) : kd d 18 11 [some (v_r 0 0), some (v_i a1), some (v_i a2), some (v_i a3), some (v_i a4), o5] [] μ = if a4 < a3 then (kd d 18 12 [some (v_r 0 0), some (v_i a1), some (v_i a2), some (v_i a3), some (v_i a4), some (v_i (mj_w (a4 + 1)))] [] μ) else (some (some (v_i (-1)), μ)) := (kd_unf [6, 11, 12] 40).trans rfl
set_option maxRecDepth 20000 in
theorem ke18_12 (d : Nat) (a1 : Int) (a2 : Int) (a3 : Int) (a4 : Int) (a5 : Int) (μ : mj_M) : kd d 18 12 [some (v_r 0 0), some (v_i a1), some (v_i a2), some (v_i a3), some (v_i a4), some (v_i a5)] [] μ = if a5 < a3 then (mj_rI (kc d 60 [v_r 0 0, v_i a4, v_i a5, v_i a1] μ) fun x1 m2 => if x1 = 0 then (kd d 18 12 [some (v_r 0 0), some (v_i a1), some (v_i a2), some (v_i a3), some (v_i a4), some (v_i (mj_w (a5 + 1)))] [] m2) else (if a2 = 0 then (some (some (v_i 2), m2)) else (mj_rI (kc d 61 [v_i a4] m2) fun x3 m4 => mj_rI (kc d 61 [v_i a5] m4) fun x5 m6 => some (some (v_i (mj_w ((mj_w (x3 * 100)) + x5))), m6)))) else (kd d 18 11 [some (v_r 0 0), some (v_i a1), some (v_i a2), some (v_i a3), some (v_i (mj_w (a4 + 1))), none] [] μ) := (kd_unf [6, 11, 12] 40).trans rfl
-- 19 NumbersCalled.rest(II)I
set_option maxRecDepth 20000 in
theorem ke19_0 (d : Nat) (p1 : Int) (p2 : Int) (μ : mj_M) : kc (d + 1) 19 [v_r 0 0, v_i p1, v_i p2] μ = mj_rI (kc d 49 [v_r 0 0, v_i p1] μ) fun x1 m2 => if x1 = 0 then (some (some (v_i (-5)), m2)) else (mj_rI (kc d 44 [v_i p2, v_i 0, v_i 1] m2) fun x3 m4 => if x3 = 0 then (some (some (v_i (-7)), m4)) else (mj_rV (kc d 188 [v_r 31 0] m4) fun m5 => mj_rV (kc d 56 [v_r 0 0] m5) fun m6 => kd d 19 3 [some (v_r 0 0), some (v_i p1), some (v_i p2), some (v_i 0)] [] m6)) := (kd_unf [3] 40).trans rfl
set_option maxRecDepth 20000 in
theorem ke19_3 (d : Nat) (a1 : Int) (a2 : Int) (a3 : Int) (μ : mj_M) : kd d 19 3 [some (v_r 0 0), some (v_i a1), some (v_i a2), some (v_i a3)] [] μ = if 110 < a3 then (mj_rI (kc d 190 [v_r 31 0, v_i a2] μ) fun x1 m2 => some (some (v_i x1), m2)) else (if 0 ≤ a1 ∧ a1 < 4 then (mj_rV (kc d 57 [v_r 0 0] (mj_up μ 4 2 a1.toNat a3)) fun m3 => mj_rI (kc d 185 [v_r 21 0] m3) fun x4 m5 => mj_rV (kc d 189 [v_r 31 0, v_i a3, v_i x4] m5) fun m6 => kd d 19 3 [some (v_r 0 0), some (v_i a1), some (v_i a2), some (v_i (mj_w (a3 + 10)))] [] m6) else (none)) := (kd_unf [3] 40).trans rfl
-- 20 NumbersCalled.stop(I)I
set_option maxRecDepth 20000 in
theorem ke20_0 (d : Nat) (p1 : Int) (μ : mj_M) : kc (d + 1) 20 [v_r 0 0, v_i p1] μ = mj_rI (kc d 44 [v_i p1, v_i 0, v_i 999] μ) fun x1 m2 => if x1 = 0 then (some (some (v_i (-2)), m2)) else (mj_rV (kc d 56 [v_r 0 0] m2) fun m3 => kd d 20 2 [some (v_r 0 0), some (v_i p1), some (v_i 120)] [] m3) := (kd_unf [2, 3] 40).trans rfl
set_option maxRecDepth 20000 in
theorem ke20_2 (d : Nat) (a1 : Int) (a2 : Int) (μ : mj_M) : kd d 20 2 [some (v_r 0 0), some (v_i a1), some (v_i a2)] [] μ = if a2 < 0 then (some (some (v_i (-1)), μ)) else (if a2 < 120 then (mj_rI (kc d 62 [v_r 0 0, v_i a2] μ) fun x1 m2 => if x1 = 0 then (kd d 20 2 [some (v_r 0 0), some (v_i a1), some (v_i (mj_w (a2 + (-1))))] [] m2) else (kd d 20 3 [some (v_r 0 0), some (v_i a1), some (v_i a2)] [] m2)) else (kd d 20 3 [some (v_r 0 0), some (v_i a1), some (v_i a2)] [] μ)) := (kd_unf [2, 3] 40).trans rfl
set_option maxRecDepth 20000 in
theorem ke20_3 (d : Nat) (a1 : Int) (a2 : Int) (μ : mj_M) : kd d 20 3 [some (v_r 0 0), some (v_i a1), some (v_i a2)] [] μ = mj_rV (kc d 57 [v_r 0 0] (mj_up μ 1 2 8 a2)) fun m1 => mj_rI (kc d 186 [v_r 21 0, v_i a1] m1) fun x2 m3 => if x2 = 0 then (kd d 20 2 [some (v_r 0 0), some (v_i a1), some (v_i (mj_w (a2 + (-1))))] [] m3) else (some (some (v_i a2), m3)) := (kd_unf [2, 3] 40).trans rfl
-- 21 NumbersCalled.call(I)I
set_option maxRecDepth 20000 in
theorem ke21_0 (d : Nat) (p1 : Int) (μ : mj_M) : kc (d + 1) 21 [v_r 0 0, v_i p1] μ = mj_rI (kc d 44 [v_i p1, v_i 0, v_i 1] μ) fun x1 m2 => if x1 = 0 then (some (some (v_i (-2)), m2)) else (mj_rV (kc d 188 [v_r 31 0] m2) fun m3 => mj_rV (kc d 56 [v_r 0 0] m3) fun m4 => kd d 21 2 [some (v_r 0 0), some (v_i p1), some (v_i 1)] [] m4) := (kd_unf [2] 40).trans rfl
set_option maxRecDepth 20000 in
theorem ke21_2 (d : Nat) (a1 : Int) (a2 : Int) (μ : mj_M) : kd d 21 2 [some (v_r 0 0), some (v_i a1), some (v_i a2)] [] μ = if 9 < a2 then (mj_rI (kc d 190 [v_r 31 0, v_i a1] μ) fun x1 m2 => some (some (v_i x1), m2)) else (mj_rV (kc d 57 [v_r 0 0] (mj_up μ 1 2 7 a2)) fun m3 => mj_rI (kc d 185 [v_r 21 0] m3) fun x4 m5 => mj_rV (kc d 189 [v_r 31 0, v_i a2, v_i x4] m5) fun m6 => kd d 21 2 [some (v_r 0 0), some (v_i a1), some (v_i (mj_w (a2 + 1)))] [] m6) := (kd_unf [2] 40).trans rfl
-- 22 NumbersCalled.pay(I)I
set_option maxRecDepth 20000 in
theorem ke22_0 (d : Nat) (p1 : Int) (μ : mj_M) : kc (d + 1) 22 [v_r 0 0, v_i p1] μ = mj_rI (kc d 44 [v_i p1, v_i 1, v_i 3] μ) fun x1 m2 => if x1 = 0 then (some (some (v_i (-2)), m2)) else (mj_rV (kc d 56 [v_r 0 0] m2) fun m3 => mj_rV (kc d 57 [v_r 0 0] (mj_up m3 1 2 6 p1)) fun m4 => mj_rI (kc d 63 [v_r 0 0, v_i p1] m4) fun x5 m6 => mj_rV (kc d 57 [v_r 0 0] (mj_up m6 1 2 6 0)) fun m7 => mj_rI (kc d 63 [v_r 0 0, v_i p1] m7) fun x8 m9 => some (some (v_i (mj_w (x5 - x8))), m9)) := (kd_unf [] 40).trans rfl
-- 23 NumbersCalled.door(I)I
set_option maxRecDepth 20000 in
theorem ke23_0 (d : Nat) (p1 : Int) (μ : mj_M) : kc (d + 1) 23 [v_r 0 0, v_i p1] μ = mj_rI (kc d 44 [v_i p1, v_i 0, v_i 1] μ) fun x1 m2 => if x1 = 0 then (some (some (v_i (-2)), m2)) else (mj_rV (kc d 58 [v_r 0 0] m2) fun m3 => mj_rI (kc d 185 [v_r 21 0] m3) fun x4 m5 => if p1 = 0 then (kd d 23 3 [some (v_r 0 0), some (v_i p1), some (v_i x4)] [v_i 1, v_r 1 2] m5) else (kd d 23 3 [some (v_r 0 0), some (v_i p1), some (v_i x4)] [v_i 0, v_r 1 2] m5)) := (kd_unf [3] 40).trans rfl
set_option maxRecDepth 20000 in
theorem ke23_3 (d : Nat) (a1 : Int) (a2 : Int) (s0 : Int) (t1 : Nat) (μ : mj_M) : kd d 23 3 [some (v_r 0 0), some (v_i a1), some (v_i a2)] [v_i s0, v_r 1 t1] μ = if s0 = 0 ∨ s0 = 1 then (if a1 = 1 then (mj_rV (kc d 57 [v_r 0 0] (mj_up (mj_up μ 1 t1 10 s0) 1 2 11 1)) fun m4 => mj_rI (kc d 185 [v_r 21 0] m4) fun x5 m6 => some (some (v_i (mj_w (a2 - x5))), m6)) else (mj_rV (kc d 57 [v_r 0 0] (mj_up (mj_up μ 1 t1 10 s0) 1 2 11 0)) fun m1 => mj_rI (kc d 185 [v_r 21 0] m1) fun x2 m3 => some (some (v_i (mj_w (a2 - x2))), m3))) else (none) := (kd_unf [3] 40).trans rfl
-- 24 NumbersCalled.say(I)I
set_option maxRecDepth 20000 in
theorem ke24_0 (d : Nat) (p1 : Int) (μ : mj_M) : kc (d + 1) 24 [v_r 0 0, v_i p1] μ = mj_rI (kc d 44 [v_i p1, v_i 0, v_i 1] μ) fun x1 m2 => if x1 = 0 then (some (some (v_i (-2)), m2)) else (mj_rV (kc d 188 [v_r 31 0] m2) fun m3 => mj_rV (kc d 58 [v_r 0 0] m3) fun m4 => kd d 24 2 [some (v_r 0 0), some (v_i p1), some (v_i 0), none, none] [] m4) := (kd_unf [2, 3] 40).trans rfl
set_option maxRecDepth 20000 in
theorem ke24_2 (d : Nat) (a1 : Int) (a2 : Int) (o3 : Option mj_V) (o4 : Option mj_V) (μ : mj_M) : kd d 24 2 [some (v_r 0 0), some (v_i a1), some (v_i a2), o3, o4] [] μ = if 60 < a2 then (mj_rI (kc d 190 [v_r 31 0, v_i a1] μ) fun x1 m2 => some (some (v_i x1), m2)) else (kd d 24 3 [some (v_r 0 0), some (v_i a1), some (v_i a2), some (v_i 0), some (v_i 0)] [] μ) := (kd_unf [2, 3] 40).trans rfl
set_option maxRecDepth 20000 in
theorem ke24_3 (d : Nat) (a1 : Int) (a2 : Int) (a3 : Int) (a4 : Int) (μ : mj_M) : kd d 24 3 [some (v_r 0 0), some (v_i a1), some (v_i a2), some (v_i a3), some (v_i a4)] [] μ = if a4 < (μ 1 0 4) then (if 0 ≤ a4 ∧ a4 < 16 then (if (μ 22 0 a4.toNat) = 2 then (if 0 ≤ a4 ∧ a4 < 16 then (mj_rI (kc d 178 [v_r 21 0, v_i a4] μ) fun x2 m3 => mj_rI (kc d 64 [v_r 0 0, v_r 7 a4.toNat, v_i x2, v_i a2] m3) fun x4 m5 => kd d 24 3 [some (v_r 0 0), some (v_i a1), some (v_i a2), some (v_i (mj_w (a3 + x4))), some (v_i (mj_w (a4 + 1)))] [] m5) else (none)) else (kd d 24 3 [some (v_r 0 0), some (v_i a1), some (v_i a2), some (v_i a3), some (v_i (mj_w (a4 + 1)))] [] μ)) else (none)) else (mj_rV (kc d 189 [v_r 31 0, v_i a2, v_i a3] μ) fun m1 => kd d 24 2 [some (v_r 0 0), some (v_i a1), some (v_i (mj_w (a2 + 5))), some (v_i a3), none] [] m1) := (kd_unf [2, 3] 40).trans rfl
-- 25 NumbersCalled.best(II)I
set_option maxRecDepth 20000 in
theorem ke25_0 (d : Nat) (p1 : Int) (p2 : Int) (μ : mj_M) : kc (d + 1) 25 [v_r 0 0, v_i p1, v_i p2] μ = mj_rI (kc d 50 [v_r 0 0, v_i p1] μ) fun x1 m2 => if x1 = 0 then (some (some (v_i (-5)), m2)) else (mj_rI (kc d 44 [v_i p2, v_i 0, v_i 1] m2) fun x3 m4 => if x3 = 0 then (some (some (v_i (-7)), m4)) else (mj_rV (kc d 56 [v_r 0 0] m4) fun m5 => mj_rV (kc d 65 [v_r 0 0, v_i p1] m5) fun m6 => mj_rI (kc d 190 [v_r 31 0, v_i p2] m6) fun x7 m8 => some (some (v_i x7), m8))) := (kd_unf [] 40).trans rfl
-- 26 NumbersCalled.uneasy()I
set_option maxRecDepth 20000 in
theorem ke26_0 (d : Nat)  (μ : mj_M) : kc (d + 1) 26 [v_r 0 0] μ = kd d 26 1 [some (v_r 0 0), some (v_i 0), some (v_i 0)] [] μ := (kd_unf [1] 40).trans rfl
set_option maxRecDepth 20000 in
theorem ke26_1 (d : Nat) (a1 : Int) (a2 : Int) (μ : mj_M) : kd d 26 1 [some (v_r 0 0), some (v_i a1), some (v_i a2)] [] μ = if a2 < (μ 1 0 4) then (mj_rI (kc d 66 [v_r 0 0, v_i a2] μ) fun x1 m2 => if x1 = 0 then (kd d 26 1 [some (v_r 0 0), some (v_i a1), some (v_i (mj_w (a2 + 1)))] [] m2) else (if (0 : Int) ≤ a2 ∧ a2 < (32 : Int) then (if (0 : Int) ≤ a1 ∧ (0 : Int) ≤ (mj_w (1 * 2 ^ a2.toNat)) then (kd d 26 1 [some (v_r 0 0), some (v_i ((a1.toNat ||| (mj_w (1 * 2 ^ a2.toNat)).toNat : Nat) : Int)), some (v_i (mj_w (a2 + 1)))] [] m2) else (none)) else (none))) else (some (some (v_i a1), μ)) := (kd_unf [1] 40).trans rfl
-- 27 NumbersCalled.rests(I)I
set_option maxRecDepth 20000 in
theorem ke27_0 (d : Nat) (p1 : Int) (μ : mj_M) : kc (d + 1) 27 [v_r 0 0, v_i p1] μ = mj_rI (kc d 44 [v_i p1, v_i 0, v_i 5] μ) fun x1 m2 => if x1 = 0 then (some (some (v_i (-2)), m2)) else (kd d 27 2 [some (v_r 0 0), some (v_i p1), some (v_i 0), some (v_i 0), none, none] [] m2) := (kd_unf [2, 3] 40).trans rfl
set_option maxRecDepth 20000 in
theorem ke27_2 (d : Nat) (a1 : Int) (a2 : Int) (a3 : Int) (o4 : Option mj_V) (o5 : Option mj_V) (μ : mj_M) : kd d 27 2 [some (v_r 0 0), some (v_i a1), some (v_i a2), some (v_i a3), o4, o5] [] μ = if a3 < a1 then (kd d 27 3 [some (v_r 0 0), some (v_i a1), some (v_i a2), some (v_i a3), some (v_i a2), some (v_i 0)] [] μ) else (some (some (v_i a2), μ)) := (kd_unf [2, 3] 40).trans rfl
set_option maxRecDepth 20000 in
theorem ke27_3 (d : Nat) (a1 : Int) (a2 : Int) (a3 : Int) (a4 : Int) (a5 : Int) (μ : mj_M) : kd d 27 3 [some (v_r 0 0), some (v_i a1), some (v_i a2), some (v_i a3), some (v_i a4), some (v_i a5)] [] μ = if a5 < (μ 1 0 4) then (mj_rI (kc d 66 [v_r 0 0, v_i a5] μ) fun x1 m2 => if x1 = 0 then (kd d 27 3 [some (v_r 0 0), some (v_i a1), some (v_i a2), some (v_i a3), some (v_i a4), some (v_i (mj_w (a5 + 1)))] [] m2) else (if 0 ≤ a5 ∧ a5 < 16 then (kd d 27 3 [some (v_r 0 0), some (v_i a1), some (v_i (mj_w (a2 + 1))), some (v_i a3), some (v_i a4), some (v_i (mj_w (a5 + 1)))] [] (mj_up m2 5 0 a5.toNat (m2 31 0 0))) else (none))) else (if a2 = a4 then (some (some (v_i a2), μ)) else (kd d 27 2 [some (v_r 0 0), some (v_i a1), some (v_i a2), some (v_i (mj_w (a3 + 1))), none, none] [] μ)) := (kd_unf [2, 3] 40).trans rfl
-- 28 NumbersCalled.when(III)I
set_option maxRecDepth 20000 in
theorem ke28_0 (d : Nat) (p1 : Int) (p2 : Int) (p3 : Int) (μ : mj_M) : kc (d + 1) 28 [v_r 0 0, v_i p1, v_i p2, v_i p3] μ = mj_rI (kc d 44 [v_i p1, v_i 0, v_i 3] μ) fun x1 m2 => if x1 = 0 then (some (some (v_i (-2)), m2)) else (mj_rI (kc d 44 [v_i p2, v_i 1, v_i 99] m2) fun x3 m4 => if x3 = 0 then (some (some (v_i (-2)), m4)) else (mj_rI (kc d 44 [v_i p3, v_i 0, v_i 1] m4) fun x5 m6 => if x5 = 0 then (some (some (v_i (-2)), m6)) else (if (m6 1 0 4) < 16 then (if 0 ≤ (m6 1 0 4) ∧ (m6 1 0 4) < 16 then (mj_rV (kc d 163 [v_r 7 ((m6 1 0 4).toNat), v_i 0, v_i p1, v_i p2, v_i 9] m6) fun m7 => mj_rV (kc d 56 [v_r 0 0] m7) fun m8 => mj_rV (kc d 65 [v_r 0 0, v_i (m6 1 0 4)] (mj_up m8 1 2 4 (mj_w ((m8 1 2 4) + 1)))) fun m9 => mj_rI (kc d 190 [v_r 31 0, v_i p3] m9) fun x10 m11 => some (some (v_i x10), m11)) else (none)) else (some (some (v_i (-3)), m6))))) := (kd_unf [] 40).trans rfl
-- 29 NumbersCalled.over(III)J
set_option maxRecDepth 20000 in
theorem ke29_0 (d : Nat) (p1 : Int) (p2 : Int) (p3 : Int) (μ : mj_M) : kc (d + 1) 29 [v_r 0 0, v_i p1, v_i p2, v_i p3] μ = mj_rI (kc d 44 [v_i p1, v_i 0, v_i 40] μ) fun x1 m2 => if x1 = 0 then (some (some (v_l (-4611686018427387904)), m2)) else (mj_rI (kc d 44 [v_i p2, v_i 0, v_i 100] m2) fun x3 m4 => if x3 = 0 then (some (some (v_l (-4611686018427387904)), m4)) else (mj_rI (kc d 44 [v_i p3, v_i 0, v_i 40] m4) fun x5 m6 => if x5 = 0 then (some (some (v_l (-4611686018427387904)), m6)) else (mj_rV (kc d 68 [v_r 0 0] m6) fun m7 => kd d 29 3 [some (v_r 0 0), some (v_i p1), some (v_i p2), some (v_i p3), some (v_i 1)] [] m7))) := (kd_unf [3] 40).trans rfl
set_option maxRecDepth 20000 in
theorem ke29_3 (d : Nat) (a1 : Int) (a2 : Int) (a3 : Int) (a4 : Int) (μ : mj_M) : kd d 29 3 [some (v_r 0 0), some (v_i a1), some (v_i a2), some (v_i a3), some (v_i a4)] [] μ = if a1 < a4 then (mj_rL (kc d 70 [v_r 0 0, v_i a3] μ) fun x1 m2 => some (some (v_l x1), m2)) else (mj_rV (kc d 69 [v_r 0 0, v_i a4, v_i a2] μ) fun m3 => kd d 29 3 [some (v_r 0 0), some (v_i a1), some (v_i a2), some (v_i a3), some (v_i (mj_w (a4 + 1)))] [] m3) := (kd_unf [3] 40).trans rfl
-- 30 NumbersCalled.give(III)I
set_option maxRecDepth 20000 in
theorem ke30_0 (d : Nat) (p1 : Int) (p2 : Int) (p3 : Int) (μ : mj_M) : kc (d + 1) 30 [v_r 0 0, v_i p1, v_i p2, v_i p3] μ = mj_rI (kc d 44 [v_i p1, v_i 0, v_i 100] μ) fun x1 m2 => if x1 = 0 then (some (some (v_i (-2)), m2)) else (mj_rI (kc d 44 [v_i p2, v_i 0, v_i 40] m2) fun x3 m4 => if x3 = 0 then (some (some (v_i (-2)), m4)) else (mj_rI (kc d 44 [v_i p3, v_i 0, v_i 1000] m4) fun x5 m6 => if x5 = 0 then (some (some (v_i (-2)), m6)) else (mj_rV (kc d 68 [v_r 0 0] m6) fun m7 => kd d 30 3 [some (v_r 0 0), some (v_i p1), some (v_i p2), some (v_i p3), some (v_i 0), some (v_i 1)] [] m7))) := (kd_unf [3] 40).trans rfl
set_option maxRecDepth 20000 in
theorem ke30_3 (d : Nat) (a1 : Int) (a2 : Int) (a3 : Int) (a4 : Int) (a5 : Int) (μ : mj_M) : kd d 30 3 [some (v_r 0 0), some (v_i a1), some (v_i a2), some (v_i a3), some (v_i a4), some (v_i a5)] [] μ = if 40 < a5 then (some (some (v_i a4), μ)) else (mj_rV (kc d 69 [v_r 0 0, v_i a5, v_i a1] μ) fun m1 => mj_rL (kc d 70 [v_r 0 0, v_i a2] m1) fun x2 m3 => if x2 < (mj_x (a3 * 1000000)) then (kd d 30 3 [some (v_r 0 0), some (v_i a1), some (v_i a2), some (v_i a3), some (v_i a5), some (v_i (mj_w (a5 + 1)))] [] m3) else if x2 = (mj_x (a3 * 1000000)) then (kd d 30 3 [some (v_r 0 0), some (v_i a1), some (v_i a2), some (v_i a3), some (v_i a5), some (v_i (mj_w (a5 + 1)))] [] m3) else (kd d 30 3 [some (v_r 0 0), some (v_i a1), some (v_i a2), some (v_i a3), some (v_i a4), some (v_i (mj_w (a5 + 1)))] [] m3)) := (kd_unf [3] 40).trans rfl
-- 31 NumbersCalled.judge(I)I
set_option maxRecDepth 20000 in
theorem ke31_0 (d : Nat) (p1 : Int) (μ : mj_M) : kc (d + 1) 31 [v_r 0 0, v_i p1] μ = mj_rI (kc d 55 [v_r 0 0, v_i p1] μ) fun x1 m2 => if x1 = 0 then (mj_rV (kc d 58 [v_r 0 0] m2) fun m3 => if 0 ≤ p1 ∧ p1 < 4 then (mj_rI (kc d 67 [v_r 0 0, v_r 19 p1.toNat] m3) fun x4 m5 => some (some (v_i x4), m5)) else (none)) else (some (some (v_i x1), m2)) := (kd_unf [] 40).trans rfl
-- 32 NumbersCalled.laws(I)I
set_option maxRecDepth 20000 in
theorem ke32_0 (d : Nat) (p1 : Int) (μ : mj_M) : kc (d + 1) 32 [v_r 0 0, v_i p1] μ = mj_rI (kc d 55 [v_r 0 0, v_i p1] μ) fun x1 m2 => if x1 = 0 then (mj_rV (kc d 56 [v_r 0 0] m2) fun m3 => kd d 32 2 [some (v_r 0 0), some (v_i p1), none, some (v_i 0), some (v_i 0)] [] m3) else (some (some (v_i x1), m2)) := (kd_unf [2] 40).trans rfl
set_option maxRecDepth 20000 in
theorem ke32_2 (d : Nat) (a1 : Int) (o2 : Option mj_V) (a3 : Int) (a4 : Int) (μ : mj_M) : kd d 32 2 [some (v_r 0 0), some (v_i a1), o2, some (v_i a3), some (v_i a4)] [] μ = if a4 < (μ 0 0 5) then (mj_rV (kc d 57 [v_r 0 0] (mj_up μ 1 2 9 a4)) fun m1 => if 0 ≤ a1 ∧ a1 < 4 then (mj_rI (kc d 67 [v_r 0 0, v_r 19 a1.toNat] m1) fun x2 m3 => if x2 = (-1) then (if (0 : Int) ≤ a4 ∧ a4 < (32 : Int) then (if (0 : Int) ≤ a3 ∧ (0 : Int) ≤ (mj_w (1 * 2 ^ a4.toNat)) then (kd d 32 2 [some (v_r 0 0), some (v_i a1), none, some (v_i ((a3.toNat ||| (mj_w (1 * 2 ^ a4.toNat)).toNat : Nat) : Int)), some (v_i (mj_w (a4 + 1)))] [] m3) else (none)) else (none)) else (kd d 32 2 [some (v_r 0 0), some (v_i a1), none, some (v_i a3), some (v_i (mj_w (a4 + 1)))] [] m3)) else (none)) else (some (some (v_i a3), μ)) := (kd_unf [2] 40).trans rfl
-- 33 NumbersCalled.which(I)I
set_option maxRecDepth 20000 in
theorem ke33_0 (d : Nat) (p1 : Int) (μ : mj_M) : kc (d + 1) 33 [v_r 0 0, v_i p1] μ = mj_rI (kc d 55 [v_r 0 0, v_i p1] μ) fun x1 m2 => if x1 = 0 then (mj_rV (kc d 56 [v_r 0 0] m2) fun m3 => kd d 33 2 [some (v_r 0 0), some (v_i p1), none, some (v_i 0), some (v_i 0)] [] m3) else (some (some (v_i x1), m2)) := (kd_unf [2] 40).trans rfl
set_option maxRecDepth 20000 in
theorem ke33_2 (d : Nat) (a1 : Int) (o2 : Option mj_V) (a3 : Int) (a4 : Int) (μ : mj_M) : kd d 33 2 [some (v_r 0 0), some (v_i a1), o2, some (v_i a3), some (v_i a4)] [] μ = if a4 < 4 then (mj_rV (kc d 57 [v_r 0 0] (mj_up μ 1 2 6 a4)) fun m1 => if 0 ≤ a1 ∧ a1 < 4 then (mj_rI (kc d 67 [v_r 0 0, v_r 19 a1.toNat] m1) fun x2 m3 => if x2 = (-1) then (if (0 : Int) ≤ a4 ∧ a4 < (32 : Int) then (if (0 : Int) ≤ a3 ∧ (0 : Int) ≤ (mj_w (1 * 2 ^ a4.toNat)) then (kd d 33 2 [some (v_r 0 0), some (v_i a1), none, some (v_i ((a3.toNat ||| (mj_w (1 * 2 ^ a4.toNat)).toNat : Nat) : Int)), some (v_i (mj_w (a4 + 1)))] [] m3) else (none)) else (none)) else (kd d 33 2 [some (v_r 0 0), some (v_i a1), none, some (v_i a3), some (v_i (mj_w (a4 + 1)))] [] m3)) else (none)) else (some (some (v_i a3), μ)) := (kd_unf [2] 40).trans rfl
-- 34 NumbersCalled.film(I)I
set_option maxRecDepth 20000 in
theorem ke34_0 (d : Nat) (p1 : Int) (μ : mj_M) : kc (d + 1) 34 [v_r 0 0, v_i p1] μ = mj_rI (kc d 48 [v_i p1] μ) fun x1 m2 => if x1 = 0 then (some (some (v_i (-2)), m2)) else (mj_rV (kc d 58 [v_r 0 0] m2) fun m3 => if 0 ≤ p1 ∧ p1 < 4 then (mj_rV (kc d 195 [v_r 19 p1.toNat, v_i 2, v_i (m3 1 0 4)] m3) fun m4 => kd d 34 2 [some (v_r 0 0), some (v_i p1), some (v_i 0)] [] m4) else (none)) := (kd_unf [2] 40).trans rfl
set_option maxRecDepth 20000 in
theorem ke34_2 (d : Nat) (a1 : Int) (a2 : Int) (μ : mj_M) : kd d 34 2 [some (v_r 0 0), some (v_i a1), some (v_i a2)] [] μ = if a2 < (μ 1 0 4) then (if 0 ≤ a1 ∧ a1 < 4 then (if 0 ≤ a2 ∧ a2 < 16 then (mj_rV (kc d 196 [v_r 19 a1.toNat, v_i a2, v_i (μ 24 0 a2.toNat)] μ) fun m1 => kd d 34 2 [some (v_r 0 0), some (v_i a1), some (v_i (mj_w (a2 + 1)))] [] m1) else (none)) else (none)) else (some (some (v_i (μ 1 0 4)), μ)) := (kd_unf [2] 40).trans rfl
-- 35 NumbersCalled.drawn(II)I
set_option maxRecDepth 20000 in
theorem ke35_0 (d : Nat) (p1 : Int) (p2 : Int) (μ : mj_M) : kc (d + 1) 35 [v_r 0 0, v_i p1, v_i p2] μ = mj_rI (kc d 44 [v_i p1, v_i 0, v_i 99999] μ) fun x1 m2 => if x1 = 0 then (some (some (v_i (-2)), m2)) else (mj_rI (kc d 44 [v_i p2, v_i 0, v_i 7] m2) fun x3 m4 => if x3 = 0 then (some (some (v_i (-2)), m4)) else (mj_rV (kc d 59 [v_r 0 0, v_i p1] m4) fun m5 => mj_rV (kc d 57 [v_r 0 0] m5) fun m6 => mj_rI (kc d 187 [v_r 21 0, v_i p2] m6) fun x7 m8 => some (some (v_i x7), m8))) := (kd_unf [] 40).trans rfl
-- 36 NumbersCalled.odds(IIII)J
set_option maxRecDepth 20000 in
theorem ke36_0 (d : Nat) (p1 : Int) (p2 : Int) (p3 : Int) (p4 : Int) (μ : mj_M) : kc (d + 1) 36 [v_r 0 0, v_i p1, v_i p2, v_i p3, v_i p4] μ = mj_rI (kc d 44 [v_i p1, v_i 0, v_i 99999] μ) fun x1 m2 => if x1 = 0 then (some (some (v_l (-4611686018427387904)), m2)) else (mj_rI (kc d 44 [v_i p2, v_i 1, v_i 20] m2) fun x3 m4 => if x3 = 0 then (some (some (v_l (-4611686018427387904)), m4)) else (mj_rI (kc d 44 [v_i p3, v_i 0, v_i 999] m4) fun x5 m6 => if x5 = 0 then (some (some (v_l (-4611686018427387904)), m6)) else (mj_rI (kc d 44 [v_i p4, v_i 0, v_i 1] m6) fun x7 m8 => if x7 = 0 then (some (some (v_l (-4611686018427387904)), m8)) else (kd d 36 3 [some (v_r 0 0), some (v_i p1), some (v_i p2), some (v_i p3), some (v_i p4), some (v_i 0), some (v_i 0)] [] m8)))) := (kd_unf [3] 40).trans rfl
set_option maxRecDepth 20000 in
theorem ke36_3 (d : Nat) (a1 : Int) (a2 : Int) (a3 : Int) (a4 : Int) (a5 : Int) (a6 : Int) (μ : mj_M) : kd d 36 3 [some (v_r 0 0), some (v_i a1), some (v_i a2), some (v_i a3), some (v_i a4), some (v_i a5), some (v_i a6)] [] μ = if a6 < a2 then (mj_rV (kc d 59 [v_r 0 0, v_i (mj_w (a1 + a6))] μ) fun m3 => mj_rV (kc d 57 [v_r 0 0] m3) fun m4 => mj_rI (kc d 186 [v_r 21 0, v_i a3] m4) fun x5 m6 => if x5 = 0 then (kd d 36 3 [some (v_r 0 0), some (v_i a1), some (v_i a2), some (v_i a3), some (v_i a4), some (v_i a5), some (v_i (mj_w (a6 + 1)))] [] m6) else (kd d 36 3 [some (v_r 0 0), some (v_i a1), some (v_i a2), some (v_i a3), some (v_i a4), some (v_i (mj_w (a5 + 1))), some (v_i (mj_w (a6 + 1)))] [] m6)) else (mj_rI (kc d 71 [v_i a5, v_i a2] μ) fun x1 m2 => if a4 = 0 then (if x1 = 0 then (none) else (some (some (v_l (mj_w (a5.tdiv x1))), m2))) else (if x1 = 0 then (none) else (some (some (v_l (mj_w (a2.tdiv x1))), m2)))) := (kd_unf [3] 40).trans rfl
-- 37 NumbersCalled.image()I
set_option maxRecDepth 20000 in
theorem ke37_0 (d : Nat)  (μ : mj_M) : kc (d + 1) 37 [v_r 0 0] μ = mj_rV (kc d 191 [v_r 1 1, v_r 1 0] μ) fun m1 => some (some (v_i (m1 1 0 4)), mj_up m1 0 0 2 1) := (kd_unf [] 40).trans rfl
-- 38 NumbersCalled.back()I
set_option maxRecDepth 20000 in
theorem ke38_0 (d : Nat)  (μ : mj_M) : kc (d + 1) 38 [v_r 0 0] μ = if (μ 0 0 2) = 0 then (some (some (v_i (-3)), μ)) else (mj_rV (kc d 191 [v_r 1 0, v_r 1 1] μ) fun m1 => some (some (v_i (m1 1 0 4)), m1)) := (kd_unf [] 40).trans rfl
-- 39 NumbersCalled.sheet(III)I
set_option maxRecDepth 20000 in
theorem ke39_0 (d : Nat) (p1 : Int) (p2 : Int) (p3 : Int) (μ : mj_M) : kc (d + 1) 39 [v_r 0 0, v_i p1, v_i p2, v_i p3] μ = mj_rI (kc d 48 [v_i p1] μ) fun x1 m2 => if x1 = 0 then (some (some (v_i (-2)), m2)) else (mj_rI (kc d 44 [v_i p2, v_i (-1), v_i 2] m2) fun x3 m4 => if x3 = 0 then (some (some (v_i (-2)), m4)) else (if p2 = (-1) then (if 0 ≤ p1 ∧ p1 < 4 then (mj_rV (kc d 195 [v_r 19 p1.toNat, v_i (-1), v_i 0] m4) fun m6 => some (some (v_i 1), m6)) else (none)) else (if 40 < p3 then (some (some (v_i (-2)), m4)) else (if p3 < 0 then (some (some (v_i (-14)), m4)) else (if 0 ≤ p1 ∧ p1 < 4 then (mj_rV (kc d 195 [v_r 19 p1.toNat, v_i p2, v_i p3] m4) fun m5 => some (some (v_i 1), m5)) else (none)))))) := (kd_unf [] 40).trans rfl
-- 40 NumbersCalled.cell(III)I
set_option maxRecDepth 20000 in
theorem ke40_0 (d : Nat) (p1 : Int) (p2 : Int) (p3 : Int) (μ : mj_M) : kc (d + 1) 40 [v_r 0 0, v_i p1, v_i p2, v_i p3] μ = mj_rI (kc d 48 [v_i p1] μ) fun x1 m2 => if x1 = 0 then (some (some (v_i (-2)), m2)) else (if 0 ≤ p1 ∧ p1 < 4 then (mj_rI (kc d 194 [v_r 19 p1.toNat] m2) fun x3 m4 => if x3 = 0 then (if 0 ≤ p1 ∧ p1 < 4 then (mj_rI (kc d 44 [v_i p2, v_i 0, v_i (mj_w ((m4 19 p1.toNat 1) - 1))] m4) fun x5 m6 => if x5 = 0 then (some (some (v_i (-12)), m6)) else (if 0 ≤ p1 ∧ p1 < 4 then (mj_rV (kc d 196 [v_r 19 p1.toNat, v_i p2, v_i p3] m6) fun m7 => some (some (v_i 1), m7)) else (none))) else (none)) else (some (some (v_i (-11)), m4))) else (none)) := (kd_unf [] 40).trans rfl
-- 41 NumbersCalled.copy(IIIII)I
set_option maxRecDepth 20000 in
theorem ke41_0 (d : Nat) (p1 : Int) (p2 : Int) (p3 : Int) (p4 : Int) (p5 : Int) (μ : mj_M) : kc (d + 1) 41 [v_r 0 0, v_i p1, v_i p2, v_i p3, v_i p4, v_i p5] μ = mj_rI (kc d 48 [v_i p1] μ) fun x1 m2 => if x1 = 0 then (some (some (v_i (-2)), m2)) else (mj_rI (kc d 48 [v_i p3] m2) fun x3 m4 => if x3 = 0 then (some (some (v_i (-2)), m4)) else (if 0 ≤ p1 ∧ p1 < 4 then (if 0 ≤ p3 ∧ p3 < 4 then (mj_rI (kc d 194 [v_r 19 p1.toNat] m4) fun x5 m6 => if x5 = 0 then (mj_rI (kc d 194 [v_r 19 p3.toNat] m6) fun x7 m8 => if x7 = 0 then (if (m8 19 p1.toNat 0) = (m8 19 p3.toNat 0) then (if p5 < 0 then (some (some (v_i (-12)), m8)) else (mj_rI (kc d 44 [v_i p2, v_i 0, v_i (mj_w ((m8 19 p1.toNat 1) - p5))] m8) fun x9 m10 => if x9 = 0 then (some (some (v_i (-12)), m10)) else (mj_rI (kc d 44 [v_i p4, v_i 0, v_i (mj_w ((m10 19 p3.toNat 1) - p5))] m10) fun x11 m12 => if x11 = 0 then (some (some (v_i (-12)), m12)) else (if (0 : Int) ≤ p5 ∧ (0 : Int) ≤ p2 ∧ (0 : Int) ≤ p4 ∧ p2 + p5 ≤ 40 ∧ p4 + p5 ≤ 40 then (some (some (v_i p5), mj_cpy m12 20 p1.toNat p2.toNat 20 p3.toNat p4.toNat p5.toNat)) else (none))))) else (some (some (v_i (-13)), m8))) else (some (some (v_i (-11)), m8))) else (some (some (v_i (-11)), m6))) else (none)) else (none))) := (kd_unf [] 40).trans rfl
-- 42 NumbersCalled.pulls(IIII)I
set_option maxRecDepth 20000 in
theorem ke42_0 (d : Nat) (p1 : Int) (p2 : Int) (p3 : Int) (p4 : Int) (μ : mj_M) : kc (d + 1) 42 [v_r 0 0, v_i p1, v_i p2, v_i p3, v_i p4] μ = mj_rI (kc d 48 [v_i p1] μ) fun x1 m2 => if x1 = 0 then (some (some (v_i (-2)), m2)) else (mj_rI (kc d 44 [v_i p2, v_i 0, v_i 2] m2) fun x3 m4 => if x3 = 0 then (some (some (v_i (-2)), m4)) else (mj_rI (kc d 44 [v_i p4, v_i 0, v_i 13] m4) fun x5 m6 => if x5 = 0 then (some (some (v_i (-2)), m6)) else (if 0 ≤ p1 ∧ p1 < 4 then (mj_rI (kc d 194 [v_r 19 p1.toNat] m6) fun x7 m8 => if x7 = 0 then (if (m8 19 p1.toNat 0) = p2 then (kd d 42 5 [some (v_r 0 0), none, none, some (v_i p3), some (v_i p4), some (v_r 19 p1.toNat), some (v_i 0), some (v_i p3), some (v_i 0)] [] m8) else (some (some (v_i (-13)), m8))) else (some (some (v_i (-11)), m8))) else (none)))) := (kd_unf [5] 40).trans rfl
set_option maxRecDepth 20000 in
theorem ke42_5 (d : Nat) (o1 : Option mj_V) (o2 : Option mj_V) (o3 : Option mj_V) (a4 : Int) (i5 : Nat) (a6 : Int) (a7 : Int) (a8 : Int) (μ : mj_M) : kd d 42 5 [some (v_r 0 0), o1, o2, o3, some (v_i a4), some (v_r 19 i5), some (v_i a6), some (v_i a7), some (v_i a8)] [] μ = if a8 < a4 then (mj_rI (kc d 44 [v_i a7, v_i 0, v_i (mj_w ((μ 19 i5 1) - 3))] μ) fun x1 m2 => if x1 = 0 then (some (some (v_i (-12)), m2)) else (if 0 ≤ a7 ∧ a7 < 40 then (if 0 ≤ (mj_w (a7 + 1)) ∧ (mj_w (a7 + 1)) < 40 then (if 0 ≤ (mj_w (a7 + 2)) ∧ (mj_w (a7 + 2)) < 40 then (mj_rI (kc d 8 [v_r 0 0, v_i (m2 20 i5 a7.toNat), v_i (m2 20 i5 ((mj_w (a7 + 1)).toNat)), v_i (m2 20 i5 ((mj_w (a7 + 2)).toNat))] m2) fun x3 m4 => if x3 < 0 then (kd d 42 5 [some (v_r 0 0), none, none, none, some (v_i a4), some (v_r 19 i5), some (v_i a6), some (v_i (mj_w (a7 + 3))), some (v_i (mj_w (a8 + 1)))] [] m4) else (kd d 42 5 [some (v_r 0 0), none, none, none, some (v_i a4), some (v_r 19 i5), some (v_i (mj_w (a6 + 1))), some (v_i (mj_w (a7 + 3))), some (v_i (mj_w (a8 + 1)))] [] m4)) else (none)) else (none)) else (none))) else (some (some (v_i a6), μ)) := (kd_unf [5] 40).trans rfl
-- 43 NumbersCalled.taken(II)I
set_option maxRecDepth 20000 in
theorem ke43_0 (d : Nat) (p1 : Int) (p2 : Int) (μ : mj_M) : kc (d + 1) 43 [v_r 0 0, v_i p1, v_i p2] μ = mj_rI (kc d 44 [v_i p2, v_i 0, v_i 6] μ) fun x1 m2 => if x1 = 0 then (some (some (v_i (-2)), m2)) else (mj_rI (kc d 44 [v_i p1, v_i 0, v_i 19] m2) fun x3 m4 => if x3 = 0 then (some (some (v_i (-12)), m4)) else (if p2 = 6 then (kd d 43 4 [some (v_r 0 0), some (v_i p1), some (v_i p2), none, none] [v_i 1] m4) else (kd d 43 4 [some (v_r 0 0), some (v_i p1), some (v_i p2), none, none] [v_i 0] m4))) := (kd_unf [4] 40).trans rfl
set_option maxRecDepth 20000 in
theorem ke43_4 (d : Nat) (a1 : Int) (a2 : Int) (o3 : Option mj_V) (o4 : Option mj_V) (s0 : Int) (μ : mj_M) : kd d 43 4 [some (v_r 0 0), some (v_i a1), some (v_i a2), o3, o4] [v_i s0] μ = if a1 < 4 then (mj_rI (kc d 49 [v_r 0 0, v_i a1] μ) fun x5 m6 => if x5 = 0 then (some (some (v_i (-11)), m6)) else (if s0 = 0 then (some (some (v_i (-13)), m6)) else (if 0 ≤ a1 ∧ a1 < 4 then (some (some (v_i (m6 2 0 a1.toNat)), m6)) else (none)))) else (mj_rI (kc d 50 [v_r 0 0, v_i (mj_w (a1 - 4))] μ) fun x1 m2 => if x1 = 0 then (some (some (v_i (-11)), m2)) else (if s0 = 0 then (if 0 ≤ (mj_w (a1 - 4)) ∧ (mj_w (a1 - 4)) < 16 then (mj_rI (kc d 164 [v_r 7 ((mj_w (a1 - 4)).toNat), v_i a2] m2) fun x3 m4 => if x3 = 0 then (some (some (v_i (-13)), m4)) else (some (some (v_i (mj_w (a1 - 4))), m4))) else (none)) else (some (some (v_i (-13)), m2)))) := (kd_unf [4] 40).trans rfl
-- 44 NumbersCalled.within(III)Z
set_option maxRecDepth 20000 in
theorem ke44_0 (d : Nat) (p0 : Int) (p1 : Int) (p2 : Int) (μ : mj_M) : kc (d + 1) 44 [v_i p0, v_i p1, v_i p2] μ = if p0 < p1 then (some (some (v_i 0), μ)) else (if p2 < p0 then (some (some (v_i 0), μ)) else (some (some (v_i 1), μ))) := (kd_unf [] 40).trans rfl
end
section
/-! printed by wip/whole/eqs.py: what each cut of each method comes to -/
-- 45 NumbersCalled.bounded(III)I
set_option maxRecDepth 20000 in
theorem ke45_0 (d : Nat) (p0 : Int) (p1 : Int) (p2 : Int) (μ : mj_M) : kc (d + 1) 45 [v_i p0, v_i p1, v_i p2] μ = if p0 < p1 then (some (some (v_i p1), μ)) else (if p2 < p0 then (some (some (v_i p2), μ)) else (some (some (v_i p0), μ))) := (kd_unf [] 40).trans rfl
-- 46 NumbersCalled.isByte(I)Z
set_option maxRecDepth 20000 in
theorem ke46_0 (d : Nat) (p0 : Int) (μ : mj_M) : kc (d + 1) 46 [v_i p0] μ = mj_rI (kc d 44 [v_i p0, v_i 0, v_i 255] μ) fun x1 m2 => if x1 = 0 ∨ x1 = 1 then (some (some (v_i x1), m2)) else (none) := (kd_unf [] 40).trans rfl
-- 47 NumbersCalled.isPull(I)Z
set_option maxRecDepth 20000 in
theorem ke47_0 (d : Nat) (p0 : Int) (μ : mj_M) : kc (d + 1) 47 [v_i p0] μ = mj_rI (kc d 44 [v_i p0, v_i 0, v_i 3999] μ) fun x1 m2 => if x1 = 0 then (some (some (v_i 0), m2)) else (if 0 < ((mj_w (p0.tdiv 10)).tmod 100) then (some (some (v_i 1), m2)) else (some (some (v_i 0), m2))) := (kd_unf [] 40).trans rfl
-- 48 NumbersCalled.isSheet(I)Z
set_option maxRecDepth 20000 in
theorem ke48_0 (d : Nat) (p0 : Int) (μ : mj_M) : kc (d + 1) 48 [v_i p0] μ = mj_rI (kc d 44 [v_i p0, v_i 0, v_i 3] μ) fun x1 m2 => if x1 = 0 ∨ x1 = 1 then (some (some (v_i x1), m2)) else (none) := (kd_unf [] 40).trans rfl
-- 49 NumbersCalled.isCounter(I)Z
set_option maxRecDepth 20000 in
theorem ke49_0 (d : Nat) (p1 : Int) (μ : mj_M) : kc (d + 1) 49 [v_r 0 0, v_i p1] μ = mj_rI (kc d 44 [v_i p1, v_i 0, v_i (mj_w ((μ 1 0 0) - 1))] μ) fun x1 m2 => if x1 = 0 ∨ x1 = 1 then (some (some (v_i x1), m2)) else (none) := (kd_unf [] 40).trans rfl
-- 50 NumbersCalled.isAsker(I)Z
set_option maxRecDepth 20000 in
theorem ke50_0 (d : Nat) (p1 : Int) (μ : mj_M) : kc (d + 1) 50 [v_r 0 0, v_i p1] μ = mj_rI (kc d 44 [v_i p1, v_i 0, v_i (mj_w ((μ 1 0 4) - 1))] μ) fun x1 m2 => if x1 = 0 ∨ x1 = 1 then (some (some (v_i x1), m2)) else (none) := (kd_unf [] 40).trans rfl
-- 51 NumbersCalled.isOfCounter(II)Z
set_option maxRecDepth 20000 in
theorem ke51_0 (d : Nat) (p0 : Int) (p1 : Int) (μ : mj_M) : kc (d + 1) 51 [v_i p0, v_i p1] μ = if p0 = 0 then (mj_rI (kc d 44 [v_i p1, v_i 0, v_i 15] μ) fun x1 m2 => if x1 = 0 ∨ x1 = 1 then (some (some (v_i x1), m2)) else (none)) else if p0 = 1 then (mj_rI (kc d 44 [v_i p1, v_i 0, v_i 9] μ) fun x3 m4 => if x3 = 0 ∨ x3 = 1 then (some (some (v_i x3), m4)) else (none)) else if p0 = 2 then (mj_rI (kc d 44 [v_i p1, v_i (-1), v_i 119] μ) fun x5 m6 => if x5 = 0 ∨ x5 = 1 then (some (some (v_i x5), m6)) else (none)) else (some (some (v_i 0), μ)) := (kd_unf [] 40).trans rfl
-- 52 NumbersCalled.ofCounter(II)I
set_option maxRecDepth 20000 in
theorem ke52_0 (d : Nat) (p1 : Int) (p2 : Int) (μ : mj_M) : kc (d + 1) 52 [v_r 0 0, v_i p1, v_i p2] μ = if p2 = 0 then (if 0 ≤ p1 ∧ p1 < 4 then (some (some (v_i (μ 2 0 p1.toNat)), μ)) else (none)) else if p2 = 1 then (if 0 ≤ p1 ∧ p1 < 4 then (some (some (v_i (μ 3 0 p1.toNat)), μ)) else (none)) else (if 0 ≤ p1 ∧ p1 < 4 then (some (some (v_i (μ 4 0 p1.toNat)), μ)) else (none)) := (kd_unf [] 40).trans rfl
-- 53 NumbersCalled.isOfHall(II)Z
set_option maxRecDepth 20000 in
theorem ke53_0 (d : Nat) (p0 : Int) (p1 : Int) (μ : mj_M) : kc (d + 1) 53 [v_i p0, v_i p1] μ = if p0 = 0 then (mj_rI (kc d 44 [v_i p1, v_i 0, v_i 3] μ) fun x1 m2 => if x1 = 0 ∨ x1 = 1 then (some (some (v_i x1), m2)) else (none)) else if p0 = 1 then (mj_rI (kc d 44 [v_i p1, v_i 1, v_i 9] μ) fun x3 m4 => if x3 = 0 ∨ x3 = 1 then (some (some (v_i x3), m4)) else (none)) else (mj_rI (kc d 44 [v_i p1, v_i 0, v_i 120] μ) fun x5 m6 => if x5 = 0 ∨ x5 = 1 then (some (some (v_i x5), m6)) else (none)) := (kd_unf [] 40).trans rfl
-- 54 NumbersCalled.ofHall(I)I
set_option maxRecDepth 20000 in
theorem ke54_0 (d : Nat) (p1 : Int) (μ : mj_M) : kc (d + 1) 54 [v_r 0 0, v_i p1] μ = if p1 = 0 then (some (some (v_i (μ 1 0 6)), μ)) else if p1 = 1 then (some (some (v_i (μ 1 0 7)), μ)) else (some (some (v_i (μ 1 0 8)), μ)) := (kd_unf [] 40).trans rfl
-- 55 NumbersCalled.refusalOfRoll(I)I
set_option maxRecDepth 20000 in
theorem ke55_0 (d : Nat) (p1 : Int) (μ : mj_M) : kc (d + 1) 55 [v_r 0 0, v_i p1] μ = mj_rI (kc d 48 [v_i p1] μ) fun x1 m2 => if x1 = 0 then (some (some (v_i (-2)), m2)) else (if 0 ≤ p1 ∧ p1 < 4 then (mj_rI (kc d 194 [v_r 19 p1.toNat] m2) fun x3 m4 => if x3 = 0 then (if 0 ≤ p1 ∧ p1 < 4 then (if (m4 19 p1.toNat 1) = (m4 1 0 4) then (some (some (v_i 0), m4)) else (some (some (v_i (-2)), m4))) else (none)) else (some (some (v_i (-11)), m4))) else (none)) := (kd_unf [] 40).trans rfl
-- 56 NumbersCalled.planAsItIs()V
set_option maxRecDepth 20000 in
theorem ke56_0 (d : Nat)  (μ : mj_M) : kc (d + 1) 56 [v_r 0 0] μ = mj_rV (kc d 191 [v_r 1 2, v_r 1 0] μ) fun m1 => some (none, m1) := (kd_unf [] 40).trans rfl
-- 57 NumbersCalled.live()V
set_option maxRecDepth 20000 in
theorem ke57_0 (d : Nat)  (μ : mj_M) : kc (d + 1) 57 [v_r 0 0] μ = if 0 ≤ (μ 1 2 9) ∧ (μ 1 2 9) < 6 then (mj_rV (kc d 170 [v_r 21 0, v_r 6 0, v_r 9 ((μ 1 2 9).toNat)] μ) fun m1 => some (none, m1)) else (none) := (kd_unf [] 40).trans rfl
-- 58 NumbersCalled.liveAsItIs()V
set_option maxRecDepth 20000 in
theorem ke58_0 (d : Nat)  (μ : mj_M) : kc (d + 1) 58 [v_r 0 0] μ = mj_rV (kc d 56 [v_r 0 0] μ) fun m1 => mj_rV (kc d 57 [v_r 0 0] m1) fun m2 => some (none, m2) := (kd_unf [] 40).trans rfl
-- 59 NumbersCalled.planDrawn(I)V
set_option maxRecDepth 20000 in
theorem ke59_0 (d : Nat) (p1 : Int) (μ : mj_M) : kc (d + 1) 59 [v_r 0 0, v_i p1] μ = mj_rV (kc d 56 [v_r 0 0] μ) fun m1 => kd d 59 1 [some (v_r 0 0), some (v_i p1), some (v_l (mj_x (p1 + 1))), none, some (v_i 0), none] [] m1 := (kd_unf [1] 40).trans rfl
set_option maxRecDepth 20000 in
theorem ke59_1 (d : Nat) (o1 : Option mj_V) (a2 : Int) (o3 : Option mj_V) (a4 : Int) (o5 : Option mj_V) (μ : mj_M) : kd d 59 1 [some (v_r 0 0), o1, some (v_l a2), o3, some (v_i a4), o5] [] μ = if a4 < (μ 1 0 4) then (if 0 ≤ a4 ∧ a4 < 16 then (mj_rI (kc d 45 [v_i (mj_w ((μ 5 0 a4.toNat) + (mj_w ((mj_w (((mj_x (a2 * 48271)).tmod 2147483647).tmod 21)) - 10)))), v_i 0, v_i 119] μ) fun x1 m2 => if 0 ≤ a4 ∧ a4 < 16 then (kd d 59 1 [some (v_r 0 0), none, some (v_l ((mj_x (a2 * 48271)).tmod 2147483647)), none, some (v_i (mj_w (a4 + 1))), some (v_i (mj_w ((mj_w (((mj_x (a2 * 48271)).tmod 2147483647).tmod 21)) - 10)))] [] (mj_up m2 5 2 a4.toNat x1)) else (none)) else (none)) else (some (none, μ)) := (kd_unf [1] 40).trans rfl
-- 60 NumbersCalled.isTrained(III)Z
set_option maxRecDepth 20000 in
theorem ke60_0 (d : Nat) (p1 : Int) (p2 : Int) (p3 : Int) (μ : mj_M) : kc (d + 1) 60 [v_r 0 0, v_i p1, v_i p2, v_i p3] μ = mj_rV (kc d 56 [v_r 0 0] μ) fun m1 => mj_rV (kc d 192 [v_r 1 2, v_i p1] m1) fun m2 => mj_rV (kc d 192 [v_r 1 2, v_i p2] m2) fun m3 => mj_rV (kc d 57 [v_r 0 0] m3) fun m4 => mj_rI (kc d 180 [v_r 21 0, v_i 2] m4) fun x5 m6 => if x5 = (m6 1 0 4) then (mj_rI (kc d 182 [v_r 21 0] m6) fun x7 m8 => if p3 < x7 then (some (some (v_i 0), m8)) else (some (some (v_i 1), m8))) else (some (some (v_i 0), m6)) := (kd_unf [] 40).trans rfl
-- 61 NumbersCalled.skillName(I)I
set_option maxRecDepth 20000 in
theorem ke61_0 (d : Nat) (p0 : Int) (μ : mj_M) : kc (d + 1) 61 [v_i p0] μ = some (some (v_i (mj_w ((mj_w ((mj_w (p0.tdiv 4)) * 10)) + (p0.tmod 4)))), μ) := (kd_unf [] 40).trans rfl
-- 62 NumbersCalled.someoneComes(I)Z
set_option maxRecDepth 20000 in
theorem ke62_0 (d : Nat) (p1 : Int) (μ : mj_M) : kc (d + 1) 62 [v_r 0 0, v_i p1] μ = kd d 62 1 [some (v_r 0 0), some (v_i p1), some (v_i 0)] [] μ := (kd_unf [1] 40).trans rfl
set_option maxRecDepth 20000 in
theorem ke62_1 (d : Nat) (a1 : Int) (a2 : Int) (μ : mj_M) : kd d 62 1 [some (v_r 0 0), some (v_i a1), some (v_i a2)] [] μ = if a2 < (μ 1 0 4) then (if 0 ≤ a2 ∧ a2 < 16 then (if (μ 5 0 a2.toNat) = a1 then (some (some (v_i 1), μ)) else (kd d 62 1 [some (v_r 0 0), some (v_i a1), some (v_i (mj_w (a2 + 1)))] [] μ)) else (none)) else (some (some (v_i 0), μ)) := (kd_unf [1] 40).trans rfl
-- 63 NumbersCalled.waitsOfOthers(I)I
set_option maxRecDepth 20000 in
theorem ke63_0 (d : Nat) (p1 : Int) (μ : mj_M) : kc (d + 1) 63 [v_r 0 0, v_i p1] μ = kd d 63 1 [some (v_r 0 0), some (v_i p1), some (v_i 0), some (v_i 0), none] [] μ := (kd_unf [1, 2, 5] 40).trans rfl
set_option maxRecDepth 20000 in
theorem ke63_1 (d : Nat) (a1 : Int) (a2 : Int) (a3 : Int) (o4 : Option mj_V) (μ : mj_M) : kd d 63 1 [some (v_r 0 0), some (v_i a1), some (v_i a2), some (v_i a3), o4] [] μ = if a3 < (μ 1 0 4) then (if a1 = 1 then (if 0 ≤ a3 ∧ a3 < 16 then (mj_rI (kc d 165 [v_r 7 a3.toNat] μ) fun x1 m2 => if x1 = 0 then (kd d 63 2 [some (v_r 0 0), some (v_i a1), some (v_i a2), some (v_i a3), none] [] m2) else (kd d 63 5 [some (v_r 0 0), some (v_i a1), some (v_i a2), some (v_i a3), none] [v_i 1] m2)) else (none)) else (kd d 63 2 [some (v_r 0 0), some (v_i a1), some (v_i a2), some (v_i a3), none] [] μ)) else (some (some (v_i a2), μ)) := (kd_unf [1, 2, 5] 40).trans rfl
set_option maxRecDepth 20000 in
theorem ke63_2 (d : Nat) (a1 : Int) (a2 : Int) (a3 : Int) (o4 : Option mj_V) (μ : mj_M) : kd d 63 2 [some (v_r 0 0), some (v_i a1), some (v_i a2), some (v_i a3), o4] [] μ = if a1 = 3 then (if 0 ≤ a3 ∧ a3 < 16 then (mj_rI (kc d 166 [v_r 7 a3.toNat] μ) fun x1 m2 => if x1 = 0 then (kd d 63 5 [some (v_r 0 0), some (v_i a1), some (v_i a2), some (v_i a3), none] [v_i 0] m2) else (kd d 63 5 [some (v_r 0 0), some (v_i a1), some (v_i a2), some (v_i a3), none] [v_i 1] m2)) else (none)) else (kd d 63 5 [some (v_r 0 0), some (v_i a1), some (v_i a2), some (v_i a3), none] [v_i 0] μ) := (kd_unf [1, 2, 5] 40).trans rfl
set_option maxRecDepth 20000 in
theorem ke63_5 (d : Nat) (a1 : Int) (a2 : Int) (a3 : Int) (o4 : Option mj_V) (s0 : Int) (μ : mj_M) : kd d 63 5 [some (v_r 0 0), some (v_i a1), some (v_i a2), some (v_i a3), o4] [v_i s0] μ = if s0 = 0 then (if 0 ≤ a3 ∧ a3 < 16 then (if (μ 22 0 a3.toNat) = 2 then (mj_rI (kc d 178 [v_r 21 0, v_i a3] μ) fun x1 m2 => kd d 63 1 [some (v_r 0 0), some (v_i a1), some (v_i (mj_w (a2 + x1))), some (v_i (mj_w (a3 + 1))), none] [] m2) else (kd d 63 1 [some (v_r 0 0), some (v_i a1), some (v_i a2), some (v_i (mj_w (a3 + 1))), none] [] μ)) else (none)) else (kd d 63 1 [some (v_r 0 0), some (v_i a1), some (v_i a2), some (v_i (mj_w (a3 + 1))), none] [] μ) := (kd_unf [1, 2, 5] 40).trans rfl
-- 64 NumbersCalled.minded(LNumbersCalled$Asker;II)I
set_option maxRecDepth 20000 in
theorem ke64_0 (d : Nat) (i1 : Nat) (p2 : Int) (p3 : Int) (μ : mj_M) : kc (d + 1) 64 [v_r 0 0, v_r 7 i1, v_i p2, v_i p3] μ = if 0 ≤ (μ 1 0 9) ∧ (μ 1 0 9) < 6 then (mj_rI (kc d 215 [v_r 9 ((μ 1 0 9).toNat), v_i 2, v_r 7 i1, v_i p2, v_i 0, v_i p3] μ) fun x1 m2 => mj_rI (kc d 45 [v_i x1, v_i 0, v_i 999] m2) fun x3 m4 => some (some (v_i x3), m4)) else (none) := (kd_unf [] 40).trans rfl
-- 65 NumbersCalled.seekBest(I)V
set_option maxRecDepth 20000 in
theorem ke65_0 (d : Nat) (p1 : Int) (μ : mj_M) : kc (d + 1) 65 [v_r 0 0, v_i p1] μ = mj_rV (kc d 188 [v_r 31 0] μ) fun m1 => kd d 65 1 [some (v_r 0 0), some (v_i p1), some (v_i 0)] [] m1 := (kd_unf [1] 40).trans rfl
set_option maxRecDepth 20000 in
theorem ke65_1 (d : Nat) (a1 : Int) (a2 : Int) (μ : mj_M) : kd d 65 1 [some (v_r 0 0), some (v_i a1), some (v_i a2)] [] μ = if 100 < a2 then (some (none, μ)) else (if 0 ≤ a1 ∧ a1 < 16 then (mj_rV (kc d 57 [v_r 0 0] (mj_up μ 5 2 a1.toNat a2)) fun m1 => mj_rI (kc d 179 [v_r 21 0, v_i a1] m1) fun x2 m3 => mj_rV (kc d 189 [v_r 31 0, v_i a2, v_i x2] m3) fun m4 => kd d 65 1 [some (v_r 0 0), some (v_i a1), some (v_i (mj_w (a2 + 20)))] [] m4) else (none)) := (kd_unf [1] 40).trans rfl
-- 66 NumbersCalled.wouldMove(I)Z
set_option maxRecDepth 20000 in
theorem ke66_0 (d : Nat) (p1 : Int) (μ : mj_M) : kc (d + 1) 66 [v_r 0 0, v_i p1] μ = mj_rV (kc d 58 [v_r 0 0] μ) fun m1 => mj_rI (kc d 179 [v_r 21 0, v_i p1] m1) fun x2 m3 => mj_rV (kc d 65 [v_r 0 0, v_i p1] m3) fun m4 => if (m4 31 0 1) < x2 then (some (some (v_i 1), m4)) else (some (some (v_i 0), m4)) := (kd_unf [] 40).trans rfl
-- 67 NumbersCalled.firstOtherwise(LNumbersCalled$Sheet;)I
set_option maxRecDepth 20000 in
theorem ke67_0 (d : Nat) (i1 : Nat) (μ : mj_M) : kc (d + 1) 67 [v_r 0 0, v_r 19 i1] μ = kd d 67 1 [some (v_r 0 0), some (v_r 19 i1), some (v_i 0)] [] μ := (kd_unf [1] 40).trans rfl
set_option maxRecDepth 20000 in
theorem ke67_1 (d : Nat) (i1 : Nat) (a2 : Int) (μ : mj_M) : kd d 67 1 [some (v_r 0 0), some (v_r 19 i1), some (v_i a2)] [] μ = if a2 < (μ 1 0 4) then (if 0 ≤ a2 ∧ a2 < 40 then (if 0 ≤ a2 ∧ a2 < 16 then (if (μ 20 i1 a2.toNat) = (μ 24 0 a2.toNat) then (kd d 67 1 [some (v_r 0 0), some (v_r 19 i1), some (v_i (mj_w (a2 + 1)))] [] μ) else (some (some (v_i a2), μ))) else (none)) else (none)) else (some (some (v_i (-1)), μ)) := (kd_unf [1] 40).trans rfl
-- 68 NumbersCalled.startParts()V
set_option maxRecDepth 20000 in
theorem ke68_0 (d : Nat)  (μ : mj_M) : kc (d + 1) 68 [v_r 0 0] μ = kd d 68 1 [some (v_r 0 0), some (v_i 0)] [] μ := (kd_unf [1] 40).trans rfl
set_option maxRecDepth 20000 in
theorem ke68_1 (d : Nat) (a1 : Int) (μ : mj_M) : kd d 68 1 [some (v_r 0 0), some (v_i a1)] [] μ = if 40 < a1 then (some (none, mj_up μ 32 0 0 1000000000)) else (if 0 ≤ a1 ∧ a1 < 41 then (kd d 68 1 [some (v_r 0 0), some (v_i (mj_w (a1 + 1)))] [] (mj_up μ 32 0 a1.toNat 0)) else (none)) := (kd_unf [1] 40).trans rfl
-- 69 NumbersCalled.giveOneMore(II)V
set_option maxRecDepth 20000 in
theorem ke69_0 (d : Nat) (p1 : Int) (p2 : Int) (μ : mj_M) : kc (d + 1) 69 [v_r 0 0, v_i p1, v_i p2] μ = kd d 69 1 [some (v_r 0 0), some (v_i p1), some (v_i p2), some (v_l (mj_w (100 - p2))), none, some (v_i p1)] [] μ := (kd_unf [1] 40).trans rfl
set_option maxRecDepth 20000 in
theorem ke69_1 (d : Nat) (o1 : Option mj_V) (a2 : Int) (a3 : Int) (o4 : Option mj_V) (a5 : Int) (μ : mj_M) : kd d 69 1 [some (v_r 0 0), o1, some (v_i a2), some (v_l a3), o4, some (v_i a5)] [] μ = if a5 < 1 then (some (none, mj_up μ 32 0 0 (mj_x ((mj_x ((μ 32 0 0) * a3)).tdiv 100)))) else (if 0 ≤ a5 ∧ a5 < 41 then (if 0 ≤ (mj_w (a5 - 1)) ∧ (mj_w (a5 - 1)) < 41 then (if 0 ≤ a5 ∧ a5 < 41 then (kd d 69 1 [some (v_r 0 0), none, some (v_i a2), some (v_l a3), none, some (v_i (mj_w (a5 + (-1))))] [] (mj_up μ 32 0 a5.toNat (mj_x ((mj_x ((mj_x ((μ 32 0 a5.toNat) * a3)).tdiv 100)) + (mj_x ((mj_x ((μ 32 0 ((mj_w (a5 - 1)).toNat)) * a2)).tdiv 100)))))) else (none)) else (none)) else (none)) := (kd_unf [1] 40).trans rfl
-- 70 NumbersCalled.partsAbove(I)J
set_option maxRecDepth 20000 in
theorem ke70_0 (d : Nat) (p1 : Int) (μ : mj_M) : kc (d + 1) 70 [v_r 0 0, v_i p1] μ = kd d 70 1 [some (v_r 0 0), some (v_i p1), some (v_l 0), none, some (v_i (mj_w (p1 + 1)))] [] μ := (kd_unf [1] 40).trans rfl
set_option maxRecDepth 20000 in
theorem ke70_1 (d : Nat) (o1 : Option mj_V) (a2 : Int) (o3 : Option mj_V) (a4 : Int) (μ : mj_M) : kd d 70 1 [some (v_r 0 0), o1, some (v_l a2), o3, some (v_i a4)] [] μ = if 40 < a4 then (some (some (v_l a2), μ)) else (if 0 ≤ a4 ∧ a4 < 41 then (kd d 70 1 [some (v_r 0 0), none, some (v_l (mj_x (a2 + (μ 32 0 a4.toNat)))), none, some (v_i (mj_w (a4 + 1)))] [] μ) else (none)) := (kd_unf [1] 40).trans rfl
-- 71 NumbersCalled.commonDivisor(II)I
set_option maxRecDepth 20000 in
theorem ke71_0 (d : Nat) (p0 : Int) (p1 : Int) (μ : mj_M) : kc (d + 1) 71 [v_i p0, v_i p1] μ = kd d 71 1 [some (v_i p0), some (v_i p1), some (v_i p1)] [] μ := (kd_unf [1] 40).trans rfl
set_option maxRecDepth 20000 in
theorem ke71_1 (d : Nat) (a0 : Int) (a1 : Int) (a2 : Int) (μ : mj_M) : kd d 71 1 [some (v_i a0), some (v_i a1), some (v_i a2)] [] μ = if 1 < a2 then (if a2 = 0 then (none) else (if (a0.tmod a2) = 0 then (if a2 = 0 then (none) else (if (a1.tmod a2) = 0 then (some (some (v_i a2), μ)) else (kd d 71 1 [some (v_i a0), some (v_i a1), some (v_i (mj_w (a2 + (-1))))] [] μ))) else (kd d 71 1 [some (v_i a0), some (v_i a1), some (v_i (mj_w (a2 + (-1))))] [] μ))) else (some (some (v_i 1), μ)) := (kd_unf [1] 40).trans rfl
-- 72 NumbersCalledModel.in(III)Z
set_option maxRecDepth 20000 in
theorem ke72_0 (d : Nat) (p0 : Int) (p1 : Int) (p2 : Int) (μ : mj_M) : kc (d + 1) 72 [v_i p0, v_i p1, v_i p2] μ = if p0 < p1 then (some (some (v_i 0), μ)) else (if p2 < p0 then (some (some (v_i 0), μ)) else (some (some (v_i 1), μ))) := (kd_unf [] 40).trans rfl
-- 73 NumbersCalledModel.within(III)I
set_option maxRecDepth 20000 in
theorem ke73_0 (d : Nat) (p0 : Int) (p1 : Int) (p2 : Int) (μ : mj_M) : kc (d + 1) 73 [v_i p0, v_i p1, v_i p2] μ = if p0 < p1 then (some (some (v_i p1), μ)) else (if p2 < p0 then (some (some (v_i p2), μ)) else (some (some (v_i p0), μ))) := (kd_unf [] 40).trans rfl
-- 74 NumbersCalledModel.isCounter(I)Z
set_option maxRecDepth 20000 in
theorem ke74_0 (d : Nat) (p1 : Int) (μ : mj_M) : kc (d + 1) 74 [v_r 33 0, v_i p1] μ = mj_rI (kc d 72 [v_i p1, v_i 0, v_i (mj_w ((μ 33 0 0) - 1))] μ) fun x1 m2 => if x1 = 0 ∨ x1 = 1 then (some (some (v_i x1), m2)) else (none) := (kd_unf [] 40).trans rfl
-- 75 NumbersCalledModel.isAsker(I)Z
set_option maxRecDepth 20000 in
theorem ke75_0 (d : Nat) (p1 : Int) (μ : mj_M) : kc (d + 1) 75 [v_r 33 0, v_i p1] μ = mj_rI (kc d 72 [v_i p1, v_i 0, v_i (mj_w ((μ 33 0 5) - 1))] μ) fun x1 m2 => if x1 = 0 ∨ x1 = 1 then (some (some (v_i x1), m2)) else (none) := (kd_unf [] 40).trans rfl
-- 76 NumbersCalledModel.isTold(II)Z
set_option maxRecDepth 20000 in
theorem ke76_0 (d : Nat) (p0 : Int) (p1 : Int) (μ : mj_M) : kc (d + 1) 76 [v_i p0, v_i p1] μ = if p0 = 0 then (mj_rI (kc d 72 [v_i p1, v_i 0, v_i 15] μ) fun x5 m6 => if x5 = 0 ∨ x5 = 1 then (some (some (v_i x5), m6)) else (none)) else (if p0 = 1 then (mj_rI (kc d 72 [v_i p1, v_i 0, v_i 9] μ) fun x3 m4 => if x3 = 0 ∨ x3 = 1 then (some (some (v_i x3), m4)) else (none)) else (if p0 = 2 then (mj_rI (kc d 72 [v_i p1, v_i (-1), v_i 119] μ) fun x1 m2 => if x1 = 0 then (some (some (v_i 0), m2)) else (some (some (v_i 1), m2))) else (some (some (v_i 0), μ)))) := (kd_unf [] 40).trans rfl
-- 77 NumbersCalledModel.counter(II)I
set_option maxRecDepth 20000 in
theorem ke77_0 (d : Nat) (p1 : Int) (p2 : Int) (μ : mj_M) : kc (d + 1) 77 [v_r 33 0, v_i p1, v_i p2] μ = mj_rI (kc d 76 [v_i 0, v_i p1] μ) fun x1 m2 => if x1 = 0 then (some (some (v_i (-2)), m2)) else (mj_rI (kc d 76 [v_i 1, v_i p2] m2) fun x3 m4 => if x3 = 0 then (some (some (v_i (-2)), m4)) else (if (m4 33 0 0) = 4 then (some (some (v_i (-4)), m4)) else (if 0 ≤ (mj_w (3 * (m4 33 0 0))) ∧ (mj_w (3 * (m4 33 0 0))) < 12 then (if 0 ≤ (mj_w ((mj_w (3 * (m4 33 0 0))) + 1)) ∧ (mj_w ((mj_w (3 * (m4 33 0 0))) + 1)) < 12 then (if 0 ≤ (mj_w ((mj_w (3 * (m4 33 0 0))) + 2)) ∧ (mj_w ((mj_w (3 * (m4 33 0 0))) + 2)) < 12 then (some (some (v_i (mj_w ((mj_w ((m4 33 0 0) + 1)) - 1))), mj_up (mj_up (mj_up (mj_up m4 34 0 ((mj_w (3 * (m4 33 0 0))).toNat) p1) 34 0 ((mj_w ((mj_w (3 * (m4 33 0 0))) + 1)).toNat) p2) 34 0 ((mj_w ((mj_w (3 * (m4 33 0 0))) + 2)).toNat) (-1)) 33 0 0 (mj_w ((m4 33 0 0) + 1)))) else (none)) else (none)) else (none)))) := (kd_unf [] 40).trans rfl
-- 78 NumbersCalledModel.change(III)I
set_option maxRecDepth 20000 in
theorem ke78_0 (d : Nat) (p1 : Int) (p2 : Int) (p3 : Int) (μ : mj_M) : kc (d + 1) 78 [v_r 33 0, v_i p1, v_i p2, v_i p3] μ = mj_rI (kc d 74 [v_r 33 0, v_i p1] μ) fun x1 m2 => if x1 = 0 then (some (some (v_i (-5)), m2)) else (mj_rI (kc d 76 [v_i p2, v_i p3] m2) fun x3 m4 => if x3 = 0 then (some (some (v_i (-7)), m4)) else (if 0 ≤ (mj_w ((mj_w (3 * p1)) + p2)) ∧ (mj_w ((mj_w (3 * p1)) + p2)) < 12 then (if 0 ≤ (mj_w ((mj_w (3 * p1)) + p2)) ∧ (mj_w ((mj_w (3 * p1)) + p2)) < 12 then (some (some (v_i (m4 34 0 ((mj_w ((mj_w (3 * p1)) + p2)).toNat))), mj_up m4 34 0 ((mj_w ((mj_w (3 * p1)) + p2)).toNat) p3)) else (none)) else (none))) := (kd_unf [] 40).trans rfl
-- 79 NumbersCalledModel.counterTold(II)I
set_option maxRecDepth 20000 in
theorem ke79_0 (d : Nat) (p1 : Int) (p2 : Int) (μ : mj_M) : kc (d + 1) 79 [v_r 33 0, v_i p1, v_i p2] μ = mj_rI (kc d 74 [v_r 33 0, v_i p1] μ) fun x1 m2 => if x1 = 0 then (some (some (v_i (-5)), m2)) else (mj_rI (kc d 72 [v_i p2, v_i 0, v_i 2] m2) fun x3 m4 => if x3 = 0 then (some (some (v_i (-7)), m4)) else (if 0 ≤ (mj_w ((mj_w (3 * p1)) + p2)) ∧ (mj_w ((mj_w (3 * p1)) + p2)) < 12 then (some (some (v_i (m4 34 0 ((mj_w ((mj_w (3 * p1)) + p2)).toNat))), m4)) else (none))) := (kd_unf [] 40).trans rfl
-- 80 NumbersCalledModel.set(II)I
set_option maxRecDepth 20000 in
theorem ke80_0 (d : Nat) (p1 : Int) (p2 : Int) (μ : mj_M) : kc (d + 1) 80 [v_r 33 0, v_i p1, v_i p2] μ = mj_rI (kc d 72 [v_i p1, v_i 0, v_i 2] μ) fun x1 m2 => if x1 = 0 then (some (some (v_i (-1)), m2)) else (if p1 = 0 then (mj_rI (kc d 72 [v_i p2, v_i 0, v_i 3] m2) fun x7 m8 => kd d 80 4 [some (v_r 33 0), some (v_i p1), some (v_i p2), none, none] [v_i x7] m8) else (if p1 = 1 then (mj_rI (kc d 72 [v_i p2, v_i 1, v_i 9] m2) fun x5 m6 => kd d 80 4 [some (v_r 33 0), some (v_i p1), some (v_i p2), none, none] [v_i x5] m6) else (mj_rI (kc d 72 [v_i p2, v_i 0, v_i 120] m2) fun x3 m4 => kd d 80 4 [some (v_r 33 0), some (v_i p1), some (v_i p2), none, none] [v_i x3] m4))) := (kd_unf [4, 9] 40).trans rfl
set_option maxRecDepth 20000 in
theorem ke80_4 (d : Nat) (a1 : Int) (a2 : Int) (o3 : Option mj_V) (o4 : Option mj_V) (s0 : Int) (μ : mj_M) : kd d 80 4 [some (v_r 33 0), some (v_i a1), some (v_i a2), o3, o4] [v_i s0] μ = if s0 = 0 then (some (some (v_i (-2)), μ)) else (mj_rI (kc d 81 [v_r 33 0, v_i a1] μ) fun x1 m2 => if a1 = 0 then (if a1 = 1 then (kd d 80 9 [some (v_r 33 0), some (v_i a1), some (v_i a2), none, some (v_i x1)] [v_i a2, v_r 33 0] (mj_up m2 33 0 2 a2)) else (kd d 80 9 [some (v_r 33 0), some (v_i a1), some (v_i a2), none, some (v_i x1)] [v_i (m2 33 0 3), v_r 33 0] (mj_up m2 33 0 2 a2))) else (if a1 = 1 then (kd d 80 9 [some (v_r 33 0), some (v_i a1), some (v_i a2), none, some (v_i x1)] [v_i a2, v_r 33 0] (mj_up m2 33 0 2 (m2 33 0 2))) else (kd d 80 9 [some (v_r 33 0), some (v_i a1), some (v_i a2), none, some (v_i x1)] [v_i (m2 33 0 3), v_r 33 0] (mj_up m2 33 0 2 (m2 33 0 2))))) := (kd_unf [4, 9] 40).trans rfl
set_option maxRecDepth 20000 in
theorem ke80_9 (d : Nat) (a1 : Int) (a2 : Int) (o3 : Option mj_V) (a4 : Int) (s0 : Int) (μ : mj_M) : kd d 80 9 [some (v_r 33 0), some (v_i a1), some (v_i a2), o3, some (v_i a4)] [v_i s0, v_r 33 0] μ = if a1 = 2 then (some (some (v_i a4), mj_up (mj_up μ 33 0 3 s0) 33 0 4 a2)) else (some (some (v_i a4), mj_up (mj_up μ 33 0 3 s0) 33 0 4 (μ 33 0 4))) := (kd_unf [4, 9] 40).trans rfl
-- 81 NumbersCalledModel.count(I)I
set_option maxRecDepth 20000 in
theorem ke81_0 (d : Nat) (p1 : Int) (μ : mj_M) : kc (d + 1) 81 [v_r 33 0, v_i p1] μ = if p1 = 0 then (some (some (v_i (μ 33 0 2)), μ)) else if p1 = 1 then (some (some (v_i (μ 33 0 3)), μ)) else if p1 = 2 then (some (some (v_i (μ 33 0 4)), μ)) else if p1 = 3 then (some (some (v_i (μ 33 0 0)), μ)) else if p1 = 4 then (some (some (v_i (μ 33 0 5)), μ)) else if p1 = 5 then (some (some (v_i (μ 33 0 15)), μ)) else if p1 = 6 then (some (some (v_i (μ 33 0 16)), μ)) else if p1 = 7 then (some (some (v_i (μ 33 0 12)), μ)) else (some (some (v_i (-2)), μ)) := (kd_unf [] 40).trans rfl
-- 82 NumbersCalledModel.isByte(I)Z
set_option maxRecDepth 20000 in
theorem ke82_0 (d : Nat) (p0 : Int) (μ : mj_M) : kc (d + 1) 82 [v_i p0] μ = mj_rI (kc d 72 [v_i p0, v_i 0, v_i 255] μ) fun x1 m2 => if x1 = 0 ∨ x1 = 1 then (some (some (v_i x1), m2)) else (none) := (kd_unf [] 40).trans rfl
-- 83 NumbersCalledModel.feed(IIIIII)I
set_option maxRecDepth 20000 in
theorem ke83_0 (d : Nat) (p1 : Int) (p2 : Int) (p3 : Int) (p4 : Int) (p5 : Int) (p6 : Int) (μ : mj_M) : kc (d + 1) 83 [v_r 33 0, v_i p1, v_i p2, v_i p3, v_i p4, v_i p5, v_i p6] μ = mj_rI (kc d 72 [v_i p1, v_i 1, v_i 5] μ) fun x1 m2 => if x1 = 0 then (some (some (v_i (-2)), m2)) else (mj_rI (kc d 82 [v_i p2] m2) fun x3 m4 => if x3 = 0 then (some (some (v_i (-2)), m4)) else (mj_rI (kc d 82 [v_i p3] m4) fun x5 m6 => if x5 = 0 then (some (some (v_i (-2)), m6)) else (mj_rI (kc d 82 [v_i p4] m6) fun x7 m8 => if x7 = 0 then (some (some (v_i (-2)), m8)) else (mj_rI (kc d 82 [v_i p5] m8) fun x9 m10 => if x9 = 0 then (some (some (v_i (-2)), m10)) else (mj_rI (kc d 82 [v_i p6] m10) fun x11 m12 => if x11 = 0 then (some (some (v_i (-2)), m12)) else (if 160 < (mj_w ((m12 33 0 12) + p1)) then (some (some (v_i (-4)), m12)) else (kd d 83 4 [some (v_r 33 0), some (v_i p1), some (v_i p2), some (v_i p3), some (v_i p4), some (v_i p5), some (v_i p6), some (v_i 0)] [] m12))))))) := (kd_unf [4] 40).trans rfl
set_option maxRecDepth 20000 in
theorem ke83_4 (d : Nat) (a1 : Int) (a2 : Int) (a3 : Int) (a4 : Int) (a5 : Int) (a6 : Int) (a7 : Int) (μ : mj_M) : kd d 83 4 [some (v_r 33 0), some (v_i a1), some (v_i a2), some (v_i a3), some (v_i a4), some (v_i a5), some (v_i a6), some (v_i a7)] [] μ = if a7 < a1 then (if a7 = 0 then (if 0 ≤ (μ 33 0 12) ∧ (μ 33 0 12) < 160 then (kd d 83 4 [some (v_r 33 0), some (v_i a1), some (v_i a2), some (v_i a3), some (v_i a4), some (v_i a5), some (v_i a6), some (v_i (mj_w (a7 + 1)))] [] (mj_up (mj_up μ 40 0 ((μ 33 0 12).toNat) a2) 33 0 12 (mj_w ((μ 33 0 12) + 1)))) else (none)) else (if a7 = 1 then (if 0 ≤ (μ 33 0 12) ∧ (μ 33 0 12) < 160 then (kd d 83 4 [some (v_r 33 0), some (v_i a1), some (v_i a2), some (v_i a3), some (v_i a4), some (v_i a5), some (v_i a6), some (v_i (mj_w (a7 + 1)))] [] (mj_up (mj_up μ 40 0 ((μ 33 0 12).toNat) a3) 33 0 12 (mj_w ((μ 33 0 12) + 1)))) else (none)) else (if a7 = 2 then (if 0 ≤ (μ 33 0 12) ∧ (μ 33 0 12) < 160 then (kd d 83 4 [some (v_r 33 0), some (v_i a1), some (v_i a2), some (v_i a3), some (v_i a4), some (v_i a5), some (v_i a6), some (v_i (mj_w (a7 + 1)))] [] (mj_up (mj_up μ 40 0 ((μ 33 0 12).toNat) a4) 33 0 12 (mj_w ((μ 33 0 12) + 1)))) else (none)) else (if a7 = 3 then (if 0 ≤ (μ 33 0 12) ∧ (μ 33 0 12) < 160 then (kd d 83 4 [some (v_r 33 0), some (v_i a1), some (v_i a2), some (v_i a3), some (v_i a4), some (v_i a5), some (v_i a6), some (v_i (mj_w (a7 + 1)))] [] (mj_up (mj_up μ 40 0 ((μ 33 0 12).toNat) a5) 33 0 12 (mj_w ((μ 33 0 12) + 1)))) else (none)) else (if 0 ≤ (μ 33 0 12) ∧ (μ 33 0 12) < 160 then (kd d 83 4 [some (v_r 33 0), some (v_i a1), some (v_i a2), some (v_i a3), some (v_i a4), some (v_i a5), some (v_i a6), some (v_i (mj_w (a7 + 1)))] [] (mj_up (mj_up μ 40 0 ((μ 33 0 12).toNat) a6) 33 0 12 (mj_w ((μ 33 0 12) + 1)))) else (none)))))) else (some (some (v_i (μ 33 0 12)), μ)) := (kd_unf [4] 40).trans rfl
-- 84 NumbersCalledModel.wordFrom(II)I
set_option maxRecDepth 20000 in
theorem ke84_0 (d : Nat) (p1 : Int) (p2 : Int) (μ : mj_M) : kc (d + 1) 84 [v_r 33 0, v_i p1, v_i p2] μ = kd d 84 1 [some (v_r 33 0), some (v_i p1), some (v_i p2), some (v_i 0), none, none] [] μ := (kd_unf [1, 4, 6] 40).trans rfl
set_option maxRecDepth 20000 in
theorem ke84_1 (d : Nat) (a1 : Int) (a2 : Int) (a3 : Int) (o4 : Option mj_V) (o5 : Option mj_V) (μ : mj_M) : kd d 84 1 [some (v_r 33 0), some (v_i a1), some (v_i a2), some (v_i a3), o4, o5] [] μ = if a3 < 12 then (if 8 < (mj_w (a2 - a1)) then (kd d 84 4 [some (v_r 33 0), some (v_i a1), some (v_i a2), some (v_i a3), some (v_i 0), some (v_i 0)] [] μ) else (kd d 84 4 [some (v_r 33 0), some (v_i a1), some (v_i a2), some (v_i a3), some (v_i 1), some (v_i 0)] [] μ)) else (some (some (v_i 12), μ)) := (kd_unf [1, 4, 6] 40).trans rfl
set_option maxRecDepth 20000 in
theorem ke84_4 (d : Nat) (a1 : Int) (a2 : Int) (a3 : Int) (a4 : Int) (a5 : Int) (μ : mj_M) : kd d 84 4 [some (v_r 33 0), some (v_i a1), some (v_i a2), some (v_i a3), some (v_i a4), some (v_i a5)] [] μ = if a5 < 8 then (if a4 = 0 then (if a4 = 0 then (kd d 84 1 [some (v_r 33 0), some (v_i a1), some (v_i a2), some (v_i (mj_w (a3 + 1))), none, none] [] μ) else (some (some (v_i a3), μ))) else (if 0 ≤ (mj_w ((mj_w (8 * a3)) + a5)) ∧ (mj_w ((mj_w (8 * a3)) + a5)) < 96 then (if (mj_w (a1 + a5)) < a2 then (if 0 ≤ (mj_w (a1 + a5)) ∧ (mj_w (a1 + a5)) < 160 then (kd d 84 6 [some (v_r 33 0), some (v_i a1), some (v_i a2), some (v_i a3), some (v_i a4), some (v_i a5)] [v_i (μ 40 0 ((mj_w (a1 + a5)).toNat)), v_i (μ 49 0 ((mj_w ((mj_w (8 * a3)) + a5)).toNat))] μ) else (none)) else (kd d 84 6 [some (v_r 33 0), some (v_i a1), some (v_i a2), some (v_i a3), none, some (v_i a5)] [v_i 32, v_i (μ 49 0 ((mj_w ((mj_w (8 * a3)) + a5)).toNat))] μ)) else (none))) else (if a4 = 0 then (kd d 84 1 [some (v_r 33 0), some (v_i a1), some (v_i a2), some (v_i (mj_w (a3 + 1))), none, none] [] μ) else (some (some (v_i a3), μ))) := (kd_unf [1, 4, 6] 40).trans rfl
set_option maxRecDepth 20000 in
theorem ke84_6 (d : Nat) (a1 : Int) (a2 : Int) (a3 : Int) (o4 : Option mj_V) (a5 : Int) (s0 : Int) (s1 : Int) (μ : mj_M) : kd d 84 6 [some (v_r 33 0), some (v_i a1), some (v_i a2), some (v_i a3), o4, some (v_i a5)] [v_i s0, v_i s1] μ = if s1 = s0 then (kd d 84 4 [some (v_r 33 0), some (v_i a1), some (v_i a2), some (v_i a3), some (v_i 1), some (v_i (mj_w (a5 + 1)))] [] μ) else (kd d 84 4 [some (v_r 33 0), some (v_i a1), some (v_i a2), some (v_i a3), some (v_i 0), some (v_i (mj_w (a5 + 1)))] [] μ) := (kd_unf [1, 4, 6] 40).trans rfl
-- 85 NumbersCalledModel.next()V
set_option maxRecDepth 20000 in
theorem ke85_0 (d : Nat) (o1 : Option mj_V) (o2 : Option mj_V) (μ : mj_M) : kd d 85 0 [some (v_r 33 0), o1, o2] [] μ = if (μ 33 0 30) < (μ 33 0 12) then (if 0 ≤ (μ 33 0 30) ∧ (μ 33 0 30) < 160 then (if (μ 40 0 ((μ 33 0 30).toNat)) = 32 then (kd d 85 0 [some (v_r 33 0), none, none] [] (mj_up μ 33 0 30 (mj_w ((μ 33 0 30) + 1)))) else (if 0 ≤ (μ 33 0 30) ∧ (μ 33 0 30) < 160 then (if (μ 40 0 ((μ 33 0 30).toNat)) = 10 then (kd d 85 0 [some (v_r 33 0), none, none] [] (mj_up μ 33 0 30 (mj_w ((μ 33 0 30) + 1)))) else (kd d 85 2 [some (v_r 33 0), none, none] [] μ)) else (none))) else (none)) else (kd d 85 2 [some (v_r 33 0), none, none] [] μ) := (kd_unf [0, 2, 4, 5, 9, 13, 22] 40).trans rfl
set_option maxRecDepth 20000 in
theorem ke85_2 (d : Nat) (o1 : Option mj_V) (o2 : Option mj_V) (μ : mj_M) : kd d 85 2 [some (v_r 33 0), o1, o2] [] μ = if (μ 33 0 30) = (μ 33 0 12) then (some (none, mj_up (mj_up (mj_up μ 33 0 31 (μ 33 0 30)) 33 0 32 0) 33 0 33 0)) else (if 0 ≤ (μ 33 0 30) ∧ (μ 33 0 30) < 160 then (mj_rI (kc d 72 [v_i (μ 40 0 ((μ 33 0 30).toNat)), v_i 97, v_i 122] (mj_up (mj_up (mj_up μ 33 0 31 (μ 33 0 30)) 33 0 32 0) 33 0 33 0)) fun x1 m2 => if x1 = 0 then (mj_rI (kc d 72 [v_i (μ 40 0 ((μ 33 0 30).toNat)), v_i 48, v_i 57] m2) fun x3 m4 => if x3 = 0 then (if (μ 40 0 ((μ 33 0 30).toNat)) = 40 then (kd d 85 22 [some (v_r 33 0), some (v_i (μ 40 0 ((μ 33 0 30).toNat))), none] [v_i 1] m4) else (if (μ 40 0 ((μ 33 0 30).toNat)) = 41 then (kd d 85 22 [some (v_r 33 0), some (v_i (μ 40 0 ((μ 33 0 30).toNat))), none] [v_i 1] m4) else (if (μ 40 0 ((μ 33 0 30).toNat)) = 59 then (kd d 85 22 [some (v_r 33 0), some (v_i (μ 40 0 ((μ 33 0 30).toNat))), none] [v_i 1] m4) else (if (μ 40 0 ((μ 33 0 30).toNat)) = 43 then (kd d 85 22 [some (v_r 33 0), some (v_i (μ 40 0 ((μ 33 0 30).toNat))), none] [v_i 1] m4) else (if (μ 40 0 ((μ 33 0 30).toNat)) = 45 then (kd d 85 22 [some (v_r 33 0), some (v_i (μ 40 0 ((μ 33 0 30).toNat))), none] [v_i 1] m4) else (if (μ 40 0 ((μ 33 0 30).toNat)) = 42 then (kd d 85 22 [some (v_r 33 0), some (v_i (μ 40 0 ((μ 33 0 30).toNat))), none] [v_i 1] m4) else (if (μ 40 0 ((μ 33 0 30).toNat)) = 60 then (kd d 85 22 [some (v_r 33 0), some (v_i (μ 40 0 ((μ 33 0 30).toNat))), none] [v_i 1] m4) else (if (μ 40 0 ((μ 33 0 30).toNat)) = 61 then (kd d 85 22 [some (v_r 33 0), some (v_i (μ 40 0 ((μ 33 0 30).toNat))), none] [v_i 1] m4) else (kd d 85 22 [some (v_r 33 0), some (v_i (μ 40 0 ((μ 33 0 30).toNat))), none] [v_i 0] m4))))))))) else (kd d 85 13 [some (v_r 33 0), some (v_i (μ 40 0 ((μ 33 0 30).toNat))), some (v_i 0)] [] m4)) else (kd d 85 4 [some (v_r 33 0), some (v_i (μ 40 0 ((μ 33 0 30).toNat))), none] [] m2)) else (none)) := (kd_unf [0, 2, 4, 5, 9, 13, 22] 40).trans rfl
set_option maxRecDepth 20000 in
theorem ke85_4 (d : Nat) (o1 : Option mj_V) (o2 : Option mj_V) (μ : mj_M) : kd d 85 4 [some (v_r 33 0), o1, o2] [] μ = if (μ 33 0 30) < (μ 33 0 12) then (if 0 ≤ (μ 33 0 30) ∧ (μ 33 0 30) < 160 then (mj_rI (kc d 72 [v_i (μ 40 0 ((μ 33 0 30).toNat)), v_i 97, v_i 122] μ) fun x1 m2 => if x1 = 0 then (kd d 85 5 [some (v_r 33 0), none, none] [] m2) else (kd d 85 4 [some (v_r 33 0), none, none] [] (mj_up m2 33 0 30 (mj_w ((m2 33 0 30) + 1))))) else (none)) else (kd d 85 5 [some (v_r 33 0), none, none] [] μ) := (kd_unf [0, 2, 4, 5, 9, 13, 22] 40).trans rfl
set_option maxRecDepth 20000 in
theorem ke85_5 (d : Nat) (o1 : Option mj_V) (o2 : Option mj_V) (μ : mj_M) : kd d 85 5 [some (v_r 33 0), o1, o2] [] μ = mj_rI (kc d 84 [v_r 33 0, v_i (μ 33 0 31), v_i (μ 33 0 30)] μ) fun x1 m2 => if x1 < 3 then (kd d 85 9 [some (v_r 33 0), none, some (v_i x1)] [v_i 3, v_r 33 0] m2) else (if x1 < 9 then (kd d 85 9 [some (v_r 33 0), none, some (v_i x1)] [v_i 2, v_r 33 0] m2) else (if x1 = 12 then (kd d 85 9 [some (v_r 33 0), none, some (v_i x1)] [v_i (-1), v_r 33 0] m2) else (kd d 85 9 [some (v_r 33 0), none, some (v_i x1)] [v_i (mj_w ((mj_w (4 + x1)) - 9)), v_r 33 0] m2))) := (kd_unf [0, 2, 4, 5, 9, 13, 22] 40).trans rfl
set_option maxRecDepth 20000 in
theorem ke85_9 (d : Nat) (o1 : Option mj_V) (a2 : Int) (s0 : Int) (μ : mj_M) : kd d 85 9 [some (v_r 33 0), o1, some (v_i a2)] [v_i s0, v_r 33 0] μ = if a2 < 3 then (some (none, mj_up (mj_up μ 33 0 32 s0) 33 0 33 a2)) else (some (none, mj_up (mj_up μ 33 0 32 s0) 33 0 33 (mj_w (a2 - 3)))) := (kd_unf [0, 2, 4, 5, 9, 13, 22] 40).trans rfl
set_option maxRecDepth 20000 in
theorem ke85_13 (d : Nat) (o1 : Option mj_V) (a2 : Int) (μ : mj_M) : kd d 85 13 [some (v_r 33 0), o1, some (v_i a2)] [] μ = if (μ 33 0 30) < (μ 33 0 12) then (if 0 ≤ (μ 33 0 30) ∧ (μ 33 0 30) < 160 then (mj_rI (kc d 72 [v_i (μ 40 0 ((μ 33 0 30).toNat)), v_i 48, v_i 57] μ) fun x1 m2 => if x1 = 0 then (if 4 < a2 then (some (none, mj_up m2 33 0 32 (-1))) else (some (none, mj_up m2 33 0 32 1))) else (if a2 < 4 then (if 0 ≤ (m2 33 0 30) ∧ (m2 33 0 30) < 160 then (kd d 85 13 [some (v_r 33 0), none, some (v_i (mj_w (a2 + 1)))] [] (mj_up (mj_up m2 33 0 33 (mj_w ((mj_w ((mj_w (10 * (m2 33 0 33))) + (m2 40 0 ((m2 33 0 30).toNat)))) - 48))) 33 0 30 (mj_w ((m2 33 0 30) + 1)))) else (none)) else (kd d 85 13 [some (v_r 33 0), none, some (v_i (mj_w (a2 + 1)))] [] (mj_up (mj_up m2 33 0 33 0) 33 0 30 (mj_w ((m2 33 0 30) + 1)))))) else (none)) else (if 4 < a2 then (some (none, mj_up μ 33 0 32 (-1))) else (some (none, mj_up μ 33 0 32 1))) := (kd_unf [0, 2, 4, 5, 9, 13, 22] 40).trans rfl
set_option maxRecDepth 20000 in
theorem ke85_22 (d : Nat) (a1 : Int) (o2 : Option mj_V) (s0 : Int) (μ : mj_M) : kd d 85 22 [some (v_r 33 0), some (v_i a1), o2] [v_i s0] μ = if s0 = 0 then (some (none, mj_up (mj_up μ 33 0 32 (-1)) 33 0 30 (mj_w ((μ 33 0 30) + 1)))) else (some (none, mj_up (mj_up μ 33 0 32 a1) 33 0 30 (mj_w ((μ 33 0 30) + 1)))) := (kd_unf [0, 2, 4, 5, 9, 13, 22] 40).trans rfl
-- 86 NumbersCalledModel.rank(I)I
set_option maxRecDepth 20000 in
theorem ke86_0 (d : Nat) (p0 : Int) (μ : mj_M) : kc (d + 1) 86 [v_i p0] μ = if p0 = 0 then (some (some (v_i 0), μ)) else (if p0 = 11 then (some (some (v_i 1), μ)) else (if p0 = 12 then (some (some (v_i 2), μ)) else (if p0 = 13 then (some (some (v_i 3), μ)) else (if 15 < p0 then (if 17 < p0 then (if p0 = 18 then (some (some (v_i 6), μ)) else (some (some (v_i 7), μ))) else (some (some (v_i 5), μ))) else (some (some (v_i 4), μ)))))) := (kd_unf [] 40).trans rfl
-- 87 NumbersCalledModel.puts(I)V
set_option maxRecDepth 20000 in
theorem ke87_0 (d : Nat) (p1 : Int) (μ : mj_M) : kc (d + 1) 87 [v_r 33 0, v_i p1] μ = if 0 ≤ (mj_w ((mj_w (200 * (μ 33 0 15))) + (μ 33 0 38))) ∧ (mj_w ((mj_w (200 * (μ 33 0 15))) + (μ 33 0 38))) < 1200 then (some (none, mj_up (mj_up μ 41 0 ((mj_w ((mj_w (200 * (μ 33 0 15))) + (μ 33 0 38))).toNat) p1) 33 0 38 (mj_w ((μ 33 0 38) + 1)))) else (none) := (kd_unf [] 40).trans rfl
-- 88 NumbersCalledModel.unwinds(I)V
set_option maxRecDepth 20000 in
theorem ke88_0 (d : Nat) (a1 : Int) (o2 : Option mj_V) (μ : mj_M) : kd d 88 0 [some (v_r 33 0), some (v_i a1), o2] [] μ = if 0 < (μ 33 0 36) then (if 0 ≤ (mj_w ((μ 33 0 36) - 1)) ∧ (mj_w ((μ 33 0 36) - 1)) < 200 then (mj_rI (kc d 86 [v_i (μ 50 0 ((mj_w ((μ 33 0 36) - 1)).toNat))] μ) fun x1 m2 => if x1 < a1 then (some (none, m2)) else (if 0 ≤ (mj_w ((m2 33 0 36) - 1)) ∧ (mj_w ((m2 33 0 36) - 1)) < 200 then (if (m2 50 0 ((mj_w ((m2 33 0 36) - 1)).toNat)) = 13 then (mj_rV (kc d 87 [v_r 33 0, v_i (m2 50 0 ((mj_w ((m2 33 0 36) - 1)).toNat))] (mj_up (mj_up m2 33 0 36 (mj_w ((m2 33 0 36) - 1))) 33 0 37 (mj_w ((m2 33 0 37) - 1)))) fun m3 => kd d 88 0 [some (v_r 33 0), some (v_i a1), some (v_i (m2 50 0 ((mj_w ((m2 33 0 36) - 1)).toNat)))] [] m3) else (if (m2 50 0 ((mj_w ((m2 33 0 36) - 1)).toNat)) = 19 then (mj_rV (kc d 87 [v_r 33 0, v_i (m2 50 0 ((mj_w ((m2 33 0 36) - 1)).toNat))] (mj_up (mj_up m2 33 0 36 (mj_w ((m2 33 0 36) - 1))) 33 0 37 (mj_w ((m2 33 0 37) - 1)))) fun m5 => kd d 88 0 [some (v_r 33 0), some (v_i a1), some (v_i (m2 50 0 ((mj_w ((m2 33 0 36) - 1)).toNat)))] [] m5) else (mj_rV (kc d 87 [v_r 33 0, v_i (m2 50 0 ((mj_w ((m2 33 0 36) - 1)).toNat))] (mj_up (mj_up m2 33 0 36 (mj_w ((m2 33 0 36) - 1))) 33 0 37 (mj_w ((m2 33 0 37) - 0)))) fun m4 => kd d 88 0 [some (v_r 33 0), some (v_i a1), some (v_i (m2 50 0 ((mj_w ((m2 33 0 36) - 1)).toNat)))] [] m4))) else (none))) else (none)) else (some (none, μ)) := (kd_unf [0] 40).trans rfl
-- 89 NumbersCalledModel.holds(I)V
set_option maxRecDepth 20000 in
theorem ke89_0 (d : Nat) (p1 : Int) (μ : mj_M) : kc (d + 1) 89 [v_r 33 0, v_i p1] μ = if 0 ≤ (μ 33 0 36) ∧ (μ 33 0 36) < 200 then (some (none, mj_up (mj_up μ 50 0 ((μ 33 0 36).toNat) p1) 33 0 36 (mj_w ((μ 33 0 36) + 1)))) else (none) := (kd_unf [] 40).trans rfl
end
section
/-! printed by wip/whole/eqs.py: what each cut of each method comes to -/
-- 90 NumbersCalledModel.opensOne(I)Z
set_option maxRecDepth 20000 in
theorem ke90_0 (d : Nat) (p1 : Int) (μ : mj_M) : kc (d + 1) 90 [v_r 33 0, v_i p1] μ = if (μ 33 0 37) = 5 then (some (some (v_i 0), μ)) else (mj_rV (kc d 89 [v_r 33 0, v_i p1] (mj_up μ 33 0 37 (mj_w ((μ 33 0 37) + 1)))) fun m1 => some (some (v_i 1), m1)) := (kd_unf [] 40).trans rfl
-- 91 NumbersCalledModel.between(I)Z
set_option maxRecDepth 20000 in
theorem ke91_0 (d : Nat) (p1 : Int) (μ : mj_M) : kc (d + 1) 91 [v_r 33 0, v_i p1] μ = mj_rI (kc d 86 [v_i p1] μ) fun x1 m2 => if x1 = 4 then (kd d 91 2 [some (v_r 33 0), some (v_i p1)] [v_i 5, v_r 33 0] m2) else (mj_rI (kc d 86 [v_i p1] m2) fun x3 m4 => kd d 91 2 [some (v_r 33 0), some (v_i p1)] [v_i x3, v_r 33 0] m4) := (kd_unf [2] 40).trans rfl
set_option maxRecDepth 20000 in
theorem ke91_2 (d : Nat) (a1 : Int) (s0 : Int) (μ : mj_M) : kd d 91 2 [some (v_r 33 0), some (v_i a1)] [v_i s0, v_r 33 0] μ = mj_rV (kc d 88 [v_r 33 0, v_i s0] μ) fun m1 => mj_rI (kc d 86 [v_i a1] m1) fun x2 m3 => if x2 = 4 then (if 0 < (m3 33 0 36) then (if 0 ≤ (mj_w ((m3 33 0 36) - 1)) ∧ (mj_w ((m3 33 0 36) - 1)) < 200 then (mj_rI (kc d 86 [v_i (m3 50 0 ((mj_w ((m3 33 0 36) - 1)).toNat))] m3) fun x6 m7 => if x6 = 4 then (some (some (v_i 0), m7)) else (mj_rV (kc d 89 [v_r 33 0, v_i a1] m7) fun m8 => some (some (v_i 1), m8))) else (none)) else (mj_rV (kc d 89 [v_r 33 0, v_i a1] m3) fun m5 => some (some (v_i 1), m5))) else (mj_rV (kc d 89 [v_r 33 0, v_i a1] m3) fun m4 => some (some (v_i 1), m4)) := (kd_unf [2] 40).trans rfl
-- 92 NumbersCalledModel.signOf()I
set_option maxRecDepth 20000 in
theorem ke92_0 (d : Nat)  (μ : mj_M) : kc (d + 1) 92 [v_r 33 0] μ = if (μ 33 0 32) = 4 then (some (some (v_i 11), μ)) else (if (μ 33 0 32) = 5 then (some (some (v_i 12), μ)) else (if (μ 33 0 32) = 60 then (some (some (v_i 14), μ)) else (if (μ 33 0 32) = 61 then (some (some (v_i 15), μ)) else (if (μ 33 0 32) = 43 then (some (some (v_i 16), μ)) else (if (μ 33 0 32) = 45 then (some (some (v_i 17), μ)) else (if (μ 33 0 32) = 42 then (some (some (v_i 18), μ)) else (some (some (v_i (-1)), μ)))))))) := (kd_unf [] 40).trans rfl
-- 93 NumbersCalledModel.eRead()Z
set_option maxRecDepth 20000 in
theorem ke93_0 (d : Nat)  (μ : mj_M) : kc (d + 1) 93 [v_r 33 0] μ = kd d 93 1 [some (v_r 33 0), some (v_i 1), some (v_i 1), none] [] (mj_up (mj_up μ 33 0 36 0) 33 0 37 0) := (kd_unf [1, 2, 6] 40).trans rfl
set_option maxRecDepth 20000 in
theorem ke93_1 (d : Nat) (a1 : Int) (a2 : Int) (o3 : Option mj_V) (μ : mj_M) : kd d 93 1 [some (v_r 33 0), some (v_i a1), some (v_i a2), o3] [] μ = mj_rV (kc d 85 [v_r 33 0] μ) fun m1 => if a1 = 0 then (if (m1 33 0 32) = 59 then (mj_rV (kc d 88 [v_r 33 0, v_i 1] m1) fun m8 => if (m8 33 0 36) = 0 then (some (some (v_i 1), m8)) else (some (some (v_i 0), m8))) else (if (m1 33 0 32) = 41 then (mj_rV (kc d 88 [v_r 33 0, v_i 1] m1) fun m6 => if (m6 33 0 36) = 0 then (some (some (v_i 0), m6)) else (mj_rV (kc d 88 [v_r 33 0, v_i 7] (mj_up (mj_up m6 33 0 36 (mj_w ((m6 33 0 36) - 1))) 33 0 37 (mj_w ((m6 33 0 37) - 1)))) fun m7 => kd d 93 1 [some (v_r 33 0), some (v_i a1), some (v_i a2), none] [] m7)) else (mj_rI (kc d 92 [v_r 33 0] m1) fun x2 m3 => if x2 = (-1) then (some (some (v_i 0), m3)) else (mj_rI (kc d 91 [v_r 33 0, v_i x2] m3) fun x4 m5 => if x4 = 0 then (some (some (v_i 0), m5)) else (if 12 < x2 then (kd d 93 1 [some (v_r 33 0), some (v_i 1), some (v_i 0), none] [] m5) else (kd d 93 1 [some (v_r 33 0), some (v_i 1), some (v_i 1), none] [] m5)))))) else (if (m1 33 0 32) = 1 then (kd d 93 2 [some (v_r 33 0), some (v_i a1), some (v_i a2), none] [] m1) else (if (m1 33 0 32) = 2 then (kd d 93 2 [some (v_r 33 0), some (v_i a1), some (v_i a2), none] [] m1) else (if (m1 33 0 32) = 6 then (if a2 = 0 then (kd d 93 6 [some (v_r 33 0), some (v_i a1), some (v_i a2), none] [] m1) else (mj_rI (kc d 90 [v_r 33 0, v_i 13] m1) fun x9 m10 => if x9 = 0 then (some (some (v_i 0), m10)) else (kd d 93 1 [some (v_r 33 0), some (v_i a1), some (v_i a2), none] [] m10))) else (kd d 93 6 [some (v_r 33 0), some (v_i a1), some (v_i a2), none] [] m1)))) := (kd_unf [1, 2, 6] 40).trans rfl
set_option maxRecDepth 20000 in
theorem ke93_2 (d : Nat) (o1 : Option mj_V) (a2 : Int) (o3 : Option mj_V) (μ : mj_M) : kd d 93 2 [some (v_r 33 0), o1, some (v_i a2), o3] [] μ = if (μ 33 0 32) = 1 then (mj_rV (kc d 87 [v_r 33 0, v_i (mj_w (100000 + (μ 33 0 33)))] μ) fun m3 => mj_rV (kc d 88 [v_r 33 0, v_i 7] m3) fun m4 => kd d 93 1 [some (v_r 33 0), some (v_i 0), some (v_i a2), none] [] m4) else (mj_rV (kc d 87 [v_r 33 0, v_i (μ 33 0 33)] μ) fun m1 => mj_rV (kc d 88 [v_r 33 0, v_i 7] m1) fun m2 => kd d 93 1 [some (v_r 33 0), some (v_i 0), some (v_i a2), none] [] m2) := (kd_unf [1, 2, 6] 40).trans rfl
set_option maxRecDepth 20000 in
theorem ke93_6 (d : Nat) (a1 : Int) (o2 : Option mj_V) (o3 : Option mj_V) (μ : mj_M) : kd d 93 6 [some (v_r 33 0), some (v_i a1), o2, o3] [] μ = if (μ 33 0 32) = 45 then (mj_rI (kc d 90 [v_r 33 0, v_i 19] μ) fun x3 m4 => if x3 = 0 then (some (some (v_i 0), m4)) else (kd d 93 1 [some (v_r 33 0), some (v_i a1), some (v_i 0), none] [] m4)) else (if (μ 33 0 32) = 40 then (mj_rI (kc d 90 [v_r 33 0, v_i 0] μ) fun x1 m2 => if x1 = 0 then (some (some (v_i 0), m2)) else (kd d 93 1 [some (v_r 33 0), some (v_i a1), some (v_i 1), none] [] m2)) else (some (some (v_i 0), μ))) := (kd_unf [1, 2, 6] 40).trans rfl
-- 94 NumbersCalledModel.text()I
set_option maxRecDepth 20000 in
theorem ke94_0 (d : Nat)  (μ : mj_M) : kc (d + 1) 94 [v_r 33 0] μ = if (μ 33 0 15) = 6 then (some (some (v_i (-4)), μ)) else (kd d 94 2 [some (v_r 33 0), some (v_i 1), some (v_i 0)] [] (mj_up (mj_up μ 33 0 30 0) 33 0 38 0)) := (kd_unf [2, 4, 7, 10] 40).trans rfl
set_option maxRecDepth 20000 in
theorem ke94_2 (d : Nat) (a1 : Int) (a2 : Int) (μ : mj_M) : kd d 94 2 [some (v_r 33 0), some (v_i a1), some (v_i a2)] [] μ = if a2 < 3 then (if a1 = 0 then (kd d 94 7 [some (v_r 33 0), some (v_i a1), some (v_i a2)] [] μ) else (mj_rV (kc d 85 [v_r 33 0] μ) fun m1 => if (m1 33 0 32) = 3 then (if (m1 33 0 33) = a2 then (kd d 94 4 [some (v_r 33 0), some (v_i a1), some (v_i a2)] [v_i 1] m1) else (kd d 94 4 [some (v_r 33 0), none, some (v_i a2)] [v_i 0] m1)) else (kd d 94 4 [some (v_r 33 0), none, some (v_i a2)] [v_i 0] m1))) else (kd d 94 7 [some (v_r 33 0), some (v_i a1), some (v_i a2)] [] μ) := (kd_unf [2, 4, 7, 10] 40).trans rfl
set_option maxRecDepth 20000 in
theorem ke94_4 (d : Nat) (o1 : Option mj_V) (a2 : Int) (s0 : Int) (μ : mj_M) : kd d 94 4 [some (v_r 33 0), o1, some (v_i a2)] [v_i s0] μ = if 0 ≤ (mj_w ((mj_w (4 * (μ 33 0 15))) + a2)) ∧ (mj_w ((mj_w (4 * (μ 33 0 15))) + a2)) < 24 then (if s0 = 0 then (kd d 94 2 [some (v_r 33 0), some (v_i 0), some (v_i (mj_w (a2 + 1)))] [] (mj_up μ 42 0 ((mj_w ((mj_w (4 * (μ 33 0 15))) + a2)).toNat) (μ 33 0 38))) else (mj_rI (kc d 93 [v_r 33 0] (mj_up μ 42 0 ((mj_w ((mj_w (4 * (μ 33 0 15))) + a2)).toNat) (μ 33 0 38))) fun x1 m2 => if x1 = 0 then (kd d 94 2 [some (v_r 33 0), some (v_i 0), some (v_i (mj_w (a2 + 1)))] [] m2) else (kd d 94 2 [some (v_r 33 0), some (v_i 1), some (v_i (mj_w (a2 + 1)))] [] m2))) else (none) := (kd_unf [2, 4, 7, 10] 40).trans rfl
set_option maxRecDepth 20000 in
theorem ke94_7 (d : Nat) (a1 : Int) (o2 : Option mj_V) (μ : mj_M) : kd d 94 7 [some (v_r 33 0), some (v_i a1), o2] [] μ = if a1 = 0 then (kd d 94 10 [some (v_r 33 0), some (v_i a1), none] [] μ) else (mj_rV (kc d 85 [v_r 33 0] μ) fun m1 => if (m1 33 0 32) = 0 then (kd d 94 10 [some (v_r 33 0), some (v_i 1), none] [] m1) else (kd d 94 10 [some (v_r 33 0), some (v_i 0), none] [] m1)) := (kd_unf [2, 4, 7, 10] 40).trans rfl
set_option maxRecDepth 20000 in
theorem ke94_10 (d : Nat) (a1 : Int) (o2 : Option mj_V) (μ : mj_M) : kd d 94 10 [some (v_r 33 0), some (v_i a1), o2] [] μ = if 0 ≤ (mj_w ((mj_w (4 * (μ 33 0 15))) + 3)) ∧ (mj_w ((mj_w (4 * (μ 33 0 15))) + 3)) < 24 then (if a1 = 0 then (some (some (v_i (mj_w ((-100) - (μ 33 0 31)))), mj_up (mj_up μ 42 0 ((mj_w ((mj_w (4 * (μ 33 0 15))) + 3)).toNat) (μ 33 0 38)) 33 0 12 0)) else (some (some (v_i (mj_w ((mj_w ((μ 33 0 15) + 1)) - 1))), mj_up (mj_up (mj_up μ 42 0 ((mj_w ((mj_w (4 * (μ 33 0 15))) + 3)).toNat) (μ 33 0 38)) 33 0 12 0) 33 0 15 (mj_w ((μ 33 0 15) + 1))))) else (none) := (kd_unf [2, 4, 7, 10] 40).trans rfl
-- 95 NumbersCalledModel.two(III)I
set_option maxRecDepth 20000 in
theorem ke95_0 (d : Nat) (p0 : Int) (p1 : Int) (p2 : Int) (μ : mj_M) : kc (d + 1) 95 [v_i p0, v_i p1, v_i p2] μ = if p0 = 11 then (if p1 = 0 then (if p2 = 0 then (some (some (v_i 0), μ)) else (some (some (v_i 1), μ))) else (some (some (v_i 1), μ))) else if p0 = 12 then (if p1 = 0 then (some (some (v_i 0), μ)) else (if p2 = 0 then (some (some (v_i 0), μ)) else (some (some (v_i 1), μ)))) else if p0 = 13 then (some (some (v_i (mj_w (p1 * p2))), μ)) else if p0 = 14 then (if p1 < p2 then (some (some (v_i 1), μ)) else (some (some (v_i 0), μ))) else if p0 = 15 then (if p1 = p2 then (some (some (v_i 1), μ)) else (some (some (v_i 0), μ))) else if p0 = 16 then (some (some (v_i (mj_w (p1 + p2))), μ)) else if p0 = 17 then (some (some (v_i (mj_w (p1 - p2))), μ)) else (some (some (v_i (mj_w (p1 * p2))), μ)) := (kd_unf [] 40).trans rfl
-- 96 NumbersCalledModel.worth(I)I
set_option maxRecDepth 20000 in
theorem ke96_0 (d : Nat) (p1 : Int) (μ : mj_M) : kc (d + 1) 96 [v_r 33 0, v_i p1] μ = if 0 ≤ (mj_w ((mj_w (4 * (μ 33 0 16))) + p1)) ∧ (mj_w ((mj_w (4 * (μ 33 0 16))) + p1)) < 24 then (kd d 96 1 [some (v_r 33 0), some (v_i p1), some (v_i 0), some (v_i (μ 42 0 ((mj_w ((mj_w (4 * (μ 33 0 16))) + p1)).toNat))), none] [] μ) else (none) := (kd_unf [1, 2] 40).trans rfl
set_option maxRecDepth 20000 in
theorem ke96_1 (d : Nat) (a1 : Int) (a2 : Int) (a3 : Int) (o4 : Option mj_V) (μ : mj_M) : kd d 96 1 [some (v_r 33 0), some (v_i a1), some (v_i a2), some (v_i a3), o4] [] μ = if 0 ≤ (mj_w ((mj_w ((mj_w (4 * (μ 33 0 16))) + a1)) + 1)) ∧ (mj_w ((mj_w ((mj_w (4 * (μ 33 0 16))) + a1)) + 1)) < 24 then (if a3 < (μ 42 0 ((mj_w ((mj_w ((mj_w (4 * (μ 33 0 16))) + a1)) + 1)).toNat)) then (if 0 ≤ (mj_w ((mj_w (200 * (μ 33 0 16))) + a3)) ∧ (mj_w ((mj_w (200 * (μ 33 0 16))) + a3)) < 1200 then (if (μ 41 0 ((mj_w ((mj_w (200 * (μ 33 0 16))) + a3)).toNat)) < 100000 then (if (μ 41 0 ((mj_w ((mj_w (200 * (μ 33 0 16))) + a3)).toNat)) < 11 then (kd d 96 2 [some (v_r 33 0), some (v_i a1), some (v_i a2), some (v_i a3), some (v_i (μ 41 0 ((mj_w ((mj_w (200 * (μ 33 0 16))) + a3)).toNat)))] [] μ) else (if (μ 41 0 ((mj_w ((mj_w (200 * (μ 33 0 16))) + a3)).toNat)) = 13 then (if 0 ≤ (mj_w (a2 - 1)) ∧ (mj_w (a2 - 1)) < 200 then (if (μ 51 0 ((mj_w (a2 - 1)).toNat)) = 0 then (if 0 ≤ (mj_w (a2 - 1)) ∧ (mj_w (a2 - 1)) < 200 then (kd d 96 1 [some (v_r 33 0), some (v_i a1), some (v_i a2), some (v_i (mj_w (a3 + 1))), none] [] (mj_up μ 51 0 ((mj_w (a2 - 1)).toNat) 1)) else (none)) else (if 0 ≤ (mj_w (a2 - 1)) ∧ (mj_w (a2 - 1)) < 200 then (kd d 96 1 [some (v_r 33 0), some (v_i a1), some (v_i a2), some (v_i (mj_w (a3 + 1))), none] [] (mj_up μ 51 0 ((mj_w (a2 - 1)).toNat) 0)) else (none))) else (none)) else (if (μ 41 0 ((mj_w ((mj_w (200 * (μ 33 0 16))) + a3)).toNat)) = 19 then (if 0 ≤ (mj_w (a2 - 1)) ∧ (mj_w (a2 - 1)) < 200 then (if 0 ≤ (mj_w (a2 - 1)) ∧ (mj_w (a2 - 1)) < 200 then (kd d 96 1 [some (v_r 33 0), some (v_i a1), some (v_i a2), some (v_i (mj_w (a3 + 1))), none] [] (mj_up μ 51 0 ((mj_w (a2 - 1)).toNat) (mj_w (-(μ 51 0 ((mj_w (a2 - 1)).toNat)))))) else (none)) else (none)) else (if 0 ≤ (mj_w ((mj_w (a2 + (-1))) - 1)) ∧ (mj_w ((mj_w (a2 + (-1))) - 1)) < 200 then (if 0 ≤ (mj_w (a2 + (-1))) ∧ (mj_w (a2 + (-1))) < 200 then (mj_rI (kc d 95 [v_i (μ 41 0 ((mj_w ((mj_w (200 * (μ 33 0 16))) + a3)).toNat)), v_i (μ 51 0 ((mj_w ((mj_w (a2 + (-1))) - 1)).toNat)), v_i (μ 51 0 ((mj_w (a2 + (-1))).toNat))] μ) fun x1 m2 => if 0 ≤ (mj_w ((mj_w (a2 + (-1))) - 1)) ∧ (mj_w ((mj_w (a2 + (-1))) - 1)) < 200 then (kd d 96 1 [some (v_r 33 0), some (v_i a1), some (v_i (mj_w (a2 + (-1)))), some (v_i (mj_w (a3 + 1))), none] [] (mj_up m2 51 0 ((mj_w ((mj_w (a2 + (-1))) - 1)).toNat) x1)) else (none)) else (none)) else (none))))) else (kd d 96 2 [some (v_r 33 0), some (v_i a1), some (v_i a2), some (v_i a3), some (v_i (μ 41 0 ((mj_w ((mj_w (200 * (μ 33 0 16))) + a3)).toNat)))] [] μ)) else (none)) else (some (some (v_i (μ 51 0 0)), μ))) else (none) := (kd_unf [1, 2] 40).trans rfl
set_option maxRecDepth 20000 in
theorem ke96_2 (d : Nat) (a1 : Int) (a2 : Int) (a3 : Int) (a4 : Int) (μ : mj_M) : kd d 96 2 [some (v_r 33 0), some (v_i a1), some (v_i a2), some (v_i a3), some (v_i a4)] [] μ = if a4 < 11 then (if 0 ≤ a4 ∧ a4 < 6 then (if 0 ≤ a2 ∧ a2 < 200 then (kd d 96 1 [some (v_r 33 0), some (v_i a1), some (v_i (mj_w (a2 + 1))), some (v_i (mj_w (a3 + 1))), none] [] (mj_up μ 51 0 a2.toNat (μ 52 0 a4.toNat))) else (none)) else (none)) else (if 0 ≤ a2 ∧ a2 < 200 then (kd d 96 1 [some (v_r 33 0), some (v_i a1), some (v_i (mj_w (a2 + 1))), some (v_i (mj_w (a3 + 1))), none] [] (mj_up μ 51 0 a2.toNat (mj_w (a4 - 100000)))) else (none)) := (kd_unf [1, 2] 40).trans rfl
-- 97 NumbersCalledModel.force(I)I
set_option maxRecDepth 20000 in
theorem ke97_0 (d : Nat) (p1 : Int) (μ : mj_M) : kc (d + 1) 97 [v_r 33 0, v_i p1] μ = mj_rI (kc d 72 [v_i p1, v_i 0, v_i (mj_w ((μ 33 0 15) - 1))] μ) fun x1 m2 => if x1 = 0 then (some (some (v_i (-2)), m2)) else (some (some (v_i (m2 33 0 16)), mj_up m2 33 0 16 p1)) := (kd_unf [] 40).trans rfl
-- 98 NumbersCalledModel.asksOf(IIIII)I
set_option maxRecDepth 20000 in
theorem ke98_0 (d : Nat) (p1 : Int) (p2 : Int) (p3 : Int) (p4 : Int) (p5 : Int) (μ : mj_M) : kc (d + 1) 98 [v_r 33 0, v_i p1, v_i p2, v_i p3, v_i p4, v_i p5] μ = if 0 ≤ p2 ∧ p2 < 17 then (if 0 ≤ p2 ∧ p2 < 17 then (if 0 ≤ p2 ∧ p2 < 17 then (mj_rI (kc d 96 [v_r 33 0, v_i p1] (mj_up (mj_up (mj_up (mj_up (mj_up (mj_up μ 52 0 0 (μ 37 0 p2.toNat)) 52 0 1 (μ 38 0 p2.toNat)) 52 0 2 p3) 52 0 3 p4) 52 0 4 p5) 52 0 5 (μ 36 0 p2.toNat))) fun x1 m2 => if p1 = 0 then (if p1 = 0 then (mj_rI (kc d 73 [v_i x1, v_i 1, v_i 60] m2) fun x9 m10 => some (some (v_i x9), m10)) else (mj_rI (kc d 73 [v_i x1, v_i 1, v_i 999] m2) fun x7 m8 => some (some (v_i x7), m8))) else (if p1 = 0 then (mj_rI (kc d 73 [v_i x1, v_i 0, v_i 60] m2) fun x5 m6 => some (some (v_i x5), m6)) else (mj_rI (kc d 73 [v_i x1, v_i 0, v_i 999] m2) fun x3 m4 => some (some (v_i x3), m4)))) else (none)) else (none)) else (none) := (kd_unf [] 40).trans rfl
-- 99 NumbersCalledModel.pull(III)I
set_option maxRecDepth 20000 in
theorem ke99_0 (d : Nat) (p1 : Int) (p2 : Int) (p3 : Int) (μ : mj_M) : kc (d + 1) 99 [v_r 33 0, v_i p1, v_i p2, v_i p3] μ = if p2 < 0 then (kd d 99 2 [some (v_r 33 0), some (v_i p1), some (v_i p2), some (v_i p3), none] [v_i 0] μ) else (if 3 < (mj_w (p2.tdiv 1000)) then (kd d 99 2 [some (v_r 33 0), some (v_i p1), some (v_i p2), some (v_i p3), none] [v_i 0] μ) else (if 9 < (p2.tmod 1000) then (kd d 99 2 [some (v_r 33 0), some (v_i p1), some (v_i p2), some (v_i p3), none] [v_i 1] μ) else (kd d 99 2 [some (v_r 33 0), some (v_i p1), some (v_i p2), some (v_i p3), none] [v_i 0] μ))) := (kd_unf [2] 40).trans rfl
set_option maxRecDepth 20000 in
theorem ke99_2 (d : Nat) (a1 : Int) (a2 : Int) (a3 : Int) (o4 : Option mj_V) (s0 : Int) (μ : mj_M) : kd d 99 2 [some (v_r 33 0), some (v_i a1), some (v_i a2), some (v_i a3), o4] [v_i s0] μ = mj_rI (kc d 72 [v_i a1, v_i 0, v_i 5] μ) fun x1 m2 => if x1 = 0 then (some (some (v_i (-2)), m2)) else (if s0 = 0 then (some (some (v_i (-2)), m2)) else (mj_rI (kc d 72 [v_i a3, v_i 0, v_i 119] m2) fun x3 m4 => if x3 = 0 then (some (some (v_i (-2)), m4)) else (if (m4 33 0 5) = 16 then (some (some (v_i (-4)), m4)) else (mj_rV (kc d 100 [v_r 33 0, v_i a1, v_i a2, v_i a3] m4) fun m5 => some (some (v_i (mj_w ((mj_w ((m5 33 0 5) + 1)) - 1))), mj_up m5 33 0 5 (mj_w ((m5 33 0 5) + 1))))))) := (kd_unf [2] 40).trans rfl
-- 100 NumbersCalledModel.comesAs(III)V
set_option maxRecDepth 20000 in
theorem ke100_0 (d : Nat) (p1 : Int) (p2 : Int) (p3 : Int) (μ : mj_M) : kc (d + 1) 100 [v_r 33 0, v_i p1, v_i p2, v_i p3] μ = if 0 ≤ (μ 33 0 5) ∧ (μ 33 0 5) < 17 then (if 0 ≤ (μ 33 0 5) ∧ (μ 33 0 5) < 17 then (if 0 ≤ (μ 33 0 5) ∧ (μ 33 0 5) < 17 then (if 0 ≤ (μ 33 0 5) ∧ (μ 33 0 5) < 17 then (if 0 ≤ (μ 33 0 5) ∧ (μ 33 0 5) < 17 then (some (none, mj_up (mj_up (mj_up (mj_up (mj_up μ 35 0 ((μ 33 0 5).toNat) p1) 36 0 ((μ 33 0 5).toNat) (mj_w (p2.tdiv 1000))) 37 0 ((μ 33 0 5).toNat) ((mj_w (p2.tdiv 10)).tmod 100)) 38 0 ((μ 33 0 5).toNat) (p2.tmod 10)) 39 0 ((μ 33 0 5).toNat) p3)) else (none)) else (none)) else (none)) else (none)) else (none) := (kd_unf [] 40).trans rfl
-- 101 NumbersCalledModel.move(II)I
set_option maxRecDepth 20000 in
theorem ke101_0 (d : Nat) (p1 : Int) (p2 : Int) (μ : mj_M) : kc (d + 1) 101 [v_r 33 0, v_i p1, v_i p2] μ = mj_rI (kc d 75 [v_r 33 0, v_i p1] μ) fun x1 m2 => if x1 = 0 then (some (some (v_i (-5)), m2)) else (mj_rI (kc d 72 [v_i p2, v_i 0, v_i 119] m2) fun x3 m4 => if x3 = 0 then (some (some (v_i (-7)), m4)) else (if 0 ≤ p1 ∧ p1 < 17 then (if 0 ≤ p1 ∧ p1 < 17 then (some (some (v_i (m4 39 0 p1.toNat)), mj_up m4 39 0 p1.toNat p2)) else (none)) else (none))) := (kd_unf [] 40).trans rfl
-- 102 NumbersCalledModel.forget()I
set_option maxRecDepth 20000 in
theorem ke102_0 (d : Nat)  (μ : mj_M) : kc (d + 1) 102 [v_r 33 0] μ = if (μ 33 0 5) = 0 then (some (some (v_i (-3)), μ)) else (if (μ 33 0 17) = 0 then (some (some (v_i (mj_w ((μ 33 0 5) - 1))), mj_up (mj_up μ 33 0 5 (mj_w ((μ 33 0 5) - 1))) 33 0 17 0)) else (if (mj_w ((μ 33 0 5) - 1)) < (μ 33 0 22) then (some (some (v_i (mj_w ((μ 33 0 5) - 1))), mj_up (mj_up μ 33 0 5 (mj_w ((μ 33 0 5) - 1))) 33 0 17 0)) else (some (some (v_i (mj_w ((μ 33 0 5) - 1))), mj_up (mj_up μ 33 0 5 (mj_w ((μ 33 0 5) - 1))) 33 0 17 1)))) := (kd_unf [] 40).trans rfl
-- 103 NumbersCalledModel.needs(I)I
set_option maxRecDepth 20000 in
theorem ke103_0 (d : Nat) (p1 : Int) (μ : mj_M) : kc (d + 1) 103 [v_r 33 0, v_i p1] μ = if 0 ≤ p1 ∧ p1 < 17 then (if (μ 35 0 p1.toNat) = 2 then (if 0 ≤ p1 ∧ p1 < 17 then (some (some (v_i ((mj_w ((μ 36 0 p1.toNat) + 1)).tmod 4)), μ)) else (none)) else (if 0 ≤ p1 ∧ p1 < 17 then (some (some (v_i (μ 36 0 p1.toNat)), μ)) else (none))) else (none) := (kd_unf [] 40).trans rfl
-- 104 NumbersCalledModel.told(II)I
set_option maxRecDepth 20000 in
theorem ke104_0 (d : Nat) (p1 : Int) (p2 : Int) (μ : mj_M) : kc (d + 1) 104 [v_r 33 0, v_i p1, v_i p2] μ = mj_rI (kc d 75 [v_r 33 0, v_i p1] μ) fun x1 m2 => if x1 = 0 then (some (some (v_i (-5)), m2)) else (if p2 = 0 then (if 0 ≤ p1 ∧ p1 < 17 then (some (some (v_i (m2 35 0 p1.toNat)), m2)) else (none)) else if p2 = 1 then (if 0 ≤ p1 ∧ p1 < 17 then (some (some (v_i (m2 36 0 p1.toNat)), m2)) else (none)) else if p2 = 2 then (if 0 ≤ p1 ∧ p1 < 17 then (some (some (v_i (m2 37 0 p1.toNat)), m2)) else (none)) else if p2 = 3 then (if 0 ≤ p1 ∧ p1 < 17 then (some (some (v_i (m2 38 0 p1.toNat)), m2)) else (none)) else if p2 = 4 then (if 0 ≤ p1 ∧ p1 < 17 then (some (some (v_i (m2 39 0 p1.toNat)), m2)) else (none)) else if p2 = 5 then (mj_rI (kc d 103 [v_r 33 0, v_i p1] m2) fun x3 m4 => some (some (v_i x3), m4)) else (some (some (v_i (-7)), m2))) := (kd_unf [] 40).trans rfl
-- 105 NumbersCalledModel.takesOf(III)I
set_option maxRecDepth 20000 in
theorem ke105_0 (d : Nat) (p1 : Int) (p2 : Int) (p3 : Int) (μ : mj_M) : kc (d + 1) 105 [v_r 33 0, v_i p1, v_i p2, v_i p3] μ = if 0 ≤ (mj_w ((mj_w (3 * p2)) + 1)) ∧ (mj_w ((mj_w (3 * p2)) + 1)) < 12 then (mj_rI (kc d 98 [v_r 33 0, v_i 0, v_i p1, v_i (μ 34 0 ((mj_w ((mj_w (3 * p2)) + 1)).toNat)), v_i p3, v_i 0] μ) fun x1 m2 => if 0 ≤ p1 ∧ p1 < 17 then (if (m2 35 0 p1.toNat) = 3 then (if (m2 33 0 41) = 0 then (mj_rI (kc d 73 [v_i (mj_w (2 * x1)), v_i 1, v_i 60] m2) fun x3 m4 => some (some (v_i x3), m4)) else (some (some (v_i x1), m2))) else (some (some (v_i x1), m2))) else (none)) else (none) := (kd_unf [] 40).trans rfl
-- 106 NumbersCalledModel.isThere(II)Z
set_option maxRecDepth 20000 in
theorem ke106_0 (d : Nat) (p1 : Int) (p2 : Int) (μ : mj_M) : kc (d + 1) 106 [v_r 33 0, v_i p1, v_i p2] μ = if 0 ≤ p1 ∧ p1 < 17 then (if (μ 35 0 p1.toNat) = 5 then (if p2 < 30 then (kd d 106 1 [some (v_r 33 0), some (v_i p1), some (v_i p2), none] [] μ) else (some (some (v_i 1), μ))) else (kd d 106 1 [some (v_r 33 0), some (v_i p1), some (v_i p2), none] [] μ)) else (none) := (kd_unf [1, 2, 4] 40).trans rfl
set_option maxRecDepth 20000 in
theorem ke106_1 (d : Nat) (a1 : Int) (a2 : Int) (o3 : Option mj_V) (μ : mj_M) : kd d 106 1 [some (v_r 33 0), some (v_i a1), some (v_i a2), o3] [] μ = if 0 ≤ a1 ∧ a1 < 17 then (if (μ 35 0 a1.toNat) = 1 then (kd d 106 2 [some (v_r 33 0), some (v_i a1), some (v_i a2), none] [] μ) else (if 0 ≤ a1 ∧ a1 < 17 then (if (μ 35 0 a1.toNat) = 5 then (kd d 106 2 [some (v_r 33 0), some (v_i a1), some (v_i a2), none] [] μ) else (kd d 106 4 [some (v_r 33 0), some (v_i a1), some (v_i a2), none] [v_i 0] μ)) else (none))) else (none) := (kd_unf [1, 2, 4] 40).trans rfl
set_option maxRecDepth 20000 in
theorem ke106_2 (d : Nat) (a1 : Int) (a2 : Int) (o3 : Option mj_V) (μ : mj_M) : kd d 106 2 [some (v_r 33 0), some (v_i a1), some (v_i a2), o3] [] μ = if 0 ≤ a1 ∧ a1 < 17 then (if (mj_w ((μ 38 0 a1.toNat) + 2)) = 0 then (none) else (if ((mj_w (a2.tdiv (mj_w ((μ 38 0 a1.toNat) + 2)))).tmod 2) = 1 then (kd d 106 4 [some (v_r 33 0), some (v_i a1), some (v_i a2), none] [v_i 1] μ) else (kd d 106 4 [some (v_r 33 0), some (v_i a1), some (v_i a2), none] [v_i 0] μ))) else (none) := (kd_unf [1, 2, 4] 40).trans rfl
set_option maxRecDepth 20000 in
theorem ke106_4 (d : Nat) (a1 : Int) (a2 : Int) (o3 : Option mj_V) (s0 : Int) (μ : mj_M) : kd d 106 4 [some (v_r 33 0), some (v_i a1), some (v_i a2), o3] [v_i s0] μ = if s0 = 0 then (mj_rI (kc d 98 [v_r 33 0, v_i 1, v_i a1, v_i 0, v_i a2, v_i 0] μ) fun x1 m2 => if x1 < a2 then (some (some (v_i 0), m2)) else (some (some (v_i 1), m2))) else (some (some (v_i 0), μ)) := (kd_unf [1, 2, 4] 40).trans rfl
-- 107 NumbersCalledModel.asks(IIIII)I
set_option maxRecDepth 20000 in
theorem ke107_0 (d : Nat) (p1 : Int) (p2 : Int) (p3 : Int) (p4 : Int) (p5 : Int) (μ : mj_M) : kc (d + 1) 107 [v_r 33 0, v_i p1, v_i p2, v_i p3, v_i p4, v_i p5] μ = mj_rI (kc d 75 [v_r 33 0, v_i p1] μ) fun x1 m2 => if x1 = 0 then (some (some (v_i (-5)), m2)) else (mj_rI (kc d 74 [v_r 33 0, v_i p2] m2) fun x3 m4 => if x3 = 0 then (some (some (v_i (-5)), m4)) else (mj_rI (kc d 72 [v_i p3, v_i 0, v_i 999] m4) fun x5 m6 => if x5 = 0 then (some (some (v_i (-7)), m6)) else (mj_rI (kc d 72 [v_i p4, v_i 0, v_i 999] m6) fun x7 m8 => if x7 = 0 then (some (some (v_i (-7)), m8)) else (mj_rI (kc d 72 [v_i p5, v_i 0, v_i 2] m8) fun x9 m10 => if x9 = 0 then (some (some (v_i (-7)), m10)) else (if p5 = 0 then (mj_rI (kc d 105 [v_r 33 0, v_i p1, v_i p2, v_i p3] m10) fun x15 m16 => some (some (v_i x15), m16)) else (if p5 = 1 then (mj_rI (kc d 106 [v_r 33 0, v_i p1, v_i p3] m10) fun x13 m14 => if x13 = 0 then (some (some (v_i 0), m14)) else (some (some (v_i 1), m14))) else (mj_rI (kc d 98 [v_r 33 0, v_i 2, v_i p1, v_i 0, v_i p3, v_i p4] m10) fun x11 m12 => some (some (v_i x11), m12)))))))) := (kd_unf [] 40).trans rfl
-- 108 NumbersCalledModel.isAhead(II)Z
set_option maxRecDepth 20000 in
theorem ke108_0 (d : Nat) (p1 : Int) (p2 : Int) (μ : mj_M) : kc (d + 1) 108 [v_r 33 0, v_i p1, v_i p2] μ = if (μ 33 0 2) = 1 then (if 0 ≤ p1 ∧ p1 < 17 then (if (μ 35 0 p1.toNat) = 4 then (kd d 108 6 [some (v_r 33 0), some (v_i p1), some (v_i p2), none, none] [v_i 0] μ) else (kd d 108 6 [some (v_r 33 0), some (v_i p1), some (v_i p2), none, none] [v_i 1] μ)) else (none)) else (if (μ 33 0 2) = 2 then (if 0 ≤ p1 ∧ p1 < 17 then (kd d 108 6 [some (v_r 33 0), some (v_i p1), some (v_i p2), none, none] [v_i (μ 37 0 p1.toNat)] μ) else (none)) else (if (μ 33 0 2) = 3 then (if 0 ≤ p1 ∧ p1 < 17 then (if (μ 35 0 p1.toNat) = 3 then (kd d 108 6 [some (v_r 33 0), some (v_i p1), some (v_i p2), none, none] [v_i 0] μ) else (kd d 108 6 [some (v_r 33 0), some (v_i p1), some (v_i p2), none, none] [v_i 1] μ)) else (none)) else (kd d 108 6 [some (v_r 33 0), some (v_i p1), some (v_i p2), none, none] [v_i 0] μ))) := (kd_unf [6, 12] 40).trans rfl
set_option maxRecDepth 20000 in
theorem ke108_6 (d : Nat) (a1 : Int) (a2 : Int) (o3 : Option mj_V) (o4 : Option mj_V) (s0 : Int) (μ : mj_M) : kd d 108 6 [some (v_r 33 0), some (v_i a1), some (v_i a2), o3, o4] [v_i s0] μ = if (μ 33 0 2) = 1 then (if 0 ≤ a2 ∧ a2 < 17 then (if (μ 35 0 a2.toNat) = 4 then (kd d 108 12 [some (v_r 33 0), some (v_i a1), some (v_i a2), some (v_i s0), none] [v_i 0] μ) else (kd d 108 12 [some (v_r 33 0), some (v_i a1), some (v_i a2), some (v_i s0), none] [v_i 1] μ)) else (none)) else (if (μ 33 0 2) = 2 then (if 0 ≤ a2 ∧ a2 < 17 then (kd d 108 12 [some (v_r 33 0), some (v_i a1), some (v_i a2), some (v_i s0), none] [v_i (μ 37 0 a2.toNat)] μ) else (none)) else (if (μ 33 0 2) = 3 then (if 0 ≤ a2 ∧ a2 < 17 then (if (μ 35 0 a2.toNat) = 3 then (kd d 108 12 [some (v_r 33 0), some (v_i a1), some (v_i a2), some (v_i s0), none] [v_i 0] μ) else (kd d 108 12 [some (v_r 33 0), some (v_i a1), some (v_i a2), some (v_i s0), none] [v_i 1] μ)) else (none)) else (kd d 108 12 [some (v_r 33 0), some (v_i a1), some (v_i a2), some (v_i s0), none] [v_i 0] μ))) := (kd_unf [6, 12] 40).trans rfl
set_option maxRecDepth 20000 in
theorem ke108_12 (d : Nat) (a1 : Int) (a2 : Int) (a3 : Int) (o4 : Option mj_V) (s0 : Int) (μ : mj_M) : kd d 108 12 [some (v_r 33 0), some (v_i a1), some (v_i a2), some (v_i a3), o4] [v_i s0] μ = if a3 = s0 then (if 0 ≤ a1 ∧ a1 < 17 then (if 0 ≤ a2 ∧ a2 < 17 then (if (μ 39 0 a1.toNat) < (μ 39 0 a2.toNat) then (some (some (v_i 1), μ)) else (if 0 ≤ a1 ∧ a1 < 17 then (if 0 ≤ a2 ∧ a2 < 17 then (if (μ 39 0 a1.toNat) = (μ 39 0 a2.toNat) then (if a1 < a2 then (some (some (v_i 1), μ)) else (some (some (v_i 0), μ))) else (some (some (v_i 0), μ))) else (none)) else (none))) else (none)) else (none)) else (if a3 < s0 then (some (some (v_i 1), μ)) else (some (some (v_i 0), μ))) := (kd_unf [6, 12] 40).trans rfl
-- 109 NumbersCalledModel.firstFor(I)I
set_option maxRecDepth 20000 in
theorem ke109_0 (d : Nat) (p1 : Int) (μ : mj_M) : kc (d + 1) 109 [v_r 33 0, v_i p1] μ = kd d 109 1 [some (v_r 33 0), some (v_i p1), some (v_i (-1)), some (v_i 0)] [] μ := (kd_unf [1] 40).trans rfl
set_option maxRecDepth 20000 in
theorem ke109_1 (d : Nat) (a1 : Int) (a2 : Int) (a3 : Int) (μ : mj_M) : kd d 109 1 [some (v_r 33 0), some (v_i a1), some (v_i a2), some (v_i a3)] [] μ = if a3 < (μ 33 0 5) then (if 0 ≤ a3 ∧ a3 < 17 then (if (μ 53 0 a3.toNat) = 1 then (if 0 ≤ (mj_w (3 * a1)) ∧ (mj_w (3 * a1)) < 12 then (if 0 ≤ a3 ∧ a3 < 17 then (if (0 : Int) ≤ (μ 54 0 a3.toNat) ∧ (μ 54 0 a3.toNat) < (32 : Int) then (if (0 : Int) ≤ ((μ 34 0 ((mj_w (3 * a1)).toNat)) / 2 ^ (μ 54 0 a3.toNat).toNat) ∧ (0 : Int) ≤ 1 then (if ((((μ 34 0 ((mj_w (3 * a1)).toNat)) / 2 ^ (μ 54 0 a3.toNat).toNat).toNat &&& 1 : Nat) : Int) = 1 then (if a2 = (-1) then (kd d 109 1 [some (v_r 33 0), some (v_i a1), some (v_i a3), some (v_i (mj_w (a3 + 1)))] [] μ) else (mj_rI (kc d 108 [v_r 33 0, v_i a3, v_i a2] μ) fun x1 m2 => if x1 = 0 then (kd d 109 1 [some (v_r 33 0), some (v_i a1), some (v_i a2), some (v_i (mj_w (a3 + 1)))] [] m2) else (kd d 109 1 [some (v_r 33 0), some (v_i a1), some (v_i a3), some (v_i (mj_w (a3 + 1)))] [] m2))) else (kd d 109 1 [some (v_r 33 0), some (v_i a1), some (v_i a2), some (v_i (mj_w (a3 + 1)))] [] μ)) else (none)) else (none)) else (none)) else (none)) else (kd d 109 1 [some (v_r 33 0), some (v_i a1), some (v_i a2), some (v_i (mj_w (a3 + 1)))] [] μ)) else (none)) else (some (some (v_i a2), μ)) := (kd_unf [1] 40).trans rfl
-- 110 NumbersCalledModel.callsOne(III)V
set_option maxRecDepth 20000 in
theorem ke110_0 (d : Nat) (p1 : Int) (p2 : Int) (p3 : Int) (μ : mj_M) : kc (d + 1) 110 [v_r 33 0, v_i p1, v_i p2, v_i p3] μ = if 0 ≤ p2 ∧ p2 < 17 then (if 0 ≤ p2 ∧ p2 < 17 then (if 0 ≤ p2 ∧ p2 < 17 then (mj_rI (kc d 106 [v_r 33 0, v_i p2, v_i (mj_w (p3 - (μ 39 0 p2.toNat)))] (mj_up μ 58 0 p2.toNat (mj_w ((μ 58 0 p2.toNat) + 1)))) fun x1 m2 => if x1 = 0 then (if 0 ≤ p2 ∧ p2 < 17 then (if (m2 58 0 p2.toNat) < (m2 33 0 3) then (if 0 ≤ p2 ∧ p2 < 17 then (some (none, mj_up m2 53 0 p2.toNat 1)) else (none)) else (if 0 ≤ p2 ∧ p2 < 17 then (some (none, mj_up m2 53 0 p2.toNat 3)) else (none))) else (none)) else (if 0 ≤ (mj_w (3 * p1)) ∧ (mj_w (3 * p1)) < 12 then (mj_rI (kc d 103 [v_r 33 0, v_i p2] m2) fun x3 m4 => if (0 : Int) ≤ x3 ∧ x3 < (32 : Int) then (if (0 : Int) ≤ ((m2 34 0 ((mj_w (3 * p1)).toNat)) / 2 ^ x3.toNat) ∧ (0 : Int) ≤ 1 then (if ((((m2 34 0 ((mj_w (3 * p1)).toNat)) / 2 ^ x3.toNat).toNat &&& 1 : Nat) : Int) = 0 then (mj_rI (kc d 103 [v_r 33 0, v_i p2] m4) fun x7 m8 => if 0 ≤ p2 ∧ p2 < 17 then (some (none, mj_up m8 54 0 p2.toNat x7)) else (none)) else (if 0 ≤ p2 ∧ p2 < 17 then (if 0 ≤ p2 ∧ p2 < 17 then (mj_rI (kc d 105 [v_r 33 0, v_i p2, v_i p1, v_i (mj_w (p3 - (μ 39 0 p2.toNat)))] (mj_up (mj_up m4 53 0 p2.toNat 2) 55 0 p2.toNat p3)) fun x5 m6 => if 0 ≤ p2 ∧ p2 < 17 then (if 0 ≤ p2 ∧ p2 < 17 then (if 0 ≤ p2 ∧ p2 < 17 then (if 0 ≤ p1 ∧ p1 < 4 then (some (none, mj_up (mj_up (mj_up m6 56 0 p2.toNat (mj_w (p3 + x5))) 57 0 p2.toNat p1) 59 0 p1.toNat ((mj_up m6 56 0 p2.toNat (mj_w (p3 + x5))) 56 0 p2.toNat))) else (none)) else (none)) else (none)) else (none)) else (none)) else (none))) else (none)) else (none)) else (none))) else (none)) else (none)) else (none) := (kd_unf [] 40).trans rfl
-- 111 NumbersCalledModel.minute(I)V
set_option maxRecDepth 20000 in
theorem ke111_0 (d : Nat) (p1 : Int) (μ : mj_M) : kc (d + 1) 111 [v_r 33 0, v_i p1] μ = kd d 111 1 [some (v_r 33 0), some (v_i p1), some (v_i 0), none, none, none] [] μ := (kd_unf [1, 6, 8] 40).trans rfl
set_option maxRecDepth 20000 in
theorem ke111_1 (d : Nat) (a1 : Int) (a2 : Int) (o3 : Option mj_V) (o4 : Option mj_V) (o5 : Option mj_V) (μ : mj_M) : kd d 111 1 [some (v_r 33 0), some (v_i a1), some (v_i a2), o3, o4, o5] [] μ = if a2 < (μ 33 0 5) then (if 0 ≤ a2 ∧ a2 < 17 then (if (μ 39 0 a2.toNat) = a1 then (if a1 < (μ 33 0 4) then (if 0 ≤ a2 ∧ a2 < 17 then (kd d 111 1 [some (v_r 33 0), some (v_i a1), some (v_i (mj_w (a2 + 1))), none, none, none] [] (mj_up μ 53 0 a2.toNat 1)) else (none)) else (if 0 ≤ a2 ∧ a2 < 17 then (kd d 111 1 [some (v_r 33 0), some (v_i a1), some (v_i (mj_w (a2 + 1))), none, none, none] [] (mj_up μ 53 0 a2.toNat 4)) else (none))) else (kd d 111 1 [some (v_r 33 0), some (v_i a1), some (v_i (mj_w (a2 + 1))), none, none, none] [] μ)) else (none)) else (kd d 111 6 [some (v_r 33 0), some (v_i a1), some (v_i 0), none, none, none] [] μ) := (kd_unf [1, 6, 8] 40).trans rfl
set_option maxRecDepth 20000 in
theorem ke111_6 (d : Nat) (a1 : Int) (a2 : Int) (o3 : Option mj_V) (o4 : Option mj_V) (o5 : Option mj_V) (μ : mj_M) : kd d 111 6 [some (v_r 33 0), some (v_i a1), some (v_i a2), o3, o4, o5] [] μ = if a2 < (μ 33 0 0) then (if 0 ≤ (mj_w ((mj_w (3 * a2)) + 2)) ∧ (mj_w ((mj_w (3 * a2)) + 2)) < 12 then (if (μ 34 0 ((mj_w ((mj_w (3 * a2)) + 2)).toNat)) = (-1) then (kd d 111 8 [some (v_r 33 0), some (v_i a1), some (v_i a2), none, none, none] [v_i 0] μ) else (mj_rI (kc d 72 [v_i a1, v_i (μ 34 0 ((mj_w ((mj_w (3 * a2)) + 2)).toNat)), v_i (mj_w ((μ 34 0 ((mj_w ((mj_w (3 * a2)) + 2)).toNat)) + 9))] μ) fun x1 m2 => if x1 = 0 then (kd d 111 8 [some (v_r 33 0), some (v_i a1), some (v_i a2), none, none, none] [v_i 0] m2) else (kd d 111 8 [some (v_r 33 0), some (v_i a1), some (v_i a2), some (v_i (μ 34 0 ((mj_w ((mj_w (3 * a2)) + 2)).toNat))), none, none] [v_i 1] m2))) else (none)) else (some (none, μ)) := (kd_unf [1, 6, 8] 40).trans rfl
set_option maxRecDepth 20000 in
theorem ke111_8 (d : Nat) (a1 : Int) (a2 : Int) (o3 : Option mj_V) (o4 : Option mj_V) (o5 : Option mj_V) (s0 : Int) (μ : mj_M) : kd d 111 8 [some (v_r 33 0), some (v_i a1), some (v_i a2), o3, o4, o5] [v_i s0] μ = if 0 ≤ a2 ∧ a2 < 4 then (if a1 < (μ 59 0 a2.toNat) then (kd d 111 6 [some (v_r 33 0), some (v_i a1), some (v_i (mj_w (a2 + 1))), none, none, none] [] μ) else (if s0 = 0 then (mj_rI (kc d 109 [v_r 33 0, v_i a2] μ) fun x1 m2 => if x1 = (-1) then (if 0 ≤ a2 ∧ a2 < 4 then (if 0 ≤ a2 ∧ a2 < 4 then (kd d 111 6 [some (v_r 33 0), some (v_i a1), some (v_i (mj_w (a2 + 1))), none, none, none] [] (mj_up m2 60 0 a2.toNat (mj_w ((m2 60 0 a2.toNat) + 1)))) else (none)) else (none)) else (mj_rV (kc d 110 [v_r 33 0, v_i a2, v_i x1, v_i a1] m2) fun m3 => kd d 111 6 [some (v_r 33 0), some (v_i a1), some (v_i (mj_w (a2 + 1))), none, none, none] [] m3)) else (kd d 111 6 [some (v_r 33 0), some (v_i a1), some (v_i (mj_w (a2 + 1))), none, none, none] [] μ))) else (none) := (kd_unf [1, 6, 8] 40).trans rfl
-- 112 NumbersCalledModel.lives()V
set_option maxRecDepth 20000 in
theorem ke112_0 (d : Nat)  (μ : mj_M) : kc (d + 1) 112 [v_r 33 0] μ = kd d 112 1 [some (v_r 33 0), some (v_i 0)] [] μ := (kd_unf [1, 3, 5, 7] 40).trans rfl
set_option maxRecDepth 20000 in
theorem ke112_1 (d : Nat) (a1 : Int) (μ : mj_M) : kd d 112 1 [some (v_r 33 0), some (v_i a1)] [] μ = if a1 < (μ 33 0 5) then (if 0 ≤ a1 ∧ a1 < 17 then (if (μ 33 0 50) = 0 then (if 0 ≤ a1 ∧ a1 < 17 then (kd d 112 3 [some (v_r 33 0), some (v_i a1)] [v_i (μ 36 0 a1.toNat), v_i a1, v_r 54 0] (mj_up μ 53 0 a1.toNat 0)) else (none)) else (mj_rI (kc d 103 [v_r 33 0, v_i a1] (mj_up μ 53 0 a1.toNat 0)) fun x1 m2 => kd d 112 3 [some (v_r 33 0), some (v_i a1)] [v_i x1, v_i a1, v_r 54 0] m2)) else (none)) else (kd d 112 5 [some (v_r 33 0), some (v_i 0)] [] μ) := (kd_unf [1, 3, 5, 7] 40).trans rfl
set_option maxRecDepth 20000 in
theorem ke112_3 (d : Nat) (a1 : Int) (s0 : Int) (s1 : Int) (μ : mj_M) : kd d 112 3 [some (v_r 33 0), some (v_i a1)] [v_i s0, v_i s1, v_r 54 0] μ = if 0 ≤ s1 ∧ s1 < 17 then (if 0 ≤ a1 ∧ a1 < 17 then (if 0 ≤ a1 ∧ a1 < 17 then (if 0 ≤ a1 ∧ a1 < 17 then (if 0 ≤ a1 ∧ a1 < 17 then (kd d 112 1 [some (v_r 33 0), some (v_i (mj_w (a1 + 1)))] [] (mj_up (mj_up (mj_up (mj_up (mj_up μ 54 0 s1.toNat s0) 55 0 a1.toNat (-1)) 56 0 a1.toNat (-1)) 57 0 a1.toNat (-1)) 58 0 a1.toNat 0)) else (none)) else (none)) else (none)) else (none)) else (none) := (kd_unf [1, 3, 5, 7] 40).trans rfl
set_option maxRecDepth 20000 in
theorem ke112_5 (d : Nat) (a1 : Int) (μ : mj_M) : kd d 112 5 [some (v_r 33 0), some (v_i a1)] [] μ = if a1 < 4 then (if 0 ≤ a1 ∧ a1 < 4 then (if 0 ≤ a1 ∧ a1 < 4 then (kd d 112 5 [some (v_r 33 0), some (v_i (mj_w (a1 + 1)))] [] (mj_up (mj_up μ 59 0 a1.toNat 0) 60 0 a1.toNat 0)) else (none)) else (none)) else (kd d 112 7 [some (v_r 33 0), some (v_i 0)] [] μ) := (kd_unf [1, 3, 5, 7] 40).trans rfl
set_option maxRecDepth 20000 in
theorem ke112_7 (d : Nat) (a1 : Int) (μ : mj_M) : kd d 112 7 [some (v_r 33 0), some (v_i a1)] [] μ = if a1 < 240 then (mj_rV (kc d 111 [v_r 33 0, v_i a1] μ) fun m1 => kd d 112 7 [some (v_r 33 0), some (v_i (mj_w (a1 + 1)))] [] m1) else (some (none, μ)) := (kd_unf [1, 3, 5, 7] 40).trans rfl
-- 113 NumbersCalledModel.waitOf(I)I
set_option maxRecDepth 20000 in
theorem ke113_0 (d : Nat) (p1 : Int) (μ : mj_M) : kc (d + 1) 113 [v_r 33 0, v_i p1] μ = if 0 ≤ p1 ∧ p1 < 17 then (if (μ 53 0 p1.toNat) = 2 then (if 0 ≤ p1 ∧ p1 < 17 then (if 0 ≤ p1 ∧ p1 < 17 then (some (some (v_i (mj_w ((μ 55 0 p1.toNat) - (μ 39 0 p1.toNat)))), μ)) else (none)) else (none)) else (some (some (v_i (-1)), μ))) else (none) := (kd_unf [] 40).trans rfl
-- 114 NumbersCalledModel.of(II)I
set_option maxRecDepth 20000 in
theorem ke114_0 (d : Nat) (p1 : Int) (p2 : Int) (μ : mj_M) : kc (d + 1) 114 [v_r 33 0, v_i p1, v_i p2] μ = mj_rI (kc d 75 [v_r 33 0, v_i p1] μ) fun x1 m2 => if x1 = 0 then (some (some (v_i (-5)), m2)) else (mj_rI (kc d 72 [v_i p2, v_i 0, v_i 5] m2) fun x3 m4 => if x3 = 0 then (some (some (v_i (-7)), m4)) else (mj_rV (kc d 112 [v_r 33 0] m4) fun m5 => if p2 = 0 then (if 0 ≤ p1 ∧ p1 < 17 then (some (some (v_i (m5 53 0 p1.toNat)), m5)) else (none)) else if p2 = 1 then (if 0 ≤ p1 ∧ p1 < 17 then (some (some (v_i (m5 55 0 p1.toNat)), m5)) else (none)) else if p2 = 2 then (if 0 ≤ p1 ∧ p1 < 17 then (some (some (v_i (m5 56 0 p1.toNat)), m5)) else (none)) else if p2 = 3 then (if 0 ≤ p1 ∧ p1 < 17 then (some (some (v_i (m5 57 0 p1.toNat)), m5)) else (none)) else if p2 = 4 then (mj_rI (kc d 113 [v_r 33 0, v_i p1] m5) fun x6 m7 => some (some (v_i x6), m7)) else (if 0 ≤ p1 ∧ p1 < 17 then (some (some (v_i (m5 58 0 p1.toNat)), m5)) else (none)))) := (kd_unf [] 40).trans rfl
-- 115 NumbersCalledModel.manyIn(I)I
set_option maxRecDepth 20000 in
theorem ke115_0 (d : Nat) (p1 : Int) (μ : mj_M) : kc (d + 1) 115 [v_r 33 0, v_i p1] μ = kd d 115 1 [some (v_r 33 0), some (v_i p1), some (v_i 0), some (v_i 0)] [] μ := (kd_unf [1] 40).trans rfl
set_option maxRecDepth 20000 in
theorem ke115_1 (d : Nat) (a1 : Int) (a2 : Int) (a3 : Int) (μ : mj_M) : kd d 115 1 [some (v_r 33 0), some (v_i a1), some (v_i a2), some (v_i a3)] [] μ = if a3 < (μ 33 0 5) then (if 0 ≤ a3 ∧ a3 < 17 then (if (μ 53 0 a3.toNat) = a1 then (kd d 115 1 [some (v_r 33 0), some (v_i a1), some (v_i (mj_w (a2 + 1))), some (v_i (mj_w (a3 + 1)))] [] μ) else (kd d 115 1 [some (v_r 33 0), some (v_i a1), some (v_i (mj_w (a2 + 0))), some (v_i (mj_w (a3 + 1)))] [] μ)) else (none)) else (some (some (v_i a2), μ)) := (kd_unf [1] 40).trans rfl
-- 116 NumbersCalledModel.longest()I
set_option maxRecDepth 20000 in
theorem ke116_0 (d : Nat)  (μ : mj_M) : kc (d + 1) 116 [v_r 33 0] μ = kd d 116 1 [some (v_r 33 0), some (v_i 0), some (v_i 0)] [] μ := (kd_unf [1] 40).trans rfl
set_option maxRecDepth 20000 in
theorem ke116_1 (d : Nat) (a1 : Int) (a2 : Int) (μ : mj_M) : kd d 116 1 [some (v_r 33 0), some (v_i a1), some (v_i a2)] [] μ = if a2 < (μ 33 0 5) then (mj_rI (kc d 113 [v_r 33 0, v_i a2] μ) fun x1 m2 => if a1 < x1 then (mj_rI (kc d 113 [v_r 33 0, v_i a2] m2) fun x3 m4 => kd d 116 1 [some (v_r 33 0), some (v_i x3), some (v_i (mj_w (a2 + 1)))] [] m4) else (kd d 116 1 [some (v_r 33 0), some (v_i a1), some (v_i (mj_w (a2 + 1)))] [] m2)) else (some (some (v_i a1), μ)) := (kd_unf [1] 40).trans rfl
-- 117 NumbersCalledModel.latest()I
set_option maxRecDepth 20000 in
theorem ke117_0 (d : Nat)  (μ : mj_M) : kc (d + 1) 117 [v_r 33 0] μ = kd d 117 1 [some (v_r 33 0), some (v_i 0), some (v_i 0)] [] μ := (kd_unf [1] 40).trans rfl
set_option maxRecDepth 20000 in
theorem ke117_1 (d : Nat) (a1 : Int) (a2 : Int) (μ : mj_M) : kd d 117 1 [some (v_r 33 0), some (v_i a1), some (v_i a2)] [] μ = if a2 < (μ 33 0 5) then (if 0 ≤ a2 ∧ a2 < 17 then (if a1 < (μ 56 0 a2.toNat) then (if 0 ≤ a2 ∧ a2 < 17 then (kd d 117 1 [some (v_r 33 0), some (v_i (μ 56 0 a2.toNat)), some (v_i (mj_w (a2 + 1)))] [] μ) else (none)) else (kd d 117 1 [some (v_r 33 0), some (v_i a1), some (v_i (mj_w (a2 + 1)))] [] μ)) else (none)) else (some (some (v_i a1), μ)) := (kd_unf [1] 40).trans rfl
-- 118 NumbersCalledModel.allWaits()I
set_option maxRecDepth 20000 in
theorem ke118_0 (d : Nat)  (μ : mj_M) : kc (d + 1) 118 [v_r 33 0] μ = kd d 118 1 [some (v_r 33 0), some (v_i 0), some (v_i 0)] [] μ := (kd_unf [1] 40).trans rfl
set_option maxRecDepth 20000 in
theorem ke118_1 (d : Nat) (a1 : Int) (a2 : Int) (μ : mj_M) : kd d 118 1 [some (v_r 33 0), some (v_i a1), some (v_i a2)] [] μ = if a2 < (μ 33 0 5) then (if 0 ≤ a2 ∧ a2 < 17 then (if (μ 53 0 a2.toNat) = 2 then (mj_rI (kc d 113 [v_r 33 0, v_i a2] μ) fun x1 m2 => kd d 118 1 [some (v_r 33 0), some (v_i (mj_w (a1 + x1))), some (v_i (mj_w (a2 + 1)))] [] m2) else (kd d 118 1 [some (v_r 33 0), some (v_i (mj_w (a1 + 0))), some (v_i (mj_w (a2 + 1)))] [] μ)) else (none)) else (some (some (v_i a1), μ)) := (kd_unf [1] 40).trans rfl
-- 119 NumbersCalledModel.sumOf(I)I
set_option maxRecDepth 20000 in
theorem ke119_0 (d : Nat) (p1 : Int) (μ : mj_M) : kc (d + 1) 119 [v_r 33 0, v_i p1] μ = if p1 = 0 then (mj_rI (kc d 115 [v_r 33 0, v_i 2] μ) fun x1 m2 => some (some (v_i x1), m2)) else if p1 = 1 then (mj_rI (kc d 118 [v_r 33 0] μ) fun x3 m4 => some (some (v_i x3), m4)) else if p1 = 2 then (mj_rI (kc d 116 [v_r 33 0] μ) fun x5 m6 => some (some (v_i x5), m6)) else if p1 = 3 then (mj_rI (kc d 117 [v_r 33 0] μ) fun x7 m8 => some (some (v_i x7), m8)) else if p1 = 4 then (mj_rI (kc d 115 [v_r 33 0, v_i 3] μ) fun x9 m10 => some (some (v_i x9), m10)) else if p1 = 5 then (mj_rI (kc d 115 [v_r 33 0, v_i 4] μ) fun x11 m12 => some (some (v_i x11), m12)) else if p1 = 6 then (mj_rI (kc d 115 [v_r 33 0, v_i 1] μ) fun x13 m14 => some (some (v_i x13), m14)) else (some (some (v_i (mj_w ((mj_w ((mj_w ((μ 60 0 0) + (μ 60 0 1))) + (μ 60 0 2))) + (μ 60 0 3)))), μ)) := (kd_unf [] 40).trans rfl
-- 120 NumbersCalledModel.sum(I)I
set_option maxRecDepth 20000 in
theorem ke120_0 (d : Nat) (p1 : Int) (μ : mj_M) : kc (d + 1) 120 [v_r 33 0, v_i p1] μ = mj_rI (kc d 72 [v_i p1, v_i 0, v_i 7] μ) fun x1 m2 => if x1 = 0 then (some (some (v_i (-2)), m2)) else (mj_rV (kc d 112 [v_r 33 0] m2) fun m3 => mj_rI (kc d 119 [v_r 33 0, v_i p1] m3) fun x4 m5 => some (some (v_i x4), m5)) := (kd_unf [] 40).trans rfl
-- 121 NumbersCalledModel.idle(I)I
set_option maxRecDepth 20000 in
theorem ke121_0 (d : Nat) (p1 : Int) (μ : mj_M) : kc (d + 1) 121 [v_r 33 0, v_i p1] μ = mj_rI (kc d 74 [v_r 33 0, v_i p1] μ) fun x1 m2 => if x1 = 0 then (some (some (v_i (-5)), m2)) else (mj_rV (kc d 112 [v_r 33 0] m2) fun m3 => if 0 ≤ p1 ∧ p1 < 4 then (some (some (v_i (m3 60 0 p1.toNat)), m3)) else (none)) := (kd_unf [] 40).trans rfl
-- 122 NumbersCalledModel.harmNow()I
set_option maxRecDepth 20000 in
theorem ke122_0 (d : Nat)  (μ : mj_M) : kc (d + 1) 122 [v_r 33 0] μ = mj_rV (kc d 112 [v_r 33 0] μ) fun m1 => mj_rI (kc d 118 [v_r 33 0] m1) fun x2 m3 => mj_rI (kc d 115 [v_r 33 0, v_i 2] m3) fun x4 m5 => some (some (v_i (mj_w (x2 + (mj_w (60 * (mj_w ((m3 33 0 5) - x4))))))), m5) := (kd_unf [] 40).trans rfl
-- 123 NumbersCalledModel.harmed()I
set_option maxRecDepth 20000 in
theorem ke123_0 (d : Nat)  (μ : mj_M) : kc (d + 1) 123 [v_r 33 0] μ = mj_rI (kc d 122 [v_r 33 0] μ) fun x1 m2 => some (some (v_i x1), m2) := (kd_unf [] 40).trans rfl
-- 124 NumbersCalledModel.letter(II)I
set_option maxRecDepth 20000 in
theorem ke124_0 (d : Nat) (p1 : Int) (p2 : Int) (μ : mj_M) : kc (d + 1) 124 [v_r 33 0, v_i p1, v_i p2] μ = mj_rI (kc d 74 [v_r 33 0, v_i p1] μ) fun x1 m2 => if x1 = 0 then (some (some (v_i (-5)), m2)) else (mj_rI (kc d 72 [v_i p2, v_i 0, v_i 1] m2) fun x3 m4 => if x3 = 0 then (some (some (v_i (-7)), m4)) else (if 0 ≤ (mj_w (3 * p1)) ∧ (mj_w (3 * p1)) < 12 then (mj_rI (kc d 122 [v_r 33 0] m4) fun x5 m6 => kd d 124 3 [some (v_r 33 0), some (v_i p1), some (v_i p2), some (v_i (m4 34 0 ((mj_w (3 * p1)).toNat))), some (v_i (-1)), some (v_i x5), some (v_i 0), none] [] m6) else (none))) := (kd_unf [3, 5] 40).trans rfl
set_option maxRecDepth 20000 in
theorem ke124_3 (d : Nat) (a1 : Int) (a2 : Int) (a3 : Int) (a4 : Int) (a5 : Int) (a6 : Int) (o7 : Option mj_V) (μ : mj_M) : kd d 124 3 [some (v_r 33 0), some (v_i a1), some (v_i a2), some (v_i a3), some (v_i a4), some (v_i a5), some (v_i a6), o7] [] μ = if a6 < 4 then (if (0 : Int) ≤ a6 ∧ a6 < (32 : Int) then (if (0 : Int) ≤ a3 ∧ (0 : Int) ≤ (mj_w (1 * 2 ^ a6.toNat)) then (if 0 ≤ (mj_w (3 * a1)) ∧ (mj_w (3 * a1)) < 12 then (mj_rI (kc d 122 [v_r 33 0] (mj_up μ 34 0 ((mj_w (3 * a1)).toNat) ((a3.toNat ||| (mj_w (1 * 2 ^ a6.toNat)).toNat : Nat) : Int))) fun x1 m2 => if x1 < a5 then (kd d 124 5 [some (v_r 33 0), some (v_i a1), some (v_i a2), some (v_i a3), some (v_i a4), some (v_i a5), some (v_i a6), some (v_i x1)] [v_i a6] m2) else (kd d 124 5 [some (v_r 33 0), some (v_i a1), some (v_i a2), some (v_i a3), some (v_i a4), some (v_i a5), some (v_i a6), some (v_i x1)] [v_i a4] m2)) else (none)) else (none)) else (none)) else (if 0 ≤ (mj_w (3 * a1)) ∧ (mj_w (3 * a1)) < 12 then (if a2 = 0 then (some (some (v_i a4), mj_up μ 34 0 ((mj_w (3 * a1)).toNat) a3)) else (some (some (v_i a5), mj_up μ 34 0 ((mj_w (3 * a1)).toNat) a3))) else (none)) := (kd_unf [3, 5] 40).trans rfl
set_option maxRecDepth 20000 in
theorem ke124_5 (d : Nat) (a1 : Int) (a2 : Int) (a3 : Int) (o4 : Option mj_V) (a5 : Int) (a6 : Int) (a7 : Int) (s0 : Int) (μ : mj_M) : kd d 124 5 [some (v_r 33 0), some (v_i a1), some (v_i a2), some (v_i a3), o4, some (v_i a5), some (v_i a6), some (v_i a7)] [v_i s0] μ = if a7 < a5 then (kd d 124 3 [some (v_r 33 0), some (v_i a1), some (v_i a2), some (v_i a3), some (v_i s0), some (v_i a7), some (v_i (mj_w (a6 + 1))), none] [] μ) else (kd d 124 3 [some (v_r 33 0), some (v_i a1), some (v_i a2), some (v_i a3), some (v_i s0), some (v_i a5), some (v_i (mj_w (a6 + 1))), none] [] μ) := (kd_unf [3, 5] 40).trans rfl
-- 125 NumbersCalledModel.isWell(I)Z
set_option maxRecDepth 20000 in
theorem ke125_0 (d : Nat) (p1 : Int) (μ : mj_M) : kc (d + 1) 125 [v_r 33 0, v_i p1] μ = mj_rV (kc d 112 [v_r 33 0] μ) fun m1 => mj_rI (kc d 115 [v_r 33 0, v_i 2] m1) fun x2 m3 => if x2 = (m3 33 0 5) then (mj_rI (kc d 116 [v_r 33 0] m3) fun x4 m5 => if p1 < x4 then (some (some (v_i 0), m5)) else (some (some (v_i 1), m5))) else (some (some (v_i 0), m3)) := (kd_unf [] 40).trans rfl
-- 126 NumbersCalledModel.trains(IZ)I
set_option maxRecDepth 20000 in
theorem ke126_0 (d : Nat) (p1 : Int) (p2 : Int) (μ : mj_M) : kc (d + 1) 126 [v_r 33 0, v_i p1, v_i p2] μ = kd d 126 1 [some (v_r 33 0), some (v_i p1), some (v_i p2), some (v_i 0), none, none, none, none, none] [] μ := (kd_unf [1, 4, 7] 40).trans rfl
set_option maxRecDepth 20000 in
theorem ke126_1 (d : Nat) (a1 : Int) (a2 : Int) (a3 : Int) (o4 : Option mj_V) (o5 : Option mj_V) (o6 : Option mj_V) (o7 : Option mj_V) (o8 : Option mj_V) (μ : mj_M) : kd d 126 1 [some (v_r 33 0), some (v_i a1), some (v_i a2), some (v_i a3), o4, o5, o6, o7, o8] [] μ = if a3 < (mj_w (4 * (μ 33 0 0))) then (if 0 ≤ (mj_w (3 * (mj_w (a3.tdiv 4)))) ∧ (mj_w (3 * (mj_w (a3.tdiv 4)))) < 12 then (if (0 : Int) ≤ (a3.tmod 4) ∧ (a3.tmod 4) < (32 : Int) then (if (0 : Int) ≤ (μ 34 0 ((mj_w (3 * (mj_w (a3.tdiv 4)))).toNat)) ∧ (0 : Int) ≤ (mj_w (1 * 2 ^ (a3.tmod 4).toNat)) then (if 0 ≤ (mj_w (3 * (mj_w (a3.tdiv 4)))) ∧ (mj_w (3 * (mj_w (a3.tdiv 4)))) < 12 then (if a2 = 0 then (mj_rI (kc d 125 [v_r 33 0, v_i a1] (mj_up μ 34 0 ((mj_w (3 * (mj_w (a3.tdiv 4)))).toNat) (((μ 34 0 ((mj_w (3 * (mj_w (a3.tdiv 4)))).toNat)).toNat ||| (mj_w (1 * 2 ^ (a3.tmod 4).toNat)).toNat : Nat) : Int))) fun x1 m2 => if x1 = 0 then (kd d 126 4 [some (v_r 33 0), some (v_i a1), some (v_i a2), some (v_i a3), some (v_i (μ 34 0 ((mj_w (3 * (mj_w (a3.tdiv 4)))).toNat))), some (v_i (mj_w ((mj_w (10 * (mj_w (a3.tdiv 4)))) + (a3.tmod 4)))), some (v_i (-1)), some (v_i (mj_w (a3 + 1))), none] [] m2) else (kd d 126 4 [some (v_r 33 0), some (v_i a1), some (v_i a2), some (v_i a3), some (v_i (μ 34 0 ((mj_w (3 * (mj_w (a3.tdiv 4)))).toNat))), some (v_i (mj_w ((mj_w (10 * (mj_w (a3.tdiv 4)))) + (a3.tmod 4)))), some (v_i (mj_w ((mj_w (10 * (mj_w (a3.tdiv 4)))) + (a3.tmod 4)))), some (v_i (mj_w (a3 + 1))), none] [] m2)) else (kd d 126 4 [some (v_r 33 0), some (v_i a1), some (v_i a2), some (v_i a3), some (v_i (μ 34 0 ((mj_w (3 * (mj_w (a3.tdiv 4)))).toNat))), some (v_i (mj_w ((mj_w (10 * (mj_w (a3.tdiv 4)))) + (a3.tmod 4)))), some (v_i (-1)), some (v_i (mj_w (a3 + 1))), none] [] (mj_up μ 34 0 ((mj_w (3 * (mj_w (a3.tdiv 4)))).toNat) (((μ 34 0 ((mj_w (3 * (mj_w (a3.tdiv 4)))).toNat)).toNat ||| (mj_w (1 * 2 ^ (a3.tmod 4).toNat)).toNat : Nat) : Int)))) else (none)) else (none)) else (none)) else (none)) else (some (some (v_i (-1)), μ)) := (kd_unf [1, 4, 7] 40).trans rfl
set_option maxRecDepth 20000 in
theorem ke126_4 (d : Nat) (a1 : Int) (a2 : Int) (a3 : Int) (a4 : Int) (a5 : Int) (a6 : Int) (a7 : Int) (o8 : Option mj_V) (μ : mj_M) : kd d 126 4 [some (v_r 33 0), some (v_i a1), some (v_i a2), some (v_i a3), some (v_i a4), some (v_i a5), some (v_i a6), some (v_i a7), o8] [] μ = if a7 < (mj_w (4 * (μ 33 0 0))) then (if a2 = 0 then (kd d 126 7 [some (v_r 33 0), some (v_i a1), some (v_i a2), some (v_i a3), some (v_i a4), some (v_i a5), some (v_i a6), some (v_i a7), none] [] μ) else (if a6 = (-1) then (if 0 ≤ (mj_w (3 * (mj_w (a7.tdiv 4)))) ∧ (mj_w (3 * (mj_w (a7.tdiv 4)))) < 12 then (if (0 : Int) ≤ (a7.tmod 4) ∧ (a7.tmod 4) < (32 : Int) then (if (0 : Int) ≤ (μ 34 0 ((mj_w (3 * (mj_w (a7.tdiv 4)))).toNat)) ∧ (0 : Int) ≤ (mj_w (1 * 2 ^ (a7.tmod 4).toNat)) then (if 0 ≤ (mj_w (3 * (mj_w (a7.tdiv 4)))) ∧ (mj_w (3 * (mj_w (a7.tdiv 4)))) < 12 then (mj_rI (kc d 125 [v_r 33 0, v_i a1] (mj_up μ 34 0 ((mj_w (3 * (mj_w (a7.tdiv 4)))).toNat) (((μ 34 0 ((mj_w (3 * (mj_w (a7.tdiv 4)))).toNat)).toNat ||| (mj_w (1 * 2 ^ (a7.tmod 4).toNat)).toNat : Nat) : Int))) fun x1 m2 => if x1 = 0 then (if 0 ≤ (mj_w (3 * (mj_w (a7.tdiv 4)))) ∧ (mj_w (3 * (mj_w (a7.tdiv 4)))) < 12 then (kd d 126 4 [some (v_r 33 0), some (v_i a1), some (v_i a2), some (v_i a3), some (v_i a4), some (v_i a5), some (v_i (-1)), some (v_i (mj_w (a7 + 1))), some (v_i (μ 34 0 ((mj_w (3 * (mj_w (a7.tdiv 4)))).toNat)))] [] (mj_up m2 34 0 ((mj_w (3 * (mj_w (a7.tdiv 4)))).toNat) (μ 34 0 ((mj_w (3 * (mj_w (a7.tdiv 4)))).toNat)))) else (none)) else (if 0 ≤ (mj_w (3 * (mj_w (a7.tdiv 4)))) ∧ (mj_w (3 * (mj_w (a7.tdiv 4)))) < 12 then (kd d 126 4 [some (v_r 33 0), some (v_i a1), some (v_i a2), some (v_i a3), some (v_i a4), some (v_i a5), some (v_i (mj_w ((mj_w ((mj_w (100 * a5)) + (mj_w (10 * (mj_w (a7.tdiv 4)))))) + (a7.tmod 4)))), some (v_i (mj_w (a7 + 1))), some (v_i (μ 34 0 ((mj_w (3 * (mj_w (a7.tdiv 4)))).toNat)))] [] (mj_up m2 34 0 ((mj_w (3 * (mj_w (a7.tdiv 4)))).toNat) (μ 34 0 ((mj_w (3 * (mj_w (a7.tdiv 4)))).toNat)))) else (none))) else (none)) else (none)) else (none)) else (none)) else (kd d 126 7 [some (v_r 33 0), some (v_i a1), some (v_i a2), some (v_i a3), some (v_i a4), some (v_i a5), some (v_i a6), some (v_i a7), none] [] μ))) else (kd d 126 7 [some (v_r 33 0), some (v_i a1), some (v_i a2), some (v_i a3), some (v_i a4), some (v_i a5), some (v_i a6), some (v_i a7), none] [] μ) := (kd_unf [1, 4, 7] 40).trans rfl
set_option maxRecDepth 20000 in
theorem ke126_7 (d : Nat) (a1 : Int) (a2 : Int) (a3 : Int) (a4 : Int) (o5 : Option mj_V) (a6 : Int) (o7 : Option mj_V) (o8 : Option mj_V) (μ : mj_M) : kd d 126 7 [some (v_r 33 0), some (v_i a1), some (v_i a2), some (v_i a3), some (v_i a4), o5, some (v_i a6), o7, o8] [] μ = if 0 ≤ (mj_w (3 * (mj_w (a3.tdiv 4)))) ∧ (mj_w (3 * (mj_w (a3.tdiv 4)))) < 12 then (if a6 = (-1) then (kd d 126 1 [some (v_r 33 0), some (v_i a1), some (v_i a2), some (v_i (mj_w (a3 + 1))), none, none, none, none, none] [] (mj_up μ 34 0 ((mj_w (3 * (mj_w (a3.tdiv 4)))).toNat) a4)) else (some (some (v_i a6), mj_up μ 34 0 ((mj_w (3 * (mj_w (a3.tdiv 4)))).toNat) a4))) else (none) := (kd_unf [1, 4, 7] 40).trans rfl
-- 127 NumbersCalledModel.train(II)I
set_option maxRecDepth 20000 in
theorem ke127_0 (d : Nat) (p1 : Int) (p2 : Int) (μ : mj_M) : kc (d + 1) 127 [v_r 33 0, v_i p1, v_i p2] μ = mj_rI (kc d 72 [v_i p1, v_i 0, v_i 999] μ) fun x1 m2 => if x1 = 0 then (some (some (v_i (-2)), m2)) else (mj_rI (kc d 72 [v_i p2, v_i 0, v_i 1] m2) fun x3 m4 => if x3 = 0 then (some (some (v_i (-2)), m4)) else (mj_rI (kc d 125 [v_r 33 0, v_i p1] m4) fun x5 m6 => if x5 = 0 then (mj_rI (kc d 126 [v_r 33 0, v_i p1, v_i 0] m6) fun x7 m8 => if x7 = (-1) then (mj_rI (kc d 126 [v_r 33 0, v_i p1, v_i 1] m8) fun x9 m10 => if p2 = 1 then (some (some (v_i x9), m10)) else (if x9 = (-1) then (some (some (v_i x9), m10)) else (some (some (v_i 2), m10)))) else (if p2 = 0 then (some (some (v_i 1), m8)) else (some (some (v_i x7), m8)))) else (if p2 = 0 then (some (some (v_i 0), m6)) else (some (some (v_i (-1)), m6))))) := (kd_unf [] 40).trans rfl
-- 128 NumbersCalledModel.rest(II)I
set_option maxRecDepth 20000 in
theorem ke128_0 (d : Nat) (p1 : Int) (p2 : Int) (μ : mj_M) : kc (d + 1) 128 [v_r 33 0, v_i p1, v_i p2] μ = mj_rI (kc d 74 [v_r 33 0, v_i p1] μ) fun x1 m2 => if x1 = 0 then (some (some (v_i (-5)), m2)) else (mj_rI (kc d 72 [v_i p2, v_i 0, v_i 1] m2) fun x3 m4 => if x3 = 0 then (some (some (v_i (-7)), m4)) else (if 0 ≤ (mj_w ((mj_w (3 * p1)) + 2)) ∧ (mj_w ((mj_w (3 * p1)) + 2)) < 12 then (kd d 128 3 [some (v_r 33 0), some (v_i p1), some (v_i p2), some (v_i (m4 34 0 ((mj_w ((mj_w (3 * p1)) + 2)).toNat))), some (v_i 0), some (v_i 0), some (v_i 0), none] [] m4) else (none))) := (kd_unf [3, 6] 40).trans rfl
set_option maxRecDepth 20000 in
theorem ke128_3 (d : Nat) (a1 : Int) (a2 : Int) (a3 : Int) (a4 : Int) (a5 : Int) (a6 : Int) (o7 : Option mj_V) (μ : mj_M) : kd d 128 3 [some (v_r 33 0), some (v_i a1), some (v_i a2), some (v_i a3), some (v_i a4), some (v_i a5), some (v_i a6), o7] [] μ = if 110 < a6 then (if 0 ≤ (mj_w ((mj_w (3 * a1)) + 2)) ∧ (mj_w ((mj_w (3 * a1)) + 2)) < 12 then (if a2 = 0 then (some (some (v_i a4), mj_up μ 34 0 ((mj_w ((mj_w (3 * a1)) + 2)).toNat) a3)) else (some (some (v_i a5), mj_up μ 34 0 ((mj_w ((mj_w (3 * a1)) + 2)).toNat) a3))) else (none)) else (if 0 ≤ (mj_w ((mj_w (3 * a1)) + 2)) ∧ (mj_w ((mj_w (3 * a1)) + 2)) < 12 then (mj_rI (kc d 122 [v_r 33 0] (mj_up μ 34 0 ((mj_w ((mj_w (3 * a1)) + 2)).toNat) a6)) fun x1 m2 => if a6 = 0 then (kd d 128 6 [some (v_r 33 0), some (v_i a1), some (v_i a2), some (v_i a3), none, some (v_i a5), some (v_i a6), some (v_i x1)] [v_i a6] m2) else (if x1 < a5 then (kd d 128 6 [some (v_r 33 0), some (v_i a1), some (v_i a2), some (v_i a3), none, some (v_i a5), some (v_i a6), some (v_i x1)] [v_i a6] m2) else (kd d 128 6 [some (v_r 33 0), some (v_i a1), some (v_i a2), some (v_i a3), some (v_i a4), some (v_i a5), some (v_i a6), some (v_i x1)] [v_i a4] m2))) else (none)) := (kd_unf [3, 6] 40).trans rfl
set_option maxRecDepth 20000 in
theorem ke128_6 (d : Nat) (a1 : Int) (a2 : Int) (a3 : Int) (o4 : Option mj_V) (a5 : Int) (a6 : Int) (a7 : Int) (s0 : Int) (μ : mj_M) : kd d 128 6 [some (v_r 33 0), some (v_i a1), some (v_i a2), some (v_i a3), o4, some (v_i a5), some (v_i a6), some (v_i a7)] [v_i s0] μ = if a6 = 0 then (kd d 128 3 [some (v_r 33 0), some (v_i a1), some (v_i a2), some (v_i a3), some (v_i s0), some (v_i a7), some (v_i (mj_w (a6 + 10))), none] [] μ) else (if a7 < a5 then (kd d 128 3 [some (v_r 33 0), some (v_i a1), some (v_i a2), some (v_i a3), some (v_i s0), some (v_i a7), some (v_i (mj_w (a6 + 10))), none] [] μ) else (kd d 128 3 [some (v_r 33 0), some (v_i a1), some (v_i a2), some (v_i a3), some (v_i s0), some (v_i a5), some (v_i (mj_w (a6 + 10))), none] [] μ)) := (kd_unf [3, 6] 40).trans rfl
-- 129 NumbersCalledModel.stop(I)I
set_option maxRecDepth 20000 in
theorem ke129_0 (d : Nat) (p1 : Int) (μ : mj_M) : kc (d + 1) 129 [v_r 33 0, v_i p1] μ = mj_rI (kc d 72 [v_i p1, v_i 0, v_i 999] μ) fun x1 m2 => if x1 = 0 then (some (some (v_i (-2)), m2)) else (kd d 129 2 [some (v_r 33 0), some (v_i p1), some (v_i (m2 33 0 4)), some (v_i (-1)), some (v_i 120)] [] m2) := (kd_unf [2] 40).trans rfl
set_option maxRecDepth 20000 in
theorem ke129_2 (d : Nat) (a1 : Int) (a2 : Int) (a3 : Int) (a4 : Int) (μ : mj_M) : kd d 129 2 [some (v_r 33 0), some (v_i a1), some (v_i a2), some (v_i a3), some (v_i a4)] [] μ = if a4 < 0 then (some (some (v_i a3), mj_up μ 33 0 4 a2)) else (if a3 = (-1) then (mj_rV (kc d 112 [v_r 33 0] (mj_up μ 33 0 4 a4)) fun m1 => mj_rI (kc d 117 [v_r 33 0] m1) fun x2 m3 => if a1 < x2 then (kd d 129 2 [some (v_r 33 0), some (v_i a1), some (v_i a2), some (v_i (-1)), some (v_i (mj_w (a4 + (-1))))] [] m3) else (mj_rI (kc d 115 [v_r 33 0, v_i 1] m3) fun x4 m5 => if x4 = 0 then (kd d 129 2 [some (v_r 33 0), some (v_i a1), some (v_i a2), some (v_i a4), some (v_i (mj_w (a4 + (-1))))] [] m5) else (kd d 129 2 [some (v_r 33 0), some (v_i a1), some (v_i a2), some (v_i (-1)), some (v_i (mj_w (a4 + (-1))))] [] m5))) else (some (some (v_i a3), mj_up μ 33 0 4 a2))) := (kd_unf [2] 40).trans rfl
-- 130 NumbersCalledModel.call(I)I
set_option maxRecDepth 20000 in
theorem ke130_0 (d : Nat) (p1 : Int) (μ : mj_M) : kc (d + 1) 130 [v_r 33 0, v_i p1] μ = mj_rI (kc d 72 [v_i p1, v_i 0, v_i 1] μ) fun x1 m2 => if x1 = 0 then (some (some (v_i (-2)), m2)) else (kd d 130 2 [some (v_r 33 0), some (v_i p1), some (v_i (m2 33 0 3)), some (v_i 0), some (v_i 0), some (v_i 1), none] [] m2) := (kd_unf [2, 5] 40).trans rfl
set_option maxRecDepth 20000 in
theorem ke130_2 (d : Nat) (a1 : Int) (a2 : Int) (a3 : Int) (a4 : Int) (a5 : Int) (o6 : Option mj_V) (μ : mj_M) : kd d 130 2 [some (v_r 33 0), some (v_i a1), some (v_i a2), some (v_i a3), some (v_i a4), some (v_i a5), o6] [] μ = if 9 < a5 then (if a1 = 0 then (some (some (v_i a3), mj_up μ 33 0 3 a2)) else (some (some (v_i a4), mj_up μ 33 0 3 a2))) else (mj_rI (kc d 122 [v_r 33 0] (mj_up μ 33 0 3 a5)) fun x1 m2 => if a5 = 1 then (kd d 130 5 [some (v_r 33 0), some (v_i a1), some (v_i a2), none, some (v_i a4), some (v_i a5), some (v_i x1)] [v_i a5] m2) else (if x1 < a4 then (kd d 130 5 [some (v_r 33 0), some (v_i a1), some (v_i a2), none, some (v_i a4), some (v_i a5), some (v_i x1)] [v_i a5] m2) else (kd d 130 5 [some (v_r 33 0), some (v_i a1), some (v_i a2), some (v_i a3), some (v_i a4), some (v_i a5), some (v_i x1)] [v_i a3] m2))) := (kd_unf [2, 5] 40).trans rfl
set_option maxRecDepth 20000 in
theorem ke130_5 (d : Nat) (a1 : Int) (a2 : Int) (o3 : Option mj_V) (a4 : Int) (a5 : Int) (a6 : Int) (s0 : Int) (μ : mj_M) : kd d 130 5 [some (v_r 33 0), some (v_i a1), some (v_i a2), o3, some (v_i a4), some (v_i a5), some (v_i a6)] [v_i s0] μ = if a5 = 1 then (kd d 130 2 [some (v_r 33 0), some (v_i a1), some (v_i a2), some (v_i s0), some (v_i a6), some (v_i (mj_w (a5 + 1))), none] [] μ) else (if a6 < a4 then (kd d 130 2 [some (v_r 33 0), some (v_i a1), some (v_i a2), some (v_i s0), some (v_i a6), some (v_i (mj_w (a5 + 1))), none] [] μ) else (kd d 130 2 [some (v_r 33 0), some (v_i a1), some (v_i a2), some (v_i s0), some (v_i a4), some (v_i (mj_w (a5 + 1))), none] [] μ)) := (kd_unf [2, 5] 40).trans rfl
-- 131 NumbersCalledModel.waitsBut(I)I
set_option maxRecDepth 20000 in
theorem ke131_0 (d : Nat) (p1 : Int) (μ : mj_M) : kc (d + 1) 131 [v_r 33 0, v_i p1] μ = mj_rV (kc d 112 [v_r 33 0] μ) fun m1 => kd d 131 1 [some (v_r 33 0), some (v_i p1), some (v_i 0), some (v_i 0), none] [] m1 := (kd_unf [1, 2, 5] 40).trans rfl
set_option maxRecDepth 20000 in
theorem ke131_1 (d : Nat) (a1 : Int) (a2 : Int) (a3 : Int) (o4 : Option mj_V) (μ : mj_M) : kd d 131 1 [some (v_r 33 0), some (v_i a1), some (v_i a2), some (v_i a3), o4] [] μ = if a3 < (μ 33 0 5) then (if a1 = 2 then (kd d 131 5 [some (v_r 33 0), some (v_i a1), some (v_i a2), some (v_i a3), none] [v_i 1] μ) else (if a1 = 1 then (if 0 ≤ a3 ∧ a3 < 17 then (if (μ 35 0 a3.toNat) = 4 then (kd d 131 2 [some (v_r 33 0), some (v_i a1), some (v_i a2), some (v_i a3), none] [] μ) else (kd d 131 5 [some (v_r 33 0), some (v_i a1), some (v_i a2), some (v_i a3), none] [v_i 1] μ)) else (none)) else (kd d 131 2 [some (v_r 33 0), some (v_i a1), some (v_i a2), some (v_i a3), none] [] μ))) else (some (some (v_i a2), μ)) := (kd_unf [1, 2, 5] 40).trans rfl
set_option maxRecDepth 20000 in
theorem ke131_2 (d : Nat) (a1 : Int) (a2 : Int) (a3 : Int) (o4 : Option mj_V) (μ : mj_M) : kd d 131 2 [some (v_r 33 0), some (v_i a1), some (v_i a2), some (v_i a3), o4] [] μ = if a1 = 3 then (if 0 ≤ a3 ∧ a3 < 17 then (if (μ 35 0 a3.toNat) = 3 then (kd d 131 5 [some (v_r 33 0), some (v_i a1), some (v_i a2), some (v_i a3), none] [v_i 0] μ) else (kd d 131 5 [some (v_r 33 0), some (v_i a1), some (v_i a2), some (v_i a3), none] [v_i 1] μ)) else (none)) else (kd d 131 5 [some (v_r 33 0), some (v_i a1), some (v_i a2), some (v_i a3), none] [v_i 0] μ) := (kd_unf [1, 2, 5] 40).trans rfl
set_option maxRecDepth 20000 in
theorem ke131_5 (d : Nat) (a1 : Int) (a2 : Int) (a3 : Int) (o4 : Option mj_V) (s0 : Int) (μ : mj_M) : kd d 131 5 [some (v_r 33 0), some (v_i a1), some (v_i a2), some (v_i a3), o4] [v_i s0] μ = if s0 = 0 then (kd d 131 1 [some (v_r 33 0), some (v_i a1), some (v_i (mj_w (a2 + 0))), some (v_i (mj_w (a3 + 1))), none] [] μ) else (if 0 ≤ a3 ∧ a3 < 17 then (if (μ 53 0 a3.toNat) = 2 then (mj_rI (kc d 113 [v_r 33 0, v_i a3] μ) fun x1 m2 => kd d 131 1 [some (v_r 33 0), some (v_i a1), some (v_i (mj_w (a2 + x1))), some (v_i (mj_w (a3 + 1))), none] [] m2) else (kd d 131 1 [some (v_r 33 0), some (v_i a1), some (v_i (mj_w (a2 + 0))), some (v_i (mj_w (a3 + 1))), none] [] μ)) else (none)) := (kd_unf [1, 2, 5] 40).trans rfl
-- 132 NumbersCalledModel.pay(I)I
set_option maxRecDepth 20000 in
theorem ke132_0 (d : Nat) (p1 : Int) (μ : mj_M) : kc (d + 1) 132 [v_r 33 0, v_i p1] μ = mj_rI (kc d 72 [v_i p1, v_i 1, v_i 3] μ) fun x1 m2 => if x1 = 0 then (some (some (v_i (-2)), m2)) else (mj_rI (kc d 131 [v_r 33 0, v_i p1] (mj_up m2 33 0 2 p1)) fun x3 m4 => mj_rI (kc d 131 [v_r 33 0, v_i p1] (mj_up m4 33 0 2 0)) fun x5 m6 => some (some (v_i (mj_w (x3 - x5))), mj_up m6 33 0 2 (m2 33 0 2))) := (kd_unf [] 40).trans rfl
-- 133 NumbersCalledModel.door(I)I
set_option maxRecDepth 20000 in
theorem ke133_0 (d : Nat) (p1 : Int) (μ : mj_M) : kc (d + 1) 133 [v_r 33 0, v_i p1] μ = mj_rI (kc d 72 [v_i p1, v_i 0, v_i 1] μ) fun x1 m2 => if x1 = 0 then (some (some (v_i (-2)), m2)) else (mj_rI (kc d 122 [v_r 33 0] m2) fun x3 m4 => if p1 = 0 then (if p1 = 1 then (kd d 133 5 [some (v_r 33 0), some (v_i p1), some (v_i x3), none] [v_i 1, v_r 33 0] (mj_up m4 33 0 41 1)) else (kd d 133 5 [some (v_r 33 0), none, some (v_i x3), none] [v_i 0, v_r 33 0] (mj_up m4 33 0 41 1))) else (if p1 = 1 then (kd d 133 5 [some (v_r 33 0), some (v_i p1), some (v_i x3), none] [v_i 1, v_r 33 0] (mj_up m4 33 0 41 0)) else (kd d 133 5 [some (v_r 33 0), none, some (v_i x3), none] [v_i 0, v_r 33 0] (mj_up m4 33 0 41 0)))) := (kd_unf [5] 40).trans rfl
set_option maxRecDepth 20000 in
theorem ke133_5 (d : Nat) (o1 : Option mj_V) (a2 : Int) (o3 : Option mj_V) (s0 : Int) (μ : mj_M) : kd d 133 5 [some (v_r 33 0), o1, some (v_i a2), o3] [v_i s0, v_r 33 0] μ = if s0 = 0 ∨ s0 = 1 then (mj_rI (kc d 122 [v_r 33 0] (mj_up μ 33 0 50 s0)) fun x1 m2 => some (some (v_i (mj_w (a2 - x1))), mj_up (mj_up m2 33 0 41 0) 33 0 50 0)) else (none) := (kd_unf [5] 40).trans rfl
-- 134 NumbersCalledModel.say(I)I
set_option maxRecDepth 20000 in
theorem ke134_0 (d : Nat) (p1 : Int) (μ : mj_M) : kc (d + 1) 134 [v_r 33 0, v_i p1] μ = mj_rI (kc d 72 [v_i p1, v_i 0, v_i 1] μ) fun x1 m2 => if x1 = 0 then (some (some (v_i (-2)), m2)) else (mj_rV (kc d 112 [v_r 33 0] m2) fun m3 => kd d 134 2 [some (v_r 33 0), some (v_i p1), some (v_i 0), some (v_i 0), some (v_i 0), none, none] [] m3) := (kd_unf [2, 3, 9] 40).trans rfl
set_option maxRecDepth 20000 in
theorem ke134_2 (d : Nat) (a1 : Int) (a2 : Int) (a3 : Int) (a4 : Int) (o5 : Option mj_V) (o6 : Option mj_V) (μ : mj_M) : kd d 134 2 [some (v_r 33 0), some (v_i a1), some (v_i a2), some (v_i a3), some (v_i a4), o5, o6] [] μ = if 60 < a4 then (if a1 = 0 then (some (some (v_i a2), μ)) else (some (some (v_i a3), μ))) else (kd d 134 3 [some (v_r 33 0), some (v_i a1), some (v_i a2), some (v_i a3), some (v_i a4), some (v_i 0), some (v_i 0)] [] μ) := (kd_unf [2, 3, 9] 40).trans rfl
set_option maxRecDepth 20000 in
theorem ke134_3 (d : Nat) (a1 : Int) (a2 : Int) (a3 : Int) (a4 : Int) (a5 : Int) (a6 : Int) (μ : mj_M) : kd d 134 3 [some (v_r 33 0), some (v_i a1), some (v_i a2), some (v_i a3), some (v_i a4), some (v_i a5), some (v_i a6)] [] μ = if a6 < (μ 33 0 5) then (if 0 ≤ a6 ∧ a6 < 17 then (if (μ 53 0 a6.toNat) = 2 then (mj_rI (kc d 113 [v_r 33 0, v_i a6] μ) fun x1 m2 => mj_rI (kc d 98 [v_r 33 0, v_i 2, v_i a6, v_i 0, v_i x1, v_i a4] m2) fun x3 m4 => kd d 134 3 [some (v_r 33 0), some (v_i a1), some (v_i a2), some (v_i a3), some (v_i a4), some (v_i (mj_w (a5 + x3))), some (v_i (mj_w (a6 + 1)))] [] m4) else (kd d 134 3 [some (v_r 33 0), some (v_i a1), some (v_i a2), some (v_i a3), some (v_i a4), some (v_i (mj_w (a5 + 0))), some (v_i (mj_w (a6 + 1)))] [] μ)) else (none)) else (if a4 = 0 then (kd d 134 9 [some (v_r 33 0), some (v_i a1), none, some (v_i a3), some (v_i a4), some (v_i a5), none] [v_i a4] μ) else (if a5 < a3 then (kd d 134 9 [some (v_r 33 0), some (v_i a1), none, some (v_i a3), some (v_i a4), some (v_i a5), none] [v_i a4] μ) else (kd d 134 9 [some (v_r 33 0), some (v_i a1), some (v_i a2), some (v_i a3), some (v_i a4), some (v_i a5), none] [v_i a2] μ))) := (kd_unf [2, 3, 9] 40).trans rfl
set_option maxRecDepth 20000 in
theorem ke134_9 (d : Nat) (a1 : Int) (o2 : Option mj_V) (a3 : Int) (a4 : Int) (a5 : Int) (o6 : Option mj_V) (s0 : Int) (μ : mj_M) : kd d 134 9 [some (v_r 33 0), some (v_i a1), o2, some (v_i a3), some (v_i a4), some (v_i a5), o6] [v_i s0] μ = if a4 = 0 then (kd d 134 2 [some (v_r 33 0), some (v_i a1), some (v_i s0), some (v_i a5), some (v_i (mj_w (a4 + 5))), none, none] [] μ) else (if a5 < a3 then (kd d 134 2 [some (v_r 33 0), some (v_i a1), some (v_i s0), some (v_i a5), some (v_i (mj_w (a4 + 5))), none, none] [] μ) else (kd d 134 2 [some (v_r 33 0), some (v_i a1), some (v_i s0), some (v_i a3), some (v_i (mj_w (a4 + 5))), none, none] [] μ)) := (kd_unf [2, 3, 9] 40).trans rfl
-- 135 NumbersCalledModel.badFor(I)I
set_option maxRecDepth 20000 in
theorem ke135_0 (d : Nat) (p1 : Int) (μ : mj_M) : kc (d + 1) 135 [v_r 33 0, v_i p1] μ = mj_rV (kc d 112 [v_r 33 0] μ) fun m1 => if 0 ≤ p1 ∧ p1 < 17 then (if (m1 53 0 p1.toNat) = 2 then (mj_rI (kc d 113 [v_r 33 0, v_i p1] m1) fun x2 m3 => some (some (v_i x2), m3)) else (some (some (v_i 120), m1))) else (none) := (kd_unf [] 40).trans rfl
-- 136 NumbersCalledModel.bestFor(I)I
set_option maxRecDepth 20000 in
theorem ke136_0 (d : Nat) (p1 : Int) (μ : mj_M) : kc (d + 1) 136 [v_r 33 0, v_i p1] μ = if 0 ≤ p1 ∧ p1 < 17 then (kd d 136 1 [some (v_r 33 0), some (v_i p1), some (v_i (μ 39 0 p1.toNat)), some (v_i 0), some (v_i 0), none] [] μ) else (none) := (kd_unf [1, 4] 40).trans rfl
set_option maxRecDepth 20000 in
theorem ke136_1 (d : Nat) (a1 : Int) (a2 : Int) (a3 : Int) (a4 : Int) (o5 : Option mj_V) (μ : mj_M) : kd d 136 1 [some (v_r 33 0), some (v_i a1), some (v_i a2), some (v_i a3), some (v_i a4), o5] [] μ = if 100 < a4 then (if 0 ≤ a1 ∧ a1 < 17 then (some (some (v_i a3), mj_up μ 39 0 a1.toNat a2)) else (none)) else (if 0 ≤ a1 ∧ a1 < 17 then (mj_rI (kc d 135 [v_r 33 0, v_i a1] (mj_up μ 39 0 a1.toNat a4)) fun x1 m2 => if a4 = 0 then (kd d 136 4 [some (v_r 33 0), some (v_i a1), some (v_i a2), none, some (v_i a4), some (v_i x1)] [v_i a4] m2) else (if x1 < (m2 33 0 51) then (kd d 136 4 [some (v_r 33 0), some (v_i a1), some (v_i a2), none, some (v_i a4), some (v_i x1)] [v_i a4] m2) else (kd d 136 4 [some (v_r 33 0), some (v_i a1), some (v_i a2), some (v_i a3), some (v_i a4), some (v_i x1)] [v_i a3] m2))) else (none)) := (kd_unf [1, 4] 40).trans rfl
set_option maxRecDepth 20000 in
theorem ke136_4 (d : Nat) (a1 : Int) (a2 : Int) (o3 : Option mj_V) (a4 : Int) (a5 : Int) (s0 : Int) (μ : mj_M) : kd d 136 4 [some (v_r 33 0), some (v_i a1), some (v_i a2), o3, some (v_i a4), some (v_i a5)] [v_i s0] μ = if a4 = 0 then (kd d 136 1 [some (v_r 33 0), some (v_i a1), some (v_i a2), some (v_i s0), some (v_i (mj_w (a4 + 20))), none] [] (mj_up μ 33 0 51 a5)) else (if a5 < (μ 33 0 51) then (kd d 136 1 [some (v_r 33 0), some (v_i a1), some (v_i a2), some (v_i s0), some (v_i (mj_w (a4 + 20))), none] [] (mj_up μ 33 0 51 a5)) else (kd d 136 1 [some (v_r 33 0), some (v_i a1), some (v_i a2), some (v_i s0), some (v_i (mj_w (a4 + 20))), none] [] (mj_up μ 33 0 51 (μ 33 0 51)))) := (kd_unf [1, 4] 40).trans rfl
-- 137 NumbersCalledModel.best(II)I
set_option maxRecDepth 20000 in
theorem ke137_0 (d : Nat) (p1 : Int) (p2 : Int) (μ : mj_M) : kc (d + 1) 137 [v_r 33 0, v_i p1, v_i p2] μ = mj_rI (kc d 75 [v_r 33 0, v_i p1] μ) fun x1 m2 => if x1 = 0 then (some (some (v_i (-5)), m2)) else (mj_rI (kc d 72 [v_i p2, v_i 0, v_i 1] m2) fun x3 m4 => if x3 = 0 then (some (some (v_i (-7)), m4)) else (mj_rI (kc d 136 [v_r 33 0, v_i p1] m4) fun x5 m6 => if p2 = 0 then (some (some (v_i x5), m6)) else (some (some (v_i (m6 33 0 51)), m6)))) := (kd_unf [] 40).trans rfl
-- 138 NumbersCalledModel.uneasy()I
set_option maxRecDepth 20000 in
theorem ke138_0 (d : Nat)  (μ : mj_M) : kc (d + 1) 138 [v_r 33 0] μ = kd d 138 1 [some (v_r 33 0), some (v_i 0), some (v_i 0), none] [] μ := (kd_unf [1] 40).trans rfl
set_option maxRecDepth 20000 in
theorem ke138_1 (d : Nat) (a1 : Int) (a2 : Int) (o3 : Option mj_V) (μ : mj_M) : kd d 138 1 [some (v_r 33 0), some (v_i a1), some (v_i a2), o3] [] μ = if a2 < (μ 33 0 5) then (mj_rI (kc d 136 [v_r 33 0, v_i a2] μ) fun x1 m2 => mj_rI (kc d 135 [v_r 33 0, v_i a2] m2) fun x3 m4 => if (m2 33 0 51) < x3 then (if (0 : Int) ≤ a2 ∧ a2 < (32 : Int) then (if (0 : Int) ≤ a1 ∧ (0 : Int) ≤ (mj_w (1 * 2 ^ a2.toNat)) then (kd d 138 1 [some (v_r 33 0), some (v_i ((a1.toNat ||| (mj_w (1 * 2 ^ a2.toNat)).toNat : Nat) : Int)), some (v_i (mj_w (a2 + 1))), none] [] m4) else (none)) else (none)) else (if (0 : Int) ≤ a1 ∧ (0 : Int) ≤ 0 then (kd d 138 1 [some (v_r 33 0), some (v_i ((a1.toNat ||| 0 : Nat) : Int)), some (v_i (mj_w (a2 + 1))), none] [] m4) else (none))) else (some (some (v_i a1), μ)) := (kd_unf [1] 40).trans rfl
-- 139 NumbersCalledModel.rests(I)I
set_option maxRecDepth 20000 in
theorem ke139_0 (d : Nat) (p1 : Int) (μ : mj_M) : kc (d + 1) 139 [v_r 33 0, v_i p1] μ = mj_rI (kc d 72 [v_i p1, v_i 0, v_i 5] μ) fun x1 m2 => if x1 = 0 then (some (some (v_i (-2)), m2)) else (kd d 139 2 [some (v_r 33 0), some (v_i p1), some (v_i 0), some (v_i 1), some (v_i 0), none, none, none] [] m2) := (kd_unf [2, 3] 40).trans rfl
set_option maxRecDepth 20000 in
theorem ke139_2 (d : Nat) (a1 : Int) (a2 : Int) (a3 : Int) (a4 : Int) (o5 : Option mj_V) (o6 : Option mj_V) (o7 : Option mj_V) (μ : mj_M) : kd d 139 2 [some (v_r 33 0), some (v_i a1), some (v_i a2), some (v_i a3), some (v_i a4), o5, o6, o7] [] μ = if a4 < a1 then (if a3 = 0 then (some (some (v_i a2), μ)) else (kd d 139 3 [some (v_r 33 0), some (v_i a1), some (v_i a2), some (v_i 0), some (v_i a4), some (v_i 0), none, none] [] μ)) else (some (some (v_i a2), μ)) := (kd_unf [2, 3] 40).trans rfl
set_option maxRecDepth 20000 in
theorem ke139_3 (d : Nat) (a1 : Int) (a2 : Int) (a3 : Int) (a4 : Int) (a5 : Int) (o6 : Option mj_V) (o7 : Option mj_V) (μ : mj_M) : kd d 139 3 [some (v_r 33 0), some (v_i a1), some (v_i a2), some (v_i a3), some (v_i a4), some (v_i a5), o6, o7] [] μ = if a5 < (μ 33 0 5) then (mj_rI (kc d 136 [v_r 33 0, v_i a5] μ) fun x1 m2 => mj_rI (kc d 135 [v_r 33 0, v_i a5] m2) fun x3 m4 => if (m2 33 0 51) < x3 then (if 0 ≤ a5 ∧ a5 < 17 then (kd d 139 3 [some (v_r 33 0), some (v_i a1), some (v_i (mj_w (a2 + 1))), some (v_i 1), some (v_i a4), some (v_i (mj_w (a5 + 1))), none, none] [] (mj_up m4 39 0 a5.toNat x1)) else (none)) else (kd d 139 3 [some (v_r 33 0), some (v_i a1), some (v_i a2), some (v_i a3), some (v_i a4), some (v_i (mj_w (a5 + 1))), none, none] [] m4)) else (kd d 139 2 [some (v_r 33 0), some (v_i a1), some (v_i a2), some (v_i a3), some (v_i (mj_w (a4 + 1))), none, none, none] [] μ) := (kd_unf [2, 3] 40).trans rfl
-- 140 NumbersCalledModel.when(III)I
set_option maxRecDepth 20000 in
theorem ke140_0 (d : Nat) (p1 : Int) (p2 : Int) (p3 : Int) (μ : mj_M) : kc (d + 1) 140 [v_r 33 0, v_i p1, v_i p2, v_i p3] μ = mj_rI (kc d 72 [v_i p1, v_i 0, v_i 3] μ) fun x1 m2 => if x1 = 0 then (some (some (v_i (-2)), m2)) else (mj_rI (kc d 72 [v_i p2, v_i 1, v_i 99] m2) fun x3 m4 => if x3 = 0 then (some (some (v_i (-2)), m4)) else (mj_rI (kc d 72 [v_i p3, v_i 0, v_i 1] m4) fun x5 m6 => if x5 = 0 then (some (some (v_i (-2)), m6)) else (if (m6 33 0 5) = 16 then (some (some (v_i (-3)), m6)) else (mj_rV (kc d 100 [v_r 33 0, v_i 0, v_i (mj_w ((mj_w ((mj_w (1000 * p1)) + (mj_w (10 * p2)))) + 9)), v_i 0] m6) fun m7 => mj_rI (kc d 136 [v_r 33 0, v_i (mj_w ((mj_w ((m7 33 0 5) + 1)) - 1))] (mj_up m7 33 0 5 (mj_w ((m7 33 0 5) + 1)))) fun x8 m9 => if p3 = 0 then (some (some (v_i x8), mj_up m9 33 0 5 (mj_w ((m9 33 0 5) - 1)))) else (some (some (v_i (m9 33 0 51)), mj_up m9 33 0 5 (mj_w ((m9 33 0 5) - 1)))))))) := (kd_unf [] 40).trans rfl
-- 141 NumbersCalledModel.overOf(III)J
set_option maxRecDepth 20000 in
theorem ke141_0 (d : Nat) (p1 : Int) (p2 : Int) (p3 : Int) (μ : mj_M) : kc (d + 1) 141 [v_r 33 0, v_i p1, v_i p2, v_i p3] μ = kd d 141 1 [some (v_r 33 0), some (v_i p1), some (v_i p2), some (v_i p3), some (v_i 0), none, none] [] μ := (kd_unf [1, 5, 6, 9] 40).trans rfl
set_option maxRecDepth 20000 in
theorem ke141_1 (d : Nat) (a1 : Int) (a2 : Int) (a3 : Int) (a4 : Int) (o5 : Option mj_V) (o6 : Option mj_V) (μ : mj_M) : kd d 141 1 [some (v_r 33 0), some (v_i a1), some (v_i a2), some (v_i a3), some (v_i a4), o5, o6] [] μ = if 40 < a4 then (kd d 141 5 [some (v_r 33 0), some (v_i a1), some (v_i a2), some (v_i a3), some (v_i 0), none, none] [] μ) else (if a4 = 0 then (if 0 ≤ a4 ∧ a4 < 41 then (kd d 141 1 [some (v_r 33 0), some (v_i a1), some (v_i a2), some (v_i a3), some (v_i (mj_w (a4 + 1))), none, none] [] (mj_up μ 61 0 a4.toNat 1000000000)) else (none)) else (if 0 ≤ a4 ∧ a4 < 41 then (kd d 141 1 [some (v_r 33 0), some (v_i a1), some (v_i a2), some (v_i a3), some (v_i (mj_w (a4 + 1))), none, none] [] (mj_up μ 61 0 a4.toNat 0)) else (none))) := (kd_unf [1, 5, 6, 9] 40).trans rfl
set_option maxRecDepth 20000 in
theorem ke141_5 (d : Nat) (a1 : Int) (a2 : Int) (a3 : Int) (a4 : Int) (o5 : Option mj_V) (o6 : Option mj_V) (μ : mj_M) : kd d 141 5 [some (v_r 33 0), some (v_i a1), some (v_i a2), some (v_i a3), some (v_i a4), o5, o6] [] μ = if a4 < a1 then (kd d 141 6 [some (v_r 33 0), some (v_i a1), some (v_i a2), some (v_i a3), some (v_i a4), some (v_i 40), none] [] μ) else (kd d 141 9 [some (v_r 33 0), none, none, some (v_i a3), some (v_l 0), none, some (v_i (mj_w (a3 + 1)))] [] μ) := (kd_unf [1, 5, 6, 9] 40).trans rfl
set_option maxRecDepth 20000 in
theorem ke141_6 (d : Nat) (a1 : Int) (a2 : Int) (a3 : Int) (a4 : Int) (a5 : Int) (o6 : Option mj_V) (μ : mj_M) : kd d 141 6 [some (v_r 33 0), some (v_i a1), some (v_i a2), some (v_i a3), some (v_i a4), some (v_i a5), o6] [] μ = if 0 < a5 then (if 0 ≤ a5 ∧ a5 < 41 then (if 0 ≤ (mj_w (a5 - 1)) ∧ (mj_w (a5 - 1)) < 41 then (if 0 ≤ a5 ∧ a5 < 41 then (kd d 141 6 [some (v_r 33 0), some (v_i a1), some (v_i a2), some (v_i a3), some (v_i a4), some (v_i (mj_w (a5 + (-1)))), none] [] (mj_up μ 61 0 a5.toNat (mj_x ((mj_x ((mj_x ((μ 61 0 a5.toNat) * (mj_w (100 - a2)))).tdiv 100)) + (mj_x ((mj_x ((μ 61 0 ((mj_w (a5 - 1)).toNat)) * a2)).tdiv 100)))))) else (none)) else (none)) else (none)) else (kd d 141 5 [some (v_r 33 0), some (v_i a1), some (v_i a2), some (v_i a3), some (v_i (mj_w (a4 + 1))), none, none] [] (mj_up μ 61 0 0 (mj_x ((mj_x ((μ 61 0 0) * (mj_w (100 - a2)))).tdiv 100)))) := (kd_unf [1, 5, 6, 9] 40).trans rfl
set_option maxRecDepth 20000 in
theorem ke141_9 (d : Nat) (o1 : Option mj_V) (o2 : Option mj_V) (o3 : Option mj_V) (a4 : Int) (o5 : Option mj_V) (a6 : Int) (μ : mj_M) : kd d 141 9 [some (v_r 33 0), o1, o2, o3, some (v_l a4), o5, some (v_i a6)] [] μ = if 40 < a6 then (some (some (v_l a4), μ)) else (if 0 ≤ a6 ∧ a6 < 41 then (kd d 141 9 [some (v_r 33 0), none, none, none, some (v_l (mj_x (a4 + (μ 61 0 a6.toNat)))), none, some (v_i (mj_w (a6 + 1)))] [] μ) else (none)) := (kd_unf [1, 5, 6, 9] 40).trans rfl
-- 142 NumbersCalledModel.over(III)J
set_option maxRecDepth 20000 in
theorem ke142_0 (d : Nat) (p1 : Int) (p2 : Int) (p3 : Int) (μ : mj_M) : kc (d + 1) 142 [v_r 33 0, v_i p1, v_i p2, v_i p3] μ = mj_rI (kc d 72 [v_i p1, v_i 0, v_i 40] μ) fun x1 m2 => if x1 = 0 then (some (some (v_l (-4611686018427387904)), m2)) else (mj_rI (kc d 72 [v_i p2, v_i 0, v_i 100] m2) fun x3 m4 => if x3 = 0 then (some (some (v_l (-4611686018427387904)), m4)) else (mj_rI (kc d 72 [v_i p3, v_i 0, v_i 40] m4) fun x5 m6 => if x5 = 0 then (some (some (v_l (-4611686018427387904)), m6)) else (mj_rL (kc d 141 [v_r 33 0, v_i p1, v_i p2, v_i p3] m6) fun x7 m8 => some (some (v_l x7), m8)))) := (kd_unf [] 40).trans rfl
-- 143 NumbersCalledModel.give(III)I
set_option maxRecDepth 20000 in
theorem ke143_0 (d : Nat) (p1 : Int) (p2 : Int) (p3 : Int) (μ : mj_M) : kc (d + 1) 143 [v_r 33 0, v_i p1, v_i p2, v_i p3] μ = mj_rI (kc d 72 [v_i p1, v_i 0, v_i 100] μ) fun x1 m2 => if x1 = 0 then (some (some (v_i (-2)), m2)) else (mj_rI (kc d 72 [v_i p2, v_i 0, v_i 40] m2) fun x3 m4 => if x3 = 0 then (some (some (v_i (-2)), m4)) else (mj_rI (kc d 72 [v_i p3, v_i 0, v_i 1000] m4) fun x5 m6 => if x5 = 0 then (some (some (v_i (-2)), m6)) else (kd d 143 3 [some (v_r 33 0), some (v_i p1), some (v_i p2), some (v_i p3), some (v_i 40)] [] m6))) := (kd_unf [3] 40).trans rfl
set_option maxRecDepth 20000 in
theorem ke143_3 (d : Nat) (a1 : Int) (a2 : Int) (a3 : Int) (a4 : Int) (μ : mj_M) : kd d 143 3 [some (v_r 33 0), some (v_i a1), some (v_i a2), some (v_i a3), some (v_i a4)] [] μ = if 0 < a4 then (mj_rL (kc d 141 [v_r 33 0, v_i a4, v_i a1, v_i a2] μ) fun x1 m2 => if x1 < (mj_x (1000000 * a3)) then (some (some (v_i a4), m2)) else if x1 = (mj_x (1000000 * a3)) then (some (some (v_i a4), m2)) else (kd d 143 3 [some (v_r 33 0), some (v_i a1), some (v_i a2), some (v_i a3), some (v_i (mj_w (a4 + (-1))))] [] m2)) else (some (some (v_i 0), μ)) := (kd_unf [3] 40).trans rfl
-- 144 NumbersCalledModel.rollWrong(I)I
set_option maxRecDepth 20000 in
theorem ke144_0 (d : Nat) (p1 : Int) (μ : mj_M) : kc (d + 1) 144 [v_r 33 0, v_i p1] μ = mj_rI (kc d 72 [v_i p1, v_i 0, v_i 3] μ) fun x1 m2 => if x1 = 0 then (some (some (v_i (-2)), m2)) else (if 0 ≤ p1 ∧ p1 < 4 then (if (m2 45 0 p1.toNat) = (-1) then (some (some (v_i (-11)), m2)) else (if 0 ≤ p1 ∧ p1 < 4 then (if (m2 46 0 p1.toNat) = (m2 33 0 5) then (some (some (v_i 0), m2)) else (some (some (v_i (-2)), m2))) else (none))) else (none)) := (kd_unf [] 40).trans rfl
-- 145 NumbersCalledModel.unlike(I)I
set_option maxRecDepth 20000 in
theorem ke145_0 (d : Nat) (p1 : Int) (μ : mj_M) : kc (d + 1) 145 [v_r 33 0, v_i p1] μ = mj_rV (kc d 112 [v_r 33 0] μ) fun m1 => kd d 145 1 [some (v_r 33 0), some (v_i p1), some (v_i 0)] [] m1 := (kd_unf [1] 40).trans rfl
set_option maxRecDepth 20000 in
theorem ke145_1 (d : Nat) (a1 : Int) (a2 : Int) (μ : mj_M) : kd d 145 1 [some (v_r 33 0), some (v_i a1), some (v_i a2)] [] μ = if a2 < (μ 33 0 5) then (if 0 ≤ (mj_w ((mj_w (40 * a1)) + a2)) ∧ (mj_w ((mj_w (40 * a1)) + a2)) < 160 then (if 0 ≤ a2 ∧ a2 < 17 then (if (μ 47 0 ((mj_w ((mj_w (40 * a1)) + a2)).toNat)) = (μ 56 0 a2.toNat) then (kd d 145 1 [some (v_r 33 0), some (v_i a1), some (v_i (mj_w (a2 + 1)))] [] μ) else (some (some (v_i a2), μ))) else (none)) else (none)) else (some (some (v_i (-1)), μ)) := (kd_unf [1] 40).trans rfl
-- 146 NumbersCalledModel.judge(I)I
set_option maxRecDepth 20000 in
theorem ke146_0 (d : Nat) (p1 : Int) (μ : mj_M) : kc (d + 1) 146 [v_r 33 0, v_i p1] μ = mj_rI (kc d 144 [v_r 33 0, v_i p1] μ) fun x1 m2 => if x1 = 0 then (mj_rI (kc d 145 [v_r 33 0, v_i p1] m2) fun x3 m4 => some (some (v_i x3), m4)) else (some (some (v_i x1), m2)) := (kd_unf [] 40).trans rfl
-- 147 NumbersCalledModel.laws(I)I
set_option maxRecDepth 20000 in
theorem ke147_0 (d : Nat) (p1 : Int) (μ : mj_M) : kc (d + 1) 147 [v_r 33 0, v_i p1] μ = mj_rI (kc d 144 [v_r 33 0, v_i p1] μ) fun x1 m2 => if x1 = 0 then (kd d 147 2 [some (v_r 33 0), some (v_i p1), none, some (v_i (m2 33 0 16)), some (v_i 0), some (v_i 0)] [] m2) else (some (some (v_i x1), m2)) := (kd_unf [2] 40).trans rfl
set_option maxRecDepth 20000 in
theorem ke147_2 (d : Nat) (a1 : Int) (o2 : Option mj_V) (a3 : Int) (a4 : Int) (a5 : Int) (μ : mj_M) : kd d 147 2 [some (v_r 33 0), some (v_i a1), o2, some (v_i a3), some (v_i a4), some (v_i a5)] [] μ = if a5 < (μ 33 0 15) then (mj_rI (kc d 145 [v_r 33 0, v_i a1] (mj_up μ 33 0 16 a5)) fun x1 m2 => if x1 = (-1) then (if (0 : Int) ≤ a5 ∧ a5 < (32 : Int) then (if (0 : Int) ≤ a4 ∧ (0 : Int) ≤ (mj_w (1 * 2 ^ a5.toNat)) then (kd d 147 2 [some (v_r 33 0), some (v_i a1), none, some (v_i a3), some (v_i ((a4.toNat ||| (mj_w (1 * 2 ^ a5.toNat)).toNat : Nat) : Int)), some (v_i (mj_w (a5 + 1)))] [] m2) else (none)) else (none)) else (if (0 : Int) ≤ a4 ∧ (0 : Int) ≤ 0 then (kd d 147 2 [some (v_r 33 0), some (v_i a1), none, some (v_i a3), some (v_i ((a4.toNat ||| 0 : Nat) : Int)), some (v_i (mj_w (a5 + 1)))] [] m2) else (none))) else (some (some (v_i a4), mj_up μ 33 0 16 a3)) := (kd_unf [2] 40).trans rfl
-- 148 NumbersCalledModel.which(I)I
set_option maxRecDepth 20000 in
theorem ke148_0 (d : Nat) (p1 : Int) (μ : mj_M) : kc (d + 1) 148 [v_r 33 0, v_i p1] μ = mj_rI (kc d 144 [v_r 33 0, v_i p1] μ) fun x1 m2 => if x1 = 0 then (kd d 148 2 [some (v_r 33 0), some (v_i p1), none, some (v_i (m2 33 0 2)), some (v_i 0), some (v_i 0)] [] m2) else (some (some (v_i x1), m2)) := (kd_unf [2] 40).trans rfl
set_option maxRecDepth 20000 in
theorem ke148_2 (d : Nat) (a1 : Int) (o2 : Option mj_V) (a3 : Int) (a4 : Int) (a5 : Int) (μ : mj_M) : kd d 148 2 [some (v_r 33 0), some (v_i a1), o2, some (v_i a3), some (v_i a4), some (v_i a5)] [] μ = if a5 < 4 then (mj_rI (kc d 145 [v_r 33 0, v_i a1] (mj_up μ 33 0 2 a5)) fun x1 m2 => if x1 = (-1) then (if (0 : Int) ≤ a5 ∧ a5 < (32 : Int) then (if (0 : Int) ≤ a4 ∧ (0 : Int) ≤ (mj_w (1 * 2 ^ a5.toNat)) then (kd d 148 2 [some (v_r 33 0), some (v_i a1), none, some (v_i a3), some (v_i ((a4.toNat ||| (mj_w (1 * 2 ^ a5.toNat)).toNat : Nat) : Int)), some (v_i (mj_w (a5 + 1)))] [] m2) else (none)) else (none)) else (if (0 : Int) ≤ a4 ∧ (0 : Int) ≤ 0 then (kd d 148 2 [some (v_r 33 0), some (v_i a1), none, some (v_i a3), some (v_i ((a4.toNat ||| 0 : Nat) : Int)), some (v_i (mj_w (a5 + 1)))] [] m2) else (none))) else (some (some (v_i a4), mj_up μ 33 0 2 a3)) := (kd_unf [2] 40).trans rfl
-- 149 NumbersCalledModel.film(I)I
set_option maxRecDepth 20000 in
theorem ke149_0 (d : Nat) (p1 : Int) (μ : mj_M) : kc (d + 1) 149 [v_r 33 0, v_i p1] μ = mj_rI (kc d 72 [v_i p1, v_i 0, v_i 3] μ) fun x1 m2 => if x1 = 0 then (some (some (v_i (-2)), m2)) else (mj_rV (kc d 112 [v_r 33 0] m2) fun m3 => if 0 ≤ p1 ∧ p1 < 4 then (if 0 ≤ p1 ∧ p1 < 4 then (kd d 149 2 [some (v_r 33 0), some (v_i p1), some (v_i 0)] [] (mj_up (mj_up m3 45 0 p1.toNat 2) 46 0 p1.toNat (m3 33 0 5))) else (none)) else (none)) := (kd_unf [2] 40).trans rfl
set_option maxRecDepth 20000 in
theorem ke149_2 (d : Nat) (a1 : Int) (a2 : Int) (μ : mj_M) : kd d 149 2 [some (v_r 33 0), some (v_i a1), some (v_i a2)] [] μ = if a2 < 40 then (if a2 < (μ 33 0 5) then (if 0 ≤ a2 ∧ a2 < 17 then (if 0 ≤ (mj_w ((mj_w (40 * a1)) + a2)) ∧ (mj_w ((mj_w (40 * a1)) + a2)) < 160 then (kd d 149 2 [some (v_r 33 0), some (v_i a1), some (v_i (mj_w (a2 + 1)))] [] (mj_up μ 47 0 ((mj_w ((mj_w (40 * a1)) + a2)).toNat) (μ 56 0 a2.toNat))) else (none)) else (none)) else (if 0 ≤ (mj_w ((mj_w (40 * a1)) + a2)) ∧ (mj_w ((mj_w (40 * a1)) + a2)) < 160 then (kd d 149 2 [some (v_r 33 0), some (v_i a1), some (v_i (mj_w (a2 + 1)))] [] (mj_up μ 47 0 ((mj_w ((mj_w (40 * a1)) + a2)).toNat) 0)) else (none))) else (some (some (v_i (μ 33 0 5)), μ)) := (kd_unf [2] 40).trans rfl
-- 150 NumbersCalledModel.draws(I)V
set_option maxRecDepth 20000 in
theorem ke150_0 (d : Nat) (p1 : Int) (μ : mj_M) : kc (d + 1) 150 [v_r 33 0, v_i p1] μ = kd d 150 1 [some (v_r 33 0), some (v_i p1), some (v_l (mj_x (p1 + 1))), none, some (v_i 0)] [] μ := (kd_unf [1] 40).trans rfl
set_option maxRecDepth 20000 in
theorem ke150_1 (d : Nat) (o1 : Option mj_V) (a2 : Int) (o3 : Option mj_V) (a4 : Int) (μ : mj_M) : kd d 150 1 [some (v_r 33 0), o1, some (v_l a2), o3, some (v_i a4)] [] μ = if a4 < (μ 33 0 5) then (if 0 ≤ a4 ∧ a4 < 17 then (if 0 ≤ a4 ∧ a4 < 17 then (if 0 ≤ a4 ∧ a4 < 17 then (mj_rI (kc d 73 [v_i (mj_w ((mj_w ((μ 39 0 a4.toNat) + (mj_w (((mj_x (a2 * 48271)).tmod 2147483647).tmod 21)))) - 10)), v_i 0, v_i 119] (mj_up μ 62 0 a4.toNat (μ 39 0 a4.toNat))) fun x2 m3 => if 0 ≤ a4 ∧ a4 < 17 then (kd d 150 1 [some (v_r 33 0), none, some (v_l ((mj_x (a2 * 48271)).tmod 2147483647)), none, some (v_i (mj_w (a4 + 1)))] [] (mj_up m3 39 0 a4.toNat x2)) else (none)) else (none)) else (none)) else (none)) else (mj_rV (kc d 112 [v_r 33 0] μ) fun m1 => some (none, m1)) := (kd_unf [1] 40).trans rfl
-- 151 NumbersCalledModel.undraws()V
set_option maxRecDepth 20000 in
theorem ke151_0 (d : Nat)  (μ : mj_M) : kc (d + 1) 151 [v_r 33 0] μ = kd d 151 1 [some (v_r 33 0), some (v_i 0)] [] μ := (kd_unf [1] 40).trans rfl
set_option maxRecDepth 20000 in
theorem ke151_1 (d : Nat) (a1 : Int) (μ : mj_M) : kd d 151 1 [some (v_r 33 0), some (v_i a1)] [] μ = if a1 < (μ 33 0 5) then (if 0 ≤ a1 ∧ a1 < 17 then (if 0 ≤ a1 ∧ a1 < 17 then (kd d 151 1 [some (v_r 33 0), some (v_i (mj_w (a1 + 1)))] [] (mj_up μ 39 0 a1.toNat (μ 62 0 a1.toNat))) else (none)) else (none)) else (some (none, μ)) := (kd_unf [1] 40).trans rfl
-- 152 NumbersCalledModel.drawn(II)I
set_option maxRecDepth 20000 in
theorem ke152_0 (d : Nat) (p1 : Int) (p2 : Int) (μ : mj_M) : kc (d + 1) 152 [v_r 33 0, v_i p1, v_i p2] μ = mj_rI (kc d 72 [v_i p1, v_i 0, v_i 99999] μ) fun x1 m2 => if x1 = 0 then (some (some (v_i (-2)), m2)) else (mj_rI (kc d 72 [v_i p2, v_i 0, v_i 7] m2) fun x3 m4 => if x3 = 0 then (some (some (v_i (-2)), m4)) else (mj_rV (kc d 150 [v_r 33 0, v_i p1] m4) fun m5 => mj_rI (kc d 119 [v_r 33 0, v_i p2] m5) fun x6 m7 => mj_rV (kc d 151 [v_r 33 0] m7) fun m8 => some (some (v_i x6), m8))) := (kd_unf [] 40).trans rfl
-- 153 NumbersCalledModel.lowest(JJI)J
set_option maxRecDepth 20000 in
theorem ke153_0 (d : Nat) (p0 : Int) (p2 : Int) (p4 : Int) (μ : mj_M) : kc (d + 1) 153 [v_l p0, v_l p2, v_i p4] μ = if p0 < 0 then (kd d 153 2 [some (v_l p0), none, some (v_l p2), none, some (v_i p4), some (v_l p0), none, some (v_l p2), none, none, none] [] μ) else if p0 = 0 then (some (some (v_l p4), μ)) else (kd d 153 2 [some (v_l p0), none, some (v_l p2), none, some (v_i p4), some (v_l p0), none, some (v_l p2), none, none, none] [] μ) := (kd_unf [2] 40).trans rfl
set_option maxRecDepth 20000 in
theorem ke153_2 (d : Nat) (a0 : Int) (o1 : Option mj_V) (a2 : Int) (o3 : Option mj_V) (a4 : Int) (a5 : Int) (o6 : Option mj_V) (a7 : Int) (o8 : Option mj_V) (o9 : Option mj_V) (o10 : Option mj_V) (μ : mj_M) : kd d 153 2 [some (v_l a0), o1, some (v_l a2), o3, some (v_i a4), some (v_l a5), o6, some (v_l a7), o8, o9, o10] [] μ = if a7 < 0 then (if a7 = 0 then (none) else (kd d 153 2 [some (v_l a0), none, some (v_l a2), none, some (v_i a4), some (v_l a7), none, some (v_l (a5.tmod a7)), none, some (v_l (a5.tmod a7)), none] [] μ)) else if a7 = 0 then (if a4 = 0 then (if a5 = 0 then (none) else (some (some (v_l (mj_x (a0.tdiv a5))), μ))) else (if a5 = 0 then (none) else (some (some (v_l (mj_x (a2.tdiv a5))), μ)))) else (if a7 = 0 then (none) else (kd d 153 2 [some (v_l a0), none, some (v_l a2), none, some (v_i a4), some (v_l a7), none, some (v_l (a5.tmod a7)), none, some (v_l (a5.tmod a7)), none] [] μ)) := (kd_unf [2] 40).trans rfl
-- 154 NumbersCalledModel.odds(IIII)J
set_option maxRecDepth 20000 in
theorem ke154_0 (d : Nat) (p1 : Int) (p2 : Int) (p3 : Int) (p4 : Int) (μ : mj_M) : kc (d + 1) 154 [v_r 33 0, v_i p1, v_i p2, v_i p3, v_i p4] μ = mj_rI (kc d 72 [v_i p1, v_i 0, v_i 99999] μ) fun x1 m2 => if x1 = 0 then (some (some (v_l (-4611686018427387904)), m2)) else (mj_rI (kc d 72 [v_i p2, v_i 1, v_i 20] m2) fun x3 m4 => if x3 = 0 then (some (some (v_l (-4611686018427387904)), m4)) else (mj_rI (kc d 72 [v_i p3, v_i 0, v_i 999] m4) fun x5 m6 => if x5 = 0 then (some (some (v_l (-4611686018427387904)), m6)) else (mj_rI (kc d 72 [v_i p4, v_i 0, v_i 1] m6) fun x7 m8 => if x7 = 0 then (some (some (v_l (-4611686018427387904)), m8)) else (kd d 154 3 [some (v_r 33 0), some (v_i p1), some (v_i p2), some (v_i p3), some (v_i p4), some (v_l 0), none, some (v_i 0)] [] m8)))) := (kd_unf [3] 40).trans rfl
set_option maxRecDepth 20000 in
theorem ke154_3 (d : Nat) (a1 : Int) (a2 : Int) (a3 : Int) (a4 : Int) (a5 : Int) (o6 : Option mj_V) (a7 : Int) (μ : mj_M) : kd d 154 3 [some (v_r 33 0), some (v_i a1), some (v_i a2), some (v_i a3), some (v_i a4), some (v_l a5), o6, some (v_i a7)] [] μ = if a7 < a2 then (mj_rV (kc d 150 [v_r 33 0, v_i (mj_w (a1 + a7))] μ) fun m3 => mj_rI (kc d 117 [v_r 33 0] m3) fun x4 m5 => if a3 < x4 then (mj_rV (kc d 151 [v_r 33 0] m5) fun m6 => kd d 154 3 [some (v_r 33 0), some (v_i a1), some (v_i a2), some (v_i a3), some (v_i a4), some (v_l (mj_x (a5 + 0))), none, some (v_i (mj_w (a7 + 1)))] [] m6) else (mj_rI (kc d 115 [v_r 33 0, v_i 1] m5) fun x7 m8 => if x7 = 0 then (mj_rV (kc d 151 [v_r 33 0] m8) fun m10 => kd d 154 3 [some (v_r 33 0), some (v_i a1), some (v_i a2), some (v_i a3), some (v_i a4), some (v_l (mj_x (a5 + 1))), none, some (v_i (mj_w (a7 + 1)))] [] m10) else (mj_rV (kc d 151 [v_r 33 0] m8) fun m9 => kd d 154 3 [some (v_r 33 0), some (v_i a1), some (v_i a2), some (v_i a3), some (v_i a4), some (v_l (mj_x (a5 + 0))), none, some (v_i (mj_w (a7 + 1)))] [] m9))) else (mj_rL (kc d 153 [v_l a5, v_l a2, v_i a4] μ) fun x1 m2 => some (some (v_l x1), m2)) := (kd_unf [3] 40).trans rfl
-- 155 NumbersCalledModel.image()I
set_option maxRecDepth 20000 in
theorem ke155_0 (d : Nat)  (μ : mj_M) : kc (d + 1) 155 [v_r 33 0] μ = kd d 155 1 [some (v_r 33 0), some (v_i 0)] [] (mj_up (mj_up (mj_up (mj_up (mj_up (mj_up (mj_up μ 33 0 17 1) 33 0 18 (μ 33 0 0)) 33 0 19 (μ 33 0 2)) 33 0 20 (μ 33 0 3)) 33 0 21 (μ 33 0 4)) 33 0 22 (μ 33 0 5)) 33 0 23 (μ 33 0 16)) := (kd_unf [1, 3] 40).trans rfl
set_option maxRecDepth 20000 in
theorem ke155_1 (d : Nat) (a1 : Int) (μ : mj_M) : kd d 155 1 [some (v_r 33 0), some (v_i a1)] [] μ = if a1 < 12 then (if 0 ≤ a1 ∧ a1 < 12 then (if 0 ≤ a1 ∧ a1 < 12 then (kd d 155 1 [some (v_r 33 0), some (v_i (mj_w (a1 + 1)))] [] (mj_up μ 43 0 a1.toNat (μ 34 0 a1.toNat))) else (none)) else (none)) else (kd d 155 3 [some (v_r 33 0), some (v_i 0)] [] μ) := (kd_unf [1, 3] 40).trans rfl
set_option maxRecDepth 20000 in
theorem ke155_3 (d : Nat) (a1 : Int) (μ : mj_M) : kd d 155 3 [some (v_r 33 0), some (v_i a1)] [] μ = if a1 < 16 then (if 0 ≤ a1 ∧ a1 < 17 then (if 0 ≤ a1 ∧ a1 < 17 then (kd d 155 3 [some (v_r 33 0), some (v_i (mj_w (a1 + 1)))] [] (mj_up μ 44 0 a1.toNat (μ 39 0 a1.toNat))) else (none)) else (none)) else (some (some (v_i (μ 33 0 5)), μ)) := (kd_unf [1, 3] 40).trans rfl
-- 156 NumbersCalledModel.back()I
set_option maxRecDepth 20000 in
theorem ke156_0 (d : Nat)  (μ : mj_M) : kc (d + 1) 156 [v_r 33 0] μ = if (μ 33 0 17) = 0 then (some (some (v_i (-3)), μ)) else (kd d 156 2 [some (v_r 33 0), some (v_i 0)] [] (mj_up (mj_up (mj_up (mj_up (mj_up (mj_up μ 33 0 0 (μ 33 0 18)) 33 0 2 (μ 33 0 19)) 33 0 3 (μ 33 0 20)) 33 0 4 (μ 33 0 21)) 33 0 5 (μ 33 0 22)) 33 0 16 (μ 33 0 23))) := (kd_unf [2, 4] 40).trans rfl
set_option maxRecDepth 20000 in
theorem ke156_2 (d : Nat) (a1 : Int) (μ : mj_M) : kd d 156 2 [some (v_r 33 0), some (v_i a1)] [] μ = if a1 < 12 then (if 0 ≤ a1 ∧ a1 < 12 then (if 0 ≤ a1 ∧ a1 < 12 then (kd d 156 2 [some (v_r 33 0), some (v_i (mj_w (a1 + 1)))] [] (mj_up μ 34 0 a1.toNat (μ 43 0 a1.toNat))) else (none)) else (none)) else (kd d 156 4 [some (v_r 33 0), some (v_i 0)] [] μ) := (kd_unf [2, 4] 40).trans rfl
set_option maxRecDepth 20000 in
theorem ke156_4 (d : Nat) (a1 : Int) (μ : mj_M) : kd d 156 4 [some (v_r 33 0), some (v_i a1)] [] μ = if a1 < 16 then (if 0 ≤ a1 ∧ a1 < 17 then (if 0 ≤ a1 ∧ a1 < 17 then (kd d 156 4 [some (v_r 33 0), some (v_i (mj_w (a1 + 1)))] [] (mj_up μ 39 0 a1.toNat (μ 44 0 a1.toNat))) else (none)) else (none)) else (some (some (v_i (μ 33 0 5)), μ)) := (kd_unf [2, 4] 40).trans rfl
-- 157 NumbersCalledModel.sheet(III)I
set_option maxRecDepth 20000 in
theorem ke157_0 (d : Nat) (p1 : Int) (p2 : Int) (p3 : Int) (μ : mj_M) : kc (d + 1) 157 [v_r 33 0, v_i p1, v_i p2, v_i p3] μ = mj_rI (kc d 72 [v_i p1, v_i 0, v_i 3] μ) fun x1 m2 => if x1 = 0 then (some (some (v_i (-2)), m2)) else (mj_rI (kc d 72 [v_i p2, v_i (-1), v_i 2] m2) fun x3 m4 => if x3 = 0 then (some (some (v_i (-2)), m4)) else (if p2 = (-1) then (if p2 = (-1) then (kd d 157 3 [some (v_r 33 0), some (v_i p1), some (v_i p2), some (v_i p3), none] [] m4) else (if p3 < 0 then (some (some (v_i (-14)), m4)) else (kd d 157 3 [some (v_r 33 0), some (v_i p1), some (v_i p2), some (v_i p3), none] [] m4))) else (if 40 < p3 then (some (some (v_i (-2)), m4)) else (if p2 = (-1) then (kd d 157 3 [some (v_r 33 0), some (v_i p1), some (v_i p2), some (v_i p3), none] [] m4) else (if p3 < 0 then (some (some (v_i (-14)), m4)) else (kd d 157 3 [some (v_r 33 0), some (v_i p1), some (v_i p2), some (v_i p3), none] [] m4)))))) := (kd_unf [3, 6] 40).trans rfl
set_option maxRecDepth 20000 in
theorem ke157_3 (d : Nat) (a1 : Int) (a2 : Int) (a3 : Int) (o4 : Option mj_V) (μ : mj_M) : kd d 157 3 [some (v_r 33 0), some (v_i a1), some (v_i a2), some (v_i a3), o4] [] μ = if 0 ≤ a1 ∧ a1 < 4 then (if a2 = (-1) then (if 0 ≤ a1 ∧ a1 < 4 then (kd d 157 6 [some (v_r 33 0), some (v_i a1), none, none, some (v_i 0)] [] (mj_up (mj_up μ 45 0 a1.toNat a2) 46 0 a1.toNat 0)) else (none)) else (if 0 ≤ a1 ∧ a1 < 4 then (kd d 157 6 [some (v_r 33 0), some (v_i a1), none, none, some (v_i 0)] [] (mj_up (mj_up μ 45 0 a1.toNat a2) 46 0 a1.toNat a3)) else (none))) else (none) := (kd_unf [3, 6] 40).trans rfl
set_option maxRecDepth 20000 in
theorem ke157_6 (d : Nat) (a1 : Int) (o2 : Option mj_V) (o3 : Option mj_V) (a4 : Int) (μ : mj_M) : kd d 157 6 [some (v_r 33 0), some (v_i a1), o2, o3, some (v_i a4)] [] μ = if a4 < 40 then (if 0 ≤ (mj_w ((mj_w (40 * a1)) + a4)) ∧ (mj_w ((mj_w (40 * a1)) + a4)) < 160 then (kd d 157 6 [some (v_r 33 0), some (v_i a1), none, none, some (v_i (mj_w (a4 + 1)))] [] (mj_up μ 47 0 ((mj_w ((mj_w (40 * a1)) + a4)).toNat) 0)) else (none)) else (some (some (v_i 1), μ)) := (kd_unf [3, 6] 40).trans rfl
-- 158 NumbersCalledModel.cell(III)I
set_option maxRecDepth 20000 in
theorem ke158_0 (d : Nat) (p1 : Int) (p2 : Int) (p3 : Int) (μ : mj_M) : kc (d + 1) 158 [v_r 33 0, v_i p1, v_i p2, v_i p3] μ = mj_rI (kc d 72 [v_i p1, v_i 0, v_i 3] μ) fun x1 m2 => if x1 = 0 then (some (some (v_i (-2)), m2)) else (if 0 ≤ p1 ∧ p1 < 4 then (if (m2 45 0 p1.toNat) = (-1) then (some (some (v_i (-11)), m2)) else (if 0 ≤ p1 ∧ p1 < 4 then (mj_rI (kc d 72 [v_i p2, v_i 0, v_i (mj_w ((m2 46 0 p1.toNat) - 1))] m2) fun x3 m4 => if x3 = 0 then (some (some (v_i (-12)), m4)) else (if 0 ≤ p1 ∧ p1 < 4 then (if (m4 45 0 p1.toNat) = 0 then (if 0 ≤ (mj_w ((mj_w (40 * p1)) + p2)) ∧ (mj_w ((mj_w (40 * p1)) + p2)) < 160 then (some (some (v_i 1), mj_up m4 47 0 ((mj_w ((mj_w (40 * p1)) + p2)).toNat) ((p3 + 128) % 256 - 128))) else (none)) else (if 0 ≤ p1 ∧ p1 < 4 then (if (m4 45 0 p1.toNat) = 1 then (if 0 ≤ (mj_w ((mj_w (40 * p1)) + p2)) ∧ (mj_w ((mj_w (40 * p1)) + p2)) < 160 then (some (some (v_i 1), mj_up m4 47 0 ((mj_w ((mj_w (40 * p1)) + p2)).toNat) ((p3 + 32768) % 65536 - 32768))) else (none)) else (if 0 ≤ (mj_w ((mj_w (40 * p1)) + p2)) ∧ (mj_w ((mj_w (40 * p1)) + p2)) < 160 then (some (some (v_i 1), mj_up m4 47 0 ((mj_w ((mj_w (40 * p1)) + p2)).toNat) p3)) else (none))) else (none))) else (none))) else (none))) else (none)) := (kd_unf [] 40).trans rfl
-- 159 NumbersCalledModel.copy(IIIII)I
set_option maxRecDepth 20000 in
theorem ke159_0 (d : Nat) (p1 : Int) (p2 : Int) (p3 : Int) (p4 : Int) (p5 : Int) (μ : mj_M) : kc (d + 1) 159 [v_r 33 0, v_i p1, v_i p2, v_i p3, v_i p4, v_i p5] μ = mj_rI (kc d 72 [v_i p1, v_i 0, v_i 3] μ) fun x1 m2 => if x1 = 0 then (some (some (v_i (-2)), m2)) else (mj_rI (kc d 72 [v_i p3, v_i 0, v_i 3] m2) fun x3 m4 => if x3 = 0 then (some (some (v_i (-2)), m4)) else (if 0 ≤ p1 ∧ p1 < 4 then (if (m4 45 0 p1.toNat) = (-1) then (some (some (v_i (-11)), m4)) else (if 0 ≤ p3 ∧ p3 < 4 then (if (m4 45 0 p3.toNat) = (-1) then (some (some (v_i (-11)), m4)) else (if 0 ≤ p1 ∧ p1 < 4 then (if 0 ≤ p3 ∧ p3 < 4 then (if (m4 45 0 p1.toNat) = (m4 45 0 p3.toNat) then (if p5 < 0 then (some (some (v_i (-12)), m4)) else (if p2 < 0 then (some (some (v_i (-12)), m4)) else (if p4 < 0 then (some (some (v_i (-12)), m4)) else (if 0 ≤ p1 ∧ p1 < 4 then (if (m4 46 0 p1.toNat) < p2 then (some (some (v_i (-12)), m4)) else (if 0 ≤ p3 ∧ p3 < 4 then (if (m4 46 0 p3.toNat) < p4 then (some (some (v_i (-12)), m4)) else (if 0 ≤ p1 ∧ p1 < 4 then (if (mj_w ((m4 46 0 p1.toNat) - p2)) < p5 then (some (some (v_i (-12)), m4)) else (if 0 ≤ p3 ∧ p3 < 4 then (if (mj_w ((m4 46 0 p3.toNat) - p4)) < p5 then (some (some (v_i (-12)), m4)) else (kd d 159 8 [some (v_r 33 0), some (v_i p1), some (v_i p2), some (v_i p3), some (v_i p4), some (v_i p5), some (v_i (mj_w ((mj_w (40 * p1)) + p2))), some (v_i (mj_w ((mj_w (40 * p3)) + p4))), some (v_i 0), none] [] m4)) else (none))) else (none))) else (none))) else (none))))) else (some (some (v_i (-13)), m4))) else (none)) else (none))) else (none))) else (none))) := (kd_unf [8, 10] 40).trans rfl
set_option maxRecDepth 20000 in
theorem ke159_8 (d : Nat) (o1 : Option mj_V) (o2 : Option mj_V) (o3 : Option mj_V) (o4 : Option mj_V) (a5 : Int) (a6 : Int) (a7 : Int) (a8 : Int) (o9 : Option mj_V) (μ : mj_M) : kd d 159 8 [some (v_r 33 0), o1, o2, o3, o4, some (v_i a5), some (v_i a6), some (v_i a7), some (v_i a8), o9] [] μ = if a8 < a5 then (if a6 < a7 then (kd d 159 10 [some (v_r 33 0), none, none, none, none, some (v_i a5), some (v_i a6), some (v_i a7), some (v_i a8), none] [v_i (mj_w ((mj_w (a5 - 1)) - a8))] μ) else (kd d 159 10 [some (v_r 33 0), none, none, none, none, some (v_i a5), some (v_i a6), some (v_i a7), some (v_i a8), none] [v_i a8] μ)) else (some (some (v_i a5), μ)) := (kd_unf [8, 10] 40).trans rfl
set_option maxRecDepth 20000 in
theorem ke159_10 (d : Nat) (o1 : Option mj_V) (o2 : Option mj_V) (o3 : Option mj_V) (o4 : Option mj_V) (a5 : Int) (a6 : Int) (a7 : Int) (a8 : Int) (o9 : Option mj_V) (s0 : Int) (μ : mj_M) : kd d 159 10 [some (v_r 33 0), o1, o2, o3, o4, some (v_i a5), some (v_i a6), some (v_i a7), some (v_i a8), o9] [v_i s0] μ = if 0 ≤ (mj_w (a6 + s0)) ∧ (mj_w (a6 + s0)) < 160 then (if 0 ≤ (mj_w (a7 + s0)) ∧ (mj_w (a7 + s0)) < 160 then (kd d 159 8 [some (v_r 33 0), none, none, none, none, some (v_i a5), some (v_i a6), some (v_i a7), some (v_i (mj_w (a8 + 1))), some (v_i s0)] [] (mj_up μ 47 0 ((mj_w (a7 + s0)).toNat) (μ 47 0 ((mj_w (a6 + s0)).toNat)))) else (none)) else (none) := (kd_unf [8, 10] 40).trans rfl
-- 160 NumbersCalledModel.pulls(IIII)I
set_option maxRecDepth 20000 in
theorem ke160_0 (d : Nat) (p1 : Int) (p2 : Int) (p3 : Int) (p4 : Int) (μ : mj_M) : kc (d + 1) 160 [v_r 33 0, v_i p1, v_i p2, v_i p3, v_i p4] μ = mj_rI (kc d 72 [v_i p1, v_i 0, v_i 3] μ) fun x1 m2 => if x1 = 0 then (some (some (v_i (-2)), m2)) else (mj_rI (kc d 72 [v_i p2, v_i 0, v_i 2] m2) fun x3 m4 => if x3 = 0 then (some (some (v_i (-2)), m4)) else (mj_rI (kc d 72 [v_i p4, v_i 0, v_i 13] m4) fun x5 m6 => if x5 = 0 then (some (some (v_i (-2)), m6)) else (if 0 ≤ p1 ∧ p1 < 4 then (if (m6 45 0 p1.toNat) = (-1) then (some (some (v_i (-11)), m6)) else (if 0 ≤ p1 ∧ p1 < 4 then (if (m6 45 0 p1.toNat) = p2 then (kd d 160 5 [some (v_r 33 0), some (v_i p1), none, some (v_i p3), some (v_i p4), some (v_i 0), some (v_i 0), none, none] [] m6) else (some (some (v_i (-13)), m6))) else (none))) else (none)))) := (kd_unf [5] 40).trans rfl
set_option maxRecDepth 20000 in
theorem ke160_5 (d : Nat) (a1 : Int) (o2 : Option mj_V) (a3 : Int) (a4 : Int) (a5 : Int) (a6 : Int) (o7 : Option mj_V) (o8 : Option mj_V) (μ : mj_M) : kd d 160 5 [some (v_r 33 0), some (v_i a1), o2, some (v_i a3), some (v_i a4), some (v_i a5), some (v_i a6), o7, o8] [] μ = if a6 < a4 then (if a3 < 0 then (some (some (v_i (-12)), μ)) else (if (mj_w (a3 + (mj_w (3 * a6)))) < a3 then (some (some (v_i (-12)), μ)) else (if 0 ≤ a1 ∧ a1 < 4 then (if (mj_w ((μ 46 0 a1.toNat) - 3)) < (mj_w (a3 + (mj_w (3 * a6)))) then (some (some (v_i (-12)), μ)) else (if 0 ≤ (mj_w ((mj_w (40 * a1)) + (mj_w (a3 + (mj_w (3 * a6)))))) ∧ (mj_w ((mj_w (40 * a1)) + (mj_w (a3 + (mj_w (3 * a6)))))) < 160 then (if 0 ≤ (mj_w ((mj_w ((mj_w (40 * a1)) + (mj_w (a3 + (mj_w (3 * a6)))))) + 1)) ∧ (mj_w ((mj_w ((mj_w (40 * a1)) + (mj_w (a3 + (mj_w (3 * a6)))))) + 1)) < 160 then (if 0 ≤ (mj_w ((mj_w ((mj_w (40 * a1)) + (mj_w (a3 + (mj_w (3 * a6)))))) + 2)) ∧ (mj_w ((mj_w ((mj_w (40 * a1)) + (mj_w (a3 + (mj_w (3 * a6)))))) + 2)) < 160 then (mj_rI (kc d 99 [v_r 33 0, v_i (μ 47 0 ((mj_w ((mj_w (40 * a1)) + (mj_w (a3 + (mj_w (3 * a6)))))).toNat)), v_i (μ 47 0 ((mj_w ((mj_w ((mj_w (40 * a1)) + (mj_w (a3 + (mj_w (3 * a6)))))) + 1)).toNat)), v_i (μ 47 0 ((mj_w ((mj_w ((mj_w (40 * a1)) + (mj_w (a3 + (mj_w (3 * a6)))))) + 2)).toNat))] μ) fun x1 m2 => if x1 < 0 then (kd d 160 5 [some (v_r 33 0), some (v_i a1), none, some (v_i a3), some (v_i a4), some (v_i (mj_w (a5 + 0))), some (v_i (mj_w (a6 + 1))), none, none] [] m2) else (kd d 160 5 [some (v_r 33 0), some (v_i a1), none, some (v_i a3), some (v_i a4), some (v_i (mj_w (a5 + 1))), some (v_i (mj_w (a6 + 1))), none, none] [] m2)) else (none)) else (none)) else (none))) else (none)))) else (some (some (v_i a5), μ)) := (kd_unf [5] 40).trans rfl
-- 161 NumbersCalledModel.isUnder(II)Z
set_option maxRecDepth 20000 in
theorem ke161_0 (d : Nat) (p0 : Int) (p1 : Int) (μ : mj_M) : kc (d + 1) 161 [v_i p0, v_i p1] μ = if p1 = 0 then (some (some (v_i 1), μ)) else (if p0 = p1 then (some (some (v_i 1), μ)) else (if p1 = 2 then (if p0 = 3 then (some (some (v_i 1), μ)) else (kd d 161 1 [some (v_i p0), some (v_i p1)] [] μ)) else (kd d 161 1 [some (v_i p0), some (v_i p1)] [] μ))) := (kd_unf [1] 40).trans rfl
set_option maxRecDepth 20000 in
theorem ke161_1 (d : Nat) (a0 : Int) (a1 : Int) (μ : mj_M) : kd d 161 1 [some (v_i a0), some (v_i a1)] [] μ = if a1 = 1 then (if a0 = 5 then (some (some (v_i 1), μ)) else (some (some (v_i 0), μ))) else (some (some (v_i 0), μ)) := (kd_unf [1] 40).trans rfl
-- 162 NumbersCalledModel.taken(II)I
set_option maxRecDepth 20000 in
theorem ke162_0 (d : Nat) (p1 : Int) (p2 : Int) (μ : mj_M) : kc (d + 1) 162 [v_r 33 0, v_i p1, v_i p2] μ = mj_rI (kc d 72 [v_i p2, v_i 0, v_i 6] μ) fun x1 m2 => if x1 = 0 then (some (some (v_i (-2)), m2)) else (mj_rI (kc d 72 [v_i p1, v_i 0, v_i 19] m2) fun x3 m4 => if x3 = 0 then (some (some (v_i (-12)), m4)) else (if p1 < 4 then (if p1 < (m4 33 0 0) then (if p2 = 6 then (if 0 ≤ (mj_w (3 * p1)) ∧ (mj_w (3 * p1)) < 12 then (some (some (v_i (m4 34 0 ((mj_w (3 * p1)).toNat))), m4)) else (none)) else (some (some (v_i (-13)), m4))) else (some (some (v_i (-11)), m4))) else (if (mj_w (p1 - 4)) < (m4 33 0 5) then (if p2 < 6 then (if 0 ≤ (mj_w (p1 - 4)) ∧ (mj_w (p1 - 4)) < 17 then (mj_rI (kc d 161 [v_i (m4 35 0 ((mj_w (p1 - 4)).toNat)), v_i p2] m4) fun x5 m6 => if x5 = 0 then (some (some (v_i (-13)), m6)) else (some (some (v_i (mj_w (p1 - 4))), m6))) else (none)) else (some (some (v_i (-13)), m4))) else (some (some (v_i (-11)), m4))))) := (kd_unf [] 40).trans rfl
-- 163 NumbersCalled$Asker.become(IIII)V
set_option maxRecDepth 20000 in
theorem ke163_0 (d : Nat) (i0 : Nat) (p1 : Int) (p2 : Int) (p3 : Int) (p4 : Int) (μ : mj_M) : kc (d + 1) 163 [v_r 7 i0, v_i p1, v_i p2, v_i p3, v_i p4] μ = some (none, mj_up (mj_up (mj_up (mj_up μ 7 i0 0 p1) 7 i0 1 p2) 7 i0 2 p3) 7 i0 3 p4) := (kd_unf [] 40).trans rfl
-- 164 NumbersCalled$Asker.isA(I)Z
set_option maxRecDepth 20000 in
theorem ke164_0 (d : Nat) (i0 : Nat) (p1 : Int) (μ : mj_M) : kc (d + 1) 164 [v_r 7 i0, v_i p1] μ = kd d 164 1 [some (v_r 7 i0), some (v_i p1), some (v_i (μ 7 i0 0)), some (v_i 0)] [] μ := (kd_unf [1] 40).trans rfl
set_option maxRecDepth 20000 in
theorem ke164_1 (d : Nat) (o0 : Option mj_V) (a1 : Int) (a2 : Int) (a3 : Int) (μ : mj_M) : kd d 164 1 [o0, some (v_i a1), some (v_i a2), some (v_i a3)] [] μ = if a3 < 6 then (if a2 < 0 then (some (some (v_i 0), μ)) else (if a2 < 6 then (if a2 = a1 then (some (some (v_i 1), μ)) else (mj_tb4 mk_TB 1 a2 fun x1 => kd d 164 1 [none, some (v_i a1), some (v_i x1), some (v_i (mj_w (a3 + 1)))] [] μ)) else (some (some (v_i 0), μ)))) else (some (some (v_i 0), μ)) := (kd_unf [1] 40).trans rfl
end
section
/-! printed by wip/whole/eqs.py: what each cut of each method comes to -/
-- 165 NumbersCalled$Asker.isOld()Z
set_option maxRecDepth 20000 in
theorem ke165_0 (d : Nat) (i0 : Nat) (μ : mj_M) : kc (d + 1) 165 [v_r 7 i0] μ = if (μ 7 i0 0) = 4 then (some (some (v_i 1), μ)) else (some (some (v_i 0), μ)) := (kd_unf [] 40).trans rfl
-- 166 NumbersCalled$Asker.isBack()Z
set_option maxRecDepth 20000 in
theorem ke166_0 (d : Nat) (i0 : Nat) (μ : mj_M) : kc (d + 1) 166 [v_r 7 i0] μ = if (μ 7 i0 0) = 3 then (some (some (v_i 1), μ)) else (some (some (v_i 0), μ)) := (kd_unf [] 40).trans rfl
-- 167 NumbersCalled$Asker.needs()I
set_option maxRecDepth 20000 in
theorem ke167_0 (d : Nat) (i0 : Nat) (μ : mj_M) : kc (d + 1) 167 [v_r 7 i0] μ = if (μ 7 i0 0) = 2 then (some (some (v_i ((mj_w ((μ 7 i0 1) + 1)).tmod 4)), μ)) else (some (some (v_i (μ 7 i0 1)), μ)) := (kd_unf [] 40).trans rfl
-- 168 NumbersCalled$Asker.isThere(II)Z
set_option maxRecDepth 20000 in
theorem ke168_0 (d : Nat) (i0 : Nat) (p1 : Int) (p2 : Int) (μ : mj_M) : kc (d + 1) 168 [v_r 7 i0, v_i p1, v_i p2] μ = if (μ 7 i0 0) = 5 then (if p1 < 30 then (kd d 168 1 [some (v_r 7 i0), some (v_i p1), some (v_i p2), none] [] μ) else (some (some (v_i 1), μ))) else (kd d 168 1 [some (v_r 7 i0), some (v_i p1), some (v_i p2), none] [] μ) := (kd_unf [1, 5] 40).trans rfl
set_option maxRecDepth 20000 in
theorem ke168_1 (d : Nat) (i0 : Nat) (a1 : Int) (a2 : Int) (o3 : Option mj_V) (μ : mj_M) : kd d 168 1 [some (v_r 7 i0), some (v_i a1), some (v_i a2), o3] [] μ = mj_rI (kc d 45 [v_i a2, v_i 0, v_i 999] μ) fun x1 m2 => if x1 < a1 then (some (some (v_i 0), m2)) else (if (m2 7 i0 0) = 1 then (kd d 168 5 [some (v_r 7 i0), some (v_i a1), none, none] [v_i 1] m2) else (if (m2 7 i0 0) = 5 then (kd d 168 5 [some (v_r 7 i0), some (v_i a1), none, none] [v_i 1] m2) else (kd d 168 5 [some (v_r 7 i0), some (v_i a1), none, none] [v_i 0] m2))) := (kd_unf [1, 5] 40).trans rfl
set_option maxRecDepth 20000 in
theorem ke168_5 (d : Nat) (i0 : Nat) (a1 : Int) (o2 : Option mj_V) (o3 : Option mj_V) (s0 : Int) (μ : mj_M) : kd d 168 5 [some (v_r 7 i0), some (v_i a1), o2, o3] [v_i s0] μ = if s0 = 0 then (some (some (v_i 1), μ)) else (if (if 2 < (mj_w ((μ 7 i0 3) + 2)) then mj_w ((μ 7 i0 3) + 2) else 2) = 0 then (none) else (if ((mj_w (a1.tdiv (if 2 < (mj_w ((μ 7 i0 3) + 2)) then mj_w ((μ 7 i0 3) + 2) else 2))).tmod 2) = 0 then (some (some (v_i 1), μ)) else (some (some (v_i 0), μ)))) := (kd_unf [1, 5] 40).trans rfl
-- 169 NumbersCalled$Asker.takes(IZ)I
set_option maxRecDepth 20000 in
theorem ke169_0 (d : Nat) (i0 : Nat) (p1 : Int) (p2 : Int) (μ : mj_M) : kc (d + 1) 169 [v_r 7 i0, v_i p1, v_i p2] μ = mj_rI (kc d 45 [v_i p1, v_i 1, v_i 60] μ) fun x1 m2 => if (m2 7 i0 0) = 3 then (if p2 = 0 then (mj_rI (kc d 45 [v_i (mj_w (2 * x1)), v_i 1, v_i 60] m2) fun x3 m4 => some (some (v_i x3), m4)) else (some (some (v_i x1), m2))) else (some (some (v_i x1), m2)) := (kd_unf [] 40).trans rfl
-- 170 NumbersCalled$Day.run([LNumbersCalled$Asker;LNumbersCalled$Text;)V
set_option maxRecDepth 20000 in
theorem ke170_0 (d : Nat) (i2 : Nat) (μ : mj_M) : kc (d + 1) 170 [v_r 21 0, v_r 6 0, v_r 9 i2] μ = mj_rV (kc d 171 [v_r 21 0, v_r 6 0] μ) fun m1 => kd d 170 1 [some (v_r 21 0), some (v_r 6 0), some (v_r 9 i2), some (v_i 0), none, none] [] m1 := (kd_unf [1, 3] 40).trans rfl
set_option maxRecDepth 20000 in
theorem ke170_1 (d : Nat) (i2 : Nat) (a3 : Int) (o4 : Option mj_V) (o5 : Option mj_V) (μ : mj_M) : kd d 170 1 [some (v_r 21 0), some (v_r 6 0), some (v_r 9 i2), some (v_i a3), o4, o5] [] μ = if a3 < 240 then (if 0 < (μ 21 0 10) then (mj_rV (kc d 174 [v_r 21 0, v_i a3] μ) fun m1 => kd d 170 3 [some (v_r 21 0), some (v_r 6 0), some (v_r 9 i2), some (v_i a3), some (v_i 0), none] [] m1) else (kd d 170 3 [some (v_r 21 0), some (v_r 6 0), some (v_r 9 i2), some (v_i a3), some (v_i 0), none] [] μ)) else (some (none, μ)) := (kd_unf [1, 3] 40).trans rfl
set_option maxRecDepth 20000 in
theorem ke170_3 (d : Nat) (i2 : Nat) (a3 : Int) (a4 : Int) (o5 : Option mj_V) (μ : mj_M) : kd d 170 3 [some (v_r 21 0), some (v_r 6 0), some (v_r 9 i2), some (v_i a3), some (v_i a4), o5] [] μ = if a4 < (μ 1 2 0) then (if 0 ≤ a4 ∧ a4 < 4 then (if a3 < (μ 29 0 a4.toNat) then (kd d 170 3 [some (v_r 21 0), some (v_r 6 0), some (v_r 9 i2), some (v_i a3), some (v_i (mj_w (a4 + 1))), none] [] μ) else (mj_rI (kc d 193 [v_r 1 2, v_i a4, v_i a3] μ) fun x1 m2 => if x1 = 0 then (if 0 ≤ a4 ∧ a4 < 4 then (mj_rI (kc d 176 [v_r 21 0, v_i (m2 2 2 a4.toNat)] m2) fun x3 m4 => if x3 = (-1) then (if 0 ≤ a4 ∧ a4 < 4 then (if 0 ≤ a4 ∧ a4 < 4 then (kd d 170 3 [some (v_r 21 0), some (v_r 6 0), some (v_r 9 i2), some (v_i a3), some (v_i (mj_w (a4 + 1))), none] [] (mj_up m4 27 0 a4.toNat (mj_w ((m4 27 0 a4.toNat) + 1)))) else (none)) else (none)) else (if 0 ≤ x3 ∧ x3 < 16 then (mj_rV (kc d 177 [v_r 21 0, v_r 7 x3.toNat, v_r 9 i2, v_i x3, v_i a4, v_i a3] m4) fun m5 => kd d 170 3 [some (v_r 21 0), some (v_r 6 0), some (v_r 9 i2), some (v_i a3), some (v_i (mj_w (a4 + 1))), none] [] m5) else (none))) else (none)) else (kd d 170 3 [some (v_r 21 0), some (v_r 6 0), some (v_r 9 i2), some (v_i a3), some (v_i (mj_w (a4 + 1))), none] [] m2))) else (none)) else (kd d 170 1 [some (v_r 21 0), some (v_r 6 0), some (v_r 9 i2), some (v_i (mj_w (a3 + 1))), none, none] [] μ) := (kd_unf [1, 3] 40).trans rfl
-- 171 NumbersCalled$Day.begin([LNumbersCalled$Asker;)V
set_option maxRecDepth 20000 in
theorem ke171_0 (d : Nat)  (μ : mj_M) : kc (d + 1) 171 [v_r 21 0, v_r 6 0] μ = kd d 171 1 [some (v_r 21 0), some (v_r 6 0), some (v_i 0)] [] μ := (kd_unf [1, 3, 5] 40).trans rfl
set_option maxRecDepth 20000 in
theorem ke171_1 (d : Nat) (a2 : Int) (μ : mj_M) : kd d 171 1 [some (v_r 21 0), some (v_r 6 0), some (v_i a2)] [] μ = if a2 < (μ 1 2 0) then (if 0 ≤ a2 ∧ a2 < 4 then (if 0 ≤ a2 ∧ a2 < 4 then (kd d 171 1 [some (v_r 21 0), some (v_r 6 0), some (v_i (mj_w (a2 + 1)))] [] (mj_up (mj_up μ 29 0 a2.toNat 0) 27 0 a2.toNat 0)) else (none)) else (none)) else (kd d 171 3 [some (v_r 21 0), some (v_r 6 0), some (v_i 0)] [] μ) := (kd_unf [1, 3, 5] 40).trans rfl
set_option maxRecDepth 20000 in
theorem ke171_3 (d : Nat) (a2 : Int) (μ : mj_M) : kd d 171 3 [some (v_r 21 0), some (v_r 6 0), some (v_i a2)] [] μ = if a2 < (μ 1 2 4) then (if 0 ≤ a2 ∧ a2 < 16 then (if 0 ≤ a2 ∧ a2 < 16 then (if 0 ≤ a2 ∧ a2 < 16 then (if 0 ≤ a2 ∧ a2 < 16 then (if 0 ≤ a2 ∧ a2 < 16 then (if (μ 1 2 11) = 0 then (if 0 ≤ a2 ∧ a2 < 16 then (kd d 171 5 [some (v_r 21 0), some (v_r 6 0), some (v_i a2)] [v_i (μ 7 a2.toNat 1), v_i a2, v_r 28 0] (mj_up (mj_up (mj_up (mj_up (mj_up μ 22 0 a2.toNat 0) 23 0 a2.toNat (-1)) 24 0 a2.toNat (-1)) 25 0 a2.toNat (-1)) 26 0 a2.toNat 0)) else (none)) else (if 0 ≤ a2 ∧ a2 < 16 then (mj_rI (kc d 167 [v_r 7 a2.toNat] (mj_up (mj_up (mj_up (mj_up (mj_up μ 22 0 a2.toNat 0) 23 0 a2.toNat (-1)) 24 0 a2.toNat (-1)) 25 0 a2.toNat (-1)) 26 0 a2.toNat 0)) fun x1 m2 => kd d 171 5 [some (v_r 21 0), some (v_r 6 0), some (v_i a2)] [v_i x1, v_i a2, v_r 28 0] m2) else (none))) else (none)) else (none)) else (none)) else (none)) else (none)) else (some (none, mj_up (mj_up μ 21 0 10 (μ 1 2 4)) 21 0 11 0)) := (kd_unf [1, 3, 5] 40).trans rfl
set_option maxRecDepth 20000 in
theorem ke171_5 (d : Nat) (a2 : Int) (s0 : Int) (s1 : Int) (μ : mj_M) : kd d 171 5 [some (v_r 21 0), some (v_r 6 0), some (v_i a2)] [v_i s0, v_i s1, v_r 28 0] μ = if 0 ≤ s1 ∧ s1 < 16 then (if 0 ≤ a2 ∧ a2 < 16 then (mj_rI (kc d 172 [v_r 21 0, v_r 7 a2.toNat] (mj_up μ 28 0 s1.toNat s0)) fun x1 m2 => if 0 ≤ a2 ∧ a2 < 16 then (mj_rV (kc d 173 [v_r 21 0, v_i a2, v_i (mj_w ((mj_w ((mj_w ((mj_w (x1 * 120)) + (m2 5 2 a2.toNat))) * 16)) + a2))] m2) fun m3 => kd d 171 3 [some (v_r 21 0), some (v_r 6 0), some (v_i (mj_w (a2 + 1)))] [] m3) else (none)) else (none)) else (none) := (kd_unf [1, 3, 5] 40).trans rfl
-- 172 NumbersCalled$Day.rank(LNumbersCalled$Asker;)I
set_option maxRecDepth 20000 in
theorem ke172_0 (d : Nat) (i1 : Nat) (μ : mj_M) : kc (d + 1) 172 [v_r 21 0, v_r 7 i1] μ = if (μ 1 2 6) = 1 then (mj_rI (kc d 165 [v_r 7 i1] μ) fun x1 m2 => if x1 = 0 then (some (some (v_i 1), m2)) else (some (some (v_i 0), m2))) else if (μ 1 2 6) = 2 then (some (some (v_i (μ 7 i1 2)), μ)) else if (μ 1 2 6) = 3 then (mj_rI (kc d 166 [v_r 7 i1] μ) fun x3 m4 => if x3 = 0 then (some (some (v_i 1), m4)) else (some (some (v_i 0), m4))) else (some (some (v_i 0), μ)) := (kd_unf [] 40).trans rfl
-- 173 NumbersCalled$Day.lineUp(II)V
set_option maxRecDepth 20000 in
theorem ke173_0 (d : Nat) (p1 : Int) (p2 : Int) (μ : mj_M) : kc (d + 1) 173 [v_r 21 0, v_i p1, v_i p2] μ = kd d 173 1 [some (v_r 21 0), some (v_i p1), some (v_i p2), some (v_i p1)] [] μ := (kd_unf [1] 40).trans rfl
set_option maxRecDepth 20000 in
theorem ke173_1 (d : Nat) (o1 : Option mj_V) (a2 : Int) (a3 : Int) (μ : mj_M) : kd d 173 1 [some (v_r 21 0), o1, some (v_i a2), some (v_i a3)] [] μ = if 0 < a3 then (if 0 ≤ (mj_w (a3 - 1)) ∧ (mj_w (a3 - 1)) < 16 then (if a2 < (μ 30 0 ((mj_w (a3 - 1)).toNat)) then (if 0 ≤ (mj_w (a3 - 1)) ∧ (mj_w (a3 - 1)) < 16 then (if 0 ≤ a3 ∧ a3 < 16 then (kd d 173 1 [some (v_r 21 0), none, some (v_i a2), some (v_i (mj_w (a3 + (-1))))] [] (mj_up μ 30 0 a3.toNat (μ 30 0 ((mj_w (a3 - 1)).toNat)))) else (none)) else (none)) else (if 0 ≤ a3 ∧ a3 < 16 then (some (none, mj_up μ 30 0 a3.toNat a2)) else (none))) else (none)) else (if 0 ≤ a3 ∧ a3 < 16 then (some (none, mj_up μ 30 0 a3.toNat a2)) else (none)) := (kd_unf [1] 40).trans rfl
-- 174 NumbersCalled$Day.letIn(I)V
set_option maxRecDepth 20000 in
theorem ke174_0 (d : Nat) (p1 : Int) (μ : mj_M) : kc (d + 1) 174 [v_r 21 0, v_i p1] μ = kd d 174 1 [some (v_r 21 0), some (v_i p1), some (v_i 0)] [] μ := (kd_unf [1] 40).trans rfl
set_option maxRecDepth 20000 in
theorem ke174_1 (d : Nat) (a1 : Int) (a2 : Int) (μ : mj_M) : kd d 174 1 [some (v_r 21 0), some (v_i a1), some (v_i a2)] [] μ = if a2 < (μ 1 2 4) then (if 0 ≤ a2 ∧ a2 < 16 then (if (μ 5 2 a2.toNat) = a1 then (if a1 < (μ 1 2 8) then (if 0 ≤ a2 ∧ a2 < 16 then (kd d 174 1 [some (v_r 21 0), some (v_i a1), some (v_i (mj_w (a2 + 1)))] [] (mj_up (mj_up μ 22 0 a2.toNat 1) 21 0 10 (mj_w ((μ 21 0 10) - 1)))) else (none)) else (if 0 ≤ a2 ∧ a2 < 16 then (kd d 174 1 [some (v_r 21 0), some (v_i a1), some (v_i (mj_w (a2 + 1)))] [] (mj_up (mj_up μ 22 0 a2.toNat 4) 21 0 10 (mj_w ((μ 21 0 10) - 1)))) else (none))) else (kd d 174 1 [some (v_r 21 0), some (v_i a1), some (v_i (mj_w (a2 + 1)))] [] μ)) else (none)) else (mj_rV (kc d 175 [v_r 21 0] μ) fun m1 => some (none, m1)) := (kd_unf [1] 40).trans rfl
-- 175 NumbersCalled$Day.lookAround()V
set_option maxRecDepth 20000 in
theorem ke175_0 (d : Nat)  (μ : mj_M) : kc (d + 1) 175 [v_r 21 0] μ = kd d 175 1 [some (v_r 21 0), some (v_i 0)] [] (mj_up μ 21 0 11 0) := (kd_unf [1] 40).trans rfl
set_option maxRecDepth 20000 in
theorem ke175_1 (d : Nat) (a1 : Int) (μ : mj_M) : kd d 175 1 [some (v_r 21 0), some (v_i a1)] [] μ = if a1 < (μ 1 2 4) then (if 0 ≤ a1 ∧ a1 < 16 then (if (μ 22 0 a1.toNat) = 1 then (if 0 ≤ a1 ∧ a1 < 16 then (if (0 : Int) ≤ (μ 28 0 a1.toNat) ∧ (μ 28 0 a1.toNat) < (32 : Int) then (if (0 : Int) ≤ (μ 21 0 11) ∧ (0 : Int) ≤ (mj_w (1 * 2 ^ (μ 28 0 a1.toNat).toNat)) then (kd d 175 1 [some (v_r 21 0), some (v_i (mj_w (a1 + 1)))] [] (mj_up μ 21 0 11 (((μ 21 0 11).toNat ||| (mj_w (1 * 2 ^ (μ 28 0 a1.toNat).toNat)).toNat : Nat) : Int))) else (none)) else (none)) else (none)) else (kd d 175 1 [some (v_r 21 0), some (v_i (mj_w (a1 + 1)))] [] μ)) else (none)) else (some (none, μ)) := (kd_unf [1] 40).trans rfl
-- 176 NumbersCalled$Day.firstFor(I)I
set_option maxRecDepth 20000 in
theorem ke176_0 (d : Nat) (p1 : Int) (μ : mj_M) : kc (d + 1) 176 [v_r 21 0, v_i p1] μ = if (0 : Int) ≤ p1 ∧ (0 : Int) ≤ (μ 21 0 11) then (if ((p1.toNat &&& (μ 21 0 11).toNat : Nat) : Int) = 0 then (some (some (v_i (-1)), μ)) else (kd d 176 2 [some (v_r 21 0), some (v_i p1), some (v_i 0), none] [] μ)) else (none) := (kd_unf [2] 40).trans rfl
set_option maxRecDepth 20000 in
theorem ke176_2 (d : Nat) (a1 : Int) (a2 : Int) (o3 : Option mj_V) (μ : mj_M) : kd d 176 2 [some (v_r 21 0), some (v_i a1), some (v_i a2), o3] [] μ = if a2 < (μ 1 2 4) then (if 0 ≤ a2 ∧ a2 < 16 then (if 0 ≤ ((μ 30 0 a2.toNat).tmod 16) ∧ ((μ 30 0 a2.toNat).tmod 16) < 16 then (if (μ 22 0 (((μ 30 0 a2.toNat).tmod 16).toNat)) = 1 then (if 0 ≤ ((μ 30 0 a2.toNat).tmod 16) ∧ ((μ 30 0 a2.toNat).tmod 16) < 16 then (if (0 : Int) ≤ (μ 28 0 (((μ 30 0 a2.toNat).tmod 16).toNat)) ∧ (μ 28 0 (((μ 30 0 a2.toNat).tmod 16).toNat)) < (32 : Int) then (if (0 : Int) ≤ (a1 / 2 ^ (μ 28 0 (((μ 30 0 a2.toNat).tmod 16).toNat)).toNat) ∧ (0 : Int) ≤ 1 then (if (((a1 / 2 ^ (μ 28 0 (((μ 30 0 a2.toNat).tmod 16).toNat)).toNat).toNat &&& 1 : Nat) : Int) = 1 then (some (some (v_i ((μ 30 0 a2.toNat).tmod 16)), μ)) else (kd d 176 2 [some (v_r 21 0), some (v_i a1), some (v_i (mj_w (a2 + 1))), none] [] μ)) else (none)) else (none)) else (none)) else (kd d 176 2 [some (v_r 21 0), some (v_i a1), some (v_i (mj_w (a2 + 1))), none] [] μ)) else (none)) else (none)) else (some (some (v_i (-1)), μ)) := (kd_unf [2] 40).trans rfl
-- 177 NumbersCalled$Day.beckon(LNumbersCalled$Asker;LNumbersCalled$Text;III)V
set_option maxRecDepth 20000 in
theorem ke177_0 (d : Nat) (i1 : Nat) (i2 : Nat) (p3 : Int) (p4 : Int) (p5 : Int) (μ : mj_M) : kc (d + 1) 177 [v_r 21 0, v_r 7 i1, v_r 9 i2, v_i p3, v_i p4, v_i p5] μ = if 0 ≤ p3 ∧ p3 < 16 then (if 0 ≤ p3 ∧ p3 < 16 then (if 0 ≤ p3 ∧ p3 < 16 then (mj_rI (kc d 215 [v_r 9 i2, v_i 1, v_r 7 i1, v_i (mj_w (p5 - (μ 5 2 p3.toNat))), v_i 0, v_i 0] (mj_up μ 26 0 p3.toNat (mj_w ((μ 26 0 p3.toNat) + 1)))) fun x1 m2 => mj_rI (kc d 168 [v_r 7 i1, v_i (mj_w (p5 - (μ 5 2 p3.toNat))), v_i x1] m2) fun x3 m4 => if x3 = 0 then (if 0 ≤ p3 ∧ p3 < 16 then (if (m4 26 0 p3.toNat) < (m4 1 2 7) then (mj_rV (kc d 175 [v_r 21 0] m4) fun m15 => some (none, m15)) else (if 0 ≤ p3 ∧ p3 < 16 then (mj_rV (kc d 175 [v_r 21 0] (mj_up m4 22 0 p3.toNat 3)) fun m16 => some (none, m16)) else (none))) else (none)) else (if 0 ≤ p4 ∧ p4 < 4 then (mj_rI (kc d 167 [v_r 7 i1] m4) fun x5 m6 => if (0 : Int) ≤ x5 ∧ x5 < (32 : Int) then (if (0 : Int) ≤ ((m4 2 2 p4.toNat) / 2 ^ x5.toNat) ∧ (0 : Int) ≤ 1 then (if ((((m4 2 2 p4.toNat) / 2 ^ x5.toNat).toNat &&& 1 : Nat) : Int) = 0 then (mj_rI (kc d 167 [v_r 7 i1] m6) fun x12 m13 => if 0 ≤ p3 ∧ p3 < 16 then (mj_rV (kc d 175 [v_r 21 0] (mj_up m13 28 0 p3.toNat x12)) fun m14 => some (none, m14)) else (none)) else (if 0 ≤ p4 ∧ p4 < 4 then (mj_rI (kc d 215 [v_r 9 i2, v_i 0, v_r 7 i1, v_i (mj_w (p5 - (μ 5 2 p3.toNat))), v_i (m6 3 2 p4.toNat), v_i 0] m6) fun x7 m8 => if 0 ≤ p3 ∧ p3 < 16 then (if 0 ≤ p3 ∧ p3 < 16 then (mj_rI (kc d 169 [v_r 7 i1, v_i x7, v_i (m8 1 2 10)] (mj_up (mj_up m8 22 0 p3.toNat 2) 23 0 p3.toNat p5)) fun x9 m10 => if 0 ≤ p3 ∧ p3 < 16 then (if 0 ≤ p3 ∧ p3 < 16 then (if 0 ≤ p3 ∧ p3 < 16 then (if 0 ≤ p4 ∧ p4 < 4 then (mj_rV (kc d 175 [v_r 21 0] (mj_up (mj_up (mj_up m10 24 0 p3.toNat (mj_w (p5 + x9))) 25 0 p3.toNat p4) 29 0 p4.toNat ((mj_up m10 24 0 p3.toNat (mj_w (p5 + x9))) 24 0 p3.toNat))) fun m11 => some (none, m11)) else (none)) else (none)) else (none)) else (none)) else (none)) else (none)) else (none))) else (none)) else (none)) else (none))) else (none)) else (none)) else (none) := (kd_unf [] 40).trans rfl
-- 178 NumbersCalled$Day.waited(I)I
set_option maxRecDepth 20000 in
theorem ke178_0 (d : Nat) (p1 : Int) (μ : mj_M) : kc (d + 1) 178 [v_r 21 0, v_i p1] μ = if 0 ≤ p1 ∧ p1 < 16 then (if (μ 22 0 p1.toNat) = 2 then (if 0 ≤ p1 ∧ p1 < 16 then (if 0 ≤ p1 ∧ p1 < 16 then (some (some (v_i (mj_w ((μ 23 0 p1.toNat) - (μ 5 2 p1.toNat)))), μ)) else (none)) else (none)) else (some (some (v_i (-1)), μ))) else (none) := (kd_unf [] 40).trans rfl
-- 179 NumbersCalled$Day.badFor(I)I
set_option maxRecDepth 20000 in
theorem ke179_0 (d : Nat) (p1 : Int) (μ : mj_M) : kc (d + 1) 179 [v_r 21 0, v_i p1] μ = if 0 ≤ p1 ∧ p1 < 16 then (if (μ 22 0 p1.toNat) = 2 then (mj_rI (kc d 178 [v_r 21 0, v_i p1] μ) fun x1 m2 => some (some (v_i x1), m2)) else (some (some (v_i 120), μ))) else (none) := (kd_unf [] 40).trans rfl
-- 180 NumbersCalled$Day.many(I)I
set_option maxRecDepth 20000 in
theorem ke180_0 (d : Nat) (p1 : Int) (μ : mj_M) : kc (d + 1) 180 [v_r 21 0, v_i p1] μ = kd d 180 1 [some (v_r 21 0), some (v_i p1), some (v_i 0), some (v_i 0)] [] μ := (kd_unf [1] 40).trans rfl
set_option maxRecDepth 20000 in
theorem ke180_1 (d : Nat) (a1 : Int) (a2 : Int) (a3 : Int) (μ : mj_M) : kd d 180 1 [some (v_r 21 0), some (v_i a1), some (v_i a2), some (v_i a3)] [] μ = if a3 < (μ 1 2 4) then (if 0 ≤ a3 ∧ a3 < 16 then (if (μ 22 0 a3.toNat) = a1 then (kd d 180 1 [some (v_r 21 0), some (v_i a1), some (v_i (mj_w (a2 + 1))), some (v_i (mj_w (a3 + 1)))] [] μ) else (kd d 180 1 [some (v_r 21 0), some (v_i a1), some (v_i a2), some (v_i (mj_w (a3 + 1)))] [] μ)) else (none)) else (some (some (v_i a2), μ)) := (kd_unf [1] 40).trans rfl
-- 181 NumbersCalled$Day.allWaits()I
set_option maxRecDepth 20000 in
theorem ke181_0 (d : Nat)  (μ : mj_M) : kc (d + 1) 181 [v_r 21 0] μ = kd d 181 1 [some (v_r 21 0), some (v_i 0), some (v_i 0)] [] μ := (kd_unf [1] 40).trans rfl
set_option maxRecDepth 20000 in
theorem ke181_1 (d : Nat) (a1 : Int) (a2 : Int) (μ : mj_M) : kd d 181 1 [some (v_r 21 0), some (v_i a1), some (v_i a2)] [] μ = if a2 < (μ 1 2 4) then (if 0 ≤ a2 ∧ a2 < 16 then (if (μ 22 0 a2.toNat) = 2 then (mj_rI (kc d 178 [v_r 21 0, v_i a2] μ) fun x1 m2 => kd d 181 1 [some (v_r 21 0), some (v_i (mj_w (a1 + x1))), some (v_i (mj_w (a2 + 1)))] [] m2) else (kd d 181 1 [some (v_r 21 0), some (v_i a1), some (v_i (mj_w (a2 + 1)))] [] μ)) else (none)) else (some (some (v_i a1), μ)) := (kd_unf [1] 40).trans rfl
-- 182 NumbersCalled$Day.longest()I
set_option maxRecDepth 20000 in
theorem ke182_0 (d : Nat)  (μ : mj_M) : kc (d + 1) 182 [v_r 21 0] μ = kd d 182 1 [some (v_r 21 0), some (v_i 0), some (v_i 0)] [] μ := (kd_unf [1] 40).trans rfl
set_option maxRecDepth 20000 in
theorem ke182_1 (d : Nat) (a1 : Int) (a2 : Int) (μ : mj_M) : kd d 182 1 [some (v_r 21 0), some (v_i a1), some (v_i a2)] [] μ = if a2 < (μ 1 2 4) then (mj_rI (kc d 178 [v_r 21 0, v_i a2] μ) fun x1 m2 => kd d 182 1 [some (v_r 21 0), some (v_i (if a1 < x1 then x1 else a1)), some (v_i (mj_w (a2 + 1)))] [] m2) else (some (some (v_i a1), μ)) := (kd_unf [1] 40).trans rfl
-- 183 NumbersCalled$Day.latestEnd()I
set_option maxRecDepth 20000 in
theorem ke183_0 (d : Nat)  (μ : mj_M) : kc (d + 1) 183 [v_r 21 0] μ = kd d 183 1 [some (v_r 21 0), some (v_i 0), some (v_i 0)] [] μ := (kd_unf [1] 40).trans rfl
set_option maxRecDepth 20000 in
theorem ke183_1 (d : Nat) (a1 : Int) (a2 : Int) (μ : mj_M) : kd d 183 1 [some (v_r 21 0), some (v_i a1), some (v_i a2)] [] μ = if a2 < (μ 1 2 4) then (if 0 ≤ a2 ∧ a2 < 16 then (kd d 183 1 [some (v_r 21 0), some (v_i (if a1 < (μ 24 0 a2.toNat) then μ 24 0 a2.toNat else a1)), some (v_i (mj_w (a2 + 1)))] [] μ) else (none)) else (some (some (v_i a1), μ)) := (kd_unf [1] 40).trans rfl
-- 184 NumbersCalled$Day.allIdled()I
set_option maxRecDepth 20000 in
theorem ke184_0 (d : Nat)  (μ : mj_M) : kc (d + 1) 184 [v_r 21 0] μ = kd d 184 1 [some (v_r 21 0), some (v_i 0), some (v_i 0)] [] μ := (kd_unf [1] 40).trans rfl
set_option maxRecDepth 20000 in
theorem ke184_1 (d : Nat) (a1 : Int) (a2 : Int) (μ : mj_M) : kd d 184 1 [some (v_r 21 0), some (v_i a1), some (v_i a2)] [] μ = if a2 < (μ 1 2 0) then (if 0 ≤ a2 ∧ a2 < 4 then (kd d 184 1 [some (v_r 21 0), some (v_i (mj_w (a1 + (μ 27 0 a2.toNat)))), some (v_i (mj_w (a2 + 1)))] [] μ) else (none)) else (some (some (v_i a1), μ)) := (kd_unf [1] 40).trans rfl
-- 185 NumbersCalled$Day.harm()I
set_option maxRecDepth 20000 in
theorem ke185_0 (d : Nat)  (μ : mj_M) : kc (d + 1) 185 [v_r 21 0] μ = mj_rI (kc d 181 [v_r 21 0] μ) fun x1 m2 => mj_rI (kc d 180 [v_r 21 0, v_i 2] m2) fun x3 m4 => some (some (v_i (mj_w (x1 + (mj_w (60 * (mj_w ((m2 1 2 4) - x3))))))), m4) := (kd_unf [] 40).trans rfl
-- 186 NumbersCalled$Day.isOver(I)Z
set_option maxRecDepth 20000 in
theorem ke186_0 (d : Nat) (p1 : Int) (μ : mj_M) : kc (d + 1) 186 [v_r 21 0, v_i p1] μ = mj_rI (kc d 183 [v_r 21 0] μ) fun x1 m2 => if p1 < x1 then (some (some (v_i 0), m2)) else (mj_rI (kc d 180 [v_r 21 0, v_i 1] m2) fun x3 m4 => if x3 = 0 then (some (some (v_i 1), m4)) else (some (some (v_i 0), m4))) := (kd_unf [] 40).trans rfl
-- 187 NumbersCalled$Day.total(I)I
set_option maxRecDepth 20000 in
theorem ke187_0 (d : Nat) (p1 : Int) (μ : mj_M) : kc (d + 1) 187 [v_r 21 0, v_i p1] μ = if p1 = 0 then (mj_rI (kc d 180 [v_r 21 0, v_i 2] μ) fun x1 m2 => some (some (v_i x1), m2)) else if p1 = 1 then (mj_rI (kc d 181 [v_r 21 0] μ) fun x3 m4 => some (some (v_i x3), m4)) else if p1 = 2 then (mj_rI (kc d 182 [v_r 21 0] μ) fun x5 m6 => some (some (v_i x5), m6)) else if p1 = 3 then (mj_rI (kc d 183 [v_r 21 0] μ) fun x7 m8 => some (some (v_i x7), m8)) else if p1 = 4 then (mj_rI (kc d 180 [v_r 21 0, v_i 3] μ) fun x9 m10 => some (some (v_i x9), m10)) else if p1 = 5 then (mj_rI (kc d 180 [v_r 21 0, v_i 4] μ) fun x11 m12 => some (some (v_i x11), m12)) else if p1 = 6 then (mj_rI (kc d 180 [v_r 21 0, v_i 1] μ) fun x13 m14 => some (some (v_i x13), m14)) else (mj_rI (kc d 184 [v_r 21 0] μ) fun x15 m16 => some (some (v_i x15), m16)) := (kd_unf [] 40).trans rfl
-- 188 NumbersCalled$Least.start()V
set_option maxRecDepth 20000 in
theorem ke188_0 (d : Nat)  (μ : mj_M) : kc (d + 1) 188 [v_r 31 0] μ = some (none, mj_up (mj_up μ 31 0 0 (-1)) 31 0 1 2147483647) := (kd_unf [] 40).trans rfl
-- 189 NumbersCalled$Least.offer(II)V
set_option maxRecDepth 20000 in
theorem ke189_0 (d : Nat) (p1 : Int) (p2 : Int) (μ : mj_M) : kc (d + 1) 189 [v_r 31 0, v_i p1, v_i p2] μ = if p2 < (μ 31 0 1) then (some (none, mj_up (mj_up μ 31 0 0 p1) 31 0 1 p2)) else (some (none, μ)) := (kd_unf [] 40).trans rfl
-- 190 NumbersCalled$Least.tell(I)I
set_option maxRecDepth 20000 in
theorem ke190_0 (d : Nat) (p1 : Int) (μ : mj_M) : kc (d + 1) 190 [v_r 31 0, v_i p1] μ = if p1 = 0 then (some (some (v_i (μ 31 0 0)), μ)) else (some (some (v_i (μ 31 0 1)), μ)) := (kd_unf [] 40).trans rfl
-- 191 NumbersCalled$Plan.become(LNumbersCalled$Plan;)V
set_option maxRecDepth 20000 in
theorem ke191_0 (d : Nat) (i0 : Nat) (i1 : Nat) (μ : mj_M) : kc (d + 1) 191 [v_r 1 i0, v_r 1 i1] μ = kd d 191 1 [some (v_r 1 i0), some (v_r 1 i1), some (v_i 0)] [] (mj_up μ 1 i0 0 (μ 1 i1 0)) := (kd_unf [1, 3] 40).trans rfl
set_option maxRecDepth 20000 in
theorem ke191_1 (d : Nat) (i0 : Nat) (i1 : Nat) (a2 : Int) (μ : mj_M) : kd d 191 1 [some (v_r 1 i0), some (v_r 1 i1), some (v_i a2)] [] μ = if a2 < 4 then (if 0 ≤ a2 ∧ a2 < 4 then (if 0 ≤ a2 ∧ a2 < 4 then (if 0 ≤ a2 ∧ a2 < 4 then (if 0 ≤ a2 ∧ a2 < 4 then (if 0 ≤ a2 ∧ a2 < 4 then (if 0 ≤ a2 ∧ a2 < 4 then (kd d 191 1 [some (v_r 1 i0), some (v_r 1 i1), some (v_i (mj_w (a2 + 1)))] [] (mj_up (mj_up (mj_up μ 2 i0 a2.toNat (μ 2 i1 a2.toNat)) 3 i0 a2.toNat (μ 3 i1 a2.toNat)) 4 i0 a2.toNat (μ 4 i1 a2.toNat))) else (none)) else (none)) else (none)) else (none)) else (none)) else (none)) else (kd d 191 3 [some (v_r 1 i0), some (v_r 1 i1), some (v_i 0)] [] (mj_up μ 1 i0 4 (μ 1 i1 4))) := (kd_unf [1, 3] 40).trans rfl
set_option maxRecDepth 20000 in
theorem ke191_3 (d : Nat) (i0 : Nat) (i1 : Nat) (a2 : Int) (μ : mj_M) : kd d 191 3 [some (v_r 1 i0), some (v_r 1 i1), some (v_i a2)] [] μ = if a2 < 16 then (if 0 ≤ a2 ∧ a2 < 16 then (if 0 ≤ a2 ∧ a2 < 16 then (kd d 191 3 [some (v_r 1 i0), some (v_r 1 i1), some (v_i (mj_w (a2 + 1)))] [] (mj_up μ 5 i0 a2.toNat (μ 5 i1 a2.toNat))) else (none)) else (none)) else (if (μ 1 i1 10) = 0 ∨ (μ 1 i1 10) = 1 then (if (μ 1 i1 11) = 0 ∨ (μ 1 i1 11) = 1 then (some (none, mj_up (mj_up (mj_up (mj_up (mj_up (mj_up μ 1 i0 6 (μ 1 i1 6)) 1 i0 7 (μ 1 i1 7)) 1 i0 8 (μ 1 i1 8)) 1 i0 9 (μ 1 i1 9)) 1 i0 10 (μ 1 i1 10)) 1 i0 11 (μ 1 i1 11))) else (none)) else (none)) := (kd_unf [1, 3] 40).trans rfl
-- 192 NumbersCalled$Plan.teach(I)V
set_option maxRecDepth 20000 in
theorem ke192_0 (d : Nat) (i0 : Nat) (p1 : Int) (μ : mj_M) : kc (d + 1) 192 [v_r 1 i0, v_i p1] μ = mj_rI (kc d 44 [v_i p1, v_i 0, v_i 15] μ) fun x1 m2 => if x1 = 0 then (some (none, m2)) else (if 0 ≤ (mj_w (p1.tdiv 4)) ∧ (mj_w (p1.tdiv 4)) < 4 then (if (0 : Int) ≤ (p1.tmod 4) ∧ (p1.tmod 4) < (32 : Int) then (if (0 : Int) ≤ (m2 2 i0 ((mj_w (p1.tdiv 4)).toNat)) ∧ (0 : Int) ≤ (mj_w (1 * 2 ^ (p1.tmod 4).toNat)) then (if 0 ≤ (mj_w (p1.tdiv 4)) ∧ (mj_w (p1.tdiv 4)) < 4 then (some (none, mj_up m2 2 i0 ((mj_w (p1.tdiv 4)).toNat) (((m2 2 i0 ((mj_w (p1.tdiv 4)).toNat)).toNat ||| (mj_w (1 * 2 ^ (p1.tmod 4).toNat)).toNat : Nat) : Int))) else (none)) else (none)) else (none)) else (none)) := (kd_unf [] 40).trans rfl
-- 193 NumbersCalled$Plan.isPausing(II)Z
set_option maxRecDepth 20000 in
theorem ke193_0 (d : Nat) (i0 : Nat) (p1 : Int) (p2 : Int) (μ : mj_M) : kc (d + 1) 193 [v_r 1 i0, v_i p1, v_i p2] μ = if 0 ≤ p1 ∧ p1 < 4 then (if (μ 4 i0 p1.toNat) < 0 then (some (some (v_i 0), μ)) else (if 0 ≤ p1 ∧ p1 < 4 then (if 0 ≤ p1 ∧ p1 < 4 then (mj_rI (kc d 44 [v_i p2, v_i (μ 4 i0 p1.toNat), v_i (mj_w ((mj_w ((μ 4 i0 p1.toNat) + 10)) - 1))] μ) fun x1 m2 => if x1 = 0 then (some (some (v_i 0), m2)) else (some (some (v_i 1), m2))) else (none)) else (none))) else (none) := (kd_unf [] 40).trans rfl
-- 194 NumbersCalled$Sheet.isMissing()Z
set_option maxRecDepth 20000 in
theorem ke194_0 (d : Nat) (i0 : Nat) (μ : mj_M) : kc (d + 1) 194 [v_r 19 i0] μ = if (μ 19 i0 0) = (-1) then (some (some (v_i 1), μ)) else (some (some (v_i 0), μ)) := (kd_unf [] 40).trans rfl
-- 195 NumbersCalled$Sheet.become(II)V
set_option maxRecDepth 20000 in
theorem ke195_0 (d : Nat) (i0 : Nat) (p1 : Int) (p2 : Int) (μ : mj_M) : kc (d + 1) 195 [v_r 19 i0, v_i p1, v_i p2] μ = kd d 195 1 [some (v_r 19 i0), some (v_i p1), some (v_i p2), some (v_i 0)] [] (mj_up (mj_up μ 19 i0 0 p1) 19 i0 1 p2) := (kd_unf [1] 40).trans rfl
set_option maxRecDepth 20000 in
theorem ke195_1 (d : Nat) (i0 : Nat) (o1 : Option mj_V) (o2 : Option mj_V) (a3 : Int) (μ : mj_M) : kd d 195 1 [some (v_r 19 i0), o1, o2, some (v_i a3)] [] μ = if a3 < 40 then (if 0 ≤ a3 ∧ a3 < 40 then (kd d 195 1 [some (v_r 19 i0), none, none, some (v_i (mj_w (a3 + 1)))] [] (mj_up μ 20 i0 a3.toNat 0)) else (none)) else (some (none, μ)) := (kd_unf [1] 40).trans rfl
-- 196 NumbersCalled$Sheet.write(II)V
set_option maxRecDepth 20000 in
theorem ke196_0 (d : Nat) (i0 : Nat) (p1 : Int) (p2 : Int) (μ : mj_M) : kc (d + 1) 196 [v_r 19 i0, v_i p1, v_i p2] μ = if (μ 19 i0 0) = 0 then (if 0 ≤ p1 ∧ p1 < 40 then (some (none, mj_up μ 20 i0 p1.toNat ((p2 + 128) % 256 - 128))) else (none)) else if (μ 19 i0 0) = 1 then (if 0 ≤ p1 ∧ p1 < 40 then (some (none, mj_up μ 20 i0 p1.toNat ((p2 + 32768) % 65536 - 32768))) else (none)) else (if 0 ≤ p1 ∧ p1 < 40 then (some (none, mj_up μ 20 i0 p1.toNat p2)) else (none)) := (kd_unf [] 40).trans rfl
-- 197 NumbersCalled$Tape.append(I)V
set_option maxRecDepth 20000 in
theorem ke197_0 (d : Nat) (p1 : Int) (μ : mj_M) : kc (d + 1) 197 [v_r 14 0, v_i p1] μ = if (μ 14 0 1) < 160 then (if 0 ≤ (μ 14 0 1) ∧ (μ 14 0 1) < 160 then (some (none, mj_up (mj_up μ 15 0 ((μ 14 0 1).toNat) p1) 14 0 1 (mj_w ((μ 14 0 1) + 1)))) else (none)) else (some (none, μ)) := (kd_unf [] 40).trans rfl
-- 198 NumbersCalled$Tape.read()I
set_option maxRecDepth 20000 in
theorem ke198_0 (d : Nat)  (μ : mj_M) : kc (d + 1) 198 [v_r 14 0] μ = mj_rV (kc d 208 [v_r 14 0] (mj_up (mj_up μ 14 0 4 0) 14 0 5 0)) fun m1 => kd d 198 1 [some (v_r 14 0), some (v_i 0)] [] m1 := (kd_unf [1] 40).trans rfl
set_option maxRecDepth 20000 in
theorem ke198_1 (d : Nat) (a1 : Int) (μ : mj_M) : kd d 198 1 [some (v_r 14 0), some (v_i a1)] [] μ = if 2 < a1 then (if (μ 14 0 7) = 14 then (some (some (v_i (-1)), μ)) else (some (some (v_i (μ 14 0 6)), μ))) else (mj_rI (kc d 199 [v_r 14 0, v_i a1] μ) fun x1 m2 => if x1 = 0 then (some (some (v_i (m2 14 0 6)), m2)) else (mj_rI (kc d 201 [v_r 14 0, v_i 0] m2) fun x3 m4 => if x3 = 0 then (some (some (v_i (m4 14 0 6)), m4)) else (mj_rI (kc d 199 [v_r 14 0, v_i 59] m4) fun x5 m6 => if x5 = 0 then (some (some (v_i (m6 14 0 6)), m6)) else (if 0 ≤ a1 ∧ a1 < 3 then (kd d 198 1 [some (v_r 14 0), some (v_i (mj_w (a1 + 1)))] [] (mj_up m6 17 0 a1.toNat (m6 14 0 4))) else (none))))) := (kd_unf [1] 40).trans rfl
-- 199 NumbersCalled$Tape.skip(I)Z
set_option maxRecDepth 20000 in
theorem ke199_0 (d : Nat) (p1 : Int) (μ : mj_M) : kc (d + 1) 199 [v_r 14 0, v_i p1] μ = if (μ 14 0 7) = p1 then (mj_rV (kc d 208 [v_r 14 0] μ) fun m1 => some (some (v_i 1), m1)) else (some (some (v_i 0), μ)) := (kd_unf [] 40).trans rfl
-- 200 NumbersCalled$Tape.tell(I)V
set_option maxRecDepth 20000 in
theorem ke200_0 (d : Nat) (p1 : Int) (μ : mj_M) : kc (d + 1) 200 [v_r 14 0, v_i p1] μ = if (μ 14 0 4) < 160 then (if 0 ≤ (μ 14 0 4) ∧ (μ 14 0 4) < 160 then (some (none, mj_up (mj_up μ 16 0 ((μ 14 0 4).toNat) p1) 14 0 4 (mj_w ((μ 14 0 4) + 1)))) else (none)) else (some (none, μ)) := (kd_unf [] 40).trans rfl
-- 201 NumbersCalled$Tape.readEither(I)Z
set_option maxRecDepth 20000 in
theorem ke201_0 (d : Nat) (p1 : Int) (μ : mj_M) : kc (d + 1) 201 [v_r 14 0, v_i p1] μ = mj_rI (kc d 202 [v_r 14 0, v_i p1] μ) fun x1 m2 => kd d 201 1 [some (v_r 14 0), some (v_i p1), some (v_i x1), some (v_i 0)] [] m2 := (kd_unf [1] 40).trans rfl
set_option maxRecDepth 20000 in
theorem ke201_1 (d : Nat) (a1 : Int) (a2 : Int) (a3 : Int) (μ : mj_M) : kd d 201 1 [some (v_r 14 0), some (v_i a1), some (v_i a2), some (v_i a3)] [] μ = if a3 < 160 then (if a2 = 0 then (if a2 = 0 ∨ a2 = 1 then (some (some (v_i a2), μ)) else (none)) else (if (μ 14 0 7) = 3 then (mj_rV (kc d 208 [v_r 14 0] μ) fun m1 => mj_rI (kc d 202 [v_r 14 0, v_i a1] m1) fun x2 m3 => mj_rV (kc d 200 [v_r 14 0, v_i (-4)] m3) fun m4 => kd d 201 1 [some (v_r 14 0), some (v_i a1), some (v_i x2), some (v_i (mj_w (a3 + 1)))] [] m4) else (if a2 = 0 ∨ a2 = 1 then (some (some (v_i a2), μ)) else (none)))) else (if a2 = 0 ∨ a2 = 1 then (some (some (v_i a2), μ)) else (none)) := (kd_unf [1] 40).trans rfl
-- 202 NumbersCalled$Tape.readBoth(I)Z
set_option maxRecDepth 20000 in
theorem ke202_0 (d : Nat) (p1 : Int) (μ : mj_M) : kc (d + 1) 202 [v_r 14 0, v_i p1] μ = mj_rI (kc d 203 [v_r 14 0, v_i p1] μ) fun x1 m2 => kd d 202 1 [some (v_r 14 0), some (v_i p1), some (v_i x1), some (v_i 0)] [] m2 := (kd_unf [1] 40).trans rfl
set_option maxRecDepth 20000 in
theorem ke202_1 (d : Nat) (a1 : Int) (a2 : Int) (a3 : Int) (μ : mj_M) : kd d 202 1 [some (v_r 14 0), some (v_i a1), some (v_i a2), some (v_i a3)] [] μ = if a3 < 160 then (if a2 = 0 then (if a2 = 0 ∨ a2 = 1 then (some (some (v_i a2), μ)) else (none)) else (if (μ 14 0 7) = 4 then (mj_rV (kc d 208 [v_r 14 0] μ) fun m1 => mj_rI (kc d 203 [v_r 14 0, v_i a1] m1) fun x2 m3 => mj_rV (kc d 200 [v_r 14 0, v_i (-5)] m3) fun m4 => kd d 202 1 [some (v_r 14 0), some (v_i a1), some (v_i x2), some (v_i (mj_w (a3 + 1)))] [] m4) else (if a2 = 0 ∨ a2 = 1 then (some (some (v_i a2), μ)) else (none)))) else (if a2 = 0 ∨ a2 = 1 then (some (some (v_i a2), μ)) else (none)) := (kd_unf [1] 40).trans rfl
-- 203 NumbersCalled$Tape.readNot(I)Z
set_option maxRecDepth 20000 in
theorem ke203_0 (d : Nat) (p1 : Int) (μ : mj_M) : kc (d + 1) 203 [v_r 14 0, v_i p1] μ = if (μ 14 0 7) = 5 then (mj_rI (kc d 207 [v_r 14 0, v_i 5, v_i p1] μ) fun x3 m4 => if x3 = 0 ∨ x3 = 1 then (some (some (v_i x3), m4)) else (none)) else (mj_rI (kc d 204 [v_r 14 0, v_i p1] μ) fun x1 m2 => if x1 = 0 then (if x1 = 0 ∨ x1 = 1 then (some (some (v_i x1), m2)) else (none)) else (if (m2 14 0 7) = 60 then (kd d 203 2 [some (v_r 14 0), some (v_i p1), some (v_i x1), some (v_i (m2 14 0 7))] [] m2) else (if (m2 14 0 7) = 61 then (kd d 203 2 [some (v_r 14 0), some (v_i p1), some (v_i x1), some (v_i (m2 14 0 7))] [] m2) else (if x1 = 0 ∨ x1 = 1 then (some (some (v_i x1), m2)) else (none))))) := (kd_unf [2] 40).trans rfl
set_option maxRecDepth 20000 in
theorem ke203_2 (d : Nat) (a1 : Int) (o2 : Option mj_V) (a3 : Int) (μ : mj_M) : kd d 203 2 [some (v_r 14 0), some (v_i a1), o2, some (v_i a3)] [] μ = mj_rV (kc d 208 [v_r 14 0] μ) fun m1 => mj_rI (kc d 204 [v_r 14 0, v_i a1] m1) fun x2 m3 => if (0 : Int) ≤ a3 ∧ (0 : Int) ≤ (-1) then (mj_rV (kc d 200 [v_r 14 0, v_i ((a3.toNat ^^^ (-1).toNat : Nat) : Int)] m3) fun m4 => if x2 = 0 ∨ x2 = 1 then (some (some (v_i x2), m4)) else (none)) else (none) := (kd_unf [2] 40).trans rfl
-- 204 NumbersCalled$Tape.readSum(I)Z
set_option maxRecDepth 20000 in
theorem ke204_0 (d : Nat) (p1 : Int) (μ : mj_M) : kc (d + 1) 204 [v_r 14 0, v_i p1] μ = mj_rI (kc d 205 [v_r 14 0, v_i p1] μ) fun x1 m2 => kd d 204 1 [some (v_r 14 0), some (v_i p1), some (v_i x1), some (v_i 0), none] [] m2 := (kd_unf [1, 2] 40).trans rfl
set_option maxRecDepth 20000 in
theorem ke204_1 (d : Nat) (a1 : Int) (a2 : Int) (a3 : Int) (o4 : Option mj_V) (μ : mj_M) : kd d 204 1 [some (v_r 14 0), some (v_i a1), some (v_i a2), some (v_i a3), o4] [] μ = if a3 < 160 then (if a2 = 0 then (if a2 = 0 ∨ a2 = 1 then (some (some (v_i a2), μ)) else (none)) else (if (μ 14 0 7) = 43 then (kd d 204 2 [some (v_r 14 0), some (v_i a1), some (v_i a2), some (v_i a3), none] [] μ) else (if (μ 14 0 7) = 45 then (kd d 204 2 [some (v_r 14 0), some (v_i a1), some (v_i a2), some (v_i a3), none] [] μ) else (if a2 = 0 ∨ a2 = 1 then (some (some (v_i a2), μ)) else (none))))) else (if a2 = 0 ∨ a2 = 1 then (some (some (v_i a2), μ)) else (none)) := (kd_unf [1, 2] 40).trans rfl
set_option maxRecDepth 20000 in
theorem ke204_2 (d : Nat) (a1 : Int) (o2 : Option mj_V) (a3 : Int) (o4 : Option mj_V) (μ : mj_M) : kd d 204 2 [some (v_r 14 0), some (v_i a1), o2, some (v_i a3), o4] [] μ = mj_rV (kc d 208 [v_r 14 0] μ) fun m1 => mj_rI (kc d 205 [v_r 14 0, v_i a1] m1) fun x2 m3 => if (0 : Int) ≤ (μ 14 0 7) ∧ (0 : Int) ≤ (-1) then (mj_rV (kc d 200 [v_r 14 0, v_i (((μ 14 0 7).toNat ^^^ (-1).toNat : Nat) : Int)] m3) fun m4 => kd d 204 1 [some (v_r 14 0), some (v_i a1), some (v_i x2), some (v_i (mj_w (a3 + 1))), some (v_i (μ 14 0 7))] [] m4) else (none) := (kd_unf [1, 2] 40).trans rfl
-- 205 NumbersCalled$Tape.readTerm(I)Z
set_option maxRecDepth 20000 in
theorem ke205_0 (d : Nat) (p1 : Int) (μ : mj_M) : kc (d + 1) 205 [v_r 14 0, v_i p1] μ = mj_rI (kc d 206 [v_r 14 0, v_i p1] μ) fun x1 m2 => kd d 205 1 [some (v_r 14 0), some (v_i p1), some (v_i x1), some (v_i 0)] [] m2 := (kd_unf [1] 40).trans rfl
set_option maxRecDepth 20000 in
theorem ke205_1 (d : Nat) (a1 : Int) (a2 : Int) (a3 : Int) (μ : mj_M) : kd d 205 1 [some (v_r 14 0), some (v_i a1), some (v_i a2), some (v_i a3)] [] μ = if a3 < 160 then (if a2 = 0 then (if a2 = 0 ∨ a2 = 1 then (some (some (v_i a2), μ)) else (none)) else (if (μ 14 0 7) = 42 then (mj_rV (kc d 208 [v_r 14 0] μ) fun m1 => mj_rI (kc d 206 [v_r 14 0, v_i a1] m1) fun x2 m3 => mj_rV (kc d 200 [v_r 14 0, v_i (-43)] m3) fun m4 => kd d 205 1 [some (v_r 14 0), some (v_i a1), some (v_i x2), some (v_i (mj_w (a3 + 1)))] [] m4) else (if a2 = 0 ∨ a2 = 1 then (some (some (v_i a2), μ)) else (none)))) else (if a2 = 0 ∨ a2 = 1 then (some (some (v_i a2), μ)) else (none)) := (kd_unf [1] 40).trans rfl
-- 206 NumbersCalled$Tape.readOne(I)Z
set_option maxRecDepth 20000 in
theorem ke206_0 (d : Nat) (p1 : Int) (μ : mj_M) : kc (d + 1) 206 [v_r 14 0, v_i p1] μ = if (μ 14 0 7) = 45 then (mj_rI (kc d 207 [v_r 14 0, v_i 12, v_i p1] μ) fun x5 m6 => if x5 = 0 ∨ x5 = 1 then (some (some (v_i x5), m6)) else (none)) else (if (μ 14 0 7) = 40 then (mj_rI (kc d 207 [v_r 14 0, v_i 40, v_i p1] μ) fun x3 m4 => if x3 = 0 ∨ x3 = 1 then (some (some (v_i x3), m4)) else (none)) else (mj_rI (kc d 44 [v_i (μ 14 0 7), v_i 6, v_i 11] μ) fun x1 m2 => if (m2 14 0 7) = 13 then (kd d 206 3 [some (v_r 14 0), none, some (v_i x1)] [] m2) else (if x1 = 0 then (some (some (v_i 0), m2)) else (kd d 206 3 [some (v_r 14 0), none, some (v_i x1)] [] m2)))) := (kd_unf [3] 40).trans rfl
set_option maxRecDepth 20000 in
theorem ke206_3 (d : Nat) (o1 : Option mj_V) (a2 : Int) (μ : mj_M) : kd d 206 3 [some (v_r 14 0), o1, some (v_i a2)] [] μ = if a2 = 0 then (mj_rV (kc d 200 [v_r 14 0, v_i (μ 14 0 8)] μ) fun m1 => mj_rV (kc d 208 [v_r 14 0] m1) fun m2 => some (some (v_i 1), m2)) else (if (0 : Int) ≤ (μ 14 0 7) ∧ (0 : Int) ≤ (-1) then (mj_rV (kc d 200 [v_r 14 0, v_i (((μ 14 0 7).toNat ^^^ (-1).toNat : Nat) : Int)] μ) fun m3 => mj_rV (kc d 208 [v_r 14 0] m3) fun m4 => some (some (v_i 1), m4)) else (none)) := (kd_unf [3] 40).trans rfl
-- 207 NumbersCalled$Tape.readBehind(II)Z
set_option maxRecDepth 20000 in
theorem ke207_0 (d : Nat) (p1 : Int) (p2 : Int) (μ : mj_M) : kc (d + 1) 207 [v_r 14 0, v_i p1, v_i p2] μ = if p2 < 5 then (mj_rV (kc d 208 [v_r 14 0] μ) fun m1 => if p1 = 40 then (mj_rI (kc d 201 [v_r 14 0, v_i (mj_w (p2 + 1))] m1) fun x8 m9 => if x8 = 0 then (some (some (v_i 0), m9)) else (mj_rI (kc d 199 [v_r 14 0, v_i 41] m9) fun x10 m11 => if x10 = 0 then (some (some (v_i 0), m11)) else (some (some (v_i 1), m11)))) else (if p1 = 5 then (mj_rI (kc d 203 [v_r 14 0, v_i (mj_w (p2 + 1))] m1) fun x5 m6 => if (0 : Int) ≤ p1 ∧ (0 : Int) ≤ (-1) then (mj_rV (kc d 200 [v_r 14 0, v_i ((p1.toNat ^^^ (-1).toNat : Nat) : Int)] m6) fun m7 => if x5 = 0 ∨ x5 = 1 then (some (some (v_i x5), m7)) else (none)) else (none)) else (mj_rI (kc d 206 [v_r 14 0, v_i (mj_w (p2 + 1))] m1) fun x2 m3 => if (0 : Int) ≤ p1 ∧ (0 : Int) ≤ (-1) then (mj_rV (kc d 200 [v_r 14 0, v_i ((p1.toNat ^^^ (-1).toNat : Nat) : Int)] m3) fun m4 => if x2 = 0 ∨ x2 = 1 then (some (some (v_i x2), m4)) else (none)) else (none)))) else (some (some (v_i 0), μ)) := (kd_unf [] 40).trans rfl
-- 208 NumbersCalled$Tape.step()V
set_option maxRecDepth 20000 in
theorem ke208_0 (d : Nat) (o1 : Option mj_V) (μ : mj_M) : kd d 208 0 [some (v_r 14 0), o1] [] μ = if (μ 14 0 5) < (μ 14 0 1) then (if 0 ≤ (μ 14 0 5) ∧ (μ 14 0 5) < 160 then (if (μ 15 0 ((μ 14 0 5).toNat)) = 32 then (kd d 208 0 [some (v_r 14 0), none] [] (mj_up μ 14 0 5 (mj_w ((μ 14 0 5) + 1)))) else (if 0 ≤ (μ 14 0 5) ∧ (μ 14 0 5) < 160 then (if (μ 15 0 ((μ 14 0 5).toNat)) = 10 then (kd d 208 0 [some (v_r 14 0), none] [] (mj_up μ 14 0 5 (mj_w ((μ 14 0 5) + 1)))) else (kd d 208 2 [some (v_r 14 0), none] [] μ)) else (none))) else (none)) else (kd d 208 2 [some (v_r 14 0), none] [] μ) := (kd_unf [0, 2] 40).trans rfl
set_option maxRecDepth 20000 in
theorem ke208_2 (d : Nat) (o1 : Option mj_V) (μ : mj_M) : kd d 208 2 [some (v_r 14 0), o1] [] μ = if (μ 14 0 5) < (μ 14 0 1) then (if 0 ≤ (μ 14 0 5) ∧ (μ 14 0 5) < 160 then (mj_rI (kc d 44 [v_i (μ 15 0 ((μ 14 0 5).toNat)), v_i 97, v_i 122] (mj_up μ 14 0 6 (μ 14 0 5))) fun x1 m2 => if x1 = 0 then (mj_rI (kc d 44 [v_i (μ 15 0 ((μ 14 0 5).toNat)), v_i 48, v_i 57] m2) fun x3 m4 => if x3 = 0 then (mj_rI (kc d 210 [v_i (μ 15 0 ((μ 14 0 5).toNat))] (mj_up m4 14 0 5 (mj_w ((m4 14 0 5) + 1)))) fun x5 m6 => if x5 = 0 then (some (none, mj_up m6 14 0 7 15)) else (some (none, mj_up m6 14 0 7 (μ 15 0 ((μ 14 0 5).toNat))))) else (mj_rV (kc d 209 [v_r 14 0, v_i 48, v_i 57] m4) fun m7 => mj_rI (kc d 211 [v_r 14 0] m7) fun x8 m9 => some (none, mj_up m9 14 0 7 x8))) else (mj_rV (kc d 209 [v_r 14 0, v_i 97, v_i 122] m2) fun m10 => mj_rI (kc d 212 [v_r 14 0] m10) fun x11 m12 => some (none, mj_up m12 14 0 7 x11))) else (none)) else (some (none, mj_up (mj_up μ 14 0 6 (μ 14 0 5)) 14 0 7 14)) := (kd_unf [0, 2] 40).trans rfl
-- 209 NumbersCalled$Tape.passAll(II)V
set_option maxRecDepth 20000 in
theorem ke209_0 (d : Nat) (a1 : Int) (a2 : Int) (μ : mj_M) : kd d 209 0 [some (v_r 14 0), some (v_i a1), some (v_i a2)] [] μ = if (μ 14 0 5) < (μ 14 0 1) then (if 0 ≤ (μ 14 0 5) ∧ (μ 14 0 5) < 160 then (mj_rI (kc d 44 [v_i (μ 15 0 ((μ 14 0 5).toNat)), v_i a1, v_i a2] μ) fun x1 m2 => if x1 = 0 then (some (none, m2)) else (kd d 209 0 [some (v_r 14 0), some (v_i a1), some (v_i a2)] [] (mj_up m2 14 0 5 (mj_w ((m2 14 0 5) + 1))))) else (none)) else (some (none, μ)) := (kd_unf [0] 40).trans rfl
-- 210 NumbersCalled$Tape.isSign(I)Z
set_option maxRecDepth 20000 in
theorem ke210_0 (d : Nat) (p0 : Int) (μ : mj_M) : kc (d + 1) 210 [v_i p0] μ = if p0 = 40 then (some (some (v_i 1), μ)) else (if p0 = 41 then (some (some (v_i 1), μ)) else (if p0 = 59 then (some (some (v_i 1), μ)) else (if p0 = 43 then (some (some (v_i 1), μ)) else (if p0 = 45 then (some (some (v_i 1), μ)) else (if p0 = 42 then (some (some (v_i 1), μ)) else (if p0 = 60 then (some (some (v_i 1), μ)) else (if p0 = 61 then (some (some (v_i 1), μ)) else (some (some (v_i 0), μ))))))))) := (kd_unf [] 40).trans rfl
-- 211 NumbersCalled$Tape.numberToken()I
set_option maxRecDepth 20000 in
theorem ke211_0 (d : Nat)  (μ : mj_M) : kc (d + 1) 211 [v_r 14 0] μ = if 4 < (mj_w ((μ 14 0 5) - (μ 14 0 6))) then (some (some (v_i 15), μ)) else (kd d 211 2 [some (v_r 14 0), some (v_i (μ 14 0 6))] [] (mj_up μ 14 0 8 0)) := (kd_unf [2] 40).trans rfl
set_option maxRecDepth 20000 in
theorem ke211_2 (d : Nat) (a1 : Int) (μ : mj_M) : kd d 211 2 [some (v_r 14 0), some (v_i a1)] [] μ = if a1 < (μ 14 0 5) then (if 0 ≤ a1 ∧ a1 < 160 then (kd d 211 2 [some (v_r 14 0), some (v_i (mj_w (a1 + 1)))] [] (mj_up μ 14 0 8 (mj_w ((mj_w ((mj_w ((μ 14 0 8) * 10)) + (μ 15 0 a1.toNat))) - 48)))) else (none)) else (some (some (v_i 13), μ)) := (kd_unf [2] 40).trans rfl
-- 212 NumbersCalled$Tape.wordToken()I
set_option maxRecDepth 20000 in
theorem ke212_0 (d : Nat)  (μ : mj_M) : kc (d + 1) 212 [v_r 14 0] μ = if 6 < (mj_w ((μ 14 0 5) - (μ 14 0 6))) then (some (some (v_i 15), μ)) else (kd d 212 2 [some (v_r 14 0), some (v_i 0)] [] μ) := (kd_unf [2] 40).trans rfl
set_option maxRecDepth 20000 in
theorem ke212_2 (d : Nat) (a1 : Int) (μ : mj_M) : kd d 212 2 [some (v_r 14 0), some (v_i a1)] [] μ = if a1 < 12 then (mj_rI (kc d 213 [v_r 14 0, v_i a1] μ) fun x1 m2 => if x1 = 0 then (kd d 212 2 [some (v_r 14 0), some (v_i (mj_w (a1 + 1)))] [] m2) else (some (some (v_i a1), m2))) else (some (some (v_i 15), μ)) := (kd_unf [2] 40).trans rfl
-- 213 NumbersCalled$Tape.isWord(I)Z
set_option maxRecDepth 20000 in
theorem ke213_0 (d : Nat) (p1 : Int) (μ : mj_M) : kc (d + 1) 213 [v_r 14 0, v_i p1] μ = kd d 213 1 [some (v_r 14 0), some (v_i p1), some (v_i 0), none] [] μ := (kd_unf [1, 3] 40).trans rfl
set_option maxRecDepth 20000 in
theorem ke213_1 (d : Nat) (a1 : Int) (a2 : Int) (o3 : Option mj_V) (μ : mj_M) : kd d 213 1 [some (v_r 14 0), some (v_i a1), some (v_i a2), o3] [] μ = if a2 < 6 then (if (mj_w ((μ 14 0 6) + a2)) < (μ 14 0 5) then (if 0 ≤ (mj_w ((μ 14 0 6) + a2)) ∧ (mj_w ((μ 14 0 6) + a2)) < 160 then (kd d 213 3 [some (v_r 14 0), some (v_i a1), some (v_i a2), none] [v_i (μ 15 0 ((mj_w ((μ 14 0 6) + a2)).toNat))] μ) else (none)) else (kd d 213 3 [some (v_r 14 0), some (v_i a1), some (v_i a2), none] [v_i 32] μ)) else (some (some (v_i 1), μ)) := (kd_unf [1, 3] 40).trans rfl
set_option maxRecDepth 20000 in
theorem ke213_3 (d : Nat) (a1 : Int) (a2 : Int) (o3 : Option mj_V) (s0 : Int) (μ : mj_M) : kd d 213 3 [some (v_r 14 0), some (v_i a1), some (v_i a2), o3] [v_i s0] μ = mj_tb4 mk_TB 0 (mj_w ((mj_w (a1 * 6)) + a2)) fun x1 => if x1 = s0 then (kd d 213 1 [some (v_r 14 0), some (v_i a1), some (v_i (mj_w (a2 + 1))), none] [] μ) else (some (some (v_i 0), μ)) := (kd_unf [1, 3] 40).trans rfl
-- 214 NumbersCalled$Text.become(LNumbersCalled$Tape;)V
set_option maxRecDepth 20000 in
theorem ke214_0 (d : Nat) (i0 : Nat) (μ : mj_M) : kc (d + 1) 214 [v_r 9 i0, v_r 14 0] μ = kd d 214 1 [some (v_r 9 i0), some (v_r 14 0), some (v_i 0)] [] μ := (kd_unf [1, 3] 40).trans rfl
set_option maxRecDepth 20000 in
theorem ke214_1 (d : Nat) (i0 : Nat) (a2 : Int) (μ : mj_M) : kd d 214 1 [some (v_r 9 i0), some (v_r 14 0), some (v_i a2)] [] μ = if a2 < 160 then (if 0 ≤ a2 ∧ a2 < 160 then (if 0 ≤ a2 ∧ a2 < 160 then (kd d 214 1 [some (v_r 9 i0), some (v_r 14 0), some (v_i (mj_w (a2 + 1)))] [] (mj_up μ 10 i0 a2.toNat (μ 16 0 a2.toNat))) else (none)) else (none)) else (kd d 214 3 [some (v_r 9 i0), some (v_r 14 0), some (v_i 0)] [] μ) := (kd_unf [1, 3] 40).trans rfl
set_option maxRecDepth 20000 in
theorem ke214_3 (d : Nat) (i0 : Nat) (a2 : Int) (μ : mj_M) : kd d 214 3 [some (v_r 9 i0), some (v_r 14 0), some (v_i a2)] [] μ = if 2 < a2 then (some (none, μ)) else (if 0 ≤ a2 ∧ a2 < 3 then (if 0 ≤ a2 ∧ a2 < 3 then (kd d 214 3 [some (v_r 9 i0), some (v_r 14 0), some (v_i (mj_w (a2 + 1)))] [] (mj_up μ 11 i0 a2.toNat (μ 17 0 a2.toNat))) else (none)) else (none)) := (kd_unf [1, 3] 40).trans rfl
-- 215 NumbersCalled$Text.worth(ILNumbersCalled$Asker;III)I
set_option maxRecDepth 20000 in
theorem ke215_0 (d : Nat) (i0 : Nat) (p1 : Int) (i2 : Nat) (p3 : Int) (p4 : Int) (p5 : Int) (μ : mj_M) : kc (d + 1) 215 [v_r 9 i0, v_i p1, v_r 7 i2, v_i p3, v_i p4, v_i p5] μ = if p1 = 0 then (kd d 215 3 [some (v_r 9 i0), some (v_i p1), none, none, none, none, some (v_i 0), some (v_i 0), none, none, none] [] (mj_up (mj_up (mj_up (mj_up (mj_up (mj_up μ 13 i0 0 (μ 7 i2 2)) 13 i0 1 (μ 7 i2 3)) 13 i0 2 p4) 13 i0 3 p3) 13 i0 4 p5) 13 i0 5 (μ 7 i2 1))) else (if 0 ≤ (mj_w (p1 - 1)) ∧ (mj_w (p1 - 1)) < 3 then (kd d 215 3 [some (v_r 9 i0), some (v_i p1), none, none, none, none, some (v_i 0), some (v_i (μ 11 i0 ((mj_w (p1 - 1)).toNat))), none, none, none] [] (mj_up (mj_up (mj_up (mj_up (mj_up (mj_up μ 13 i0 0 (μ 7 i2 2)) 13 i0 1 (μ 7 i2 3)) 13 i0 2 p4) 13 i0 3 p3) 13 i0 4 p5) 13 i0 5 (μ 7 i2 1))) else (none)) := (kd_unf [3, 5, 6, 10] 40).trans rfl
set_option maxRecDepth 20000 in
theorem ke215_3 (d : Nat) (i0 : Nat) (a1 : Int) (o2 : Option mj_V) (o3 : Option mj_V) (o4 : Option mj_V) (o5 : Option mj_V) (a6 : Int) (a7 : Int) (o8 : Option mj_V) (o9 : Option mj_V) (o10 : Option mj_V) (μ : mj_M) : kd d 215 3 [some (v_r 9 i0), some (v_i a1), o2, o3, o4, o5, some (v_i a6), some (v_i a7), o8, o9, o10] [] μ = if 0 ≤ a1 ∧ a1 < 3 then (if a7 < (μ 11 i0 a1.toNat) then (if 0 ≤ a7 ∧ a7 < 160 then (if (0 : Int) ≤ (μ 10 i0 a7.toNat) ∧ (0 : Int) ≤ (-1) then (if (((μ 10 i0 a7.toNat).toNat ^^^ (-1).toNat : Nat) : Int) < 6 then (kd d 215 5 [some (v_r 9 i0), some (v_i a1), none, none, none, none, some (v_i a6), some (v_i a7), some (v_i (((μ 10 i0 a7.toNat).toNat ^^^ (-1).toNat : Nat) : Int)), none, none] [v_i 0] μ) else (if 11 < (((μ 10 i0 a7.toNat).toNat ^^^ (-1).toNat : Nat) : Int) then (kd d 215 5 [some (v_r 9 i0), some (v_i a1), none, none, none, none, some (v_i a6), some (v_i a7), some (v_i (((μ 10 i0 a7.toNat).toNat ^^^ (-1).toNat : Nat) : Int)), none, none] [v_i 0] μ) else (kd d 215 5 [some (v_r 9 i0), some (v_i a1), none, none, none, none, some (v_i a6), some (v_i a7), some (v_i (((μ 10 i0 a7.toNat).toNat ^^^ (-1).toNat : Nat) : Int)), none, none] [v_i 1] μ))) else (none)) else (none)) else (if 0 < a6 then (some (some (v_i (μ 12 i0 0)), μ)) else (some (some (v_i 0), μ)))) else (none) := (kd_unf [3, 5, 6, 10] 40).trans rfl
set_option maxRecDepth 20000 in
theorem ke215_5 (d : Nat) (i0 : Nat) (a1 : Int) (o2 : Option mj_V) (o3 : Option mj_V) (o4 : Option mj_V) (o5 : Option mj_V) (a6 : Int) (a7 : Int) (a8 : Int) (o9 : Option mj_V) (o10 : Option mj_V) (s0 : Int) (μ : mj_M) : kd d 215 5 [some (v_r 9 i0), some (v_i a1), o2, o3, o4, o5, some (v_i a6), some (v_i a7), some (v_i a8), o9, o10] [v_i s0] μ = if a8 < 0 then (kd d 215 6 [some (v_r 9 i0), some (v_i a1), none, none, none, none, some (v_i a6), some (v_i a7), some (v_i a8), some (v_i s0), none] [] μ) else (if s0 = 0 then (if a8 = 5 then (kd d 215 10 [some (v_r 9 i0), some (v_i a1), none, none, none, none, some (v_i a6), some (v_i a7), some (v_i a8), none, none] [] μ) else (if a8 = 12 then (kd d 215 10 [some (v_r 9 i0), some (v_i a1), none, none, none, none, some (v_i a6), some (v_i a7), some (v_i a8), none, none] [] μ) else (if 1 < a6 then (if 0 ≤ (mj_w ((mj_w (a6 + (-1))) - 1)) ∧ (mj_w ((mj_w (a6 + (-1))) - 1)) < 32 then (if 0 ≤ (mj_w (a6 + (-1))) ∧ (mj_w (a6 + (-1))) < 32 then (mj_rI (kc d 216 [v_i a8, v_i (μ 12 i0 ((mj_w ((mj_w (a6 + (-1))) - 1)).toNat)), v_i (μ 12 i0 ((mj_w (a6 + (-1))).toNat))] μ) fun x1 m2 => if 0 ≤ (mj_w ((mj_w (a6 + (-1))) - 1)) ∧ (mj_w ((mj_w (a6 + (-1))) - 1)) < 32 then (kd d 215 3 [some (v_r 9 i0), some (v_i a1), none, none, none, none, some (v_i (mj_w (a6 + (-1)))), some (v_i (mj_w (a7 + 1))), none, none, none] [] (mj_up m2 12 i0 ((mj_w ((mj_w (a6 + (-1))) - 1)).toNat) x1)) else (none)) else (none)) else (none)) else (kd d 215 3 [some (v_r 9 i0), some (v_i a1), none, none, none, none, some (v_i a6), some (v_i (mj_w (a7 + 1))), none, none, none] [] μ)))) else (kd d 215 6 [some (v_r 9 i0), some (v_i a1), none, none, none, none, some (v_i a6), some (v_i a7), some (v_i a8), some (v_i s0), none] [] μ)) := (kd_unf [3, 5, 6, 10] 40).trans rfl
set_option maxRecDepth 20000 in
theorem ke215_6 (d : Nat) (i0 : Nat) (a1 : Int) (o2 : Option mj_V) (o3 : Option mj_V) (o4 : Option mj_V) (o5 : Option mj_V) (a6 : Int) (a7 : Int) (a8 : Int) (a9 : Int) (o10 : Option mj_V) (μ : mj_M) : kd d 215 6 [some (v_r 9 i0), some (v_i a1), o2, o3, o4, o5, some (v_i a6), some (v_i a7), some (v_i a8), some (v_i a9), o10] [] μ = if a6 < 32 then (if a9 = 0 then (if 0 ≤ a7 ∧ a7 < 160 then (if 0 ≤ a6 ∧ a6 < 32 then (kd d 215 3 [some (v_r 9 i0), some (v_i a1), none, none, none, none, some (v_i (mj_w (a6 + 1))), some (v_i (mj_w (a7 + 1))), none, none, none] [] (mj_up μ 12 i0 a6.toNat (μ 10 i0 a7.toNat))) else (none)) else (none)) else (if 0 ≤ (mj_w (a8 - 6)) ∧ (mj_w (a8 - 6)) < 6 then (if 0 ≤ a6 ∧ a6 < 32 then (kd d 215 3 [some (v_r 9 i0), some (v_i a1), none, none, none, none, some (v_i (mj_w (a6 + 1))), some (v_i (mj_w (a7 + 1))), none, none, none] [] (mj_up μ 12 i0 a6.toNat (μ 13 i0 ((mj_w (a8 - 6)).toNat)))) else (none)) else (none))) else (kd d 215 3 [some (v_r 9 i0), some (v_i a1), none, none, none, none, some (v_i a6), some (v_i (mj_w (a7 + 1))), none, none, none] [] μ) := (kd_unf [3, 5, 6, 10] 40).trans rfl
set_option maxRecDepth 20000 in
theorem ke215_10 (d : Nat) (i0 : Nat) (a1 : Int) (o2 : Option mj_V) (o3 : Option mj_V) (o4 : Option mj_V) (o5 : Option mj_V) (a6 : Int) (a7 : Int) (a8 : Int) (o9 : Option mj_V) (o10 : Option mj_V) (μ : mj_M) : kd d 215 10 [some (v_r 9 i0), some (v_i a1), o2, o3, o4, o5, some (v_i a6), some (v_i a7), some (v_i a8), o9, o10] [] μ = if 0 < a6 then (if 0 ≤ (mj_w (a6 - 1)) ∧ (mj_w (a6 - 1)) < 32 then (if a8 = 12 then (if 0 ≤ (mj_w (a6 - 1)) ∧ (mj_w (a6 - 1)) < 32 then (kd d 215 3 [some (v_r 9 i0), some (v_i a1), none, none, none, none, some (v_i a6), some (v_i (mj_w (a7 + 1))), none, none, none] [] (mj_up μ 12 i0 ((mj_w (a6 - 1)).toNat) (mj_w (-(μ 12 i0 ((mj_w (a6 - 1)).toNat)))))) else (none)) else (if (μ 12 i0 ((mj_w (a6 - 1)).toNat)) = 0 then (if 0 ≤ (mj_w (a6 - 1)) ∧ (mj_w (a6 - 1)) < 32 then (kd d 215 3 [some (v_r 9 i0), some (v_i a1), none, none, none, none, some (v_i a6), some (v_i (mj_w (a7 + 1))), none, none, none] [] (mj_up μ 12 i0 ((mj_w (a6 - 1)).toNat) 1)) else (none)) else (if 0 ≤ (mj_w (a6 - 1)) ∧ (mj_w (a6 - 1)) < 32 then (kd d 215 3 [some (v_r 9 i0), some (v_i a1), none, none, none, none, some (v_i a6), some (v_i (mj_w (a7 + 1))), none, none, none] [] (mj_up μ 12 i0 ((mj_w (a6 - 1)).toNat) 0)) else (none)))) else (none)) else (kd d 215 3 [some (v_r 9 i0), some (v_i a1), none, none, none, none, some (v_i a6), some (v_i (mj_w (a7 + 1))), none, none, none] [] μ) := (kd_unf [3, 5, 6, 10] 40).trans rfl
-- 216 NumbersCalled$Text.joined(III)I
set_option maxRecDepth 20000 in
theorem ke216_0 (d : Nat) (p0 : Int) (p1 : Int) (p2 : Int) (μ : mj_M) : kc (d + 1) 216 [v_i p0, v_i p1, v_i p2] μ = if p0 = 3 then (if p1 = 0 then (if p2 = 0 then (some (some (v_i 0), μ)) else (some (some (v_i 1), μ))) else (some (some (v_i 1), μ))) else if p0 = 4 then (if p1 = 0 then (some (some (v_i 0), μ)) else (if p2 = 0 then (some (some (v_i 0), μ)) else (some (some (v_i 1), μ)))) else if p0 = 43 then (some (some (v_i (mj_w (p1 + p2))), μ)) else if p0 = 45 then (some (some (v_i (mj_w (p1 - p2))), μ)) else if p0 = 60 then (if p1 < p2 then (some (some (v_i 1), μ)) else (some (some (v_i 0), μ))) else if p0 = 61 then (if p1 = p2 then (some (some (v_i 1), μ)) else (some (some (v_i 0), μ))) else (some (some (v_i (mj_w (p1 * p2))), μ)) := (kd_unf [] 40).trans rfl
end
section
/-! printed by wip/whole/words.py: which words of the tables the code needs, and where they stand -/
def mk_tb : List Cond := lw_tbl.filter goodWord
theorem mk_good : ∀ w ∈ mk_tb, goodWord w = true := fun _ h => (List.mem_filter.mp h).2
theorem mk_sub : ∀ w ∈ mk_tb, w ∈ lw_tbl := fun _ h => (List.mem_filter.mp h).1
theorem mk_tt {w : Cond} (h : w ∈ tables_1) (g : goodWord w = true) : w ∈ mk_tb := List.mem_filter.mpr ⟨List.mem_append_right _ h, g⟩
theorem mk_t1 (i : Nat) {w : Cond} (h : tables_1_1[i]? = some w) (g : goodWord w = true) : w ∈ mk_tb := mk_tt (List.mem_append_left _ (List.mem_of_getElem? h)) g
theorem mk_t2 (i : Nat) {w : Cond} (h : tables_1_2[i]? = some w) (g : goodWord w = true) : w ∈ mk_tb := mk_tt (List.mem_append_right _ (List.mem_append_left _ (List.mem_of_getElem? h))) g
theorem mk_t3 (i : Nat) {w : Cond} (h : tables_1_3[i]? = some w) (g : goodWord w = true) : w ∈ mk_tb := mk_tt (List.mem_append_right _ (List.mem_append_right _ (List.mem_append_left _ (List.mem_of_getElem? h)))) g
theorem mk_t4 (i : Nat) {w : Cond} (h : tables_1_4[i]? = some w) (g : goodWord w = true) : w ∈ mk_tb := mk_tt (List.mem_append_right _ (List.mem_append_right _ (List.mem_append_right _ (List.mem_append_left _ (List.mem_of_getElem? h))))) g
theorem mk_t5 (i : Nat) {w : Cond} (h : tables_1_5[i]? = some w) (g : goodWord w = true) : w ∈ mk_tb := mk_tt (List.mem_append_right _ (List.mem_append_right _ (List.mem_append_right _ (List.mem_append_right _ (List.mem_append_left _ (List.mem_of_getElem? h)))))) g
theorem mk_t6 (i : Nat) {w : Cond} (h : tables_1_6[i]? = some w) (g : goodWord w = true) : w ∈ mk_tb := mk_tt (List.mem_append_right _ (List.mem_append_right _ (List.mem_append_right _ (List.mem_append_right _ (List.mem_append_right _ (List.mem_of_getElem? h)))))) g
theorem mk_tp (i : Nat) {q : MethodName × Nat} (h : lw_privs[i]? = some q) : Cond.selects q.1.cls q.1 q.1 ∈ mk_tb := List.mem_filter.mpr ⟨List.mem_append_left _ (List.mem_map.mpr ⟨q, List.mem_of_getElem? h, rfl⟩), rfl⟩
/-- a method: name, bytes, what it gives, its class, its locals, how many arguments (this one too), static -/
abbrev mk_T7 : Type := MethodName × ByteArray × Option FieldType × Nat × Nat × Nat × Bool
def mk_q0 : mk_T7 := (yX7_counter, cX7_counter, some .int, 7, 4, 3, false)
theorem mk_w0 : Cond.code mk_q0.1 mk_q0.2.1 mk_q0.2.2.2.2.1 mk_q0.2.2.1 ∈ mk_tb := mk_t2 192 rfl rfl
def mk_q1 : mk_T7 := (yX7_change, cX7_change, some .int, 7, 5, 4, false)
theorem mk_w1 : Cond.code mk_q1.1 mk_q1.2.1 mk_q1.2.2.2.2.1 mk_q1.2.2.1 ∈ mk_tb := mk_t2 197 rfl rfl
def mk_q2 : mk_T7 := (yX7_counterTold, cX7_counterTold, some .int, 7, 3, 3, false)
theorem mk_w2 : Cond.code mk_q2.1 mk_q2.2.1 mk_q2.2.2.2.2.1 mk_q2.2.2.1 ∈ mk_tb := mk_t2 212 rfl rfl
def mk_q3 : mk_T7 := (yX7_set, cX7_set, some .int, 7, 4, 3, false)
theorem mk_w3 : Cond.code mk_q3.1 mk_q3.2.1 mk_q3.2.2.2.2.1 mk_q3.2.2.1 ∈ mk_tb := mk_t2 216 rfl rfl
def mk_q4 : mk_T7 := (yX7_count, cX7_count, some .int, 7, 2, 2, false)
theorem mk_w4 : Cond.code mk_q4.1 mk_q4.2.1 mk_q4.2.2.2.2.1 mk_q4.2.2.1 ∈ mk_tb := mk_t2 227 rfl rfl
def mk_q5 : mk_T7 := (yX7_feed, cX7_feed, some .int, 7, 8, 7, false)
theorem mk_w5 : Cond.code mk_q5.1 mk_q5.2.1 mk_q5.2.2.2.2.1 mk_q5.2.2.1 ∈ mk_tb := mk_t2 231 rfl rfl
def mk_q6 : mk_T7 := (yX7_text, cX7_text, some .int, 7, 2, 1, false)
theorem mk_w6 : Cond.code mk_q6.1 mk_q6.2.1 mk_q6.2.2.2.2.1 mk_q6.2.2.1 ∈ mk_tb := mk_t2 81 rfl rfl
def mk_q7 : mk_T7 := (yX7_force, cX7_force, some .int, 7, 3, 2, false)
theorem mk_w7 : Cond.code mk_q7.1 mk_q7.2.1 mk_q7.2.2.2.2.1 mk_q7.2.2.1 ∈ mk_tb := mk_t2 239 rfl rfl
def mk_q8 : mk_T7 := (yX7_pull, cX7_pull, some .int, 7, 5, 4, false)
theorem mk_w8 : Cond.code mk_q8.1 mk_q8.2.1 mk_q8.2.2.2.2.1 mk_q8.2.2.1 ∈ mk_tb := mk_t3 3 rfl rfl
def mk_q9 : mk_T7 := (yX7_move, cX7_move, some .int, 7, 4, 3, false)
theorem mk_w9 : Cond.code mk_q9.1 mk_q9.2.1 mk_q9.2.2.2.2.1 mk_q9.2.2.1 ∈ mk_tb := mk_t3 14 rfl rfl
def mk_q10 : mk_T7 := (yX7_forget, cX7_forget, some .int, 7, 1, 1, false)
theorem mk_w10 : Cond.code mk_q10.1 mk_q10.2.1 mk_q10.2.2.2.2.1 mk_q10.2.2.1 ∈ mk_tb := mk_t3 22 rfl rfl
def mk_q11 : mk_T7 := (yX7_told, cX7_told, some .int, 7, 3, 3, false)
theorem mk_w11 : Cond.code mk_q11.1 mk_q11.2.1 mk_q11.2.2.2.2.1 mk_q11.2.2.1 ∈ mk_tb := mk_t3 26 rfl rfl
def mk_q12 : mk_T7 := (yX7_asks, cX7_asks, some .int, 7, 7, 6, false)
theorem mk_w12 : Cond.code mk_q12.1 mk_q12.2.1 mk_q12.2.2.2.2.1 mk_q12.2.2.1 ∈ mk_tb := mk_t3 34 rfl rfl
def mk_q13 : mk_T7 := (yX7_of, cX7_of, some .int, 7, 3, 3, false)
theorem mk_w13 : Cond.code mk_q13.1 mk_q13.2.1 mk_q13.2.2.2.2.1 mk_q13.2.2.1 ∈ mk_tb := mk_t3 64 rfl rfl
def mk_q14 : mk_T7 := (yX7_sum, cX7_sum, some .int, 7, 2, 2, false)
theorem mk_w14 : Cond.code mk_q14.1 mk_q14.2.1 mk_q14.2.2.2.2.1 mk_q14.2.2.1 ∈ mk_tb := mk_t3 137 rfl rfl
def mk_q15 : mk_T7 := (yX7_idle, cX7_idle, some .int, 7, 2, 2, false)
theorem mk_w15 : Cond.code mk_q15.1 mk_q15.2.1 mk_q15.2.2.2.2.1 mk_q15.2.2.1 ∈ mk_tb := mk_t3 167 rfl rfl
def mk_q16 : mk_T7 := (yX7_harmed, cX7_harmed, some .int, 7, 1, 1, false)
theorem mk_w16 : Cond.code mk_q16.1 mk_q16.2.1 mk_q16.2.2.2.2.1 mk_q16.2.2.1 ∈ mk_tb := mk_t3 171 rfl rfl
def mk_q17 : mk_T7 := (yX7_letter, cX7_letter, some .int, 7, 4, 3, false)
theorem mk_w17 : Cond.code mk_q17.1 mk_q17.2.1 mk_q17.2.2.2.2.1 mk_q17.2.2.1 ∈ mk_tb := mk_t3 179 rfl rfl
def mk_q18 : mk_T7 := (yX7_train, cX7_train, some .int, 7, 6, 3, false)
theorem mk_w18 : Cond.code mk_q18.1 mk_q18.2.1 mk_q18.2.2.2.2.1 mk_q18.2.2.1 ∈ mk_tb := mk_t3 195 rfl rfl
def mk_q19 : mk_T7 := (yX7_rest, cX7_rest, some .int, 7, 4, 3, false)
theorem mk_w19 : Cond.code mk_q19.1 mk_q19.2.1 mk_q19.2.2.2.2.1 mk_q19.2.2.1 ∈ mk_tb := mk_t3 212 rfl rfl
def mk_q20 : mk_T7 := (yX7_stop, cX7_stop, some .int, 7, 3, 2, false)
theorem mk_w20 : Cond.code mk_q20.1 mk_q20.2.1 mk_q20.2.2.2.2.1 mk_q20.2.2.1 ∈ mk_tb := mk_t3 216 rfl rfl
def mk_q21 : mk_T7 := (yX7_call, cX7_call, some .int, 7, 3, 2, false)
theorem mk_w21 : Cond.code mk_q21.1 mk_q21.2.1 mk_q21.2.2.2.2.1 mk_q21.2.2.1 ∈ mk_tb := mk_t3 228 rfl rfl
def mk_q22 : mk_T7 := (yX7_pay, cX7_pay, some .int, 7, 3, 2, false)
theorem mk_w22 : Cond.code mk_q22.1 mk_q22.2.1 mk_q22.2.2.2.2.1 mk_q22.2.2.1 ∈ mk_tb := mk_t3 232 rfl rfl
def mk_q23 : mk_T7 := (yX7_door, cX7_door, some .int, 7, 3, 2, false)
theorem mk_w23 : Cond.code mk_q23.1 mk_q23.2.1 mk_q23.2.2.2.2.1 mk_q23.2.2.1 ∈ mk_tb := mk_t4 2 rfl rfl
def mk_q24 : mk_T7 := (yX7_say, cX7_say, some .int, 7, 5, 2, false)
theorem mk_w24 : Cond.code mk_q24.1 mk_q24.2.1 mk_q24.2.2.2.2.1 mk_q24.2.2.1 ∈ mk_tb := mk_t4 6 rfl rfl
def mk_q25 : mk_T7 := (yX7_best, cX7_best, some .int, 7, 3, 3, false)
theorem mk_w25 : Cond.code mk_q25.1 mk_q25.2.1 mk_q25.2.2.2.2.1 mk_q25.2.2.1 ∈ mk_tb := mk_t4 10 rfl rfl
def mk_q26 : mk_T7 := (yX7_uneasy, cX7_uneasy, some .int, 7, 3, 1, false)
theorem mk_w26 : Cond.code mk_q26.1 mk_q26.2.1 mk_q26.2.2.2.2.1 mk_q26.2.2.1 ∈ mk_tb := mk_t4 22 rfl rfl
def mk_q27 : mk_T7 := (yX7_rests, cX7_rests, some .int, 7, 6, 2, false)
theorem mk_w27 : Cond.code mk_q27.1 mk_q27.2.1 mk_q27.2.2.2.2.1 mk_q27.2.2.1 ∈ mk_tb := mk_t4 30 rfl rfl
def mk_q28 : mk_T7 := (yX7_when, cX7_when, some .int, 7, 5, 4, false)
theorem mk_w28 : Cond.code mk_q28.1 mk_q28.2.1 mk_q28.2.2.2.2.1 mk_q28.2.2.1 ∈ mk_tb := mk_t4 34 rfl rfl
def mk_q29 : mk_T7 := (yX7_over, cX7_over, some .long, 7, 5, 4, false)
theorem mk_w29 : Cond.code mk_q29.1 mk_q29.2.1 mk_q29.2.2.2.2.1 mk_q29.2.2.1 ∈ mk_tb := mk_t4 38 rfl rfl
def mk_q30 : mk_T7 := (yX7_give, cX7_give, some .int, 7, 6, 4, false)
theorem mk_w30 : Cond.code mk_q30.1 mk_q30.2.1 mk_q30.2.2.2.2.1 mk_q30.2.2.1 ∈ mk_tb := mk_t4 57 rfl rfl
def mk_q31 : mk_T7 := (yX7_judge, cX7_judge, some .int, 7, 3, 2, false)
theorem mk_w31 : Cond.code mk_q31.1 mk_q31.2.1 mk_q31.2.2.2.2.1 mk_q31.2.2.1 ∈ mk_tb := mk_t4 62 rfl rfl
def mk_q32 : mk_T7 := (yX7_laws, cX7_laws, some .int, 7, 5, 2, false)
theorem mk_w32 : Cond.code mk_q32.1 mk_q32.2.1 mk_q32.2.2.2.2.1 mk_q32.2.2.1 ∈ mk_tb := mk_t4 81 rfl rfl
def mk_q33 : mk_T7 := (yX7_which, cX7_which, some .int, 7, 5, 2, false)
theorem mk_w33 : Cond.code mk_q33.1 mk_q33.2.1 mk_q33.2.2.2.2.1 mk_q33.2.2.1 ∈ mk_tb := mk_t4 85 rfl rfl
def mk_q34 : mk_T7 := (yX7_film, cX7_film, some .int, 7, 3, 2, false)
theorem mk_w34 : Cond.code mk_q34.1 mk_q34.2.1 mk_q34.2.2.2.2.1 mk_q34.2.2.1 ∈ mk_tb := mk_t4 89 rfl rfl
def mk_q35 : mk_T7 := (yX7_drawn, cX7_drawn, some .int, 7, 3, 3, false)
theorem mk_w35 : Cond.code mk_q35.1 mk_q35.2.1 mk_q35.2.2.2.2.1 mk_q35.2.2.1 ∈ mk_tb := mk_t4 101 rfl rfl
def mk_q36 : mk_T7 := (yX7_odds, cX7_odds, some .long, 7, 7, 5, false)
theorem mk_w36 : Cond.code mk_q36.1 mk_q36.2.1 mk_q36.2.2.2.2.1 mk_q36.2.2.1 ∈ mk_tb := mk_t4 113 rfl rfl
def mk_q37 : mk_T7 := (yX7_image, cX7_image, some .int, 7, 1, 1, false)
theorem mk_w37 : Cond.code mk_q37.1 mk_q37.2.1 mk_q37.2.2.2.2.1 mk_q37.2.2.1 ∈ mk_tb := mk_t4 120 rfl rfl
def mk_q38 : mk_T7 := (yX7_back, cX7_back, some .int, 7, 1, 1, false)
theorem mk_w38 : Cond.code mk_q38.1 mk_q38.2.1 mk_q38.2.2.2.2.1 mk_q38.2.2.1 ∈ mk_tb := mk_t4 124 rfl rfl
def mk_q39 : mk_T7 := (yX7_sheet, cX7_sheet, some .int, 7, 4, 4, false)
theorem mk_w39 : Cond.code mk_q39.1 mk_q39.2.1 mk_q39.2.2.2.2.1 mk_q39.2.2.1 ∈ mk_tb := mk_t4 128 rfl rfl
def mk_q40 : mk_T7 := (yX7_cell, cX7_cell, some .int, 7, 4, 4, false)
theorem mk_w40 : Cond.code mk_q40.1 mk_q40.2.1 mk_q40.2.2.2.2.1 mk_q40.2.2.1 ∈ mk_tb := mk_t4 132 rfl rfl
def mk_q41 : mk_T7 := (yX7_copy, cX7_copy, some .int, 7, 8, 6, false)
theorem mk_w41 : Cond.code mk_q41.1 mk_q41.2.1 mk_q41.2.2.2.2.1 mk_q41.2.2.1 ∈ mk_tb := mk_t4 136 rfl rfl
def mk_q42 : mk_T7 := (yX7_pulls, cX7_pulls, some .int, 7, 9, 5, false)
theorem mk_w42 : Cond.code mk_q42.1 mk_q42.2.1 mk_q42.2.2.2.2.1 mk_q42.2.2.1 ∈ mk_tb := mk_t4 143 rfl rfl
def mk_q43 : mk_T7 := (yX7_taken, cX7_taken, some .int, 7, 5, 3, false)
theorem mk_w43 : Cond.code mk_q43.1 mk_q43.2.1 mk_q43.2.2.2.2.1 mk_q43.2.2.1 ∈ mk_tb := mk_t4 148 rfl rfl
def mk_q44 : mk_T7 := (yX7_within, cX7_within, some .boolean, 7, 3, 3, true)
theorem mk_w44 : Cond.code mk_q44.1 mk_q44.2.1 mk_q44.2.2.2.2.1 mk_q44.2.2.1 ∈ mk_tb := mk_t2 92 rfl rfl
def mk_q45 : mk_T7 := (yX7_bounded, cX7_bounded, some .int, 7, 3, 3, true)
theorem mk_w45 : Cond.code mk_q45.1 mk_q45.2.1 mk_q45.2.2.2.2.1 mk_q45.2.2.1 ∈ mk_tb := mk_t3 48 rfl rfl
def mk_q46 : mk_T7 := (yX7_isByte, cX7_isByte, some .boolean, 7, 1, 1, true)
theorem mk_w46 : Cond.code mk_q46.1 mk_q46.2.1 mk_q46.2.2.2.2.1 mk_q46.2.2.1 ∈ mk_tb := mk_t2 234 rfl rfl
def mk_q47 : mk_T7 := (yX7_isPull, cX7_isPull, some .boolean, 7, 1, 1, true)
theorem mk_w47 : Cond.code mk_q47.1 mk_q47.2.1 mk_q47.2.2.2.2.1 mk_q47.2.2.1 ∈ mk_tb := mk_t3 6 rfl rfl
def mk_q48 : mk_T7 := (yX7_isSheet, cX7_isSheet, some .boolean, 7, 1, 1, true)
theorem mk_w48 : Cond.code mk_q48.1 mk_q48.2.1 mk_q48.2.2.2.2.1 mk_q48.2.2.1 ∈ mk_tb := mk_t4 69 rfl rfl
def mk_q49 : mk_T7 := (yX7_isCounter, cX7_isCounter, some .boolean, 7, 2, 2, false)
theorem mk_w49 : Cond.code mk_q49.1 mk_q49.2.1 mk_q49.2.2.2.2.1 mk_q49.2.2.1 ∈ mk_tb := mk_t2 201 rfl rfl
def mk_q50 : mk_T7 := (yX7_isAsker, cX7_isAsker, some .boolean, 7, 2, 2, false)
theorem mk_w50 : Cond.code mk_q50.1 mk_q50.2.1 mk_q50.2.2.2.2.1 mk_q50.2.2.1 ∈ mk_tb := mk_t3 18 rfl rfl
def mk_q51 : mk_T7 := (yX7_isOfCounter, cX7_isOfCounter, some .boolean, 7, 2, 2, true)
theorem mk_w51 : Cond.code mk_q51.1 mk_q51.2.1 mk_q51.2.2.2.2.1 mk_q51.2.2.1 ∈ mk_tb := mk_t2 204 rfl rfl
def mk_q52 : mk_T7 := (yX7_ofCounter, cX7_ofCounter, some .int, 7, 3, 3, false)
theorem mk_w52 : Cond.code mk_q52.1 mk_q52.2.1 mk_q52.2.2.2.2.1 mk_q52.2.2.1 ∈ mk_tb := mk_t2 208 rfl rfl
def mk_q53 : mk_T7 := (yX7_isOfHall, cX7_isOfHall, some .boolean, 7, 2, 2, true)
theorem mk_w53 : Cond.code mk_q53.1 mk_q53.2.1 mk_q53.2.2.2.2.1 mk_q53.2.2.1 ∈ mk_tb := mk_t2 219 rfl rfl
def mk_q54 : mk_T7 := (yX7_ofHall, cX7_ofHall, some .int, 7, 2, 2, false)
theorem mk_w54 : Cond.code mk_q54.1 mk_q54.2.1 mk_q54.2.2.2.2.1 mk_q54.2.2.1 ∈ mk_tb := mk_t2 223 rfl rfl
def mk_q55 : mk_T7 := (yX7_refusalOfRoll, cX7_refusalOfRoll, some .int, 7, 2, 2, false)
theorem mk_w55 : Cond.code mk_q55.1 mk_q55.2.1 mk_q55.2.2.2.2.1 mk_q55.2.2.1 ∈ mk_tb := mk_t4 66 rfl rfl
def mk_q56 : mk_T7 := (yX7_planAsItIs, cX7_planAsItIs, none, 7, 1, 1, false)
theorem mk_w56 : Cond.code mk_q56.1 mk_q56.2.1 mk_q56.2.2.2.2.1 mk_q56.2.2.1 ∈ mk_tb := mk_t3 72 rfl rfl
def mk_q57 : mk_T7 := (yX7_live, cX7_live, none, 7, 1, 1, false)
theorem mk_w57 : Cond.code mk_q57.1 mk_q57.2.1 mk_q57.2.2.2.2.1 mk_q57.2.2.1 ∈ mk_tb := mk_t3 80 rfl rfl
def mk_q58 : mk_T7 := (yX7_liveAsItIs, cX7_liveAsItIs, none, 7, 1, 1, false)
theorem mk_w58 : Cond.code mk_q58.1 mk_q58.2.1 mk_q58.2.2.2.2.1 mk_q58.2.2.1 ∈ mk_tb := mk_t3 68 rfl rfl
def mk_q59 : mk_T7 := (yX7_planDrawn, cX7_planDrawn, none, 7, 6, 2, false)
theorem mk_w59 : Cond.code mk_q59.1 mk_q59.2.1 mk_q59.2.2.2.2.1 mk_q59.2.2.1 ∈ mk_tb := mk_t4 106 rfl rfl
def mk_q60 : mk_T7 := (yX7_isTrained, cX7_isTrained, some .boolean, 7, 4, 4, false)
theorem mk_w60 : Cond.code mk_q60.1 mk_q60.2.1 mk_q60.2.2.2.2.1 mk_q60.2.2.1 ∈ mk_tb := mk_t3 199 rfl rfl
def mk_q61 : mk_T7 := (yX7_skillName, cX7_skillName, some .int, 7, 1, 1, true)
theorem mk_w61 : Cond.code mk_q61.1 mk_q61.2.1 mk_q61.2.2.2.2.1 mk_q61.2.2.1 ∈ mk_tb := mk_t3 208 rfl rfl
def mk_q62 : mk_T7 := (yX7_someoneComes, cX7_someoneComes, some .boolean, 7, 3, 2, false)
theorem mk_w62 : Cond.code mk_q62.1 mk_q62.2.1 mk_q62.2.2.2.2.1 mk_q62.2.2.1 ∈ mk_tb := mk_t3 220 rfl rfl
def mk_q63 : mk_T7 := (yX7_waitsOfOthers, cX7_waitsOfOthers, some .int, 7, 5, 2, false)
theorem mk_w63 : Cond.code mk_q63.1 mk_q63.2.1 mk_q63.2.2.2.2.1 mk_q63.2.2.1 ∈ mk_tb := mk_t3 236 rfl rfl
def mk_q64 : mk_T7 := (yX7_minded, cX7_minded, some .int, 7, 4, 4, false)
theorem mk_w64 : Cond.code mk_q64.1 mk_q64.2.1 mk_q64.2.2.2.2.1 mk_q64.2.2.1 ∈ mk_tb := mk_t3 59 rfl rfl
def mk_q65 : mk_T7 := (yX7_seekBest, cX7_seekBest, none, 7, 3, 2, false)
theorem mk_w65 : Cond.code mk_q65.1 mk_q65.2.1 mk_q65.2.2.2.2.1 mk_q65.2.2.1 ∈ mk_tb := mk_t4 14 rfl rfl
def mk_q66 : mk_T7 := (yX7_wouldMove, cX7_wouldMove, some .boolean, 7, 3, 2, false)
theorem mk_w66 : Cond.code mk_q66.1 mk_q66.2.1 mk_q66.2.2.2.2.1 mk_q66.2.2.1 ∈ mk_tb := mk_t4 26 rfl rfl
def mk_q67 : mk_T7 := (yX7_firstOtherwise, cX7_firstOtherwise, some .int, 7, 3, 2, false)
theorem mk_w67 : Cond.code mk_q67.1 mk_q67.2.1 mk_q67.2.2.2.2.1 mk_q67.2.2.1 ∈ mk_tb := mk_t4 77 rfl rfl
def mk_q68 : mk_T7 := (yX7_startParts, cX7_startParts, none, 7, 2, 1, false)
theorem mk_w68 : Cond.code mk_q68.1 mk_q68.2.1 mk_q68.2.2.2.2.1 mk_q68.2.2.1 ∈ mk_tb := mk_t4 43 rfl rfl
def mk_q69 : mk_T7 := (yX7_giveOneMore, cX7_giveOneMore, none, 7, 6, 3, false)
theorem mk_w69 : Cond.code mk_q69.1 mk_q69.2.1 mk_q69.2.2.2.2.1 mk_q69.2.2.1 ∈ mk_tb := mk_t4 48 rfl rfl
def mk_q70 : mk_T7 := (yX7_partsAbove, cX7_partsAbove, some .long, 7, 5, 2, false)
theorem mk_w70 : Cond.code mk_q70.1 mk_q70.2.1 mk_q70.2.2.2.2.1 mk_q70.2.2.1 ∈ mk_tb := mk_t4 53 rfl rfl
def mk_q71 : mk_T7 := (yX7_commonDivisor, cX7_commonDivisor, some .int, 7, 3, 2, true)
theorem mk_w71 : Cond.code mk_q71.1 mk_q71.2.1 mk_q71.2.2.2.2.1 mk_q71.2.2.1 ∈ mk_tb := mk_t4 116 rfl rfl
def mk_q72 : mk_T7 := (yX8_in, cX8_in, some .boolean, 8, 3, 3, true)
theorem mk_w72 : Cond.code mk_q72.1 mk_q72.2.1 mk_q72.2.2.2.2.1 mk_q72.2.2.1 ∈ mk_tb := mk_t4 171 rfl rfl
def mk_q73 : mk_T7 := (yX8_within, cX8_within, some .int, 8, 3, 3, true)
theorem mk_w73 : Cond.code mk_q73.1 mk_q73.2.1 mk_q73.2.2.2.2.1 mk_q73.2.2.1 ∈ mk_tb := mk_t5 220 rfl rfl
def mk_q74 : mk_T7 := (yX8_isCounter, cX8_isCounter, some .boolean, 8, 2, 2, false)
theorem mk_w74 : Cond.code mk_q74.1 mk_q74.2.1 mk_q74.2.2.2.2.1 mk_q74.2.2.1 ∈ mk_tb := mk_t5 145 rfl rfl
def mk_q75 : mk_T7 := (yX8_isAsker, cX8_isAsker, some .boolean, 8, 2, 2, false)
theorem mk_w75 : Cond.code mk_q75.1 mk_q75.2.1 mk_q75.2.2.2.2.1 mk_q75.2.2.1 ∈ mk_tb := mk_t5 186 rfl rfl
def mk_q76 : mk_T7 := (yX8_isTold, cX8_isTold, some .boolean, 8, 2, 2, true)
theorem mk_w76 : Cond.code mk_q76.1 mk_q76.2.1 mk_q76.2.2.2.2.1 mk_q76.2.2.1 ∈ mk_tb := mk_t5 137 rfl rfl
def mk_q77 : mk_T7 := (yX8_counter, cX8_counter, some .int, 8, 3, 3, false)
theorem mk_w77 : Cond.code mk_q77.1 mk_q77.2.1 mk_q77.2.2.2.2.1 mk_q77.2.2.1 ∈ mk_tb := mk_t5 134 rfl rfl
def mk_q78 : mk_T7 := (yX8_change, cX8_change, some .int, 8, 5, 4, false)
theorem mk_w78 : Cond.code mk_q78.1 mk_q78.2.1 mk_q78.2.2.2.2.1 mk_q78.2.2.1 ∈ mk_tb := mk_t5 141 rfl rfl
def mk_q79 : mk_T7 := (yX8_counterTold, cX8_counterTold, some .int, 8, 3, 3, false)
theorem mk_w79 : Cond.code mk_q79.1 mk_q79.2.1 mk_q79.2.2.2.2.1 mk_q79.2.2.1 ∈ mk_tb := mk_t5 149 rfl rfl
def mk_q80 : mk_T7 := (yX8_set, cX8_set, some .int, 8, 5, 3, false)
theorem mk_w80 : Cond.code mk_q80.1 mk_q80.2.1 mk_q80.2.2.2.2.1 mk_q80.2.2.1 ∈ mk_tb := mk_t5 153 rfl rfl
def mk_q81 : mk_T7 := (yX8_count, cX8_count, some .int, 8, 2, 2, false)
theorem mk_w81 : Cond.code mk_q81.1 mk_q81.2.1 mk_q81.2.2.2.2.1 mk_q81.2.2.1 ∈ mk_tb := mk_t5 157 rfl rfl
def mk_q82 : mk_T7 := (yX8_isByte, cX8_isByte, some .boolean, 8, 1, 1, true)
theorem mk_w82 : Cond.code mk_q82.1 mk_q82.2.1 mk_q82.2.2.2.2.1 mk_q82.2.2.1 ∈ mk_tb := mk_t5 165 rfl rfl
def mk_q83 : mk_T7 := (yX8_feed, cX8_feed, some .int, 8, 8, 7, false)
theorem mk_w83 : Cond.code mk_q83.1 mk_q83.2.1 mk_q83.2.2.2.2.1 mk_q83.2.2.1 ∈ mk_tb := mk_t5 162 rfl rfl
def mk_q84 : mk_T7 := (yX8_wordFrom, cX8_wordFrom, some .int, 8, 6, 3, false)
theorem mk_w84 : Cond.code mk_q84.1 mk_q84.2.1 mk_q84.2.2.2.2.1 mk_q84.2.2.1 ∈ mk_tb := mk_t4 175 rfl rfl
def mk_q85 : mk_T7 := (yX8_next, cX8_next, none, 8, 3, 1, false)
theorem mk_w85 : Cond.code mk_q85.1 mk_q85.2.1 mk_q85.2.2.2.2.1 mk_q85.2.2.1 ∈ mk_tb := mk_t4 168 rfl rfl
def mk_q86 : mk_T7 := (yX8_rank, cX8_rank, some .int, 8, 1, 1, true)
theorem mk_w86 : Cond.code mk_q86.1 mk_q86.2.1 mk_q86.2.2.2.2.1 mk_q86.2.2.1 ∈ mk_tb := mk_t4 191 rfl rfl
def mk_q87 : mk_T7 := (yX8_puts, cX8_puts, none, 8, 2, 2, false)
theorem mk_w87 : Cond.code mk_q87.1 mk_q87.2.1 mk_q87.2.2.2.2.1 mk_q87.2.2.1 ∈ mk_tb := mk_t4 184 rfl rfl
def mk_q88 : mk_T7 := (yX8_unwinds, cX8_unwinds, none, 8, 3, 2, false)
theorem mk_w88 : Cond.code mk_q88.1 mk_q88.2.1 mk_q88.2.2.2.2.1 mk_q88.2.2.1 ∈ mk_tb := mk_t4 188 rfl rfl
def mk_q89 : mk_T7 := (yX8_holds, cX8_holds, none, 8, 2, 2, false)
theorem mk_w89 : Cond.code mk_q89.1 mk_q89.2.1 mk_q89.2.2.2.2.1 mk_q89.2.2.1 ∈ mk_tb := mk_t4 199 rfl rfl
def mk_q90 : mk_T7 := (yX8_opensOne, cX8_opensOne, some .boolean, 8, 2, 2, false)
theorem mk_w90 : Cond.code mk_q90.1 mk_q90.2.1 mk_q90.2.2.2.2.1 mk_q90.2.2.1 ∈ mk_tb := mk_t4 195 rfl rfl
def mk_q91 : mk_T7 := (yX8_between, cX8_between, some .boolean, 8, 2, 2, false)
theorem mk_w91 : Cond.code mk_q91.1 mk_q91.2.1 mk_q91.2.2.2.2.1 mk_q91.2.2.1 ∈ mk_tb := mk_t4 207 rfl rfl
def mk_q92 : mk_T7 := (yX8_signOf, cX8_signOf, some .int, 8, 1, 1, false)
theorem mk_w92 : Cond.code mk_q92.1 mk_q92.2.1 mk_q92.2.2.2.2.1 mk_q92.2.2.1 ∈ mk_tb := mk_t4 203 rfl rfl
def mk_q93 : mk_T7 := (yX8_eRead, cX8_eRead, some .boolean, 8, 4, 1, false)
theorem mk_w93 : Cond.code mk_q93.1 mk_q93.2.1 mk_q93.2.2.2.2.1 mk_q93.2.2.1 ∈ mk_tb := mk_t4 179 rfl rfl
def mk_q94 : mk_T7 := (yX8_text, cX8_text, some .int, 8, 3, 1, false)
theorem mk_w94 : Cond.code mk_q94.1 mk_q94.2.1 mk_q94.2.2.2.2.1 mk_q94.2.2.1 ∈ mk_tb := mk_t4 164 rfl rfl
def mk_q95 : mk_T7 := (yX8_two, cX8_two, some .int, 8, 3, 3, true)
theorem mk_w95 : Cond.code mk_q95.1 mk_q95.2.1 mk_q95.2.2.2.2.1 mk_q95.2.2.1 ∈ mk_tb := mk_t5 217 rfl rfl
def mk_q96 : mk_T7 := (yX8_worth, cX8_worth, some .int, 8, 5, 2, false)
theorem mk_w96 : Cond.code mk_q96.1 mk_q96.2.1 mk_q96.2.2.2.2.1 mk_q96.2.2.1 ∈ mk_tb := mk_t5 214 rfl rfl
def mk_q97 : mk_T7 := (yX8_force, cX8_force, some .int, 8, 3, 2, false)
theorem mk_w97 : Cond.code mk_q97.1 mk_q97.2.1 mk_q97.2.2.2.2.1 mk_q97.2.2.1 ∈ mk_tb := mk_t5 170 rfl rfl
def mk_q98 : mk_T7 := (yX8_asksOf, cX8_asksOf, some .int, 8, 6, 6, false)
theorem mk_w98 : Cond.code mk_q98.1 mk_q98.2.1 mk_q98.2.2.2.2.1 mk_q98.2.2.1 ∈ mk_tb := mk_t5 210 rfl rfl
def mk_q99 : mk_T7 := (yX8_pull, cX8_pull, some .int, 8, 5, 4, false)
theorem mk_w99 : Cond.code mk_q99.1 mk_q99.2.1 mk_q99.2.2.2.2.1 mk_q99.2.2.1 ∈ mk_tb := mk_t5 174 rfl rfl
def mk_q100 : mk_T7 := (yX8_comesAs, cX8_comesAs, none, 8, 4, 4, false)
theorem mk_w100 : Cond.code mk_q100.1 mk_q100.2.1 mk_q100.2.2.2.2.1 mk_q100.2.2.1 ∈ mk_tb := mk_t5 178 rfl rfl
def mk_q101 : mk_T7 := (yX8_move, cX8_move, some .int, 8, 4, 3, false)
theorem mk_w101 : Cond.code mk_q101.1 mk_q101.2.1 mk_q101.2.2.2.2.1 mk_q101.2.2.1 ∈ mk_tb := mk_t5 182 rfl rfl
def mk_q102 : mk_T7 := (yX8_forget, cX8_forget, some .int, 8, 1, 1, false)
theorem mk_w102 : Cond.code mk_q102.1 mk_q102.2.1 mk_q102.2.2.2.2.1 mk_q102.2.2.1 ∈ mk_tb := mk_t5 190 rfl rfl
def mk_q103 : mk_T7 := (yX8_needs, cX8_needs, some .int, 8, 2, 2, false)
theorem mk_w103 : Cond.code mk_q103.1 mk_q103.2.1 mk_q103.2.2.2.2.1 mk_q103.2.2.1 ∈ mk_tb := mk_t5 198 rfl rfl
def mk_q104 : mk_T7 := (yX8_told, cX8_told, some .int, 8, 3, 3, false)
theorem mk_w104 : Cond.code mk_q104.1 mk_q104.2.1 mk_q104.2.2.2.2.1 mk_q104.2.2.1 ∈ mk_tb := mk_t5 194 rfl rfl
def mk_q105 : mk_T7 := (yX8_takesOf, cX8_takesOf, some .int, 8, 5, 4, false)
theorem mk_w105 : Cond.code mk_q105.1 mk_q105.2.1 mk_q105.2.2.2.2.1 mk_q105.2.2.1 ∈ mk_tb := mk_t5 206 rfl rfl
def mk_q106 : mk_T7 := (yX8_isThere, cX8_isThere, some .boolean, 8, 4, 3, false)
theorem mk_w106 : Cond.code mk_q106.1 mk_q106.2.1 mk_q106.2.2.2.2.1 mk_q106.2.2.1 ∈ mk_tb := mk_t5 224 rfl rfl
def mk_q107 : mk_T7 := (yX8_asks, cX8_asks, some .int, 8, 6, 6, false)
theorem mk_w107 : Cond.code mk_q107.1 mk_q107.2.1 mk_q107.2.2.2.2.1 mk_q107.2.2.1 ∈ mk_tb := mk_t5 202 rfl rfl
def mk_q108 : mk_T7 := (yX8_isAhead, cX8_isAhead, some .boolean, 8, 5, 3, false)
theorem mk_w108 : Cond.code mk_q108.1 mk_q108.2.1 mk_q108.2.2.2.2.1 mk_q108.2.2.1 ∈ mk_tb := mk_t6 4 rfl rfl
def mk_q109 : mk_T7 := (yX8_firstFor, cX8_firstFor, some .int, 8, 4, 2, false)
theorem mk_w109 : Cond.code mk_q109.1 mk_q109.2.1 mk_q109.2.2.2.2.1 mk_q109.2.2.1 ∈ mk_tb := mk_t6 0 rfl rfl
def mk_q110 : mk_T7 := (yX8_callsOne, cX8_callsOne, none, 8, 5, 4, false)
theorem mk_w110 : Cond.code mk_q110.1 mk_q110.2.1 mk_q110.2.2.2.2.1 mk_q110.2.2.1 ∈ mk_tb := mk_t6 8 rfl rfl
def mk_q111 : mk_T7 := (yX8_minute, cX8_minute, none, 8, 6, 2, false)
theorem mk_w111 : Cond.code mk_q111.1 mk_q111.2.1 mk_q111.2.2.2.2.1 mk_q111.2.2.1 ∈ mk_tb := mk_t5 236 rfl rfl
def mk_q112 : mk_T7 := (yX8_lives, cX8_lives, none, 8, 2, 1, false)
theorem mk_w112 : Cond.code mk_q112.1 mk_q112.2.1 mk_q112.2.2.2.2.1 mk_q112.2.2.1 ∈ mk_tb := mk_t5 232 rfl rfl
def mk_q113 : mk_T7 := (yX8_waitOf, cX8_waitOf, some .int, 8, 2, 2, false)
theorem mk_w113 : Cond.code mk_q113.1 mk_q113.2.1 mk_q113.2.2.2.2.1 mk_q113.2.2.1 ∈ mk_tb := mk_t6 12 rfl rfl
def mk_q114 : mk_T7 := (yX8_of, cX8_of, some .int, 8, 3, 3, false)
theorem mk_w114 : Cond.code mk_q114.1 mk_q114.2.1 mk_q114.2.2.2.2.1 mk_q114.2.2.1 ∈ mk_tb := mk_t5 228 rfl rfl
def mk_q115 : mk_T7 := (yX8_manyIn, cX8_manyIn, some .int, 8, 4, 2, false)
theorem mk_w115 : Cond.code mk_q115.1 mk_q115.2.1 mk_q115.2.2.2.2.1 mk_q115.2.2.1 ∈ mk_tb := mk_t6 24 rfl rfl
def mk_q116 : mk_T7 := (yX8_longest, cX8_longest, some .int, 8, 3, 1, false)
theorem mk_w116 : Cond.code mk_q116.1 mk_q116.2.1 mk_q116.2.2.2.2.1 mk_q116.2.2.1 ∈ mk_tb := mk_t6 32 rfl rfl
def mk_q117 : mk_T7 := (yX8_latest, cX8_latest, some .int, 8, 3, 1, false)
theorem mk_w117 : Cond.code mk_q117.1 mk_q117.2.1 mk_q117.2.2.2.2.1 mk_q117.2.2.1 ∈ mk_tb := mk_t6 36 rfl rfl
def mk_q118 : mk_T7 := (yX8_allWaits, cX8_allWaits, some .int, 8, 3, 1, false)
theorem mk_w118 : Cond.code mk_q118.1 mk_q118.2.1 mk_q118.2.2.2.2.1 mk_q118.2.2.1 ∈ mk_tb := mk_t6 28 rfl rfl
def mk_q119 : mk_T7 := (yX8_sumOf, cX8_sumOf, some .int, 8, 2, 2, false)
theorem mk_w119 : Cond.code mk_q119.1 mk_q119.2.1 mk_q119.2.2.2.2.1 mk_q119.2.2.1 ∈ mk_tb := mk_t6 20 rfl rfl
def mk_q120 : mk_T7 := (yX8_sum, cX8_sum, some .int, 8, 2, 2, false)
theorem mk_w120 : Cond.code mk_q120.1 mk_q120.2.1 mk_q120.2.2.2.2.1 mk_q120.2.2.1 ∈ mk_tb := mk_t6 16 rfl rfl
def mk_q121 : mk_T7 := (yX8_idle, cX8_idle, some .int, 8, 2, 2, false)
theorem mk_w121 : Cond.code mk_q121.1 mk_q121.2.1 mk_q121.2.2.2.2.1 mk_q121.2.2.1 ∈ mk_tb := mk_t6 40 rfl rfl
def mk_q122 : mk_T7 := (yX8_harmNow, cX8_harmNow, some .int, 8, 1, 1, false)
theorem mk_w122 : Cond.code mk_q122.1 mk_q122.2.1 mk_q122.2.2.2.2.1 mk_q122.2.2.1 ∈ mk_tb := mk_t6 48 rfl rfl
def mk_q123 : mk_T7 := (yX8_harmed, cX8_harmed, some .int, 8, 1, 1, false)
theorem mk_w123 : Cond.code mk_q123.1 mk_q123.2.1 mk_q123.2.2.2.2.1 mk_q123.2.2.1 ∈ mk_tb := mk_t6 44 rfl rfl
def mk_q124 : mk_T7 := (yX8_letter, cX8_letter, some .int, 8, 8, 3, false)
theorem mk_w124 : Cond.code mk_q124.1 mk_q124.2.1 mk_q124.2.2.2.2.1 mk_q124.2.2.1 ∈ mk_tb := mk_t6 52 rfl rfl
def mk_q125 : mk_T7 := (yX8_isWell, cX8_isWell, some .boolean, 8, 2, 2, false)
theorem mk_w125 : Cond.code mk_q125.1 mk_q125.2.1 mk_q125.2.2.2.2.1 mk_q125.2.2.1 ∈ mk_tb := mk_t6 60 rfl rfl
def mk_q126 : mk_T7 := (yX8_trains, cX8_trains, some .int, 8, 9, 3, false)
theorem mk_w126 : Cond.code mk_q126.1 mk_q126.2.1 mk_q126.2.2.2.2.1 mk_q126.2.2.1 ∈ mk_tb := mk_t6 64 rfl rfl
def mk_q127 : mk_T7 := (yX8_train, cX8_train, some .int, 8, 5, 3, false)
theorem mk_w127 : Cond.code mk_q127.1 mk_q127.2.1 mk_q127.2.2.2.2.1 mk_q127.2.2.1 ∈ mk_tb := mk_t6 56 rfl rfl
def mk_q128 : mk_T7 := (yX8_rest, cX8_rest, some .int, 8, 8, 3, false)
theorem mk_w128 : Cond.code mk_q128.1 mk_q128.2.1 mk_q128.2.2.2.2.1 mk_q128.2.2.1 ∈ mk_tb := mk_t6 68 rfl rfl
def mk_q129 : mk_T7 := (yX8_stop, cX8_stop, some .int, 8, 5, 2, false)
theorem mk_w129 : Cond.code mk_q129.1 mk_q129.2.1 mk_q129.2.2.2.2.1 mk_q129.2.2.1 ∈ mk_tb := mk_t6 72 rfl rfl
def mk_q130 : mk_T7 := (yX8_call, cX8_call, some .int, 8, 7, 2, false)
theorem mk_w130 : Cond.code mk_q130.1 mk_q130.2.1 mk_q130.2.2.2.2.1 mk_q130.2.2.1 ∈ mk_tb := mk_t6 76 rfl rfl
def mk_q131 : mk_T7 := (yX8_waitsBut, cX8_waitsBut, some .int, 8, 5, 2, false)
theorem mk_w131 : Cond.code mk_q131.1 mk_q131.2.1 mk_q131.2.2.2.2.1 mk_q131.2.2.1 ∈ mk_tb := mk_t6 84 rfl rfl
def mk_q132 : mk_T7 := (yX8_pay, cX8_pay, some .int, 8, 5, 2, false)
theorem mk_w132 : Cond.code mk_q132.1 mk_q132.2.1 mk_q132.2.2.2.2.1 mk_q132.2.2.1 ∈ mk_tb := mk_t6 80 rfl rfl
def mk_q133 : mk_T7 := (yX8_door, cX8_door, some .int, 8, 4, 2, false)
theorem mk_w133 : Cond.code mk_q133.1 mk_q133.2.1 mk_q133.2.2.2.2.1 mk_q133.2.2.1 ∈ mk_tb := mk_t6 88 rfl rfl
def mk_q134 : mk_T7 := (yX8_say, cX8_say, some .int, 8, 7, 2, false)
theorem mk_w134 : Cond.code mk_q134.1 mk_q134.2.1 mk_q134.2.2.2.2.1 mk_q134.2.2.1 ∈ mk_tb := mk_t6 92 rfl rfl
def mk_q135 : mk_T7 := (yX8_badFor, cX8_badFor, some .int, 8, 2, 2, false)
theorem mk_w135 : Cond.code mk_q135.1 mk_q135.2.1 mk_q135.2.2.2.2.1 mk_q135.2.2.1 ∈ mk_tb := mk_t6 104 rfl rfl
def mk_q136 : mk_T7 := (yX8_bestFor, cX8_bestFor, some .int, 8, 6, 2, false)
theorem mk_w136 : Cond.code mk_q136.1 mk_q136.2.1 mk_q136.2.2.2.2.1 mk_q136.2.2.1 ∈ mk_tb := mk_t6 100 rfl rfl
def mk_q137 : mk_T7 := (yX8_best, cX8_best, some .int, 8, 4, 3, false)
theorem mk_w137 : Cond.code mk_q137.1 mk_q137.2.1 mk_q137.2.2.2.2.1 mk_q137.2.2.1 ∈ mk_tb := mk_t6 96 rfl rfl
def mk_q138 : mk_T7 := (yX8_uneasy, cX8_uneasy, some .int, 8, 4, 1, false)
theorem mk_w138 : Cond.code mk_q138.1 mk_q138.2.1 mk_q138.2.2.2.2.1 mk_q138.2.2.1 ∈ mk_tb := mk_t6 108 rfl rfl
def mk_q139 : mk_T7 := (yX8_rests, cX8_rests, some .int, 8, 8, 2, false)
theorem mk_w139 : Cond.code mk_q139.1 mk_q139.2.1 mk_q139.2.2.2.2.1 mk_q139.2.2.1 ∈ mk_tb := mk_t6 112 rfl rfl
def mk_q140 : mk_T7 := (yX8_when, cX8_when, some .int, 8, 5, 4, false)
theorem mk_w140 : Cond.code mk_q140.1 mk_q140.2.1 mk_q140.2.2.2.2.1 mk_q140.2.2.1 ∈ mk_tb := mk_t6 116 rfl rfl
def mk_q141 : mk_T7 := (yX8_overOf, cX8_overOf, some .long, 8, 7, 4, false)
theorem mk_w141 : Cond.code mk_q141.1 mk_q141.2.1 mk_q141.2.2.2.2.1 mk_q141.2.2.1 ∈ mk_tb := mk_t6 124 rfl rfl
def mk_q142 : mk_T7 := (yX8_over, cX8_over, some .long, 8, 4, 4, false)
theorem mk_w142 : Cond.code mk_q142.1 mk_q142.2.1 mk_q142.2.2.2.2.1 mk_q142.2.2.1 ∈ mk_tb := mk_t6 120 rfl rfl
def mk_q143 : mk_T7 := (yX8_give, cX8_give, some .int, 8, 5, 4, false)
theorem mk_w143 : Cond.code mk_q143.1 mk_q143.2.1 mk_q143.2.2.2.2.1 mk_q143.2.2.1 ∈ mk_tb := mk_t6 131 rfl rfl
def mk_q144 : mk_T7 := (yX8_rollWrong, cX8_rollWrong, some .int, 8, 2, 2, false)
theorem mk_w144 : Cond.code mk_q144.1 mk_q144.2.1 mk_q144.2.2.2.2.1 mk_q144.2.2.1 ∈ mk_tb := mk_t6 140 rfl rfl
def mk_q145 : mk_T7 := (yX8_unlike, cX8_unlike, some .int, 8, 3, 2, false)
theorem mk_w145 : Cond.code mk_q145.1 mk_q145.2.1 mk_q145.2.2.2.2.1 mk_q145.2.2.1 ∈ mk_tb := mk_t6 144 rfl rfl
def mk_q146 : mk_T7 := (yX8_judge, cX8_judge, some .int, 8, 3, 2, false)
theorem mk_w146 : Cond.code mk_q146.1 mk_q146.2.1 mk_q146.2.2.2.2.1 mk_q146.2.2.1 ∈ mk_tb := mk_t6 136 rfl rfl
def mk_q147 : mk_T7 := (yX8_laws, cX8_laws, some .int, 8, 6, 2, false)
theorem mk_w147 : Cond.code mk_q147.1 mk_q147.2.1 mk_q147.2.2.2.2.1 mk_q147.2.2.1 ∈ mk_tb := mk_t6 148 rfl rfl
def mk_q148 : mk_T7 := (yX8_which, cX8_which, some .int, 8, 6, 2, false)
theorem mk_w148 : Cond.code mk_q148.1 mk_q148.2.1 mk_q148.2.2.2.2.1 mk_q148.2.2.1 ∈ mk_tb := mk_t6 152 rfl rfl
def mk_q149 : mk_T7 := (yX8_film, cX8_film, some .int, 8, 3, 2, false)
theorem mk_w149 : Cond.code mk_q149.1 mk_q149.2.1 mk_q149.2.2.2.2.1 mk_q149.2.2.1 ∈ mk_tb := mk_t6 156 rfl rfl
def mk_q150 : mk_T7 := (yX8_draws, cX8_draws, none, 8, 5, 2, false)
theorem mk_w150 : Cond.code mk_q150.1 mk_q150.2.1 mk_q150.2.2.2.2.1 mk_q150.2.2.1 ∈ mk_tb := mk_t6 165 rfl rfl
def mk_q151 : mk_T7 := (yX8_undraws, cX8_undraws, none, 8, 2, 1, false)
theorem mk_w151 : Cond.code mk_q151.1 mk_q151.2.1 mk_q151.2.2.2.2.1 mk_q151.2.2.1 ∈ mk_tb := mk_t6 172 rfl rfl
def mk_q152 : mk_T7 := (yX8_drawn, cX8_drawn, some .int, 8, 4, 3, false)
theorem mk_w152 : Cond.code mk_q152.1 mk_q152.2.1 mk_q152.2.2.2.2.1 mk_q152.2.2.1 ∈ mk_tb := mk_t6 160 rfl rfl
def mk_q153 : mk_T7 := (yX8_lowest, cX8_lowest, some .long, 8, 11, 3, true)
theorem mk_w153 : Cond.code mk_q153.1 mk_q153.2.1 mk_q153.2.2.2.2.1 mk_q153.2.2.1 ∈ mk_tb := mk_t6 179 rfl rfl
def mk_q154 : mk_T7 := (yX8_odds, cX8_odds, some .long, 8, 8, 5, false)
theorem mk_w154 : Cond.code mk_q154.1 mk_q154.2.1 mk_q154.2.2.2.2.1 mk_q154.2.2.1 ∈ mk_tb := mk_t6 176 rfl rfl
def mk_q155 : mk_T7 := (yX8_image, cX8_image, some .int, 8, 2, 1, false)
theorem mk_w155 : Cond.code mk_q155.1 mk_q155.2.1 mk_q155.2.2.2.2.1 mk_q155.2.2.1 ∈ mk_tb := mk_t6 183 rfl rfl
def mk_q156 : mk_T7 := (yX8_back, cX8_back, some .int, 8, 2, 1, false)
theorem mk_w156 : Cond.code mk_q156.1 mk_q156.2.1 mk_q156.2.2.2.2.1 mk_q156.2.2.1 ∈ mk_tb := mk_t6 187 rfl rfl
def mk_q157 : mk_T7 := (yX8_sheet, cX8_sheet, some .int, 8, 5, 4, false)
theorem mk_w157 : Cond.code mk_q157.1 mk_q157.2.1 mk_q157.2.2.2.2.1 mk_q157.2.2.1 ∈ mk_tb := mk_t6 191 rfl rfl
def mk_q158 : mk_T7 := (yX8_cell, cX8_cell, some .int, 8, 4, 4, false)
theorem mk_w158 : Cond.code mk_q158.1 mk_q158.2.1 mk_q158.2.2.2.2.1 mk_q158.2.2.1 ∈ mk_tb := mk_t6 195 rfl rfl
def mk_q159 : mk_T7 := (yX8_copy, cX8_copy, some .int, 8, 10, 6, false)
theorem mk_w159 : Cond.code mk_q159.1 mk_q159.2.1 mk_q159.2.2.2.2.1 mk_q159.2.2.1 ∈ mk_tb := mk_t6 199 rfl rfl
def mk_q160 : mk_T7 := (yX8_pulls, cX8_pulls, some .int, 8, 9, 5, false)
theorem mk_w160 : Cond.code mk_q160.1 mk_q160.2.1 mk_q160.2.2.2.2.1 mk_q160.2.2.1 ∈ mk_tb := mk_t6 203 rfl rfl
def mk_q161 : mk_T7 := (yX8_isUnder, cX8_isUnder, some .boolean, 8, 2, 2, true)
theorem mk_w161 : Cond.code mk_q161.1 mk_q161.2.1 mk_q161.2.2.2.2.1 mk_q161.2.2.1 ∈ mk_tb := mk_t6 211 rfl rfl
def mk_q162 : mk_T7 := (yX8_taken, cX8_taken, some .int, 8, 3, 3, false)
theorem mk_w162 : Cond.code mk_q162.1 mk_q162.2.1 mk_q162.2.2.2.2.1 mk_q162.2.2.1 ∈ mk_tb := mk_t6 208 rfl rfl
def mk_q163 : mk_T7 := (yX0_become, cX0_become, none, 0, 5, 5, false)
theorem mk_w163 : Cond.code mk_q163.1 mk_q163.2.1 mk_q163.2.2.2.2.1 mk_q163.2.2.1 ∈ mk_tb := mk_t3 10 rfl rfl
def mk_q164 : mk_T7 := (yX0_isA, cX0_isA, some .boolean, 0, 4, 2, false)
theorem mk_w164 : Cond.code mk_q164.1 mk_q164.2.1 mk_q164.2.2.2.2.1 mk_q164.2.2.1 ∈ mk_tb := mk_t4 152 rfl rfl
def mk_q165 : mk_T7 := (yX0_isOld, cX0_isOld, some .boolean, 0, 1, 1, false)
theorem mk_w165 : Cond.code mk_q165.1 mk_q165.2.1 mk_q165.2.2.2.2.1 mk_q165.2.2.1 ∈ mk_tb := mk_t3 97 rfl rfl
def mk_q166 : mk_T7 := (yX0_isBack, cX0_isBack, some .boolean, 0, 1, 1, false)
theorem mk_w166 : Cond.code mk_q166.1 mk_q166.2.1 mk_q166.2.2.2.2.1 mk_q166.2.2.1 ∈ mk_tb := mk_t3 101 rfl rfl
def mk_q167 : mk_T7 := (yX0_needs, cX0_needs, some .int, 0, 1, 1, false)
theorem mk_w167 : Cond.code mk_q167.1 mk_q167.2.1 mk_q167.2.2.2.2.1 mk_q167.2.2.1 ∈ mk_tb := mk_t3 30 rfl rfl
def mk_q168 : mk_T7 := (yX0_isThere, cX0_isThere, some .boolean, 0, 4, 3, false)
theorem mk_w168 : Cond.code mk_q168.1 mk_q168.2.1 mk_q168.2.2.2.2.1 mk_q168.2.2.1 ∈ mk_tb := mk_t3 52 rfl rfl
def mk_q169 : mk_T7 := (yX0_takes, cX0_takes, some .int, 0, 4, 3, false)
theorem mk_w169 : Cond.code mk_q169.1 mk_q169.2.1 mk_q169.2.2.2.2.1 mk_q169.2.2.1 ∈ mk_tb := mk_t3 45 rfl rfl
def mk_q170 : mk_T7 := (yX1_run, cX1_run, none, 1, 6, 3, false)
theorem mk_w170 : Cond.code mk_q170.1 mk_q170.2.1 mk_q170.2.2.2.2.1 mk_q170.2.2.1 ∈ mk_tb := mk_t3 84 rfl rfl
def mk_q171 : mk_T7 := (yX1_begin, cX1_begin, none, 1, 3, 2, false)
theorem mk_w171 : Cond.code mk_q171.1 mk_q171.2.1 mk_q171.2.2.2.2.1 mk_q171.2.2.1 ∈ mk_tb := mk_t3 88 rfl rfl
def mk_q172 : mk_T7 := (yX1_rank, cX1_rank, some .int, 1, 2, 2, false)
theorem mk_w172 : Cond.code mk_q172.1 mk_q172.2.1 mk_q172.2.2.2.2.1 mk_q172.2.2.1 ∈ mk_tb := mk_t3 93 rfl rfl
def mk_q173 : mk_T7 := (yX1_lineUp, cX1_lineUp, none, 1, 4, 3, false)
theorem mk_w173 : Cond.code mk_q173.1 mk_q173.2.1 mk_q173.2.2.2.2.1 mk_q173.2.2.1 ∈ mk_tb := mk_t3 105 rfl rfl
def mk_q174 : mk_T7 := (yX1_letIn, cX1_letIn, none, 1, 3, 2, false)
theorem mk_w174 : Cond.code mk_q174.1 mk_q174.2.1 mk_q174.2.2.2.2.1 mk_q174.2.2.1 ∈ mk_tb := mk_t3 109 rfl rfl
def mk_q175 : mk_T7 := (yX1_lookAround, cX1_lookAround, none, 1, 2, 1, false)
theorem mk_w175 : Cond.code mk_q175.1 mk_q175.2.1 mk_q175.2.2.2.2.1 mk_q175.2.2.1 ∈ mk_tb := mk_t3 113 rfl rfl
def mk_q176 : mk_T7 := (yX1_firstFor, cX1_firstFor, some .int, 1, 4, 2, false)
theorem mk_w176 : Cond.code mk_q176.1 mk_q176.2.1 mk_q176.2.2.2.2.1 mk_q176.2.2.1 ∈ mk_tb := mk_t3 122 rfl rfl
def mk_q177 : mk_T7 := (yX1_beckon, cX1_beckon, none, 1, 8, 6, false)
theorem mk_w177 : Cond.code mk_q177.1 mk_q177.2.1 mk_q177.2.2.2.2.1 mk_q177.2.2.1 ∈ mk_tb := mk_t3 126 rfl rfl
def mk_q178 : mk_T7 := (yX1_waited, cX1_waited, some .int, 1, 2, 2, false)
theorem mk_w178 : Cond.code mk_q178.1 mk_q178.2.1 mk_q178.2.2.2.2.1 mk_q178.2.2.1 ∈ mk_tb := mk_t3 133 rfl rfl
def mk_q179 : mk_T7 := (yX1_badFor, cX1_badFor, some .int, 1, 2, 2, false)
theorem mk_w179 : Cond.code mk_q179.1 mk_q179.2.1 mk_q179.2.2.2.2.1 mk_q179.2.2.1 ∈ mk_tb := mk_t4 18 rfl rfl
def mk_q180 : mk_T7 := (yX1_many, cX1_many, some .int, 1, 4, 2, false)
theorem mk_w180 : Cond.code mk_q180.1 mk_q180.2.1 mk_q180.2.2.2.2.1 mk_q180.2.2.1 ∈ mk_tb := mk_t3 145 rfl rfl
def mk_q181 : mk_T7 := (yX1_allWaits, cX1_allWaits, some .int, 1, 3, 1, false)
theorem mk_w181 : Cond.code mk_q181.1 mk_q181.2.1 mk_q181.2.2.2.2.1 mk_q181.2.2.1 ∈ mk_tb := mk_t3 149 rfl rfl
def mk_q182 : mk_T7 := (yX1_longest, cX1_longest, some .int, 1, 3, 1, false)
theorem mk_w182 : Cond.code mk_q182.1 mk_q182.2.1 mk_q182.2.2.2.2.1 mk_q182.2.2.1 ∈ mk_tb := mk_t3 154 rfl rfl
def mk_q183 : mk_T7 := (yX1_latestEnd, cX1_latestEnd, some .int, 1, 3, 1, false)
theorem mk_w183 : Cond.code mk_q183.1 mk_q183.2.1 mk_q183.2.2.2.2.1 mk_q183.2.2.1 ∈ mk_tb := mk_t3 159 rfl rfl
def mk_q184 : mk_T7 := (yX1_allIdled, cX1_allIdled, some .int, 1, 3, 1, false)
theorem mk_w184 : Cond.code mk_q184.1 mk_q184.2.1 mk_q184.2.2.2.2.1 mk_q184.2.2.1 ∈ mk_tb := mk_t3 163 rfl rfl
def mk_q185 : mk_T7 := (yX1_harm, cX1_harm, some .int, 1, 1, 1, false)
theorem mk_w185 : Cond.code mk_q185.1 mk_q185.2.1 mk_q185.2.2.2.2.1 mk_q185.2.2.1 ∈ mk_tb := mk_t3 175 rfl rfl
def mk_q186 : mk_T7 := (yX1_isOver, cX1_isOver, some .boolean, 1, 2, 2, false)
theorem mk_w186 : Cond.code mk_q186.1 mk_q186.2.1 mk_q186.2.2.2.2.1 mk_q186.2.2.1 ∈ mk_tb := mk_t3 224 rfl rfl
def mk_q187 : mk_T7 := (yX1_total, cX1_total, some .int, 1, 2, 2, false)
theorem mk_w187 : Cond.code mk_q187.1 mk_q187.2.1 mk_q187.2.2.2.2.1 mk_q187.2.2.1 ∈ mk_tb := mk_t3 141 rfl rfl
def mk_q188 : mk_T7 := (yX2_start, cX2_start, none, 2, 1, 1, false)
theorem mk_w188 : Cond.code mk_q188.1 mk_q188.2.1 mk_q188.2.2.2.2.1 mk_q188.2.2.1 ∈ mk_tb := mk_t3 183 rfl rfl
def mk_q189 : mk_T7 := (yX2_offer, cX2_offer, none, 2, 3, 3, false)
theorem mk_w189 : Cond.code mk_q189.1 mk_q189.2.1 mk_q189.2.2.2.2.1 mk_q189.2.2.1 ∈ mk_tb := mk_t3 187 rfl rfl
def mk_q190 : mk_T7 := (yX2_tell, cX2_tell, some .int, 2, 2, 2, false)
theorem mk_w190 : Cond.code mk_q190.1 mk_q190.2.1 mk_q190.2.2.2.2.1 mk_q190.2.2.1 ∈ mk_tb := mk_t3 191 rfl rfl
def mk_q191 : mk_T7 := (yX3_become, cX3_become, none, 3, 3, 2, false)
theorem mk_w191 : Cond.code mk_q191.1 mk_q191.2.1 mk_q191.2.2.2.2.1 mk_q191.2.2.1 ∈ mk_tb := mk_t3 76 rfl rfl
def mk_q192 : mk_T7 := (yX3_teach, cX3_teach, none, 3, 2, 2, false)
theorem mk_w192 : Cond.code mk_q192.1 mk_q192.2.1 mk_q192.2.2.2.2.1 mk_q192.2.2.1 ∈ mk_tb := mk_t3 203 rfl rfl
def mk_q193 : mk_T7 := (yX3_isPausing, cX3_isPausing, some .boolean, 3, 3, 3, false)
theorem mk_w193 : Cond.code mk_q193.1 mk_q193.2.1 mk_q193.2.2.2.2.1 mk_q193.2.2.1 ∈ mk_tb := mk_t3 117 rfl rfl
def mk_q194 : mk_T7 := (yX4_isMissing, cX4_isMissing, some .boolean, 4, 1, 1, false)
theorem mk_w194 : Cond.code mk_q194.1 mk_q194.2.1 mk_q194.2.2.2.2.1 mk_q194.2.2.1 ∈ mk_tb := mk_t4 73 rfl rfl
def mk_q195 : mk_T7 := (yX4_become, cX4_become, none, 4, 4, 3, false)
theorem mk_w195 : Cond.code mk_q195.1 mk_q195.2.1 mk_q195.2.2.2.2.1 mk_q195.2.2.1 ∈ mk_tb := mk_t4 93 rfl rfl
def mk_q196 : mk_T7 := (yX4_write, cX4_write, none, 4, 3, 3, false)
theorem mk_w196 : Cond.code mk_q196.1 mk_q196.2.1 mk_q196.2.2.2.2.1 mk_q196.2.2.1 ∈ mk_tb := mk_t4 97 rfl rfl
def mk_q197 : mk_T7 := (yX5_append, cX5_append, none, 5, 2, 2, false)
theorem mk_w197 : Cond.code mk_q197.1 mk_q197.2.1 mk_q197.2.2.2.2.1 mk_q197.2.2.1 ∈ mk_tb := mk_t2 77 rfl rfl
def mk_q198 : mk_T7 := (yX5_read, cX5_read, some .int, 5, 2, 1, false)
theorem mk_w198 : Cond.code mk_q198.1 mk_q198.2.1 mk_q198.2.2.2.2.1 mk_q198.2.2.1 ∈ mk_tb := mk_t2 85 rfl rfl
def mk_q199 : mk_T7 := (yX5_skip, cX5_skip, some .boolean, 5, 2, 2, false)
theorem mk_w199 : Cond.code mk_q199.1 mk_q199.2.1 mk_q199.2.2.2.2.1 mk_q199.2.2.1 ∈ mk_tb := mk_t2 117 rfl rfl
def mk_q200 : mk_T7 := (yX5_tell, cX5_tell, none, 5, 2, 2, false)
theorem mk_w200 : Cond.code mk_q200.1 mk_q200.2.1 mk_q200.2.2.2.2.1 mk_q200.2.2.1 ∈ mk_tb := mk_t2 141 rfl rfl
def mk_q201 : mk_T7 := (yX5_readEither, cX5_readEither, some .boolean, 5, 4, 2, false)
theorem mk_w201 : Cond.code mk_q201.1 mk_q201.2.1 mk_q201.2.2.2.2.1 mk_q201.2.2.1 ∈ mk_tb := mk_t2 121 rfl rfl
def mk_q202 : mk_T7 := (yX5_readBoth, cX5_readBoth, some .boolean, 5, 4, 2, false)
theorem mk_w202 : Cond.code mk_q202.1 mk_q202.2.1 mk_q202.2.2.2.2.1 mk_q202.2.2.1 ∈ mk_tb := mk_t2 125 rfl rfl
def mk_q203 : mk_T7 := (yX5_readNot, cX5_readNot, some .boolean, 5, 4, 2, false)
theorem mk_w203 : Cond.code mk_q203.1 mk_q203.2.1 mk_q203.2.2.2.2.1 mk_q203.2.2.1 ∈ mk_tb := mk_t2 129 rfl rfl
def mk_q204 : mk_T7 := (yX5_readSum, cX5_readSum, some .boolean, 5, 5, 2, false)
theorem mk_w204 : Cond.code mk_q204.1 mk_q204.2.1 mk_q204.2.2.2.2.1 mk_q204.2.2.1 ∈ mk_tb := mk_t2 145 rfl rfl
def mk_q205 : mk_T7 := (yX5_readTerm, cX5_readTerm, some .boolean, 5, 4, 2, false)
theorem mk_w205 : Cond.code mk_q205.1 mk_q205.2.1 mk_q205.2.2.2.2.1 mk_q205.2.2.1 ∈ mk_tb := mk_t2 149 rfl rfl
def mk_q206 : mk_T7 := (yX5_readOne, cX5_readOne, some .boolean, 5, 3, 2, false)
theorem mk_w206 : Cond.code mk_q206.1 mk_q206.2.1 mk_q206.2.2.2.2.1 mk_q206.2.2.1 ∈ mk_tb := mk_t2 137 rfl rfl
def mk_q207 : mk_T7 := (yX5_readBehind, cX5_readBehind, some .boolean, 5, 4, 3, false)
theorem mk_w207 : Cond.code mk_q207.1 mk_q207.2.1 mk_q207.2.2.2.2.1 mk_q207.2.2.1 ∈ mk_tb := mk_t2 133 rfl rfl
def mk_q208 : mk_T7 := (yX5_step, cX5_step, none, 5, 2, 1, false)
theorem mk_w208 : Cond.code mk_q208.1 mk_q208.2.1 mk_q208.2.2.2.2.1 mk_q208.2.2.1 ∈ mk_tb := mk_t2 89 rfl rfl
def mk_q209 : mk_T7 := (yX5_passAll, cX5_passAll, none, 5, 3, 3, false)
theorem mk_w209 : Cond.code mk_q209.1 mk_q209.2.1 mk_q209.2.2.2.2.1 mk_q209.2.2.1 ∈ mk_tb := mk_t2 96 rfl rfl
def mk_q210 : mk_T7 := (yX5_isSign, cX5_isSign, some .boolean, 5, 1, 1, true)
theorem mk_w210 : Cond.code mk_q210.1 mk_q210.2.1 mk_q210.2.2.2.2.1 mk_q210.2.2.1 ∈ mk_tb := mk_t2 113 rfl rfl
def mk_q211 : mk_T7 := (yX5_numberToken, cX5_numberToken, some .int, 5, 2, 1, false)
theorem mk_w211 : Cond.code mk_q211.1 mk_q211.2.1 mk_q211.2.2.2.2.1 mk_q211.2.2.1 ∈ mk_tb := mk_t2 110 rfl rfl
def mk_q212 : mk_T7 := (yX5_wordToken, cX5_wordToken, some .int, 5, 2, 1, false)
theorem mk_w212 : Cond.code mk_q212.1 mk_q212.2.1 mk_q212.2.2.2.2.1 mk_q212.2.2.1 ∈ mk_tb := mk_t2 100 rfl rfl
def mk_q213 : mk_T7 := (yX5_isWord, cX5_isWord, some .boolean, 5, 4, 2, false)
theorem mk_w213 : Cond.code mk_q213.1 mk_q213.2.1 mk_q213.2.2.2.2.1 mk_q213.2.2.1 ∈ mk_tb := mk_t2 104 rfl rfl
def mk_q214 : mk_T7 := (yX6_become, cX6_become, none, 6, 3, 2, false)
theorem mk_w214 : Cond.code mk_q214.1 mk_q214.2.1 mk_q214.2.2.2.2.1 mk_q214.2.2.1 ∈ mk_tb := mk_t2 153 rfl rfl
def mk_q215 : mk_T7 := (yX6_worth, cX6_worth, some .int, 6, 11, 6, false)
theorem mk_w215 : Cond.code mk_q215.1 mk_q215.2.1 mk_q215.2.2.2.2.1 mk_q215.2.2.1 ∈ mk_tb := mk_t3 38 rfl rfl
def mk_q216 : mk_T7 := (yX6_joined, cX6_joined, some .int, 6, 3, 3, true)
theorem mk_w216 : Cond.code mk_q216.1 mk_q216.2.1 mk_q216.2.2.2.2.1 mk_q216.2.2.1 ∈ mk_tb := mk_t3 41 rfl rfl
def mk_MI : List mk_T7 := [mk_q0, mk_q1, mk_q2, mk_q3, mk_q4, mk_q5, mk_q6, mk_q7, mk_q8, mk_q9, mk_q10, mk_q11, mk_q12, mk_q13, mk_q14, mk_q15, mk_q16, mk_q17, mk_q18, mk_q19, mk_q20, mk_q21, mk_q22, mk_q23, mk_q24, mk_q25, mk_q26, mk_q27, mk_q28, mk_q29, mk_q30, mk_q31, mk_q32, mk_q33, mk_q34, mk_q35, mk_q36, mk_q37, mk_q38, mk_q39, mk_q40, mk_q41, mk_q42, mk_q43, mk_q44, mk_q45, mk_q46, mk_q47, mk_q48, mk_q49, mk_q50, mk_q51, mk_q52, mk_q53, mk_q54, mk_q55, mk_q56, mk_q57, mk_q58, mk_q59, mk_q60, mk_q61, mk_q62, mk_q63, mk_q64, mk_q65, mk_q66, mk_q67, mk_q68, mk_q69, mk_q70, mk_q71, mk_q72, mk_q73, mk_q74, mk_q75, mk_q76, mk_q77, mk_q78, mk_q79, mk_q80, mk_q81, mk_q82, mk_q83, mk_q84, mk_q85, mk_q86, mk_q87, mk_q88, mk_q89, mk_q90, mk_q91, mk_q92, mk_q93, mk_q94, mk_q95, mk_q96, mk_q97, mk_q98, mk_q99, mk_q100, mk_q101, mk_q102, mk_q103, mk_q104, mk_q105, mk_q106, mk_q107, mk_q108, mk_q109, mk_q110, mk_q111, mk_q112, mk_q113, mk_q114, mk_q115, mk_q116, mk_q117, mk_q118, mk_q119, mk_q120, mk_q121, mk_q122, mk_q123, mk_q124, mk_q125, mk_q126, mk_q127, mk_q128, mk_q129, mk_q130, mk_q131, mk_q132, mk_q133, mk_q134, mk_q135, mk_q136, mk_q137, mk_q138, mk_q139, mk_q140, mk_q141, mk_q142, mk_q143, mk_q144, mk_q145, mk_q146, mk_q147, mk_q148, mk_q149, mk_q150, mk_q151, mk_q152, mk_q153, mk_q154, mk_q155, mk_q156, mk_q157, mk_q158, mk_q159, mk_q160, mk_q161, mk_q162, mk_q163, mk_q164, mk_q165, mk_q166, mk_q167, mk_q168, mk_q169, mk_q170, mk_q171, mk_q172, mk_q173, mk_q174, mk_q175, mk_q176, mk_q177, mk_q178, mk_q179, mk_q180, mk_q181, mk_q182, mk_q183, mk_q184, mk_q185, mk_q186, mk_q187, mk_q188, mk_q189, mk_q190, mk_q191, mk_q192, mk_q193, mk_q194, mk_q195, mk_q196, mk_q197, mk_q198, mk_q199, mk_q200, mk_q201, mk_q202, mk_q203, mk_q204, mk_q205, mk_q206, mk_q207, mk_q208, mk_q209, mk_q210, mk_q211, mk_q212, mk_q213, mk_q214, mk_q215, mk_q216]
set_option maxRecDepth 100000 in
theorem mk_MIw : ∀ q ∈ mk_MI, Cond.code q.1 q.2.1 q.2.2.2.2.1 q.2.2.1 ∈ mk_tb := List.forall_mem_cons.mpr ⟨mk_w0, List.forall_mem_cons.mpr ⟨mk_w1, List.forall_mem_cons.mpr ⟨mk_w2, List.forall_mem_cons.mpr ⟨mk_w3, List.forall_mem_cons.mpr ⟨mk_w4, List.forall_mem_cons.mpr ⟨mk_w5, List.forall_mem_cons.mpr ⟨mk_w6, List.forall_mem_cons.mpr ⟨mk_w7, List.forall_mem_cons.mpr ⟨mk_w8, List.forall_mem_cons.mpr ⟨mk_w9, List.forall_mem_cons.mpr ⟨mk_w10, List.forall_mem_cons.mpr ⟨mk_w11, List.forall_mem_cons.mpr ⟨mk_w12, List.forall_mem_cons.mpr ⟨mk_w13, List.forall_mem_cons.mpr ⟨mk_w14, List.forall_mem_cons.mpr ⟨mk_w15, List.forall_mem_cons.mpr ⟨mk_w16, List.forall_mem_cons.mpr ⟨mk_w17, List.forall_mem_cons.mpr ⟨mk_w18, List.forall_mem_cons.mpr ⟨mk_w19, List.forall_mem_cons.mpr ⟨mk_w20, List.forall_mem_cons.mpr ⟨mk_w21, List.forall_mem_cons.mpr ⟨mk_w22, List.forall_mem_cons.mpr ⟨mk_w23, List.forall_mem_cons.mpr ⟨mk_w24, List.forall_mem_cons.mpr ⟨mk_w25, List.forall_mem_cons.mpr ⟨mk_w26, List.forall_mem_cons.mpr ⟨mk_w27, List.forall_mem_cons.mpr ⟨mk_w28, List.forall_mem_cons.mpr ⟨mk_w29, List.forall_mem_cons.mpr ⟨mk_w30, List.forall_mem_cons.mpr ⟨mk_w31, List.forall_mem_cons.mpr ⟨mk_w32, List.forall_mem_cons.mpr ⟨mk_w33, List.forall_mem_cons.mpr ⟨mk_w34, List.forall_mem_cons.mpr ⟨mk_w35, List.forall_mem_cons.mpr ⟨mk_w36, List.forall_mem_cons.mpr ⟨mk_w37, List.forall_mem_cons.mpr ⟨mk_w38, List.forall_mem_cons.mpr ⟨mk_w39, List.forall_mem_cons.mpr ⟨mk_w40, List.forall_mem_cons.mpr ⟨mk_w41, List.forall_mem_cons.mpr ⟨mk_w42, List.forall_mem_cons.mpr ⟨mk_w43, List.forall_mem_cons.mpr ⟨mk_w44, List.forall_mem_cons.mpr ⟨mk_w45, List.forall_mem_cons.mpr ⟨mk_w46, List.forall_mem_cons.mpr ⟨mk_w47, List.forall_mem_cons.mpr ⟨mk_w48, List.forall_mem_cons.mpr ⟨mk_w49, List.forall_mem_cons.mpr ⟨mk_w50, List.forall_mem_cons.mpr ⟨mk_w51, List.forall_mem_cons.mpr ⟨mk_w52, List.forall_mem_cons.mpr ⟨mk_w53, List.forall_mem_cons.mpr ⟨mk_w54, List.forall_mem_cons.mpr ⟨mk_w55, List.forall_mem_cons.mpr ⟨mk_w56, List.forall_mem_cons.mpr ⟨mk_w57, List.forall_mem_cons.mpr ⟨mk_w58, List.forall_mem_cons.mpr ⟨mk_w59, List.forall_mem_cons.mpr ⟨mk_w60, List.forall_mem_cons.mpr ⟨mk_w61, List.forall_mem_cons.mpr ⟨mk_w62, List.forall_mem_cons.mpr ⟨mk_w63, List.forall_mem_cons.mpr ⟨mk_w64, List.forall_mem_cons.mpr ⟨mk_w65, List.forall_mem_cons.mpr ⟨mk_w66, List.forall_mem_cons.mpr ⟨mk_w67, List.forall_mem_cons.mpr ⟨mk_w68, List.forall_mem_cons.mpr ⟨mk_w69, List.forall_mem_cons.mpr ⟨mk_w70, List.forall_mem_cons.mpr ⟨mk_w71, List.forall_mem_cons.mpr ⟨mk_w72, List.forall_mem_cons.mpr ⟨mk_w73, List.forall_mem_cons.mpr ⟨mk_w74, List.forall_mem_cons.mpr ⟨mk_w75, List.forall_mem_cons.mpr ⟨mk_w76, List.forall_mem_cons.mpr ⟨mk_w77, List.forall_mem_cons.mpr ⟨mk_w78, List.forall_mem_cons.mpr ⟨mk_w79, List.forall_mem_cons.mpr ⟨mk_w80, List.forall_mem_cons.mpr ⟨mk_w81, List.forall_mem_cons.mpr ⟨mk_w82, List.forall_mem_cons.mpr ⟨mk_w83, List.forall_mem_cons.mpr ⟨mk_w84, List.forall_mem_cons.mpr ⟨mk_w85, List.forall_mem_cons.mpr ⟨mk_w86, List.forall_mem_cons.mpr ⟨mk_w87, List.forall_mem_cons.mpr ⟨mk_w88, List.forall_mem_cons.mpr ⟨mk_w89, List.forall_mem_cons.mpr ⟨mk_w90, List.forall_mem_cons.mpr ⟨mk_w91, List.forall_mem_cons.mpr ⟨mk_w92, List.forall_mem_cons.mpr ⟨mk_w93, List.forall_mem_cons.mpr ⟨mk_w94, List.forall_mem_cons.mpr ⟨mk_w95, List.forall_mem_cons.mpr ⟨mk_w96, List.forall_mem_cons.mpr ⟨mk_w97, List.forall_mem_cons.mpr ⟨mk_w98, List.forall_mem_cons.mpr ⟨mk_w99, List.forall_mem_cons.mpr ⟨mk_w100, List.forall_mem_cons.mpr ⟨mk_w101, List.forall_mem_cons.mpr ⟨mk_w102, List.forall_mem_cons.mpr ⟨mk_w103, List.forall_mem_cons.mpr ⟨mk_w104, List.forall_mem_cons.mpr ⟨mk_w105, List.forall_mem_cons.mpr ⟨mk_w106, List.forall_mem_cons.mpr ⟨mk_w107, List.forall_mem_cons.mpr ⟨mk_w108, List.forall_mem_cons.mpr ⟨mk_w109, List.forall_mem_cons.mpr ⟨mk_w110, List.forall_mem_cons.mpr ⟨mk_w111, List.forall_mem_cons.mpr ⟨mk_w112, List.forall_mem_cons.mpr ⟨mk_w113, List.forall_mem_cons.mpr ⟨mk_w114, List.forall_mem_cons.mpr ⟨mk_w115, List.forall_mem_cons.mpr ⟨mk_w116, List.forall_mem_cons.mpr ⟨mk_w117, List.forall_mem_cons.mpr ⟨mk_w118, List.forall_mem_cons.mpr ⟨mk_w119, List.forall_mem_cons.mpr ⟨mk_w120, List.forall_mem_cons.mpr ⟨mk_w121, List.forall_mem_cons.mpr ⟨mk_w122, List.forall_mem_cons.mpr ⟨mk_w123, List.forall_mem_cons.mpr ⟨mk_w124, List.forall_mem_cons.mpr ⟨mk_w125, List.forall_mem_cons.mpr ⟨mk_w126, List.forall_mem_cons.mpr ⟨mk_w127, List.forall_mem_cons.mpr ⟨mk_w128, List.forall_mem_cons.mpr ⟨mk_w129, List.forall_mem_cons.mpr ⟨mk_w130, List.forall_mem_cons.mpr ⟨mk_w131, List.forall_mem_cons.mpr ⟨mk_w132, List.forall_mem_cons.mpr ⟨mk_w133, List.forall_mem_cons.mpr ⟨mk_w134, List.forall_mem_cons.mpr ⟨mk_w135, List.forall_mem_cons.mpr ⟨mk_w136, List.forall_mem_cons.mpr ⟨mk_w137, List.forall_mem_cons.mpr ⟨mk_w138, List.forall_mem_cons.mpr ⟨mk_w139, List.forall_mem_cons.mpr ⟨mk_w140, List.forall_mem_cons.mpr ⟨mk_w141, List.forall_mem_cons.mpr ⟨mk_w142, List.forall_mem_cons.mpr ⟨mk_w143, List.forall_mem_cons.mpr ⟨mk_w144, List.forall_mem_cons.mpr ⟨mk_w145, List.forall_mem_cons.mpr ⟨mk_w146, List.forall_mem_cons.mpr ⟨mk_w147, List.forall_mem_cons.mpr ⟨mk_w148, List.forall_mem_cons.mpr ⟨mk_w149, List.forall_mem_cons.mpr ⟨mk_w150, List.forall_mem_cons.mpr ⟨mk_w151, List.forall_mem_cons.mpr ⟨mk_w152, List.forall_mem_cons.mpr ⟨mk_w153, List.forall_mem_cons.mpr ⟨mk_w154, List.forall_mem_cons.mpr ⟨mk_w155, List.forall_mem_cons.mpr ⟨mk_w156, List.forall_mem_cons.mpr ⟨mk_w157, List.forall_mem_cons.mpr ⟨mk_w158, List.forall_mem_cons.mpr ⟨mk_w159, List.forall_mem_cons.mpr ⟨mk_w160, List.forall_mem_cons.mpr ⟨mk_w161, List.forall_mem_cons.mpr ⟨mk_w162, List.forall_mem_cons.mpr ⟨mk_w163, List.forall_mem_cons.mpr ⟨mk_w164, List.forall_mem_cons.mpr ⟨mk_w165, List.forall_mem_cons.mpr ⟨mk_w166, List.forall_mem_cons.mpr ⟨mk_w167, List.forall_mem_cons.mpr ⟨mk_w168, List.forall_mem_cons.mpr ⟨mk_w169, List.forall_mem_cons.mpr ⟨mk_w170, List.forall_mem_cons.mpr ⟨mk_w171, List.forall_mem_cons.mpr ⟨mk_w172, List.forall_mem_cons.mpr ⟨mk_w173, List.forall_mem_cons.mpr ⟨mk_w174, List.forall_mem_cons.mpr ⟨mk_w175, List.forall_mem_cons.mpr ⟨mk_w176, List.forall_mem_cons.mpr ⟨mk_w177, List.forall_mem_cons.mpr ⟨mk_w178, List.forall_mem_cons.mpr ⟨mk_w179, List.forall_mem_cons.mpr ⟨mk_w180, List.forall_mem_cons.mpr ⟨mk_w181, List.forall_mem_cons.mpr ⟨mk_w182, List.forall_mem_cons.mpr ⟨mk_w183, List.forall_mem_cons.mpr ⟨mk_w184, List.forall_mem_cons.mpr ⟨mk_w185, List.forall_mem_cons.mpr ⟨mk_w186, List.forall_mem_cons.mpr ⟨mk_w187, List.forall_mem_cons.mpr ⟨mk_w188, List.forall_mem_cons.mpr ⟨mk_w189, List.forall_mem_cons.mpr ⟨mk_w190, List.forall_mem_cons.mpr ⟨mk_w191, List.forall_mem_cons.mpr ⟨mk_w192, List.forall_mem_cons.mpr ⟨mk_w193, List.forall_mem_cons.mpr ⟨mk_w194, List.forall_mem_cons.mpr ⟨mk_w195, List.forall_mem_cons.mpr ⟨mk_w196, List.forall_mem_cons.mpr ⟨mk_w197, List.forall_mem_cons.mpr ⟨mk_w198, List.forall_mem_cons.mpr ⟨mk_w199, List.forall_mem_cons.mpr ⟨mk_w200, List.forall_mem_cons.mpr ⟨mk_w201, List.forall_mem_cons.mpr ⟨mk_w202, List.forall_mem_cons.mpr ⟨mk_w203, List.forall_mem_cons.mpr ⟨mk_w204, List.forall_mem_cons.mpr ⟨mk_w205, List.forall_mem_cons.mpr ⟨mk_w206, List.forall_mem_cons.mpr ⟨mk_w207, List.forall_mem_cons.mpr ⟨mk_w208, List.forall_mem_cons.mpr ⟨mk_w209, List.forall_mem_cons.mpr ⟨mk_w210, List.forall_mem_cons.mpr ⟨mk_w211, List.forall_mem_cons.mpr ⟨mk_w212, List.forall_mem_cons.mpr ⟨mk_w213, List.forall_mem_cons.mpr ⟨mk_w214, List.forall_mem_cons.mpr ⟨mk_w215, List.forall_mem_cons.mpr ⟨mk_w216, fun _ h => absurd h List.not_mem_nil⟩⟩⟩⟩⟩⟩⟩⟩⟩⟩⟩⟩⟩⟩⟩⟩⟩⟩⟩⟩⟩⟩⟩⟩⟩⟩⟩⟩⟩⟩⟩⟩⟩⟩⟩⟩⟩⟩⟩⟩⟩⟩⟩⟩⟩⟩⟩⟩⟩⟩⟩⟩⟩⟩⟩⟩⟩⟩⟩⟩⟩⟩⟩⟩⟩⟩⟩⟩⟩⟩⟩⟩⟩⟩⟩⟩⟩⟩⟩⟩⟩⟩⟩⟩⟩⟩⟩⟩⟩⟩⟩⟩⟩⟩⟩⟩⟩⟩⟩⟩⟩⟩⟩⟩⟩⟩⟩⟩⟩⟩⟩⟩⟩⟩⟩⟩⟩⟩⟩⟩⟩⟩⟩⟩⟩⟩⟩⟩⟩⟩⟩⟩⟩⟩⟩⟩⟩⟩⟩⟩⟩⟩⟩⟩⟩⟩⟩⟩⟩⟩⟩⟩⟩⟩⟩⟩⟩⟩⟩⟩⟩⟩⟩⟩⟩⟩⟩⟩⟩⟩⟩⟩⟩⟩⟩⟩⟩⟩⟩⟩⟩⟩⟩⟩⟩⟩⟩⟩⟩⟩⟩⟩⟩⟩⟩⟩⟩⟩⟩⟩⟩⟩⟩⟩⟩⟩⟩⟩⟩⟩⟩⟩⟩⟩⟩⟩⟩
def mk_CN : List String := [RX0, RX1, RX2, RX3, RX4, RX5, RX6, RX7, RX8]
def mk_cn (i : Nat) : String := (mj_nth mk_CN i).getD ""
theorem mk_CNi : ∀ c ∈ mk_CN, Cond.initialized c ∈ mk_tb := List.forall_mem_cons.mpr ⟨mk_t1 6 rfl rfl, List.forall_mem_cons.mpr ⟨mk_t1 4 rfl rfl, List.forall_mem_cons.mpr ⟨mk_t1 5 rfl rfl, List.forall_mem_cons.mpr ⟨mk_t1 2 rfl rfl, List.forall_mem_cons.mpr ⟨mk_t1 8 rfl rfl, List.forall_mem_cons.mpr ⟨mk_t1 3 rfl rfl, List.forall_mem_cons.mpr ⟨mk_t1 7 rfl rfl, List.forall_mem_cons.mpr ⟨mk_t1 1 rfl rfl, List.forall_mem_cons.mpr ⟨mk_t1 13 rfl rfl, fun _ h => absurd h List.not_mem_nil⟩⟩⟩⟩⟩⟩⟩⟩⟩
-- sites: {'max': [(0, 32), (1, 150)], 'copy': [(7, 326)], 'charAt': [(5, 98)], 'static': [(0, 24)]}
/-- what class ci's slot k is: (declaring class, name, descriptor, final) -/
def mk_ft (ci k : Nat) : String × String × String × Bool := match vwCl[ci]? with
  | some (_, T, _) => T k
  | none => ("", "", "", true)
/-- own, index, class, slot, 1 for a boolean -/
def mk_FL : List (Nat × Nat × Nat × Nat × Nat) := [(7, 10, 7, 0, 0), (7, 96, 3, 0, 0), (7, 99, 3, 1, 0), (7, 103, 3, 2, 0), (7, 106, 3, 3, 0), (7, 128, 3, 6, 0), (7, 131, 3, 7, 0), (7, 134, 3, 8, 0), (7, 137, 3, 4, 0), (7, 35, 7, 5, 0), (7, 139, 3, 9, 0), (7, 42, 7, 6, 0), (7, 142, 5, 1, 0), (7, 31, 7, 4, 0), (7, 25, 7, 3, 0), (7, 161, 3, 5, 0), (7, 16, 7, 1, 0), (7, 19, 7, 2, 1), (7, 167, 0, 0, 0), (7, 170, 0, 1, 0), (7, 173, 0, 2, 0), (7, 176, 0, 3, 0), (7, 55, 7, 8, 0), (7, 200, 1, 1, 0), (7, 203, 1, 2, 0), (7, 206, 1, 3, 0), (7, 209, 1, 4, 0), (7, 215, 1, 5, 0), (7, 221, 1, 6, 0), (7, 62, 7, 9, 0), (7, 234, 1, 0, 0), (7, 261, 3, 10, 1), (7, 264, 3, 11, 1), (7, 273, 2, 0, 0), (7, 48, 7, 7, 0), (7, 319, 4, 1, 0), (7, 320, 4, 0, 0), (7, 323, 4, 2, 0), (7, 370, 2, 1, 0), (7, 66, 7, 10, 0), (8, 112, 8, 0, 0), (8, 119, 8, 5, 0), (8, 7, 8, 1, 0), (8, 134, 8, 2, 0), (8, 13, 8, 3, 0), (8, 17, 8, 4, 0), (8, 137, 8, 15, 0), (8, 140, 8, 16, 0), (8, 105, 8, 12, 0), (8, 35, 8, 11, 0), (8, 62, 8, 34, 0), (8, 146, 8, 30, 0), (8, 149, 8, 31, 0), (8, 152, 8, 32, 0), (8, 155, 8, 33, 0), (8, 38, 8, 13, 0), (8, 162, 8, 38, 0), (8, 165, 8, 36, 0), (8, 65, 8, 35, 0), (8, 171, 8, 37, 0), (8, 41, 8, 14, 0), (8, 68, 8, 39, 0), (8, 71, 8, 40, 0), (8, 26, 8, 8, 0), (8, 29, 8, 9, 0), (8, 23, 8, 7, 0), (8, 20, 8, 6, 0), (8, 32, 8, 10, 0), (8, 218, 8, 17, 1), (8, 222, 8, 22, 0), (8, 232, 8, 41, 1), (8, 74, 8, 42, 0), (8, 77, 8, 43, 0), (8, 89, 8, 47, 0), (8, 80, 8, 44, 0), (8, 83, 8, 45, 0), (8, 86, 8, 46, 0), (8, 92, 8, 48, 0), (8, 95, 8, 49, 0), (8, 250, 8, 50, 1), (8, 293, 8, 51, 0), (8, 98, 8, 52, 0), (8, 50, 8, 26, 0), (8, 53, 8, 27, 0), (8, 56, 8, 28, 0), (8, 102, 8, 53, 0), (8, 334, 8, 18, 0), (8, 337, 8, 19, 0), (8, 340, 8, 20, 0), (8, 343, 8, 21, 0), (8, 346, 8, 23, 0), (8, 44, 8, 24, 0), (8, 47, 8, 25, 0), (0, 9, 0, 0, 0), (0, 15, 0, 1, 0), (0, 18, 0, 2, 0), (0, 21, 0, 3, 0), (1, 46, 1, 10, 0), (1, 12, 1, 0, 0), (1, 61, 3, 0, 0), (1, 40, 1, 8, 0), (1, 68, 3, 1, 0), (1, 34, 1, 6, 0), (1, 79, 3, 4, 0), (1, 18, 1, 1, 0), (1, 22, 1, 2, 0), (1, 25, 1, 3, 0), (1, 28, 1, 4, 0), (1, 31, 1, 5, 0), (1, 37, 1, 7, 0), (1, 82, 3, 11, 1), (1, 92, 0, 1, 0), (1, 99, 3, 5, 0), (1, 50, 1, 11, 0), (1, 106, 3, 6, 0), (1, 113, 0, 2, 0), (1, 43, 1, 9, 0), (1, 119, 3, 8, 0), (1, 134, 3, 7, 0), (1, 137, 3, 2, 0), (1, 140, 3, 10, 1), (2, 9, 2, 0, 0), (2, 16, 2, 1, 0), (3, 9, 3, 0, 0), (3, 15, 3, 1, 0), (3, 19, 3, 2, 0), (3, 22, 3, 3, 0), (3, 25, 3, 4, 0), (3, 28, 3, 5, 0), (3, 31, 3, 6, 0), (3, 34, 3, 7, 0), (3, 37, 3, 8, 0), (3, 40, 3, 9, 0), (3, 43, 3, 10, 1), (3, 47, 3, 11, 1), (4, 9, 4, 0, 0), (4, 15, 4, 1, 0), (4, 18, 4, 2, 0), (5, 15, 5, 1, 0), (5, 9, 5, 0, 0), (5, 27, 5, 4, 0), (5, 30, 5, 5, 0), (5, 33, 5, 6, 0), (5, 24, 5, 3, 0), (5, 36, 5, 7, 0), (5, 19, 5, 2, 0), (5, 39, 5, 8, 0), (6, 9, 6, 0, 0), (6, 24, 5, 2, 0), (6, 15, 6, 1, 0), (6, 27, 5, 3, 0), (6, 21, 6, 3, 0), (6, 28, 0, 2, 0), (6, 34, 0, 3, 0), (6, 37, 0, 1, 0), (6, 18, 6, 2, 0)]
set_option maxRecDepth 100000 in
theorem mk_FLw : ∀ q ∈ mk_FL, Cond.fieldLink (mk_cn q.1) q.2.1 (mk_ft q.2.2.1 q.2.2.2.1).1 (mk_ft q.2.2.1 q.2.2.2.1).2.1 (mk_ft q.2.2.1 q.2.2.2.1).2.2.1 ∈ mk_tb := List.forall_mem_cons.mpr ⟨mk_t2 154 rfl rfl, List.forall_mem_cons.mpr ⟨mk_t1 31 rfl rfl, List.forall_mem_cons.mpr ⟨mk_t1 34 rfl rfl, List.forall_mem_cons.mpr ⟨mk_t1 37 rfl rfl, List.forall_mem_cons.mpr ⟨mk_t1 40 rfl rfl, List.forall_mem_cons.mpr ⟨mk_t1 49 rfl rfl, List.forall_mem_cons.mpr ⟨mk_t1 51 rfl rfl, List.forall_mem_cons.mpr ⟨mk_t1 54 rfl rfl, List.forall_mem_cons.mpr ⟨mk_t1 43 rfl rfl, List.forall_mem_cons.mpr ⟨mk_t2 159 rfl rfl, List.forall_mem_cons.mpr ⟨mk_t1 57 rfl rfl, List.forall_mem_cons.mpr ⟨mk_t2 160 rfl rfl, List.forall_mem_cons.mpr ⟨mk_t1 102 rfl rfl, List.forall_mem_cons.mpr ⟨mk_t2 158 rfl rfl, List.forall_mem_cons.mpr ⟨mk_t2 157 rfl rfl, List.forall_mem_cons.mpr ⟨mk_t1 46 rfl rfl, List.forall_mem_cons.mpr ⟨mk_t2 155 rfl rfl, List.forall_mem_cons.mpr ⟨mk_t2 156 rfl rfl, List.forall_mem_cons.mpr ⟨mk_t1 207 rfl rfl, List.forall_mem_cons.mpr ⟨mk_t1 211 rfl rfl, List.forall_mem_cons.mpr ⟨mk_t1 215 rfl rfl, List.forall_mem_cons.mpr ⟨mk_t1 218 rfl rfl, List.forall_mem_cons.mpr ⟨mk_t2 162 rfl rfl, List.forall_mem_cons.mpr ⟨mk_t1 144 rfl rfl, List.forall_mem_cons.mpr ⟨mk_t1 146 rfl rfl, List.forall_mem_cons.mpr ⟨mk_t1 148 rfl rfl, List.forall_mem_cons.mpr ⟨mk_t1 150 rfl rfl, List.forall_mem_cons.mpr ⟨mk_t1 152 rfl rfl, List.forall_mem_cons.mpr ⟨mk_t1 154 rfl rfl, List.forall_mem_cons.mpr ⟨mk_t2 163 rfl rfl, List.forall_mem_cons.mpr ⟨mk_t1 142 rfl rfl, List.forall_mem_cons.mpr ⟨mk_t1 60 rfl rfl, List.forall_mem_cons.mpr ⟨mk_t1 63 rfl rfl, List.forall_mem_cons.mpr ⟨mk_t1 193 rfl rfl, List.forall_mem_cons.mpr ⟨mk_t2 161 rfl rfl, List.forall_mem_cons.mpr ⟨mk_t2 15 rfl rfl, List.forall_mem_cons.mpr ⟨mk_t2 13 rfl rfl, List.forall_mem_cons.mpr ⟨mk_t2 17 rfl rfl, List.forall_mem_cons.mpr ⟨mk_t1 195 rfl rfl, List.forall_mem_cons.mpr ⟨mk_t2 164 rfl rfl, List.forall_mem_cons.mpr ⟨mk_t4 208 rfl rfl, List.forall_mem_cons.mpr ⟨mk_t4 213 rfl rfl, List.forall_mem_cons.mpr ⟨mk_t4 209 rfl rfl, List.forall_mem_cons.mpr ⟨mk_t4 210 rfl rfl, List.forall_mem_cons.mpr ⟨mk_t4 211 rfl rfl, List.forall_mem_cons.mpr ⟨mk_t4 212 rfl rfl, List.forall_mem_cons.mpr ⟨mk_t4 223 rfl rfl, List.forall_mem_cons.mpr ⟨mk_t4 224 rfl rfl, List.forall_mem_cons.mpr ⟨mk_t4 220 rfl rfl, List.forall_mem_cons.mpr ⟨mk_t4 219 rfl rfl, List.forall_mem_cons.mpr ⟨mk_t5 2 rfl rfl, List.forall_mem_cons.mpr ⟨mk_t4 238 rfl rfl, List.forall_mem_cons.mpr ⟨mk_t4 239 rfl rfl, List.forall_mem_cons.mpr ⟨mk_t5 0 rfl rfl, List.forall_mem_cons.mpr ⟨mk_t5 1 rfl rfl, List.forall_mem_cons.mpr ⟨mk_t4 221 rfl rfl, List.forall_mem_cons.mpr ⟨mk_t5 6 rfl rfl, List.forall_mem_cons.mpr ⟨mk_t5 4 rfl rfl, List.forall_mem_cons.mpr ⟨mk_t5 3 rfl rfl, List.forall_mem_cons.mpr ⟨mk_t5 5 rfl rfl, List.forall_mem_cons.mpr ⟨mk_t4 222 rfl rfl, List.forall_mem_cons.mpr ⟨mk_t5 7 rfl rfl, List.forall_mem_cons.mpr ⟨mk_t5 8 rfl rfl, List.forall_mem_cons.mpr ⟨mk_t4 216 rfl rfl, List.forall_mem_cons.mpr ⟨mk_t4 217 rfl rfl, List.forall_mem_cons.mpr ⟨mk_t4 215 rfl rfl, List.forall_mem_cons.mpr ⟨mk_t4 214 rfl rfl, List.forall_mem_cons.mpr ⟨mk_t4 218 rfl rfl, List.forall_mem_cons.mpr ⟨mk_t4 225 rfl rfl, List.forall_mem_cons.mpr ⟨mk_t4 230 rfl rfl, List.forall_mem_cons.mpr ⟨mk_t5 9 rfl rfl, List.forall_mem_cons.mpr ⟨mk_t5 10 rfl rfl, List.forall_mem_cons.mpr ⟨mk_t5 11 rfl rfl, List.forall_mem_cons.mpr ⟨mk_t5 15 rfl rfl, List.forall_mem_cons.mpr ⟨mk_t5 12 rfl rfl, List.forall_mem_cons.mpr ⟨mk_t5 13 rfl rfl, List.forall_mem_cons.mpr ⟨mk_t5 14 rfl rfl, List.forall_mem_cons.mpr ⟨mk_t5 16 rfl rfl, List.forall_mem_cons.mpr ⟨mk_t5 17 rfl rfl, List.forall_mem_cons.mpr ⟨mk_t5 18 rfl rfl, List.forall_mem_cons.mpr ⟨mk_t5 19 rfl rfl, List.forall_mem_cons.mpr ⟨mk_t5 20 rfl rfl, List.forall_mem_cons.mpr ⟨mk_t4 234 rfl rfl, List.forall_mem_cons.mpr ⟨mk_t4 235 rfl rfl, List.forall_mem_cons.mpr ⟨mk_t4 236 rfl rfl, List.forall_mem_cons.mpr ⟨mk_t5 21 rfl rfl, List.forall_mem_cons.mpr ⟨mk_t4 226 rfl rfl, List.forall_mem_cons.mpr ⟨mk_t4 227 rfl rfl, List.forall_mem_cons.mpr ⟨mk_t4 228 rfl rfl, List.forall_mem_cons.mpr ⟨mk_t4 229 rfl rfl, List.forall_mem_cons.mpr ⟨mk_t4 231 rfl rfl, List.forall_mem_cons.mpr ⟨mk_t4 232 rfl rfl, List.forall_mem_cons.mpr ⟨mk_t4 233 rfl rfl, List.forall_mem_cons.mpr ⟨mk_t1 206 rfl rfl, List.forall_mem_cons.mpr ⟨mk_t1 208 rfl rfl, List.forall_mem_cons.mpr ⟨mk_t1 212 rfl rfl, List.forall_mem_cons.mpr ⟨mk_t1 216 rfl rfl, List.forall_mem_cons.mpr ⟨mk_t1 158 rfl rfl, List.forall_mem_cons.mpr ⟨mk_t1 141 rfl rfl, List.forall_mem_cons.mpr ⟨mk_t1 32 rfl rfl, List.forall_mem_cons.mpr ⟨mk_t1 156 rfl rfl, List.forall_mem_cons.mpr ⟨mk_t1 35 rfl rfl, List.forall_mem_cons.mpr ⟨mk_t1 153 rfl rfl, List.forall_mem_cons.mpr ⟨mk_t1 42 rfl rfl, List.forall_mem_cons.mpr ⟨mk_t1 143 rfl rfl, List.forall_mem_cons.mpr ⟨mk_t1 145 rfl rfl, List.forall_mem_cons.mpr ⟨mk_t1 147 rfl rfl, List.forall_mem_cons.mpr ⟨mk_t1 149 rfl rfl, List.forall_mem_cons.mpr ⟨mk_t1 151 rfl rfl, List.forall_mem_cons.mpr ⟨mk_t1 155 rfl rfl, List.forall_mem_cons.mpr ⟨mk_t1 62 rfl rfl, List.forall_mem_cons.mpr ⟨mk_t1 210 rfl rfl, List.forall_mem_cons.mpr ⟨mk_t1 45 rfl rfl, List.forall_mem_cons.mpr ⟨mk_t1 159 rfl rfl, List.forall_mem_cons.mpr ⟨mk_t1 48 rfl rfl, List.forall_mem_cons.mpr ⟨mk_t1 214 rfl rfl, List.forall_mem_cons.mpr ⟨mk_t1 157 rfl rfl, List.forall_mem_cons.mpr ⟨mk_t1 55 rfl rfl, List.forall_mem_cons.mpr ⟨mk_t1 52 rfl rfl, List.forall_mem_cons.mpr ⟨mk_t1 38 rfl rfl, List.forall_mem_cons.mpr ⟨mk_t1 59 rfl rfl, List.forall_mem_cons.mpr ⟨mk_t1 192 rfl rfl, List.forall_mem_cons.mpr ⟨mk_t1 194 rfl rfl, List.forall_mem_cons.mpr ⟨mk_t1 30 rfl rfl, List.forall_mem_cons.mpr ⟨mk_t1 33 rfl rfl, List.forall_mem_cons.mpr ⟨mk_t1 36 rfl rfl, List.forall_mem_cons.mpr ⟨mk_t1 39 rfl rfl, List.forall_mem_cons.mpr ⟨mk_t1 41 rfl rfl, List.forall_mem_cons.mpr ⟨mk_t1 44 rfl rfl, List.forall_mem_cons.mpr ⟨mk_t1 47 rfl rfl, List.forall_mem_cons.mpr ⟨mk_t1 50 rfl rfl, List.forall_mem_cons.mpr ⟨mk_t1 53 rfl rfl, List.forall_mem_cons.mpr ⟨mk_t1 56 rfl rfl, List.forall_mem_cons.mpr ⟨mk_t1 58 rfl rfl, List.forall_mem_cons.mpr ⟨mk_t1 61 rfl rfl, List.forall_mem_cons.mpr ⟨mk_t2 12 rfl rfl, List.forall_mem_cons.mpr ⟨mk_t2 14 rfl rfl, List.forall_mem_cons.mpr ⟨mk_t2 16 rfl rfl, List.forall_mem_cons.mpr ⟨mk_t1 101 rfl rfl, List.forall_mem_cons.mpr ⟨mk_t1 100 rfl rfl, List.forall_mem_cons.mpr ⟨mk_t1 107 rfl rfl, List.forall_mem_cons.mpr ⟨mk_t1 108 rfl rfl, List.forall_mem_cons.mpr ⟨mk_t1 109 rfl rfl, List.forall_mem_cons.mpr ⟨mk_t1 105 rfl rfl, List.forall_mem_cons.mpr ⟨mk_t1 110 rfl rfl, List.forall_mem_cons.mpr ⟨mk_t1 103 rfl rfl, List.forall_mem_cons.mpr ⟨mk_t1 111 rfl rfl, List.forall_mem_cons.mpr ⟨mk_t1 234 rfl rfl, List.forall_mem_cons.mpr ⟨mk_t1 104 rfl rfl, List.forall_mem_cons.mpr ⟨mk_t1 235 rfl rfl, List.forall_mem_cons.mpr ⟨mk_t1 106 rfl rfl, List.forall_mem_cons.mpr ⟨mk_t1 237 rfl rfl, List.forall_mem_cons.mpr ⟨mk_t1 213 rfl rfl, List.forall_mem_cons.mpr ⟨mk_t1 217 rfl rfl, List.forall_mem_cons.mpr ⟨mk_t1 209 rfl rfl, List.forall_mem_cons.mpr ⟨mk_t1 236 rfl rfl, fun _ h => absurd h List.not_mem_nil⟩⟩⟩⟩⟩⟩⟩⟩⟩⟩⟩⟩⟩⟩⟩⟩⟩⟩⟩⟩⟩⟩⟩⟩⟩⟩⟩⟩⟩⟩⟩⟩⟩⟩⟩⟩⟩⟩⟩⟩⟩⟩⟩⟩⟩⟩⟩⟩⟩⟩⟩⟩⟩⟩⟩⟩⟩⟩⟩⟩⟩⟩⟩⟩⟩⟩⟩⟩⟩⟩⟩⟩⟩⟩⟩⟩⟩⟩⟩⟩⟩⟩⟩⟩⟩⟩⟩⟩⟩⟩⟩⟩⟩⟩⟩⟩⟩⟩⟩⟩⟩⟩⟩⟩⟩⟩⟩⟩⟩⟩⟩⟩⟩⟩⟩⟩⟩⟩⟩⟩⟩⟩⟩⟩⟩⟩⟩⟩⟩⟩⟩⟩⟩⟩⟩⟩⟩⟩⟩⟩⟩⟩⟩⟩⟩⟩⟩⟩⟩⟩⟩⟩⟩⟩⟩⟩
/-- own, index, place in mk_CS, 0 an int, 2 a long -/
def mk_KL : List (Nat × Nat × Nat × Nat) := [(7, 276, 0, 2), (7, 288, 1, 2), (7, 305, 2, 0), (7, 343, 3, 2), (7, 345, 4, 2), (7, 347, 5, 2), (7, 373, 6, 2), (7, 375, 7, 2), (8, 187, 8, 0), (8, 299, 6, 2), (8, 301, 7, 2), (8, 307, 0, 2), (8, 309, 1, 2), (8, 317, 3, 2), (8, 319, 4, 2), (8, 321, 5, 2), (8, 323, 2, 0), (2, 15, 4, 0)]
def mk_kw (q : Nat × Nat × Nat × Nat) : Cond := match q.2.2.2 with
  | 0 => .constant (mk_cn q.1) q.2.1 (Int32.ofInt ((mj_nth mk_CS q.2.2.1).getD 0))
  | _ => .constantLong (mk_cn q.1) q.2.1 (Int64.ofInt ((mj_nth mk_CS q.2.2.1).getD 0))
theorem mk_KLw : ∀ q ∈ mk_KL, mk_kw q ∈ mk_tb := List.forall_mem_cons.mpr ⟨mk_t4 39 rfl rfl, List.forall_mem_cons.mpr ⟨mk_t4 58 rfl rfl, List.forall_mem_cons.mpr ⟨mk_t4 102 rfl rfl, List.forall_mem_cons.mpr ⟨mk_t4 107 rfl rfl, List.forall_mem_cons.mpr ⟨mk_t4 108 rfl rfl, List.forall_mem_cons.mpr ⟨mk_t4 109 rfl rfl, List.forall_mem_cons.mpr ⟨mk_t4 44 rfl rfl, List.forall_mem_cons.mpr ⟨mk_t4 49 rfl rfl, List.forall_mem_cons.mpr ⟨mk_t4 180 rfl rfl, List.forall_mem_cons.mpr ⟨mk_t6 125 rfl rfl, List.forall_mem_cons.mpr ⟨mk_t6 126 rfl rfl, List.forall_mem_cons.mpr ⟨mk_t6 127 rfl rfl, List.forall_mem_cons.mpr ⟨mk_t6 132 rfl rfl, List.forall_mem_cons.mpr ⟨mk_t6 166 rfl rfl, List.forall_mem_cons.mpr ⟨mk_t6 167 rfl rfl, List.forall_mem_cons.mpr ⟨mk_t6 168 rfl rfl, List.forall_mem_cons.mpr ⟨mk_t6 161 rfl rfl, List.forall_mem_cons.mpr ⟨mk_t1 191 rfl rfl, fun _ h => absurd h List.not_mem_nil⟩⟩⟩⟩⟩⟩⟩⟩⟩⟩⟩⟩⟩⟩⟩⟩⟩⟩
/-- own, index, method, kind of call: 0 of an object, 1 static, 2 static of a nest mate -/
def mk_CL : List (Nat × Nat × Nat × Nat) := [(7, 92, 44, 1), (7, 109, 49, 0), (7, 113, 51, 1), (7, 117, 52, 0), (7, 121, 53, 1), (7, 124, 54, 0), (7, 145, 46, 1), (7, 85, 197, 0), (7, 148, 198, 0), (7, 151, 214, 0), (7, 155, 47, 1), (7, 158, 163, 0), (7, 164, 50, 0), (7, 179, 167, 0), (7, 182, 215, 0), (7, 186, 169, 0), (7, 190, 168, 0), (7, 193, 64, 0), (7, 197, 58, 0), (7, 212, 178, 0), (7, 218, 187, 0), (7, 224, 185, 0), (7, 227, 188, 0), (7, 230, 189, 0), (7, 237, 57, 0), (7, 240, 190, 0), (7, 243, 60, 0), (7, 246, 61, 1), (7, 249, 56, 0), (7, 252, 62, 0), (7, 255, 186, 0), (7, 258, 63, 0), (7, 267, 65, 0), (7, 270, 66, 0), (7, 278, 68, 0), (7, 281, 69, 0), (7, 284, 70, 0), (7, 290, 55, 0), (7, 293, 67, 0), (7, 297, 48, 1), (7, 300, 195, 0), (7, 302, 196, 0), (7, 306, 59, 0), (7, 309, 71, 1), (7, 312, 191, 0), (7, 315, 194, 0), (7, 332, 8, 0), (7, 336, 164, 0), (7, 339, 170, 0), (7, 349, 45, 1), (7, 352, 192, 0), (7, 355, 180, 0), (7, 358, 182, 0), (7, 361, 165, 0), (7, 364, 166, 0), (7, 367, 179, 0), (8, 115, 72, 1), (8, 122, 76, 1), (8, 126, 74, 0), (8, 130, 81, 0), (8, 143, 82, 1), (8, 158, 84, 0), (8, 168, 86, 1), (8, 174, 87, 0), (8, 178, 89, 0), (8, 181, 88, 0), (8, 184, 85, 0), (8, 188, 90, 0), (8, 191, 92, 0), (8, 194, 91, 0), (8, 197, 93, 0), (8, 201, 95, 1), (8, 205, 96, 0), (8, 208, 73, 1), (8, 211, 100, 0), (8, 215, 75, 0), (8, 225, 103, 0), (8, 228, 98, 0), (8, 235, 105, 0), (8, 238, 106, 0), (8, 241, 108, 0), (8, 244, 109, 0), (8, 247, 110, 0), (8, 253, 111, 0), (8, 256, 112, 0), (8, 259, 113, 0), (8, 262, 115, 0), (8, 265, 118, 0), (8, 268, 116, 0), (8, 271, 117, 0), (8, 274, 119, 0), (8, 277, 122, 0), (8, 280, 125, 0), (8, 283, 126, 0), (8, 287, 131, 0), (8, 290, 135, 0), (8, 296, 136, 0), (8, 303, 141, 0), (8, 311, 144, 0), (8, 314, 145, 0), (8, 324, 150, 0), (8, 327, 151, 0), (8, 330, 153, 1), (8, 349, 99, 0), (8, 352, 161, 1), (0, 28, 45, 2), (1, 53, 171, 0), (1, 57, 174, 0), (1, 64, 193, 0), (1, 71, 176, 0), (1, 75, 177, 0), (1, 86, 167, 0), (1, 95, 172, 0), (1, 102, 173, 0), (1, 109, 165, 0), (1, 116, 166, 0), (1, 122, 175, 0), (1, 127, 215, 0), (1, 131, 168, 0), (1, 143, 169, 0), (1, 147, 178, 0), (1, 156, 181, 0), (1, 159, 180, 0), (1, 162, 183, 0), (1, 165, 182, 0), (1, 168, 184, 0), (3, 50, 44, 2), (5, 42, 208, 0), (5, 45, 199, 0), (5, 49, 201, 0), (5, 52, 202, 0), (5, 55, 200, 0), (5, 59, 203, 0), (5, 62, 207, 0), (5, 66, 204, 0), (5, 69, 205, 0), (5, 72, 206, 0), (5, 75, 44, 2), (5, 79, 209, 0), (5, 83, 212, 0), (5, 87, 211, 0), (5, 90, 210, 1), (5, 93, 213, 0), (6, 40, 216, 1)]
def mk_mi (y : Nat) : mk_T7 := match mj_nth mk_MI y with
  | some q => q
  | none => (⟨"", "", ""⟩, ⟨#[]⟩, none, 0, 0, 0, true)
def mk_cw (q : Nat × Nat × Nat × Nat) : List Cond := match q.2.2.2 with
  | 0 => [.methodLink (mk_cn q.1) q.2.1 (mk_mi q.2.2.1).1, .instanceMethod (mk_mi q.2.2.1).1, .selects (mk_mi q.2.2.1).1.cls (mk_mi q.2.2.1).1 (mk_mi q.2.2.1).1]
  | 1 => [.methodLink (mk_cn q.1) q.2.1 (mk_mi q.2.2.1).1, .static (mk_mi q.2.2.1).1]
  | _ => [.static (mk_mi q.2.2.1).1]
theorem mk_cl0 : ∀ w ∈ mk_cw (7, 92, 44, 1), w ∈ mk_tb := List.forall_mem_cons.mpr ⟨mk_t2 193 rfl rfl, List.forall_mem_cons.mpr ⟨mk_t2 91 rfl rfl, fun _ h => absurd h List.not_mem_nil⟩⟩
theorem mk_cl1 : ∀ w ∈ mk_cw (7, 109, 49, 0), w ∈ mk_tb := List.forall_mem_cons.mpr ⟨mk_t2 198 rfl rfl, List.forall_mem_cons.mpr ⟨mk_t2 200 rfl rfl, List.forall_mem_cons.mpr ⟨mk_tp 14 rfl, fun _ h => absurd h List.not_mem_nil⟩⟩⟩
theorem mk_cl2 : ∀ w ∈ mk_cw (7, 113, 51, 1), w ∈ mk_tb := List.forall_mem_cons.mpr ⟨mk_t2 202 rfl rfl, List.forall_mem_cons.mpr ⟨mk_t2 203 rfl rfl, fun _ h => absurd h List.not_mem_nil⟩⟩
theorem mk_cl3 : ∀ w ∈ mk_cw (7, 117, 52, 0), w ∈ mk_tb := List.forall_mem_cons.mpr ⟨mk_t2 205 rfl rfl, List.forall_mem_cons.mpr ⟨mk_t2 207 rfl rfl, List.forall_mem_cons.mpr ⟨mk_tp 15 rfl, fun _ h => absurd h List.not_mem_nil⟩⟩⟩
theorem mk_cl4 : ∀ w ∈ mk_cw (7, 121, 53, 1), w ∈ mk_tb := List.forall_mem_cons.mpr ⟨mk_t2 217 rfl rfl, List.forall_mem_cons.mpr ⟨mk_t2 218 rfl rfl, fun _ h => absurd h List.not_mem_nil⟩⟩
theorem mk_cl5 : ∀ w ∈ mk_cw (7, 124, 54, 0), w ∈ mk_tb := List.forall_mem_cons.mpr ⟨mk_t2 220 rfl rfl, List.forall_mem_cons.mpr ⟨mk_t2 222 rfl rfl, List.forall_mem_cons.mpr ⟨mk_tp 16 rfl, fun _ h => absurd h List.not_mem_nil⟩⟩⟩
theorem mk_cl6 : ∀ w ∈ mk_cw (7, 145, 46, 1), w ∈ mk_tb := List.forall_mem_cons.mpr ⟨mk_t2 232 rfl rfl, List.forall_mem_cons.mpr ⟨mk_t2 233 rfl rfl, fun _ h => absurd h List.not_mem_nil⟩⟩
theorem mk_cl7 : ∀ w ∈ mk_cw (7, 85, 197, 0), w ∈ mk_tb := List.forall_mem_cons.mpr ⟨mk_t2 74 rfl rfl, List.forall_mem_cons.mpr ⟨mk_t2 75 rfl rfl, List.forall_mem_cons.mpr ⟨mk_t2 76 rfl rfl, fun _ h => absurd h List.not_mem_nil⟩⟩⟩
theorem mk_cl8 : ∀ w ∈ mk_cw (7, 148, 198, 0), w ∈ mk_tb := List.forall_mem_cons.mpr ⟨mk_t2 82 rfl rfl, List.forall_mem_cons.mpr ⟨mk_t2 83 rfl rfl, List.forall_mem_cons.mpr ⟨mk_t2 84 rfl rfl, fun _ h => absurd h List.not_mem_nil⟩⟩⟩
theorem mk_cl9 : ∀ w ∈ mk_cw (7, 151, 214, 0), w ∈ mk_tb := List.forall_mem_cons.mpr ⟨mk_t2 150 rfl rfl, List.forall_mem_cons.mpr ⟨mk_t2 151 rfl rfl, List.forall_mem_cons.mpr ⟨mk_t2 152 rfl rfl, fun _ h => absurd h List.not_mem_nil⟩⟩⟩
theorem mk_cl10 : ∀ w ∈ mk_cw (7, 155, 47, 1), w ∈ mk_tb := List.forall_mem_cons.mpr ⟨mk_t3 4 rfl rfl, List.forall_mem_cons.mpr ⟨mk_t3 5 rfl rfl, fun _ h => absurd h List.not_mem_nil⟩⟩
theorem mk_cl11 : ∀ w ∈ mk_cw (7, 158, 163, 0), w ∈ mk_tb := List.forall_mem_cons.mpr ⟨mk_t3 7 rfl rfl, List.forall_mem_cons.mpr ⟨mk_t3 8 rfl rfl, List.forall_mem_cons.mpr ⟨mk_t3 9 rfl rfl, fun _ h => absurd h List.not_mem_nil⟩⟩⟩
theorem mk_cl12 : ∀ w ∈ mk_cw (7, 164, 50, 0), w ∈ mk_tb := List.forall_mem_cons.mpr ⟨mk_t3 15 rfl rfl, List.forall_mem_cons.mpr ⟨mk_t3 17 rfl rfl, List.forall_mem_cons.mpr ⟨mk_tp 17 rfl, fun _ h => absurd h List.not_mem_nil⟩⟩⟩
theorem mk_cl13 : ∀ w ∈ mk_cw (7, 179, 167, 0), w ∈ mk_tb := List.forall_mem_cons.mpr ⟨mk_t3 27 rfl rfl, List.forall_mem_cons.mpr ⟨mk_t3 28 rfl rfl, List.forall_mem_cons.mpr ⟨mk_t3 29 rfl rfl, fun _ h => absurd h List.not_mem_nil⟩⟩⟩
theorem mk_cl14 : ∀ w ∈ mk_cw (7, 182, 215, 0), w ∈ mk_tb := List.forall_mem_cons.mpr ⟨mk_t3 35 rfl rfl, List.forall_mem_cons.mpr ⟨mk_t3 36 rfl rfl, List.forall_mem_cons.mpr ⟨mk_t3 37 rfl rfl, fun _ h => absurd h List.not_mem_nil⟩⟩⟩
theorem mk_cl15 : ∀ w ∈ mk_cw (7, 186, 169, 0), w ∈ mk_tb := List.forall_mem_cons.mpr ⟨mk_t3 42 rfl rfl, List.forall_mem_cons.mpr ⟨mk_t3 43 rfl rfl, List.forall_mem_cons.mpr ⟨mk_t3 44 rfl rfl, fun _ h => absurd h List.not_mem_nil⟩⟩⟩
theorem mk_cl16 : ∀ w ∈ mk_cw (7, 190, 168, 0), w ∈ mk_tb := List.forall_mem_cons.mpr ⟨mk_t3 49 rfl rfl, List.forall_mem_cons.mpr ⟨mk_t3 50 rfl rfl, List.forall_mem_cons.mpr ⟨mk_t3 51 rfl rfl, fun _ h => absurd h List.not_mem_nil⟩⟩⟩
theorem mk_cl17 : ∀ w ∈ mk_cw (7, 193, 64, 0), w ∈ mk_tb := List.forall_mem_cons.mpr ⟨mk_t3 56 rfl rfl, List.forall_mem_cons.mpr ⟨mk_t3 58 rfl rfl, List.forall_mem_cons.mpr ⟨mk_tp 18 rfl, fun _ h => absurd h List.not_mem_nil⟩⟩⟩
theorem mk_cl18 : ∀ w ∈ mk_cw (7, 197, 58, 0), w ∈ mk_tb := List.forall_mem_cons.mpr ⟨mk_t3 65 rfl rfl, List.forall_mem_cons.mpr ⟨mk_t3 67 rfl rfl, List.forall_mem_cons.mpr ⟨mk_tp 19 rfl, fun _ h => absurd h List.not_mem_nil⟩⟩⟩
theorem mk_cl19 : ∀ w ∈ mk_cw (7, 212, 178, 0), w ∈ mk_tb := List.forall_mem_cons.mpr ⟨mk_t3 130 rfl rfl, List.forall_mem_cons.mpr ⟨mk_t3 131 rfl rfl, List.forall_mem_cons.mpr ⟨mk_t3 132 rfl rfl, fun _ h => absurd h List.not_mem_nil⟩⟩⟩
theorem mk_cl20 : ∀ w ∈ mk_cw (7, 218, 187, 0), w ∈ mk_tb := List.forall_mem_cons.mpr ⟨mk_t3 138 rfl rfl, List.forall_mem_cons.mpr ⟨mk_t3 139 rfl rfl, List.forall_mem_cons.mpr ⟨mk_t3 140 rfl rfl, fun _ h => absurd h List.not_mem_nil⟩⟩⟩
theorem mk_cl21 : ∀ w ∈ mk_cw (7, 224, 185, 0), w ∈ mk_tb := List.forall_mem_cons.mpr ⟨mk_t3 172 rfl rfl, List.forall_mem_cons.mpr ⟨mk_t3 173 rfl rfl, List.forall_mem_cons.mpr ⟨mk_t3 174 rfl rfl, fun _ h => absurd h List.not_mem_nil⟩⟩⟩
theorem mk_cl22 : ∀ w ∈ mk_cw (7, 227, 188, 0), w ∈ mk_tb := List.forall_mem_cons.mpr ⟨mk_t3 180 rfl rfl, List.forall_mem_cons.mpr ⟨mk_t3 181 rfl rfl, List.forall_mem_cons.mpr ⟨mk_t3 182 rfl rfl, fun _ h => absurd h List.not_mem_nil⟩⟩⟩
theorem mk_cl23 : ∀ w ∈ mk_cw (7, 230, 189, 0), w ∈ mk_tb := List.forall_mem_cons.mpr ⟨mk_t3 184 rfl rfl, List.forall_mem_cons.mpr ⟨mk_t3 185 rfl rfl, List.forall_mem_cons.mpr ⟨mk_t3 186 rfl rfl, fun _ h => absurd h List.not_mem_nil⟩⟩⟩
theorem mk_cl24 : ∀ w ∈ mk_cw (7, 237, 57, 0), w ∈ mk_tb := List.forall_mem_cons.mpr ⟨mk_t3 77 rfl rfl, List.forall_mem_cons.mpr ⟨mk_t3 79 rfl rfl, List.forall_mem_cons.mpr ⟨mk_tp 21 rfl, fun _ h => absurd h List.not_mem_nil⟩⟩⟩
theorem mk_cl25 : ∀ w ∈ mk_cw (7, 240, 190, 0), w ∈ mk_tb := List.forall_mem_cons.mpr ⟨mk_t3 188 rfl rfl, List.forall_mem_cons.mpr ⟨mk_t3 189 rfl rfl, List.forall_mem_cons.mpr ⟨mk_t3 190 rfl rfl, fun _ h => absurd h List.not_mem_nil⟩⟩⟩
theorem mk_cl26 : ∀ w ∈ mk_cw (7, 243, 60, 0), w ∈ mk_tb := List.forall_mem_cons.mpr ⟨mk_t3 196 rfl rfl, List.forall_mem_cons.mpr ⟨mk_t3 198 rfl rfl, List.forall_mem_cons.mpr ⟨mk_tp 29 rfl, fun _ h => absurd h List.not_mem_nil⟩⟩⟩
theorem mk_cl27 : ∀ w ∈ mk_cw (7, 246, 61, 1), w ∈ mk_tb := List.forall_mem_cons.mpr ⟨mk_t3 206 rfl rfl, List.forall_mem_cons.mpr ⟨mk_t3 207 rfl rfl, fun _ h => absurd h List.not_mem_nil⟩⟩
theorem mk_cl28 : ∀ w ∈ mk_cw (7, 249, 56, 0), w ∈ mk_tb := List.forall_mem_cons.mpr ⟨mk_t3 69 rfl rfl, List.forall_mem_cons.mpr ⟨mk_t3 71 rfl rfl, List.forall_mem_cons.mpr ⟨mk_tp 20 rfl, fun _ h => absurd h List.not_mem_nil⟩⟩⟩
theorem mk_cl29 : ∀ w ∈ mk_cw (7, 252, 62, 0), w ∈ mk_tb := List.forall_mem_cons.mpr ⟨mk_t3 217 rfl rfl, List.forall_mem_cons.mpr ⟨mk_t3 219 rfl rfl, List.forall_mem_cons.mpr ⟨mk_tp 30 rfl, fun _ h => absurd h List.not_mem_nil⟩⟩⟩
theorem mk_cl30 : ∀ w ∈ mk_cw (7, 255, 186, 0), w ∈ mk_tb := List.forall_mem_cons.mpr ⟨mk_t3 221 rfl rfl, List.forall_mem_cons.mpr ⟨mk_t3 222 rfl rfl, List.forall_mem_cons.mpr ⟨mk_t3 223 rfl rfl, fun _ h => absurd h List.not_mem_nil⟩⟩⟩
theorem mk_cl31 : ∀ w ∈ mk_cw (7, 258, 63, 0), w ∈ mk_tb := List.forall_mem_cons.mpr ⟨mk_t3 233 rfl rfl, List.forall_mem_cons.mpr ⟨mk_t3 235 rfl rfl, List.forall_mem_cons.mpr ⟨mk_tp 31 rfl, fun _ h => absurd h List.not_mem_nil⟩⟩⟩
theorem mk_cl32 : ∀ w ∈ mk_cw (7, 267, 65, 0), w ∈ mk_tb := List.forall_mem_cons.mpr ⟨mk_t4 11 rfl rfl, List.forall_mem_cons.mpr ⟨mk_t4 13 rfl rfl, List.forall_mem_cons.mpr ⟨mk_tp 32 rfl, fun _ h => absurd h List.not_mem_nil⟩⟩⟩
theorem mk_cl33 : ∀ w ∈ mk_cw (7, 270, 66, 0), w ∈ mk_tb := List.forall_mem_cons.mpr ⟨mk_t4 23 rfl rfl, List.forall_mem_cons.mpr ⟨mk_t4 25 rfl rfl, List.forall_mem_cons.mpr ⟨mk_tp 33 rfl, fun _ h => absurd h List.not_mem_nil⟩⟩⟩
theorem mk_cl34 : ∀ w ∈ mk_cw (7, 278, 68, 0), w ∈ mk_tb := List.forall_mem_cons.mpr ⟨mk_t4 40 rfl rfl, List.forall_mem_cons.mpr ⟨mk_t4 42 rfl rfl, List.forall_mem_cons.mpr ⟨mk_tp 34 rfl, fun _ h => absurd h List.not_mem_nil⟩⟩⟩
theorem mk_cl35 : ∀ w ∈ mk_cw (7, 281, 69, 0), w ∈ mk_tb := List.forall_mem_cons.mpr ⟨mk_t4 45 rfl rfl, List.forall_mem_cons.mpr ⟨mk_t4 47 rfl rfl, List.forall_mem_cons.mpr ⟨mk_tp 35 rfl, fun _ h => absurd h List.not_mem_nil⟩⟩⟩
theorem mk_cl36 : ∀ w ∈ mk_cw (7, 284, 70, 0), w ∈ mk_tb := List.forall_mem_cons.mpr ⟨mk_t4 50 rfl rfl, List.forall_mem_cons.mpr ⟨mk_t4 52 rfl rfl, List.forall_mem_cons.mpr ⟨mk_tp 36 rfl, fun _ h => absurd h List.not_mem_nil⟩⟩⟩
theorem mk_cl37 : ∀ w ∈ mk_cw (7, 290, 55, 0), w ∈ mk_tb := List.forall_mem_cons.mpr ⟨mk_t4 63 rfl rfl, List.forall_mem_cons.mpr ⟨mk_t4 65 rfl rfl, List.forall_mem_cons.mpr ⟨mk_tp 37 rfl, fun _ h => absurd h List.not_mem_nil⟩⟩⟩
theorem mk_cl38 : ∀ w ∈ mk_cw (7, 293, 67, 0), w ∈ mk_tb := List.forall_mem_cons.mpr ⟨mk_t4 74 rfl rfl, List.forall_mem_cons.mpr ⟨mk_t4 76 rfl rfl, List.forall_mem_cons.mpr ⟨mk_tp 38 rfl, fun _ h => absurd h List.not_mem_nil⟩⟩⟩
theorem mk_cl39 : ∀ w ∈ mk_cw (7, 297, 48, 1), w ∈ mk_tb := List.forall_mem_cons.mpr ⟨mk_t4 67 rfl rfl, List.forall_mem_cons.mpr ⟨mk_t4 68 rfl rfl, fun _ h => absurd h List.not_mem_nil⟩⟩
theorem mk_cl40 : ∀ w ∈ mk_cw (7, 300, 195, 0), w ∈ mk_tb := List.forall_mem_cons.mpr ⟨mk_t4 90 rfl rfl, List.forall_mem_cons.mpr ⟨mk_t4 91 rfl rfl, List.forall_mem_cons.mpr ⟨mk_t4 92 rfl rfl, fun _ h => absurd h List.not_mem_nil⟩⟩⟩
theorem mk_cl41 : ∀ w ∈ mk_cw (7, 302, 196, 0), w ∈ mk_tb := List.forall_mem_cons.mpr ⟨mk_t4 94 rfl rfl, List.forall_mem_cons.mpr ⟨mk_t4 95 rfl rfl, List.forall_mem_cons.mpr ⟨mk_t4 96 rfl rfl, fun _ h => absurd h List.not_mem_nil⟩⟩⟩
theorem mk_cl42 : ∀ w ∈ mk_cw (7, 306, 59, 0), w ∈ mk_tb := List.forall_mem_cons.mpr ⟨mk_t4 103 rfl rfl, List.forall_mem_cons.mpr ⟨mk_t4 105 rfl rfl, List.forall_mem_cons.mpr ⟨mk_tp 39 rfl, fun _ h => absurd h List.not_mem_nil⟩⟩⟩
theorem mk_cl43 : ∀ w ∈ mk_cw (7, 309, 71, 1), w ∈ mk_tb := List.forall_mem_cons.mpr ⟨mk_t4 114 rfl rfl, List.forall_mem_cons.mpr ⟨mk_t4 115 rfl rfl, fun _ h => absurd h List.not_mem_nil⟩⟩
theorem mk_cl44 : ∀ w ∈ mk_cw (7, 312, 191, 0), w ∈ mk_tb := List.forall_mem_cons.mpr ⟨mk_t3 73 rfl rfl, List.forall_mem_cons.mpr ⟨mk_t3 74 rfl rfl, List.forall_mem_cons.mpr ⟨mk_t3 75 rfl rfl, fun _ h => absurd h List.not_mem_nil⟩⟩⟩
theorem mk_cl45 : ∀ w ∈ mk_cw (7, 315, 194, 0), w ∈ mk_tb := List.forall_mem_cons.mpr ⟨mk_t4 70 rfl rfl, List.forall_mem_cons.mpr ⟨mk_t4 71 rfl rfl, List.forall_mem_cons.mpr ⟨mk_t4 72 rfl rfl, fun _ h => absurd h List.not_mem_nil⟩⟩⟩
theorem mk_cl46 : ∀ w ∈ mk_cw (7, 332, 8, 0), w ∈ mk_tb := List.forall_mem_cons.mpr ⟨mk_t4 144 rfl rfl, List.forall_mem_cons.mpr ⟨mk_t3 1 rfl rfl, List.forall_mem_cons.mpr ⟨mk_t3 2 rfl rfl, fun _ h => absurd h List.not_mem_nil⟩⟩⟩
theorem mk_cl47 : ∀ w ∈ mk_cw (7, 336, 164, 0), w ∈ mk_tb := List.forall_mem_cons.mpr ⟨mk_t4 149 rfl rfl, List.forall_mem_cons.mpr ⟨mk_t4 150 rfl rfl, List.forall_mem_cons.mpr ⟨mk_t4 151 rfl rfl, fun _ h => absurd h List.not_mem_nil⟩⟩⟩
theorem mk_cl48 : ∀ w ∈ mk_cw (7, 339, 170, 0), w ∈ mk_tb := List.forall_mem_cons.mpr ⟨mk_t3 81 rfl rfl, List.forall_mem_cons.mpr ⟨mk_t3 82 rfl rfl, List.forall_mem_cons.mpr ⟨mk_t3 83 rfl rfl, fun _ h => absurd h List.not_mem_nil⟩⟩⟩
theorem mk_cl49 : ∀ w ∈ mk_cw (7, 349, 45, 1), w ∈ mk_tb := List.forall_mem_cons.mpr ⟨mk_t3 60 rfl rfl, List.forall_mem_cons.mpr ⟨mk_t3 47 rfl rfl, fun _ h => absurd h List.not_mem_nil⟩⟩
theorem mk_cl50 : ∀ w ∈ mk_cw (7, 352, 192, 0), w ∈ mk_tb := List.forall_mem_cons.mpr ⟨mk_t3 200 rfl rfl, List.forall_mem_cons.mpr ⟨mk_t3 201 rfl rfl, List.forall_mem_cons.mpr ⟨mk_t3 202 rfl rfl, fun _ h => absurd h List.not_mem_nil⟩⟩⟩
theorem mk_cl51 : ∀ w ∈ mk_cw (7, 355, 180, 0), w ∈ mk_tb := List.forall_mem_cons.mpr ⟨mk_t3 204 rfl rfl, List.forall_mem_cons.mpr ⟨mk_t3 143 rfl rfl, List.forall_mem_cons.mpr ⟨mk_t3 144 rfl rfl, fun _ h => absurd h List.not_mem_nil⟩⟩⟩
theorem mk_cl52 : ∀ w ∈ mk_cw (7, 358, 182, 0), w ∈ mk_tb := List.forall_mem_cons.mpr ⟨mk_t3 205 rfl rfl, List.forall_mem_cons.mpr ⟨mk_t3 152 rfl rfl, List.forall_mem_cons.mpr ⟨mk_t3 153 rfl rfl, fun _ h => absurd h List.not_mem_nil⟩⟩⟩
theorem mk_cl53 : ∀ w ∈ mk_cw (7, 361, 165, 0), w ∈ mk_tb := List.forall_mem_cons.mpr ⟨mk_t3 237 rfl rfl, List.forall_mem_cons.mpr ⟨mk_t3 95 rfl rfl, List.forall_mem_cons.mpr ⟨mk_t3 96 rfl rfl, fun _ h => absurd h List.not_mem_nil⟩⟩⟩
theorem mk_cl54 : ∀ w ∈ mk_cw (7, 364, 166, 0), w ∈ mk_tb := List.forall_mem_cons.mpr ⟨mk_t3 238 rfl rfl, List.forall_mem_cons.mpr ⟨mk_t3 99 rfl rfl, List.forall_mem_cons.mpr ⟨mk_t3 100 rfl rfl, fun _ h => absurd h List.not_mem_nil⟩⟩⟩
theorem mk_cl55 : ∀ w ∈ mk_cw (7, 367, 179, 0), w ∈ mk_tb := List.forall_mem_cons.mpr ⟨mk_t4 15 rfl rfl, List.forall_mem_cons.mpr ⟨mk_t4 16 rfl rfl, List.forall_mem_cons.mpr ⟨mk_t4 17 rfl rfl, fun _ h => absurd h List.not_mem_nil⟩⟩⟩
theorem mk_cl56 : ∀ w ∈ mk_cw (8, 115, 72, 1), w ∈ mk_tb := List.forall_mem_cons.mpr ⟨mk_t4 169 rfl rfl, List.forall_mem_cons.mpr ⟨mk_t4 170 rfl rfl, fun _ h => absurd h List.not_mem_nil⟩⟩
theorem mk_cl57 : ∀ w ∈ mk_cw (8, 122, 76, 1), w ∈ mk_tb := List.forall_mem_cons.mpr ⟨mk_t5 135 rfl rfl, List.forall_mem_cons.mpr ⟨mk_t5 136 rfl rfl, fun _ h => absurd h List.not_mem_nil⟩⟩
theorem mk_cl58 : ∀ w ∈ mk_cw (8, 126, 74, 0), w ∈ mk_tb := List.forall_mem_cons.mpr ⟨mk_t5 142 rfl rfl, List.forall_mem_cons.mpr ⟨mk_t5 144 rfl rfl, List.forall_mem_cons.mpr ⟨mk_tp 49 rfl, fun _ h => absurd h List.not_mem_nil⟩⟩⟩
theorem mk_cl59 : ∀ w ∈ mk_cw (8, 130, 81, 0), w ∈ mk_tb := List.forall_mem_cons.mpr ⟨mk_t5 154 rfl rfl, List.forall_mem_cons.mpr ⟨mk_t5 155 rfl rfl, List.forall_mem_cons.mpr ⟨mk_t5 156 rfl rfl, fun _ h => absurd h List.not_mem_nil⟩⟩⟩
theorem mk_cl60 : ∀ w ∈ mk_cw (8, 143, 82, 1), w ∈ mk_tb := List.forall_mem_cons.mpr ⟨mk_t5 163 rfl rfl, List.forall_mem_cons.mpr ⟨mk_t5 164 rfl rfl, fun _ h => absurd h List.not_mem_nil⟩⟩
theorem mk_cl61 : ∀ w ∈ mk_cw (8, 158, 84, 0), w ∈ mk_tb := List.forall_mem_cons.mpr ⟨mk_t4 172 rfl rfl, List.forall_mem_cons.mpr ⟨mk_t4 174 rfl rfl, List.forall_mem_cons.mpr ⟨mk_tp 41 rfl, fun _ h => absurd h List.not_mem_nil⟩⟩⟩
theorem mk_cl62 : ∀ w ∈ mk_cw (8, 168, 86, 1), w ∈ mk_tb := List.forall_mem_cons.mpr ⟨mk_t4 189 rfl rfl, List.forall_mem_cons.mpr ⟨mk_t4 190 rfl rfl, fun _ h => absurd h List.not_mem_nil⟩⟩
theorem mk_cl63 : ∀ w ∈ mk_cw (8, 174, 87, 0), w ∈ mk_tb := List.forall_mem_cons.mpr ⟨mk_t4 181 rfl rfl, List.forall_mem_cons.mpr ⟨mk_t4 183 rfl rfl, List.forall_mem_cons.mpr ⟨mk_tp 43 rfl, fun _ h => absurd h List.not_mem_nil⟩⟩⟩
theorem mk_cl64 : ∀ w ∈ mk_cw (8, 178, 89, 0), w ∈ mk_tb := List.forall_mem_cons.mpr ⟨mk_t4 196 rfl rfl, List.forall_mem_cons.mpr ⟨mk_t4 198 rfl rfl, List.forall_mem_cons.mpr ⟨mk_tp 46 rfl, fun _ h => absurd h List.not_mem_nil⟩⟩⟩
theorem mk_cl65 : ∀ w ∈ mk_cw (8, 181, 88, 0), w ∈ mk_tb := List.forall_mem_cons.mpr ⟨mk_t4 185 rfl rfl, List.forall_mem_cons.mpr ⟨mk_t4 187 rfl rfl, List.forall_mem_cons.mpr ⟨mk_tp 44 rfl, fun _ h => absurd h List.not_mem_nil⟩⟩⟩
theorem mk_cl66 : ∀ w ∈ mk_cw (8, 184, 85, 0), w ∈ mk_tb := List.forall_mem_cons.mpr ⟨mk_t4 165 rfl rfl, List.forall_mem_cons.mpr ⟨mk_t4 167 rfl rfl, List.forall_mem_cons.mpr ⟨mk_tp 40 rfl, fun _ h => absurd h List.not_mem_nil⟩⟩⟩
theorem mk_cl67 : ∀ w ∈ mk_cw (8, 188, 90, 0), w ∈ mk_tb := List.forall_mem_cons.mpr ⟨mk_t4 192 rfl rfl, List.forall_mem_cons.mpr ⟨mk_t4 194 rfl rfl, List.forall_mem_cons.mpr ⟨mk_tp 45 rfl, fun _ h => absurd h List.not_mem_nil⟩⟩⟩
theorem mk_cl68 : ∀ w ∈ mk_cw (8, 191, 92, 0), w ∈ mk_tb := List.forall_mem_cons.mpr ⟨mk_t4 200 rfl rfl, List.forall_mem_cons.mpr ⟨mk_t4 202 rfl rfl, List.forall_mem_cons.mpr ⟨mk_tp 47 rfl, fun _ h => absurd h List.not_mem_nil⟩⟩⟩
theorem mk_cl69 : ∀ w ∈ mk_cw (8, 194, 91, 0), w ∈ mk_tb := List.forall_mem_cons.mpr ⟨mk_t4 204 rfl rfl, List.forall_mem_cons.mpr ⟨mk_t4 206 rfl rfl, List.forall_mem_cons.mpr ⟨mk_tp 48 rfl, fun _ h => absurd h List.not_mem_nil⟩⟩⟩
theorem mk_cl70 : ∀ w ∈ mk_cw (8, 197, 93, 0), w ∈ mk_tb := List.forall_mem_cons.mpr ⟨mk_t4 176 rfl rfl, List.forall_mem_cons.mpr ⟨mk_t4 178 rfl rfl, List.forall_mem_cons.mpr ⟨mk_tp 42 rfl, fun _ h => absurd h List.not_mem_nil⟩⟩⟩
theorem mk_cl71 : ∀ w ∈ mk_cw (8, 201, 95, 1), w ∈ mk_tb := List.forall_mem_cons.mpr ⟨mk_t5 215 rfl rfl, List.forall_mem_cons.mpr ⟨mk_t5 216 rfl rfl, fun _ h => absurd h List.not_mem_nil⟩⟩
theorem mk_cl72 : ∀ w ∈ mk_cw (8, 205, 96, 0), w ∈ mk_tb := List.forall_mem_cons.mpr ⟨mk_t5 211 rfl rfl, List.forall_mem_cons.mpr ⟨mk_t5 213 rfl rfl, List.forall_mem_cons.mpr ⟨mk_tp 55 rfl, fun _ h => absurd h List.not_mem_nil⟩⟩⟩
theorem mk_cl73 : ∀ w ∈ mk_cw (8, 208, 73, 1), w ∈ mk_tb := List.forall_mem_cons.mpr ⟨mk_t5 218 rfl rfl, List.forall_mem_cons.mpr ⟨mk_t5 219 rfl rfl, fun _ h => absurd h List.not_mem_nil⟩⟩
theorem mk_cl74 : ∀ w ∈ mk_cw (8, 211, 100, 0), w ∈ mk_tb := List.forall_mem_cons.mpr ⟨mk_t5 175 rfl rfl, List.forall_mem_cons.mpr ⟨mk_t5 177 rfl rfl, List.forall_mem_cons.mpr ⟨mk_tp 50 rfl, fun _ h => absurd h List.not_mem_nil⟩⟩⟩
theorem mk_cl75 : ∀ w ∈ mk_cw (8, 215, 75, 0), w ∈ mk_tb := List.forall_mem_cons.mpr ⟨mk_t5 183 rfl rfl, List.forall_mem_cons.mpr ⟨mk_t5 185 rfl rfl, List.forall_mem_cons.mpr ⟨mk_tp 51 rfl, fun _ h => absurd h List.not_mem_nil⟩⟩⟩
theorem mk_cl76 : ∀ w ∈ mk_cw (8, 225, 103, 0), w ∈ mk_tb := List.forall_mem_cons.mpr ⟨mk_t5 195 rfl rfl, List.forall_mem_cons.mpr ⟨mk_t5 197 rfl rfl, List.forall_mem_cons.mpr ⟨mk_tp 52 rfl, fun _ h => absurd h List.not_mem_nil⟩⟩⟩
theorem mk_cl77 : ∀ w ∈ mk_cw (8, 228, 98, 0), w ∈ mk_tb := List.forall_mem_cons.mpr ⟨mk_t5 207 rfl rfl, List.forall_mem_cons.mpr ⟨mk_t5 209 rfl rfl, List.forall_mem_cons.mpr ⟨mk_tp 54 rfl, fun _ h => absurd h List.not_mem_nil⟩⟩⟩
theorem mk_cl78 : ∀ w ∈ mk_cw (8, 235, 105, 0), w ∈ mk_tb := List.forall_mem_cons.mpr ⟨mk_t5 203 rfl rfl, List.forall_mem_cons.mpr ⟨mk_t5 205 rfl rfl, List.forall_mem_cons.mpr ⟨mk_tp 53 rfl, fun _ h => absurd h List.not_mem_nil⟩⟩⟩
theorem mk_cl79 : ∀ w ∈ mk_cw (8, 238, 106, 0), w ∈ mk_tb := List.forall_mem_cons.mpr ⟨mk_t5 221 rfl rfl, List.forall_mem_cons.mpr ⟨mk_t5 223 rfl rfl, List.forall_mem_cons.mpr ⟨mk_tp 56 rfl, fun _ h => absurd h List.not_mem_nil⟩⟩⟩
theorem mk_cl80 : ∀ w ∈ mk_cw (8, 241, 108, 0), w ∈ mk_tb := List.forall_mem_cons.mpr ⟨mk_t6 1 rfl rfl, List.forall_mem_cons.mpr ⟨mk_t6 3 rfl rfl, List.forall_mem_cons.mpr ⟨mk_tp 60 rfl, fun _ h => absurd h List.not_mem_nil⟩⟩⟩
theorem mk_cl81 : ∀ w ∈ mk_cw (8, 244, 109, 0), w ∈ mk_tb := List.forall_mem_cons.mpr ⟨mk_t5 237 rfl rfl, List.forall_mem_cons.mpr ⟨mk_t5 239 rfl rfl, List.forall_mem_cons.mpr ⟨mk_tp 59 rfl, fun _ h => absurd h List.not_mem_nil⟩⟩⟩
theorem mk_cl82 : ∀ w ∈ mk_cw (8, 247, 110, 0), w ∈ mk_tb := List.forall_mem_cons.mpr ⟨mk_t6 5 rfl rfl, List.forall_mem_cons.mpr ⟨mk_t6 7 rfl rfl, List.forall_mem_cons.mpr ⟨mk_tp 61 rfl, fun _ h => absurd h List.not_mem_nil⟩⟩⟩
theorem mk_cl83 : ∀ w ∈ mk_cw (8, 253, 111, 0), w ∈ mk_tb := List.forall_mem_cons.mpr ⟨mk_t5 233 rfl rfl, List.forall_mem_cons.mpr ⟨mk_t5 235 rfl rfl, List.forall_mem_cons.mpr ⟨mk_tp 58 rfl, fun _ h => absurd h List.not_mem_nil⟩⟩⟩
theorem mk_cl84 : ∀ w ∈ mk_cw (8, 256, 112, 0), w ∈ mk_tb := List.forall_mem_cons.mpr ⟨mk_t5 229 rfl rfl, List.forall_mem_cons.mpr ⟨mk_t5 231 rfl rfl, List.forall_mem_cons.mpr ⟨mk_tp 57 rfl, fun _ h => absurd h List.not_mem_nil⟩⟩⟩
theorem mk_cl85 : ∀ w ∈ mk_cw (8, 259, 113, 0), w ∈ mk_tb := List.forall_mem_cons.mpr ⟨mk_t6 9 rfl rfl, List.forall_mem_cons.mpr ⟨mk_t6 11 rfl rfl, List.forall_mem_cons.mpr ⟨mk_tp 62 rfl, fun _ h => absurd h List.not_mem_nil⟩⟩⟩
theorem mk_cl86 : ∀ w ∈ mk_cw (8, 262, 115, 0), w ∈ mk_tb := List.forall_mem_cons.mpr ⟨mk_t6 21 rfl rfl, List.forall_mem_cons.mpr ⟨mk_t6 23 rfl rfl, List.forall_mem_cons.mpr ⟨mk_tp 64 rfl, fun _ h => absurd h List.not_mem_nil⟩⟩⟩
theorem mk_cl87 : ∀ w ∈ mk_cw (8, 265, 118, 0), w ∈ mk_tb := List.forall_mem_cons.mpr ⟨mk_t6 25 rfl rfl, List.forall_mem_cons.mpr ⟨mk_t6 27 rfl rfl, List.forall_mem_cons.mpr ⟨mk_tp 65 rfl, fun _ h => absurd h List.not_mem_nil⟩⟩⟩
theorem mk_cl88 : ∀ w ∈ mk_cw (8, 268, 116, 0), w ∈ mk_tb := List.forall_mem_cons.mpr ⟨mk_t6 29 rfl rfl, List.forall_mem_cons.mpr ⟨mk_t6 31 rfl rfl, List.forall_mem_cons.mpr ⟨mk_tp 66 rfl, fun _ h => absurd h List.not_mem_nil⟩⟩⟩
theorem mk_cl89 : ∀ w ∈ mk_cw (8, 271, 117, 0), w ∈ mk_tb := List.forall_mem_cons.mpr ⟨mk_t6 33 rfl rfl, List.forall_mem_cons.mpr ⟨mk_t6 35 rfl rfl, List.forall_mem_cons.mpr ⟨mk_tp 67 rfl, fun _ h => absurd h List.not_mem_nil⟩⟩⟩
theorem mk_cl90 : ∀ w ∈ mk_cw (8, 274, 119, 0), w ∈ mk_tb := List.forall_mem_cons.mpr ⟨mk_t6 17 rfl rfl, List.forall_mem_cons.mpr ⟨mk_t6 19 rfl rfl, List.forall_mem_cons.mpr ⟨mk_tp 63 rfl, fun _ h => absurd h List.not_mem_nil⟩⟩⟩
theorem mk_cl91 : ∀ w ∈ mk_cw (8, 277, 122, 0), w ∈ mk_tb := List.forall_mem_cons.mpr ⟨mk_t6 45 rfl rfl, List.forall_mem_cons.mpr ⟨mk_t6 47 rfl rfl, List.forall_mem_cons.mpr ⟨mk_tp 68 rfl, fun _ h => absurd h List.not_mem_nil⟩⟩⟩
theorem mk_cl92 : ∀ w ∈ mk_cw (8, 280, 125, 0), w ∈ mk_tb := List.forall_mem_cons.mpr ⟨mk_t6 57 rfl rfl, List.forall_mem_cons.mpr ⟨mk_t6 59 rfl rfl, List.forall_mem_cons.mpr ⟨mk_tp 69 rfl, fun _ h => absurd h List.not_mem_nil⟩⟩⟩
theorem mk_cl93 : ∀ w ∈ mk_cw (8, 283, 126, 0), w ∈ mk_tb := List.forall_mem_cons.mpr ⟨mk_t6 61 rfl rfl, List.forall_mem_cons.mpr ⟨mk_t6 63 rfl rfl, List.forall_mem_cons.mpr ⟨mk_tp 70 rfl, fun _ h => absurd h List.not_mem_nil⟩⟩⟩
theorem mk_cl94 : ∀ w ∈ mk_cw (8, 287, 131, 0), w ∈ mk_tb := List.forall_mem_cons.mpr ⟨mk_t6 81 rfl rfl, List.forall_mem_cons.mpr ⟨mk_t6 83 rfl rfl, List.forall_mem_cons.mpr ⟨mk_tp 71 rfl, fun _ h => absurd h List.not_mem_nil⟩⟩⟩
theorem mk_cl95 : ∀ w ∈ mk_cw (8, 290, 135, 0), w ∈ mk_tb := List.forall_mem_cons.mpr ⟨mk_t6 101 rfl rfl, List.forall_mem_cons.mpr ⟨mk_t6 103 rfl rfl, List.forall_mem_cons.mpr ⟨mk_tp 73 rfl, fun _ h => absurd h List.not_mem_nil⟩⟩⟩
theorem mk_cl96 : ∀ w ∈ mk_cw (8, 296, 136, 0), w ∈ mk_tb := List.forall_mem_cons.mpr ⟨mk_t6 97 rfl rfl, List.forall_mem_cons.mpr ⟨mk_t6 99 rfl rfl, List.forall_mem_cons.mpr ⟨mk_tp 72 rfl, fun _ h => absurd h List.not_mem_nil⟩⟩⟩
theorem mk_cl97 : ∀ w ∈ mk_cw (8, 303, 141, 0), w ∈ mk_tb := List.forall_mem_cons.mpr ⟨mk_t6 121 rfl rfl, List.forall_mem_cons.mpr ⟨mk_t6 123 rfl rfl, List.forall_mem_cons.mpr ⟨mk_tp 74 rfl, fun _ h => absurd h List.not_mem_nil⟩⟩⟩
theorem mk_cl98 : ∀ w ∈ mk_cw (8, 311, 144, 0), w ∈ mk_tb := List.forall_mem_cons.mpr ⟨mk_t6 137 rfl rfl, List.forall_mem_cons.mpr ⟨mk_t6 139 rfl rfl, List.forall_mem_cons.mpr ⟨mk_tp 75 rfl, fun _ h => absurd h List.not_mem_nil⟩⟩⟩
theorem mk_cl99 : ∀ w ∈ mk_cw (8, 314, 145, 0), w ∈ mk_tb := List.forall_mem_cons.mpr ⟨mk_t6 141 rfl rfl, List.forall_mem_cons.mpr ⟨mk_t6 143 rfl rfl, List.forall_mem_cons.mpr ⟨mk_tp 76 rfl, fun _ h => absurd h List.not_mem_nil⟩⟩⟩
theorem mk_cl100 : ∀ w ∈ mk_cw (8, 324, 150, 0), w ∈ mk_tb := List.forall_mem_cons.mpr ⟨mk_t6 162 rfl rfl, List.forall_mem_cons.mpr ⟨mk_t6 164 rfl rfl, List.forall_mem_cons.mpr ⟨mk_tp 77 rfl, fun _ h => absurd h List.not_mem_nil⟩⟩⟩
theorem mk_cl101 : ∀ w ∈ mk_cw (8, 327, 151, 0), w ∈ mk_tb := List.forall_mem_cons.mpr ⟨mk_t6 169 rfl rfl, List.forall_mem_cons.mpr ⟨mk_t6 171 rfl rfl, List.forall_mem_cons.mpr ⟨mk_tp 78 rfl, fun _ h => absurd h List.not_mem_nil⟩⟩⟩
theorem mk_cl102 : ∀ w ∈ mk_cw (8, 330, 153, 1), w ∈ mk_tb := List.forall_mem_cons.mpr ⟨mk_t6 177 rfl rfl, List.forall_mem_cons.mpr ⟨mk_t6 178 rfl rfl, fun _ h => absurd h List.not_mem_nil⟩⟩
theorem mk_cl103 : ∀ w ∈ mk_cw (8, 349, 99, 0), w ∈ mk_tb := List.forall_mem_cons.mpr ⟨mk_t6 204 rfl rfl, List.forall_mem_cons.mpr ⟨mk_t5 172 rfl rfl, List.forall_mem_cons.mpr ⟨mk_t5 173 rfl rfl, fun _ h => absurd h List.not_mem_nil⟩⟩⟩
theorem mk_cl104 : ∀ w ∈ mk_cw (8, 352, 161, 1), w ∈ mk_tb := List.forall_mem_cons.mpr ⟨mk_t6 209 rfl rfl, List.forall_mem_cons.mpr ⟨mk_t6 210 rfl rfl, fun _ h => absurd h List.not_mem_nil⟩⟩
theorem mk_cl105 : ∀ w ∈ mk_cw (0, 28, 45, 2), w ∈ mk_tb := List.forall_mem_cons.mpr ⟨mk_t3 47 rfl rfl, fun _ h => absurd h List.not_mem_nil⟩
theorem mk_cl106 : ∀ w ∈ mk_cw (1, 53, 171, 0), w ∈ mk_tb := List.forall_mem_cons.mpr ⟨mk_t3 85 rfl rfl, List.forall_mem_cons.mpr ⟨mk_t3 87 rfl rfl, List.forall_mem_cons.mpr ⟨mk_tp 22 rfl, fun _ h => absurd h List.not_mem_nil⟩⟩⟩
theorem mk_cl107 : ∀ w ∈ mk_cw (1, 57, 174, 0), w ∈ mk_tb := List.forall_mem_cons.mpr ⟨mk_t3 106 rfl rfl, List.forall_mem_cons.mpr ⟨mk_t3 108 rfl rfl, List.forall_mem_cons.mpr ⟨mk_tp 25 rfl, fun _ h => absurd h List.not_mem_nil⟩⟩⟩
theorem mk_cl108 : ∀ w ∈ mk_cw (1, 64, 193, 0), w ∈ mk_tb := List.forall_mem_cons.mpr ⟨mk_t3 114 rfl rfl, List.forall_mem_cons.mpr ⟨mk_t3 115 rfl rfl, List.forall_mem_cons.mpr ⟨mk_t3 116 rfl rfl, fun _ h => absurd h List.not_mem_nil⟩⟩⟩
theorem mk_cl109 : ∀ w ∈ mk_cw (1, 71, 176, 0), w ∈ mk_tb := List.forall_mem_cons.mpr ⟨mk_t3 119 rfl rfl, List.forall_mem_cons.mpr ⟨mk_t3 121 rfl rfl, List.forall_mem_cons.mpr ⟨mk_tp 27 rfl, fun _ h => absurd h List.not_mem_nil⟩⟩⟩
theorem mk_cl110 : ∀ w ∈ mk_cw (1, 75, 177, 0), w ∈ mk_tb := List.forall_mem_cons.mpr ⟨mk_t3 123 rfl rfl, List.forall_mem_cons.mpr ⟨mk_t3 125 rfl rfl, List.forall_mem_cons.mpr ⟨mk_tp 28 rfl, fun _ h => absurd h List.not_mem_nil⟩⟩⟩
theorem mk_cl111 : ∀ w ∈ mk_cw (1, 86, 167, 0), w ∈ mk_tb := List.forall_mem_cons.mpr ⟨mk_t3 89 rfl rfl, List.forall_mem_cons.mpr ⟨mk_t3 28 rfl rfl, List.forall_mem_cons.mpr ⟨mk_t3 29 rfl rfl, fun _ h => absurd h List.not_mem_nil⟩⟩⟩
theorem mk_cl112 : ∀ w ∈ mk_cw (1, 95, 172, 0), w ∈ mk_tb := List.forall_mem_cons.mpr ⟨mk_t3 90 rfl rfl, List.forall_mem_cons.mpr ⟨mk_t3 92 rfl rfl, List.forall_mem_cons.mpr ⟨mk_tp 23 rfl, fun _ h => absurd h List.not_mem_nil⟩⟩⟩
theorem mk_cl113 : ∀ w ∈ mk_cw (1, 102, 173, 0), w ∈ mk_tb := List.forall_mem_cons.mpr ⟨mk_t3 102 rfl rfl, List.forall_mem_cons.mpr ⟨mk_t3 104 rfl rfl, List.forall_mem_cons.mpr ⟨mk_tp 24 rfl, fun _ h => absurd h List.not_mem_nil⟩⟩⟩
theorem mk_cl114 : ∀ w ∈ mk_cw (1, 109, 165, 0), w ∈ mk_tb := List.forall_mem_cons.mpr ⟨mk_t3 94 rfl rfl, List.forall_mem_cons.mpr ⟨mk_t3 95 rfl rfl, List.forall_mem_cons.mpr ⟨mk_t3 96 rfl rfl, fun _ h => absurd h List.not_mem_nil⟩⟩⟩
theorem mk_cl115 : ∀ w ∈ mk_cw (1, 116, 166, 0), w ∈ mk_tb := List.forall_mem_cons.mpr ⟨mk_t3 98 rfl rfl, List.forall_mem_cons.mpr ⟨mk_t3 99 rfl rfl, List.forall_mem_cons.mpr ⟨mk_t3 100 rfl rfl, fun _ h => absurd h List.not_mem_nil⟩⟩⟩
theorem mk_cl116 : ∀ w ∈ mk_cw (1, 122, 175, 0), w ∈ mk_tb := List.forall_mem_cons.mpr ⟨mk_t3 110 rfl rfl, List.forall_mem_cons.mpr ⟨mk_t3 112 rfl rfl, List.forall_mem_cons.mpr ⟨mk_tp 26 rfl, fun _ h => absurd h List.not_mem_nil⟩⟩⟩
theorem mk_cl117 : ∀ w ∈ mk_cw (1, 127, 215, 0), w ∈ mk_tb := List.forall_mem_cons.mpr ⟨mk_t3 127 rfl rfl, List.forall_mem_cons.mpr ⟨mk_t3 36 rfl rfl, List.forall_mem_cons.mpr ⟨mk_t3 37 rfl rfl, fun _ h => absurd h List.not_mem_nil⟩⟩⟩
theorem mk_cl118 : ∀ w ∈ mk_cw (1, 131, 168, 0), w ∈ mk_tb := List.forall_mem_cons.mpr ⟨mk_t3 128 rfl rfl, List.forall_mem_cons.mpr ⟨mk_t3 50 rfl rfl, List.forall_mem_cons.mpr ⟨mk_t3 51 rfl rfl, fun _ h => absurd h List.not_mem_nil⟩⟩⟩
theorem mk_cl119 : ∀ w ∈ mk_cw (1, 143, 169, 0), w ∈ mk_tb := List.forall_mem_cons.mpr ⟨mk_t3 129 rfl rfl, List.forall_mem_cons.mpr ⟨mk_t3 43 rfl rfl, List.forall_mem_cons.mpr ⟨mk_t3 44 rfl rfl, fun _ h => absurd h List.not_mem_nil⟩⟩⟩
theorem mk_cl120 : ∀ w ∈ mk_cw (1, 147, 178, 0), w ∈ mk_tb := List.forall_mem_cons.mpr ⟨mk_t3 150 rfl rfl, List.forall_mem_cons.mpr ⟨mk_t3 131 rfl rfl, List.forall_mem_cons.mpr ⟨mk_t3 132 rfl rfl, fun _ h => absurd h List.not_mem_nil⟩⟩⟩
theorem mk_cl121 : ∀ w ∈ mk_cw (1, 156, 181, 0), w ∈ mk_tb := List.forall_mem_cons.mpr ⟨mk_t3 146 rfl rfl, List.forall_mem_cons.mpr ⟨mk_t3 147 rfl rfl, List.forall_mem_cons.mpr ⟨mk_t3 148 rfl rfl, fun _ h => absurd h List.not_mem_nil⟩⟩⟩
theorem mk_cl122 : ∀ w ∈ mk_cw (1, 159, 180, 0), w ∈ mk_tb := List.forall_mem_cons.mpr ⟨mk_t3 142 rfl rfl, List.forall_mem_cons.mpr ⟨mk_t3 143 rfl rfl, List.forall_mem_cons.mpr ⟨mk_t3 144 rfl rfl, fun _ h => absurd h List.not_mem_nil⟩⟩⟩
theorem mk_cl123 : ∀ w ∈ mk_cw (1, 162, 183, 0), w ∈ mk_tb := List.forall_mem_cons.mpr ⟨mk_t3 156 rfl rfl, List.forall_mem_cons.mpr ⟨mk_t3 157 rfl rfl, List.forall_mem_cons.mpr ⟨mk_t3 158 rfl rfl, fun _ h => absurd h List.not_mem_nil⟩⟩⟩
theorem mk_cl124 : ∀ w ∈ mk_cw (1, 165, 182, 0), w ∈ mk_tb := List.forall_mem_cons.mpr ⟨mk_t3 151 rfl rfl, List.forall_mem_cons.mpr ⟨mk_t3 152 rfl rfl, List.forall_mem_cons.mpr ⟨mk_t3 153 rfl rfl, fun _ h => absurd h List.not_mem_nil⟩⟩⟩
theorem mk_cl125 : ∀ w ∈ mk_cw (1, 168, 184, 0), w ∈ mk_tb := List.forall_mem_cons.mpr ⟨mk_t3 160 rfl rfl, List.forall_mem_cons.mpr ⟨mk_t3 161 rfl rfl, List.forall_mem_cons.mpr ⟨mk_t3 162 rfl rfl, fun _ h => absurd h List.not_mem_nil⟩⟩⟩
theorem mk_cl126 : ∀ w ∈ mk_cw (3, 50, 44, 2), w ∈ mk_tb := List.forall_mem_cons.mpr ⟨mk_t2 91 rfl rfl, fun _ h => absurd h List.not_mem_nil⟩
theorem mk_cl127 : ∀ w ∈ mk_cw (5, 42, 208, 0), w ∈ mk_tb := List.forall_mem_cons.mpr ⟨mk_t2 86 rfl rfl, List.forall_mem_cons.mpr ⟨mk_t2 88 rfl rfl, List.forall_mem_cons.mpr ⟨mk_tp 0 rfl, fun _ h => absurd h List.not_mem_nil⟩⟩⟩
theorem mk_cl128 : ∀ w ∈ mk_cw (5, 45, 199, 0), w ∈ mk_tb := List.forall_mem_cons.mpr ⟨mk_t2 114 rfl rfl, List.forall_mem_cons.mpr ⟨mk_t2 116 rfl rfl, List.forall_mem_cons.mpr ⟨mk_tp 5 rfl, fun _ h => absurd h List.not_mem_nil⟩⟩⟩
theorem mk_cl129 : ∀ w ∈ mk_cw (5, 49, 201, 0), w ∈ mk_tb := List.forall_mem_cons.mpr ⟨mk_t2 118 rfl rfl, List.forall_mem_cons.mpr ⟨mk_t2 120 rfl rfl, List.forall_mem_cons.mpr ⟨mk_tp 6 rfl, fun _ h => absurd h List.not_mem_nil⟩⟩⟩
theorem mk_cl130 : ∀ w ∈ mk_cw (5, 52, 202, 0), w ∈ mk_tb := List.forall_mem_cons.mpr ⟨mk_t2 122 rfl rfl, List.forall_mem_cons.mpr ⟨mk_t2 124 rfl rfl, List.forall_mem_cons.mpr ⟨mk_tp 7 rfl, fun _ h => absurd h List.not_mem_nil⟩⟩⟩
theorem mk_cl131 : ∀ w ∈ mk_cw (5, 55, 200, 0), w ∈ mk_tb := List.forall_mem_cons.mpr ⟨mk_t2 138 rfl rfl, List.forall_mem_cons.mpr ⟨mk_t2 140 rfl rfl, List.forall_mem_cons.mpr ⟨mk_tp 11 rfl, fun _ h => absurd h List.not_mem_nil⟩⟩⟩
theorem mk_cl132 : ∀ w ∈ mk_cw (5, 59, 203, 0), w ∈ mk_tb := List.forall_mem_cons.mpr ⟨mk_t2 126 rfl rfl, List.forall_mem_cons.mpr ⟨mk_t2 128 rfl rfl, List.forall_mem_cons.mpr ⟨mk_tp 8 rfl, fun _ h => absurd h List.not_mem_nil⟩⟩⟩
theorem mk_cl133 : ∀ w ∈ mk_cw (5, 62, 207, 0), w ∈ mk_tb := List.forall_mem_cons.mpr ⟨mk_t2 130 rfl rfl, List.forall_mem_cons.mpr ⟨mk_t2 132 rfl rfl, List.forall_mem_cons.mpr ⟨mk_tp 9 rfl, fun _ h => absurd h List.not_mem_nil⟩⟩⟩
theorem mk_cl134 : ∀ w ∈ mk_cw (5, 66, 204, 0), w ∈ mk_tb := List.forall_mem_cons.mpr ⟨mk_t2 142 rfl rfl, List.forall_mem_cons.mpr ⟨mk_t2 144 rfl rfl, List.forall_mem_cons.mpr ⟨mk_tp 12 rfl, fun _ h => absurd h List.not_mem_nil⟩⟩⟩
theorem mk_cl135 : ∀ w ∈ mk_cw (5, 69, 205, 0), w ∈ mk_tb := List.forall_mem_cons.mpr ⟨mk_t2 146 rfl rfl, List.forall_mem_cons.mpr ⟨mk_t2 148 rfl rfl, List.forall_mem_cons.mpr ⟨mk_tp 13 rfl, fun _ h => absurd h List.not_mem_nil⟩⟩⟩
theorem mk_cl136 : ∀ w ∈ mk_cw (5, 72, 206, 0), w ∈ mk_tb := List.forall_mem_cons.mpr ⟨mk_t2 134 rfl rfl, List.forall_mem_cons.mpr ⟨mk_t2 136 rfl rfl, List.forall_mem_cons.mpr ⟨mk_tp 10 rfl, fun _ h => absurd h List.not_mem_nil⟩⟩⟩
theorem mk_cl137 : ∀ w ∈ mk_cw (5, 75, 44, 2), w ∈ mk_tb := List.forall_mem_cons.mpr ⟨mk_t2 91 rfl rfl, fun _ h => absurd h List.not_mem_nil⟩
theorem mk_cl138 : ∀ w ∈ mk_cw (5, 79, 209, 0), w ∈ mk_tb := List.forall_mem_cons.mpr ⟨mk_t2 93 rfl rfl, List.forall_mem_cons.mpr ⟨mk_t2 95 rfl rfl, List.forall_mem_cons.mpr ⟨mk_tp 1 rfl, fun _ h => absurd h List.not_mem_nil⟩⟩⟩
theorem mk_cl139 : ∀ w ∈ mk_cw (5, 83, 212, 0), w ∈ mk_tb := List.forall_mem_cons.mpr ⟨mk_t2 97 rfl rfl, List.forall_mem_cons.mpr ⟨mk_t2 99 rfl rfl, List.forall_mem_cons.mpr ⟨mk_tp 2 rfl, fun _ h => absurd h List.not_mem_nil⟩⟩⟩
theorem mk_cl140 : ∀ w ∈ mk_cw (5, 87, 211, 0), w ∈ mk_tb := List.forall_mem_cons.mpr ⟨mk_t2 107 rfl rfl, List.forall_mem_cons.mpr ⟨mk_t2 109 rfl rfl, List.forall_mem_cons.mpr ⟨mk_tp 4 rfl, fun _ h => absurd h List.not_mem_nil⟩⟩⟩
theorem mk_cl141 : ∀ w ∈ mk_cw (5, 90, 210, 1), w ∈ mk_tb := List.forall_mem_cons.mpr ⟨mk_t2 111 rfl rfl, List.forall_mem_cons.mpr ⟨mk_t2 112 rfl rfl, fun _ h => absurd h List.not_mem_nil⟩⟩
theorem mk_cl142 : ∀ w ∈ mk_cw (5, 93, 213, 0), w ∈ mk_tb := List.forall_mem_cons.mpr ⟨mk_t2 101 rfl rfl, List.forall_mem_cons.mpr ⟨mk_t2 103 rfl rfl, List.forall_mem_cons.mpr ⟨mk_tp 3 rfl, fun _ h => absurd h List.not_mem_nil⟩⟩⟩
theorem mk_cl143 : ∀ w ∈ mk_cw (6, 40, 216, 1), w ∈ mk_tb := List.forall_mem_cons.mpr ⟨mk_t3 39 rfl rfl, List.forall_mem_cons.mpr ⟨mk_t3 40 rfl rfl, fun _ h => absurd h List.not_mem_nil⟩⟩
set_option maxRecDepth 100000 in
theorem mk_CLw : ∀ q ∈ mk_CL, ∀ w ∈ mk_cw q, w ∈ mk_tb := List.forall_mem_cons.mpr ⟨mk_cl0, List.forall_mem_cons.mpr ⟨mk_cl1, List.forall_mem_cons.mpr ⟨mk_cl2, List.forall_mem_cons.mpr ⟨mk_cl3, List.forall_mem_cons.mpr ⟨mk_cl4, List.forall_mem_cons.mpr ⟨mk_cl5, List.forall_mem_cons.mpr ⟨mk_cl6, List.forall_mem_cons.mpr ⟨mk_cl7, List.forall_mem_cons.mpr ⟨mk_cl8, List.forall_mem_cons.mpr ⟨mk_cl9, List.forall_mem_cons.mpr ⟨mk_cl10, List.forall_mem_cons.mpr ⟨mk_cl11, List.forall_mem_cons.mpr ⟨mk_cl12, List.forall_mem_cons.mpr ⟨mk_cl13, List.forall_mem_cons.mpr ⟨mk_cl14, List.forall_mem_cons.mpr ⟨mk_cl15, List.forall_mem_cons.mpr ⟨mk_cl16, List.forall_mem_cons.mpr ⟨mk_cl17, List.forall_mem_cons.mpr ⟨mk_cl18, List.forall_mem_cons.mpr ⟨mk_cl19, List.forall_mem_cons.mpr ⟨mk_cl20, List.forall_mem_cons.mpr ⟨mk_cl21, List.forall_mem_cons.mpr ⟨mk_cl22, List.forall_mem_cons.mpr ⟨mk_cl23, List.forall_mem_cons.mpr ⟨mk_cl24, List.forall_mem_cons.mpr ⟨mk_cl25, List.forall_mem_cons.mpr ⟨mk_cl26, List.forall_mem_cons.mpr ⟨mk_cl27, List.forall_mem_cons.mpr ⟨mk_cl28, List.forall_mem_cons.mpr ⟨mk_cl29, List.forall_mem_cons.mpr ⟨mk_cl30, List.forall_mem_cons.mpr ⟨mk_cl31, List.forall_mem_cons.mpr ⟨mk_cl32, List.forall_mem_cons.mpr ⟨mk_cl33, List.forall_mem_cons.mpr ⟨mk_cl34, List.forall_mem_cons.mpr ⟨mk_cl35, List.forall_mem_cons.mpr ⟨mk_cl36, List.forall_mem_cons.mpr ⟨mk_cl37, List.forall_mem_cons.mpr ⟨mk_cl38, List.forall_mem_cons.mpr ⟨mk_cl39, List.forall_mem_cons.mpr ⟨mk_cl40, List.forall_mem_cons.mpr ⟨mk_cl41, List.forall_mem_cons.mpr ⟨mk_cl42, List.forall_mem_cons.mpr ⟨mk_cl43, List.forall_mem_cons.mpr ⟨mk_cl44, List.forall_mem_cons.mpr ⟨mk_cl45, List.forall_mem_cons.mpr ⟨mk_cl46, List.forall_mem_cons.mpr ⟨mk_cl47, List.forall_mem_cons.mpr ⟨mk_cl48, List.forall_mem_cons.mpr ⟨mk_cl49, List.forall_mem_cons.mpr ⟨mk_cl50, List.forall_mem_cons.mpr ⟨mk_cl51, List.forall_mem_cons.mpr ⟨mk_cl52, List.forall_mem_cons.mpr ⟨mk_cl53, List.forall_mem_cons.mpr ⟨mk_cl54, List.forall_mem_cons.mpr ⟨mk_cl55, List.forall_mem_cons.mpr ⟨mk_cl56, List.forall_mem_cons.mpr ⟨mk_cl57, List.forall_mem_cons.mpr ⟨mk_cl58, List.forall_mem_cons.mpr ⟨mk_cl59, List.forall_mem_cons.mpr ⟨mk_cl60, List.forall_mem_cons.mpr ⟨mk_cl61, List.forall_mem_cons.mpr ⟨mk_cl62, List.forall_mem_cons.mpr ⟨mk_cl63, List.forall_mem_cons.mpr ⟨mk_cl64, List.forall_mem_cons.mpr ⟨mk_cl65, List.forall_mem_cons.mpr ⟨mk_cl66, List.forall_mem_cons.mpr ⟨mk_cl67, List.forall_mem_cons.mpr ⟨mk_cl68, List.forall_mem_cons.mpr ⟨mk_cl69, List.forall_mem_cons.mpr ⟨mk_cl70, List.forall_mem_cons.mpr ⟨mk_cl71, List.forall_mem_cons.mpr ⟨mk_cl72, List.forall_mem_cons.mpr ⟨mk_cl73, List.forall_mem_cons.mpr ⟨mk_cl74, List.forall_mem_cons.mpr ⟨mk_cl75, List.forall_mem_cons.mpr ⟨mk_cl76, List.forall_mem_cons.mpr ⟨mk_cl77, List.forall_mem_cons.mpr ⟨mk_cl78, List.forall_mem_cons.mpr ⟨mk_cl79, List.forall_mem_cons.mpr ⟨mk_cl80, List.forall_mem_cons.mpr ⟨mk_cl81, List.forall_mem_cons.mpr ⟨mk_cl82, List.forall_mem_cons.mpr ⟨mk_cl83, List.forall_mem_cons.mpr ⟨mk_cl84, List.forall_mem_cons.mpr ⟨mk_cl85, List.forall_mem_cons.mpr ⟨mk_cl86, List.forall_mem_cons.mpr ⟨mk_cl87, List.forall_mem_cons.mpr ⟨mk_cl88, List.forall_mem_cons.mpr ⟨mk_cl89, List.forall_mem_cons.mpr ⟨mk_cl90, List.forall_mem_cons.mpr ⟨mk_cl91, List.forall_mem_cons.mpr ⟨mk_cl92, List.forall_mem_cons.mpr ⟨mk_cl93, List.forall_mem_cons.mpr ⟨mk_cl94, List.forall_mem_cons.mpr ⟨mk_cl95, List.forall_mem_cons.mpr ⟨mk_cl96, List.forall_mem_cons.mpr ⟨mk_cl97, List.forall_mem_cons.mpr ⟨mk_cl98, List.forall_mem_cons.mpr ⟨mk_cl99, List.forall_mem_cons.mpr ⟨mk_cl100, List.forall_mem_cons.mpr ⟨mk_cl101, List.forall_mem_cons.mpr ⟨mk_cl102, List.forall_mem_cons.mpr ⟨mk_cl103, List.forall_mem_cons.mpr ⟨mk_cl104, List.forall_mem_cons.mpr ⟨mk_cl105, List.forall_mem_cons.mpr ⟨mk_cl106, List.forall_mem_cons.mpr ⟨mk_cl107, List.forall_mem_cons.mpr ⟨mk_cl108, List.forall_mem_cons.mpr ⟨mk_cl109, List.forall_mem_cons.mpr ⟨mk_cl110, List.forall_mem_cons.mpr ⟨mk_cl111, List.forall_mem_cons.mpr ⟨mk_cl112, List.forall_mem_cons.mpr ⟨mk_cl113, List.forall_mem_cons.mpr ⟨mk_cl114, List.forall_mem_cons.mpr ⟨mk_cl115, List.forall_mem_cons.mpr ⟨mk_cl116, List.forall_mem_cons.mpr ⟨mk_cl117, List.forall_mem_cons.mpr ⟨mk_cl118, List.forall_mem_cons.mpr ⟨mk_cl119, List.forall_mem_cons.mpr ⟨mk_cl120, List.forall_mem_cons.mpr ⟨mk_cl121, List.forall_mem_cons.mpr ⟨mk_cl122, List.forall_mem_cons.mpr ⟨mk_cl123, List.forall_mem_cons.mpr ⟨mk_cl124, List.forall_mem_cons.mpr ⟨mk_cl125, List.forall_mem_cons.mpr ⟨mk_cl126, List.forall_mem_cons.mpr ⟨mk_cl127, List.forall_mem_cons.mpr ⟨mk_cl128, List.forall_mem_cons.mpr ⟨mk_cl129, List.forall_mem_cons.mpr ⟨mk_cl130, List.forall_mem_cons.mpr ⟨mk_cl131, List.forall_mem_cons.mpr ⟨mk_cl132, List.forall_mem_cons.mpr ⟨mk_cl133, List.forall_mem_cons.mpr ⟨mk_cl134, List.forall_mem_cons.mpr ⟨mk_cl135, List.forall_mem_cons.mpr ⟨mk_cl136, List.forall_mem_cons.mpr ⟨mk_cl137, List.forall_mem_cons.mpr ⟨mk_cl138, List.forall_mem_cons.mpr ⟨mk_cl139, List.forall_mem_cons.mpr ⟨mk_cl140, List.forall_mem_cons.mpr ⟨mk_cl141, List.forall_mem_cons.mpr ⟨mk_cl142, List.forall_mem_cons.mpr ⟨mk_cl143, fun _ h => absurd h List.not_mem_nil⟩⟩⟩⟩⟩⟩⟩⟩⟩⟩⟩⟩⟩⟩⟩⟩⟩⟩⟩⟩⟩⟩⟩⟩⟩⟩⟩⟩⟩⟩⟩⟩⟩⟩⟩⟩⟩⟩⟩⟩⟩⟩⟩⟩⟩⟩⟩⟩⟩⟩⟩⟩⟩⟩⟩⟩⟩⟩⟩⟩⟩⟩⟩⟩⟩⟩⟩⟩⟩⟩⟩⟩⟩⟩⟩⟩⟩⟩⟩⟩⟩⟩⟩⟩⟩⟩⟩⟩⟩⟩⟩⟩⟩⟩⟩⟩⟩⟩⟩⟩⟩⟩⟩⟩⟩⟩⟩⟩⟩⟩⟩⟩⟩⟩⟩⟩⟩⟩⟩⟩⟩⟩⟩⟩⟩⟩⟩⟩⟩⟩⟩⟩⟩⟩⟩⟩⟩⟩⟩⟩⟩⟩⟩⟩
/-- the calls of nest mates: their words are carried apart -/
def mk_NL : List (Nat × Nat × Nat) := [(0, 28, 45), (3, 50, 44), (5, 75, 44)]
def mk_nw (q : Nat × Nat × Nat) : Cond := .methodLinkNest (mk_cn q.1) q.2.1 (mk_mi q.2.2).1 RX7
theorem mk_NLw : ∀ q ∈ mk_NL, mk_nw q ∈ lw_tbl := List.forall_mem_cons.mpr ⟨List.mem_append_right _ (List.mem_append_right _ (List.mem_append_right _ (List.mem_append_left _ (List.mem_of_getElem? (i := 46) rfl)))), List.forall_mem_cons.mpr ⟨List.mem_append_right _ (List.mem_append_right _ (List.mem_append_right _ (List.mem_append_left _ (List.mem_of_getElem? (i := 118) rfl)))), List.forall_mem_cons.mpr ⟨List.mem_append_right _ (List.mem_append_right _ (List.mem_append_left _ (List.mem_of_getElem? (i := 90) rfl))), fun _ h => absurd h List.not_mem_nil⟩⟩⟩
theorem mk_max0_32 : Cond.methodLink (mk_cn 0) 32 Lib.Math.max.name ∈ mk_tb := mk_t3 53 rfl rfl
theorem mk_max1_150 : Cond.methodLink (mk_cn 1) 150 Lib.Math.max.name ∈ mk_tb := mk_t3 155 rfl rfl
theorem mk_maxs : Cond.static Lib.Math.max.name ∈ mk_tb := mk_t3 54 rfl rfl
theorem mk_maxi : Cond.initialized "java/lang/Math" ∈ mk_tb := mk_t1 14 rfl rfl
theorem mk_maxc : Cond.code Lib.Math.max.name Lib.Math.max.code 2 (some .int) ∈ mk_tb := mk_t3 55 rfl rfl
theorem mk_acp7_326 : Cond.methodLink (mk_cn 7) 326 arraycopyName ∈ mk_tb := mk_t4 137 rfl rfl
theorem mk_acps : Cond.static arraycopyName ∈ mk_tb := mk_t4 138 rfl rfl
theorem mk_acpn : Cond.native arraycopyName ∈ mk_tb := mk_t4 139 rfl rfl
theorem mk_acpi : Cond.initialized "java/lang/System" ∈ mk_tb := mk_t1 15 rfl rfl
theorem mk_abv : Cond.fieldLink (mk_cn 0) 24 "NumbersCalled$Asker" "ABOVE" "[I" ∈ mk_tb := mk_t4 153 rfl rfl
set_option maxRecDepth 100000 in
theorem mk_u0 : ∀ w ∈ wsX00, w ∈ mk_tb := List.forall_mem_cons.mpr ⟨mk_t1 219 rfl rfl, List.forall_mem_cons.mpr ⟨mk_t1 221 rfl rfl, List.forall_mem_cons.mpr ⟨mk_t1 223 rfl rfl, List.forall_mem_cons.mpr ⟨mk_t1 225 rfl rfl, fun _ h => absurd h List.not_mem_nil⟩⟩⟩⟩
set_option maxRecDepth 100000 in
theorem mk_u1 : ∀ w ∈ wsX10, w ∈ mk_tb := List.forall_mem_cons.mpr ⟨mk_t1 160 rfl rfl, List.forall_mem_cons.mpr ⟨mk_t1 162 rfl rfl, List.forall_mem_cons.mpr ⟨mk_t1 164 rfl rfl, List.forall_mem_cons.mpr ⟨mk_t1 166 rfl rfl, List.forall_mem_cons.mpr ⟨mk_t1 168 rfl rfl, List.forall_mem_cons.mpr ⟨mk_t1 170 rfl rfl, List.forall_mem_cons.mpr ⟨mk_t1 172 rfl rfl, List.forall_mem_cons.mpr ⟨mk_t1 174 rfl rfl, List.forall_mem_cons.mpr ⟨mk_t1 176 rfl rfl, List.forall_mem_cons.mpr ⟨mk_t1 178 rfl rfl, List.forall_mem_cons.mpr ⟨mk_t1 180 rfl rfl, List.forall_mem_cons.mpr ⟨mk_t1 182 rfl rfl, fun _ h => absurd h List.not_mem_nil⟩⟩⟩⟩⟩⟩⟩⟩⟩⟩⟩⟩
set_option maxRecDepth 100000 in
theorem mk_u2 : ∀ w ∈ wsX20, w ∈ mk_tb := List.forall_mem_cons.mpr ⟨mk_t1 196 rfl rfl, List.forall_mem_cons.mpr ⟨mk_t1 198 rfl rfl, fun _ h => absurd h List.not_mem_nil⟩⟩
set_option maxRecDepth 100000 in
theorem mk_u3 : ∀ w ∈ wsX30, w ∈ mk_tb := List.forall_mem_cons.mpr ⟨mk_t1 64 rfl rfl, List.forall_mem_cons.mpr ⟨mk_t1 66 rfl rfl, List.forall_mem_cons.mpr ⟨mk_t1 68 rfl rfl, List.forall_mem_cons.mpr ⟨mk_t1 70 rfl rfl, List.forall_mem_cons.mpr ⟨mk_t1 72 rfl rfl, List.forall_mem_cons.mpr ⟨mk_t1 74 rfl rfl, List.forall_mem_cons.mpr ⟨mk_t1 76 rfl rfl, List.forall_mem_cons.mpr ⟨mk_t1 78 rfl rfl, List.forall_mem_cons.mpr ⟨mk_t1 80 rfl rfl, List.forall_mem_cons.mpr ⟨mk_t1 82 rfl rfl, List.forall_mem_cons.mpr ⟨mk_t1 84 rfl rfl, List.forall_mem_cons.mpr ⟨mk_t1 86 rfl rfl, fun _ h => absurd h List.not_mem_nil⟩⟩⟩⟩⟩⟩⟩⟩⟩⟩⟩⟩
set_option maxRecDepth 100000 in
theorem mk_u4 : ∀ w ∈ wsX40, w ∈ mk_tb := List.forall_mem_cons.mpr ⟨mk_t2 18 rfl rfl, List.forall_mem_cons.mpr ⟨mk_t2 20 rfl rfl, List.forall_mem_cons.mpr ⟨mk_t2 22 rfl rfl, fun _ h => absurd h List.not_mem_nil⟩⟩⟩
set_option maxRecDepth 100000 in
theorem mk_u5 : ∀ w ∈ wsX50, w ∈ mk_tb := List.forall_mem_cons.mpr ⟨mk_t1 112 rfl rfl, List.forall_mem_cons.mpr ⟨mk_t1 114 rfl rfl, List.forall_mem_cons.mpr ⟨mk_t1 116 rfl rfl, List.forall_mem_cons.mpr ⟨mk_t1 118 rfl rfl, List.forall_mem_cons.mpr ⟨mk_t1 120 rfl rfl, List.forall_mem_cons.mpr ⟨mk_t1 122 rfl rfl, List.forall_mem_cons.mpr ⟨mk_t1 124 rfl rfl, List.forall_mem_cons.mpr ⟨mk_t1 126 rfl rfl, List.forall_mem_cons.mpr ⟨mk_t1 128 rfl rfl, fun _ h => absurd h List.not_mem_nil⟩⟩⟩⟩⟩⟩⟩⟩⟩
set_option maxRecDepth 100000 in
theorem mk_u6 : ∀ w ∈ wsX60, w ∈ mk_tb := List.forall_mem_cons.mpr ⟨mk_t1 238 rfl rfl, List.forall_mem_cons.mpr ⟨mk_t2 0 rfl rfl, List.forall_mem_cons.mpr ⟨mk_t2 2 rfl rfl, List.forall_mem_cons.mpr ⟨mk_t2 4 rfl rfl, fun _ h => absurd h List.not_mem_nil⟩⟩⟩⟩
set_option maxRecDepth 100000 in
theorem mk_u7 : ∀ w ∈ wsX70, w ∈ mk_tb := List.forall_mem_cons.mpr ⟨mk_t2 165 rfl rfl, List.forall_mem_cons.mpr ⟨mk_t2 167 rfl rfl, List.forall_mem_cons.mpr ⟨mk_t2 169 rfl rfl, List.forall_mem_cons.mpr ⟨mk_t2 171 rfl rfl, List.forall_mem_cons.mpr ⟨mk_t2 173 rfl rfl, List.forall_mem_cons.mpr ⟨mk_t2 175 rfl rfl, List.forall_mem_cons.mpr ⟨mk_t2 177 rfl rfl, List.forall_mem_cons.mpr ⟨mk_t2 179 rfl rfl, List.forall_mem_cons.mpr ⟨mk_t2 181 rfl rfl, List.forall_mem_cons.mpr ⟨mk_t2 183 rfl rfl, List.forall_mem_cons.mpr ⟨mk_t2 185 rfl rfl, fun _ h => absurd h List.not_mem_nil⟩⟩⟩⟩⟩⟩⟩⟩⟩⟩⟩
set_option maxRecDepth 100000 in
theorem mk_u8 : ∀ w ∈ wsX80, w ∈ mk_tb := List.forall_mem_cons.mpr ⟨mk_t5 22 rfl rfl, List.forall_mem_cons.mpr ⟨mk_t5 24 rfl rfl, List.forall_mem_cons.mpr ⟨mk_t5 26 rfl rfl, List.forall_mem_cons.mpr ⟨mk_t5 28 rfl rfl, List.forall_mem_cons.mpr ⟨mk_t5 30 rfl rfl, List.forall_mem_cons.mpr ⟨mk_t5 32 rfl rfl, List.forall_mem_cons.mpr ⟨mk_t5 34 rfl rfl, List.forall_mem_cons.mpr ⟨mk_t5 36 rfl rfl, List.forall_mem_cons.mpr ⟨mk_t5 38 rfl rfl, List.forall_mem_cons.mpr ⟨mk_t5 40 rfl rfl, List.forall_mem_cons.mpr ⟨mk_t5 42 rfl rfl, List.forall_mem_cons.mpr ⟨mk_t5 44 rfl rfl, List.forall_mem_cons.mpr ⟨mk_t5 46 rfl rfl, List.forall_mem_cons.mpr ⟨mk_t5 48 rfl rfl, List.forall_mem_cons.mpr ⟨mk_t5 50 rfl rfl, List.forall_mem_cons.mpr ⟨mk_t5 52 rfl rfl, List.forall_mem_cons.mpr ⟨mk_t5 54 rfl rfl, List.forall_mem_cons.mpr ⟨mk_t5 56 rfl rfl, List.forall_mem_cons.mpr ⟨mk_t5 58 rfl rfl, List.forall_mem_cons.mpr ⟨mk_t5 60 rfl rfl, List.forall_mem_cons.mpr ⟨mk_t5 62 rfl rfl, List.forall_mem_cons.mpr ⟨mk_t5 64 rfl rfl, List.forall_mem_cons.mpr ⟨mk_t5 66 rfl rfl, List.forall_mem_cons.mpr ⟨mk_t5 68 rfl rfl, List.forall_mem_cons.mpr ⟨mk_t5 70 rfl rfl, List.forall_mem_cons.mpr ⟨mk_t5 72 rfl rfl, List.forall_mem_cons.mpr ⟨mk_t5 74 rfl rfl, List.forall_mem_cons.mpr ⟨mk_t5 76 rfl rfl, List.forall_mem_cons.mpr ⟨mk_t5 78 rfl rfl, List.forall_mem_cons.mpr ⟨mk_t5 80 rfl rfl, List.forall_mem_cons.mpr ⟨mk_t5 82 rfl rfl, List.forall_mem_cons.mpr ⟨mk_t5 84 rfl rfl, List.forall_mem_cons.mpr ⟨mk_t5 86 rfl rfl, List.forall_mem_cons.mpr ⟨mk_t5 88 rfl rfl, List.forall_mem_cons.mpr ⟨mk_t5 90 rfl rfl, List.forall_mem_cons.mpr ⟨mk_t5 92 rfl rfl, List.forall_mem_cons.mpr ⟨mk_t5 94 rfl rfl, List.forall_mem_cons.mpr ⟨mk_t5 96 rfl rfl, List.forall_mem_cons.mpr ⟨mk_t5 98 rfl rfl, List.forall_mem_cons.mpr ⟨mk_t5 100 rfl rfl, List.forall_mem_cons.mpr ⟨mk_t5 102 rfl rfl, List.forall_mem_cons.mpr ⟨mk_t5 104 rfl rfl, List.forall_mem_cons.mpr ⟨mk_t5 106 rfl rfl, List.forall_mem_cons.mpr ⟨mk_t5 108 rfl rfl, List.forall_mem_cons.mpr ⟨mk_t5 110 rfl rfl, List.forall_mem_cons.mpr ⟨mk_t5 112 rfl rfl, List.forall_mem_cons.mpr ⟨mk_t5 114 rfl rfl, List.forall_mem_cons.mpr ⟨mk_t5 116 rfl rfl, List.forall_mem_cons.mpr ⟨mk_t5 118 rfl rfl, List.forall_mem_cons.mpr ⟨mk_t5 120 rfl rfl, List.forall_mem_cons.mpr ⟨mk_t5 122 rfl rfl, List.forall_mem_cons.mpr ⟨mk_t5 124 rfl rfl, List.forall_mem_cons.mpr ⟨mk_t5 126 rfl rfl, List.forall_mem_cons.mpr ⟨mk_t5 128 rfl rfl, fun _ h => absurd h List.not_mem_nil⟩⟩⟩⟩⟩⟩⟩⟩⟩⟩⟩⟩⟩⟩⟩⟩⟩⟩⟩⟩⟩⟩⟩⟩⟩⟩⟩⟩⟩⟩⟩⟩⟩⟩⟩⟩⟩⟩⟩⟩⟩⟩⟩⟩⟩⟩⟩⟩⟩⟩⟩⟩⟩⟩
end
section
/-! THE WORLD that a memory of the small machine stands for -/
abbrev mk_AD : Type := Nat → Nat → Nat
def mk_ev (ad : mk_AD) : mj_V → Value
  | .inl x => .int (Int32.ofInt x)
  | .inr (.inl x) => .long (Int64.ofInt x)
  | .inr (.inr (s, i)) => .ref (ad s i)
def mk_fs (ad : mk_AD) (μ : mj_M) (s i : Nat) : Nat → List (Option (Nat × Nat)) → List Value
  | _, [] => []
  | k, none :: r => .int (Int32.ofInt (μ s i k)) :: mk_fs ad μ s i (k + 1) r
  | k, some (t, o) :: r => .ref (ad t (i + o)) :: mk_fs ad μ s i (k + 1) r
def mk_en (cA : Nat → ClassId) (ad : mk_AD) (μ : mj_M) (s i : Nat) : va_E := match mj_srt mk_LY s with
  | (0, ci, _, sl) => .inr (ci, mk_fs ad μ s i 0 sl)
  | (1, n, _, _) => .inl (cA s, n, .inl (fun j => Int32.ofInt (μ s i j)))
  | (2, n, _, _) => .inl (cA s, n, .inr (.inl (fun j => Int64.ofInt (μ s i j))))
  | (3, n, _, [some (t, o)]) => .inl (cA s, n, .inr (.inr (.inr (.inr (fun j => some (ad t (j + o)))))))
  | _ => .inr (0, [])
def mk_cnt (s : Nat) : Nat := (mj_srt mk_LY s).2.2.1
def mk_cells (lo hi : Nat) : List (Nat × Nat) := (List.range' lo (hi - lo)).flatMap fun s => (List.range (mk_cnt s)).map fun i => (s, i)
def mk_ws (lo hi : Nat) (cA : Nat → ClassId) (ad : mk_AD) (μ : mj_M) : va_W := (mk_cells lo hi).map fun q => (ad q.1 q.2, mk_en cA ad μ q.1 q.2)
theorem mk_cell_at {lo hi s i : Nat} (h1 : lo ≤ s) (h2 : s < hi) (h3 : i < mk_cnt s) : ∃ k : Nat, (mk_cells lo hi)[k]? = some (s, i) := by
  apply List.getElem?_of_mem
  unfold mk_cells
  refine List.mem_flatMap.mpr ⟨s, ?_, List.mem_map.mpr ⟨i, List.mem_range.mpr h3, rfl⟩⟩
  exact List.mem_range'.mpr ⟨s - lo, by omega, by omega⟩
theorem mk_cell_in {lo hi : Nat} {q : Nat × Nat} (h : q ∈ mk_cells lo hi) : lo ≤ q.1 ∧ q.1 < hi ∧ q.2 < mk_cnt q.1 := by
  unfold mk_cells at h
  obtain ⟨s, h1, h2⟩ := List.mem_flatMap.mp h
  obtain ⟨i, h3, rfl⟩ := List.mem_map.mp h2
  obtain ⟨j, h4, h5⟩ := List.mem_range'.mp h1
  have := List.mem_range.mp h3
  exact ⟨by omega, by omega, this⟩
theorem mk_nd_C : (mk_cells 0 33).Nodup := by decide +kernel
theorem mk_nd_R : (mk_cells 33 63).Nodup := by decide +kernel
theorem mk_ws_at {lo hi : Nat} {cA : Nat → ClassId} {ad : mk_AD} {μ : mj_M} {k s i : Nat} (h : (mk_cells lo hi)[k]? = some (s, i)) : (mk_ws lo hi cA ad μ)[k]? = some (ad s i, mk_en cA ad μ s i) := by
  unfold mk_ws
  rw [List.getElem?_map, h]
  rfl
theorem mk_ws_set {lo hi : Nat} {cA : Nat → ClassId} {ad : mk_AD} {μ μ' : mj_M} {k s i : Nat} {e : va_E} (hn : (mk_cells lo hi).Nodup) (h : (mk_cells lo hi)[k]? = some (s, i)) (he : e = mk_en cA ad μ' s i) (ho : ∀ s' i', (s' ≠ s ∨ i' ≠ i) → mk_en cA ad μ' s' i' = mk_en cA ad μ s' i') :
    (mk_ws lo hi cA ad μ).set k (ad s i, e) = mk_ws lo hi cA ad μ' := by
  apply List.ext_getElem?
  intro j
  have hl := (List.getElem?_eq_some_iff.mp h).1
  have hl' : k < (mk_ws lo hi cA ad μ).length := by unfold mk_ws; rw [List.length_map]; exact hl
  by_cases hj : j = k
  · subst hj
    rw [List.getElem?_set_self hl', mk_ws_at h, he]
  · rw [List.getElem?_set_ne (Ne.symm hj)]
    unfold mk_ws
    rw [List.getElem?_map, List.getElem?_map]
    cases hq : (mk_cells lo hi)[j]? with
    | none => rfl
    | some q =>
      have hne : q.1 ≠ s ∨ q.2 ≠ i := by
        by_cases a : q.1 = s
        · by_cases b : q.2 = i
          · exfalso
            have e1 : q = (s, i) := Prod.ext a b
            rw [e1] at hq
            exact hj ((List.getElem?_inj (List.getElem?_eq_some_iff.mp hq).1 hn).mp (hq.trans h.symm))
          · exact Or.inr b
        · exact Or.inl a
      simp only [Option.map_some]
      rw [ho q.1 q.2 hne]
/-- what stays when one place changes -/
theorem mk_en_off {cA : Nat → ClassId} {ad : mk_AD} {μ : mj_M} {s i k : Nat} {x : Int} {s' i' : Nat} (h : s' ≠ s ∨ i' ≠ i) : mk_en cA ad (mj_up μ s i k x) s' i' = mk_en cA ad μ s' i' := by
  have hm : ∀ j, mj_up μ s i k x s' i' j = μ s' i' j := by
    intro j
    unfold mj_up
    rw [if_neg]
    rintro ⟨a, -, b⟩
    rcases h with h | h
    · exact h a
    · exact h b
  have hf : ∀ (sl : List (Option (Nat × Nat))) (j : Nat), mk_fs ad (mj_up μ s i k x) s' i' j sl = mk_fs ad μ s' i' j sl := by
    intro sl
    induction sl with
    | nil => intro j; rfl
    | cons a r ih =>
      intro j
      cases a with
      | none => show _ :: _ = _ :: _; rw [hm, ih]
      | some q => show _ :: _ = _ :: _; rw [ih]
  unfold mk_en
  simp only [hf, hm]
def mk_ov (ad : mk_AD) (μ : mj_M) (s i k : Nat) : Option (Nat × Nat) → Value
  | none => .int (Int32.ofInt (μ s i k))
  | some (t, d) => .ref (ad t (i + d))
theorem mk_fs_at {ad : mk_AD} {μ : mj_M} {s i : Nat} : ∀ (sl : List (Option (Nat × Nat))) (k j : Nat) (o : Option (Nat × Nat)), mj_nth sl k = some o →
    (mk_fs ad μ s i j sl)[k]? = some (mk_ov ad μ s i (j + k) o) := by
  intro sl
  induction sl with
  | nil => intro k j o h; cases k <;> cases h
  | cons a r ih =>
    intro k j o h
    cases k with
    | zero =>
      cases h
      cases a with
      | none => rfl
      | some q => rfl
    | succ k =>
      have h2 := ih k (j + 1) o h
      cases a with
      | none =>
        show (_ :: mk_fs ad μ s i (j + 1) r)[k + 1]? = _
        rw [List.getElem?_cons_succ, h2, show j + 1 + k = j + (k + 1) by omega]
      | some q =>
        show (_ :: mk_fs ad μ s i (j + 1) r)[k + 1]? = _
        rw [List.getElem?_cons_succ, h2, show j + 1 + k = j + (k + 1) by omega]
theorem mk_fs_up {ad : mk_AD} {μ : mj_M} {s i : Nat} {x : Int} : ∀ (sl : List (Option (Nat × Nat))) (k j : Nat), mj_nth sl k = some none →
    (mk_fs ad μ s i j sl).set k (.int (Int32.ofInt x)) = mk_fs ad (mj_up μ s i (j + k) x) s i j sl := by
  have low : ∀ (sl : List (Option (Nat × Nat))) (k j : Nat), k < j → mk_fs ad (mj_up μ s i k x) s i j sl = mk_fs ad μ s i j sl := by
    intro sl
    induction sl with
    | nil => intro k j _; rfl
    | cons a r ih =>
      intro k j hj
      have e : mj_up μ s i k x s i j = μ s i j := by
        unfold mj_up
        rw [if_neg]
        rintro ⟨-, q, -⟩
        omega
      cases a with
      | none => show _ :: _ = _ :: _; rw [e, ih k (j + 1) (by omega)]
      | some q => show _ :: _ = _ :: _; rw [ih k (j + 1) (by omega)]
  intro sl
  induction sl with
  | nil => intro k j h; cases k <;> cases h
  | cons a r ih =>
    intro k j h
    cases k with
    | zero =>
      cases h
      show _ :: _ = _ :: _
      rw [low r (j + 0) (j + 1) (by omega)]
      congr 2
      unfold mj_up
      rw [if_pos ⟨rfl, rfl, rfl⟩]
    | succ k =>
      have h2 := ih k (j + 1) h
      rw [show j + 1 + k = j + (k + 1) by omega] at h2
      cases a with
      | none =>
        show _ :: _ = _ :: _
        rw [h2]
        congr 2
        unfold mj_up
        rw [if_neg]
        rintro ⟨-, q, -⟩
        omega
      | some q =>
        show _ :: _ = _ :: _
        rw [h2]
theorem mk_fs_len {ad : mk_AD} {μ : mj_M} {s i : Nat} : ∀ (sl : List (Option (Nat × Nat))) (j : Nat), (mk_fs ad μ s i j sl).length = sl.length := by
  intro sl
  induction sl with
  | nil => intro j; rfl
  | cons a r ih =>
    intro j
    cases a with
    | none => show _ + 1 = _ + 1; rw [ih]
    | some q => show _ + 1 = _ + 1; rw [ih]
theorem mj_nth_lt {α : Type} : ∀ (l : List α) (k : Nat) (x : α), mj_nth l k = some x → k < l.length
  | [], k, x, h => by cases k <;> cases h
  | _ :: _, 0, _, _ => Nat.succ_pos _
  | _ :: l, k + 1, x, h => Nat.succ_lt_succ (mj_nth_lt l k x h)
theorem mj_nth_eq {α : Type} : ∀ (l : List α) (k : Nat), mj_nth l k = l[k]?
  | [], k => by cases k <;> rfl
  | _ :: _, 0 => rfl
  | _ :: l, k + 1 => by rw [List.getElem?_cons_succ]; exact mj_nth_eq l k
/-- values that stand for something -/
def mk_vr (lo hi s i : Nat) : Prop := (lo ≤ s ∧ s < hi ∧ i < mk_cnt s) ∨ (s = 63 ∧ i = 0) ∨ (s = 64 ∧ i = 0)
def mk_vv (lo hi : Nat) : mj_V → Prop
  | .inl x => mj_n32 x
  | .inr (.inl x) => mj_n64 x
  | .inr (.inr (s, i)) => mk_vr lo hi s i
def mk_vm (μ : mj_M) : Prop := ∀ s i k, mj_n64 (μ s i k) ∧ ((mj_srt mk_LY s).1 ≠ 2 → mj_n32 (μ s i k))
theorem mk_vm_up {μ : mj_M} {s i k : Nat} {x : Int} (h : mk_vm μ) (h1 : mj_n64 x) (h2 : (mj_srt mk_LY s).1 ≠ 2 → mj_n32 x) : mk_vm (mj_up μ s i k x) := by
  intro s' i' k'
  unfold mj_up
  by_cases q : s' = s ∧ k' = k ∧ i' = i
  · rw [if_pos q]
    exact ⟨h1, by rw [q.1]; exact h2⟩
  · rw [if_neg q]
    exact h s' i' k'
def mk_closed (lo hi : Nat) : Bool := (List.range' lo (hi - lo)).all fun s => match mj_srt mk_LY s with
  | (0, _, c, sl) => sl.all fun o => match o with
    | none => true
    | some (t, d) => Nat.ble lo t && Nat.blt t hi && Nat.ble (c + d) (mk_cnt t)
  | (3, n, _, [some (t, d)]) => Nat.ble lo t && Nat.blt t hi && Nat.ble (n + d) (mk_cnt t)
  | (1, _, _, _) => true
  | (2, _, _, _) => true
  | _ => false
theorem mk_closed_C : mk_closed 0 33 = true := by decide +kernel
theorem mk_closed_R : mk_closed 33 63 = true := by decide +kernel
theorem mk_closed_at {lo hi s : Nat} (h : mk_closed lo hi = true) (h1 : lo ≤ s) (h2 : s < hi) : (mj_srt mk_LY s).1 ≠ 4 ∧ (∀ ci c sl k t d, mj_srt mk_LY s = (0, ci, c, sl) → mj_nth sl k = some (some (t, d)) → lo ≤ t ∧ t < hi ∧ c + d ≤ mk_cnt t) ∧ (∀ n c t d, mj_srt mk_LY s = (3, n, c, [some (t, d)]) → lo ≤ t ∧ t < hi ∧ n + d ≤ mk_cnt t) := by
  have hs := List.all_eq_true.mp h s (List.mem_range'.mpr ⟨s - lo, by omega, by omega⟩)
  refine ⟨fun q => ?_, fun ci c sl k t d q hk => ?_, fun n c t d q => ?_⟩
  · generalize mj_srt mk_LY s = v at q hs
    obtain ⟨k, n, c, sl⟩ := v
    change k = 4 at q
    subst q
    simp at hs
  · rw [q] at hs
    rw [mj_nth_eq] at hk
    have := List.all_eq_true.mp hs _ (List.mem_of_getElem? hk)
    simp only [Bool.and_eq_true, Nat.ble_eq, Nat.blt_eq] at this
    exact ⟨this.1.1, this.1.2, this.2⟩
  · rw [q] at hs
    simp only [Bool.and_eq_true, Nat.ble_eq, Nat.blt_eq] at hs
    exact ⟨hs.1.1, hs.1.2, hs.2⟩
end
section
/-! what holds inside a method of the small machine's code, over the machine itself -/
def mk_asc (ad : mk_AD) : Nat → mj_L → List (Nat × Value)
  | _, [] => []
  | k, none :: r => mk_asc ad (k + 1) r
  | k, some v :: r => (k, mk_ev ad v) :: mk_asc ad (k + 1) r
theorem mk_asc_mem {ad : mk_AD} : ∀ (ls : mj_L) (j : Nat) (q : Nat × Value), q ∈ mk_asc ad j ls ↔ ∃ k v, mj_nth ls k = some (some v) ∧ q = (j + k, mk_ev ad v) := by
  intro ls
  induction ls with
  | nil => intro j q; constructor
           · intro h; cases h
           · rintro ⟨k, v, h, -⟩; cases k <;> cases h
  | cons a r ih =>
    intro j q
    have key : q ∈ mk_asc ad (j + 1) r ↔ ∃ k v, mj_nth (a :: r) (k + 1) = some (some v) ∧ q = (j + (k + 1), mk_ev ad v) := by
      rw [ih]
      constructor
      · rintro ⟨k, v, h1, h2⟩; exact ⟨k, v, h1, by rw [h2, show j + 1 + k = j + (k + 1) by omega]⟩
      · rintro ⟨k, v, h1, h2⟩; exact ⟨k, v, h1, by rw [h2, show j + (k + 1) = j + 1 + k by omega]⟩
    cases a with
    | none =>
      show q ∈ mk_asc ad (j + 1) r ↔ _
      rw [key]
      constructor
      · rintro ⟨k, v, h1, h2⟩; exact ⟨k + 1, v, h1, h2⟩
      · rintro ⟨k, v, h1, h2⟩
        cases k with
        | zero => cases h1
        | succ k => exact ⟨k, v, h1, h2⟩
    | some w =>
      show q ∈ (j, mk_ev ad w) :: mk_asc ad (j + 1) r ↔ _
      rw [List.mem_cons, key]
      constructor
      · rintro (h | ⟨k, v, h1, h2⟩)
        · exact ⟨0, w, rfl, h⟩
        · exact ⟨k + 1, v, h1, h2⟩
      · rintro ⟨k, v, h1, h2⟩
        cases k with
        | zero => cases h1; exact Or.inl h2
        | succ k => exact Or.inr ⟨k, v, h1, h2⟩
theorem mj_nth_set {α : Type} : ∀ (l : List α) (i j : Nat) (x : α), mj_nth (mj_set l i x) j = if j = i then (if i < l.length then some x else none) else mj_nth l j := by
  intro l
  induction l with
  | nil => intro i j x; cases j <;> simp [mj_set, mj_nth]
  | cons a r ih =>
    intro i j x
    cases i with
    | zero => cases j <;> simp [mj_set, mj_nth]
    | succ i =>
      cases j with
      | zero => simp [mj_set, mj_nth]
      | succ j => simp only [mj_set, mj_nth, ih, List.length_cons, Nat.add_right_cancel_iff, Nat.add_lt_add_iff_right]
def mk_lok (ad : mk_AD) (Ls : Array Slot) (n : Nat) (ls : mj_L) : Prop := lv_has Ls n [] ∧ ∀ i v, mj_nth ls i = some (some v) → Ls[i]? = some (.val (mk_ev ad v))
theorem mk_lok_has {ad : mk_AD} {Ls : Array Slot} {n : Nat} {ls : mj_L} (h : mk_lok ad Ls n ls) : lv_has Ls n (mk_asc ad 0 ls) := by
  refine ⟨h.1.1, h.1.2.1, fun q hq => ?_⟩
  obtain ⟨k, v, h1, rfl⟩ := (mk_asc_mem ls 0 q).mp hq
  rw [Nat.zero_add]
  exact h.2 k v h1
theorem mk_cat1 {ad : mk_AD} {v : mj_V} (h : ∀ x, v ≠ .inr (.inl x)) : (mk_ev ad v).category = 1 := by
  match v, h with
  | .inl _, _ => rfl
  | .inr (.inl x), h => exact absurd rfl (h x)
  | .inr (.inr (_, _)), _ => rfl
theorem mk_cats {ad : mk_AD} : ∀ (st : List mj_V), ((st.map (mk_ev ad)).map fun v => v.category).sum = mj_cat st
  | [] => rfl
  | .inl _ :: r => by
    show 1 + ((r.map (mk_ev ad)).map fun v => v.category).sum = mj_cat r + 1
    rw [mk_cats r]; omega
  | .inr (.inl _) :: r => by
    show 2 + ((r.map (mk_ev ad)).map fun v => v.category).sum = mj_cat r + 2
    rw [mk_cats r]; omega
  | .inr (.inr (_, _)) :: r => by
    show 1 + ((r.map (mk_ev ad)).map fun v => v.category).sum = mj_cat r + 1
    rw [mk_cats r]; omega
/-- a store: what the slots hold then -/
theorem mk_lok_st {ad : mk_AD} {Ls' : Array Slot} {n i : Nat} {ls : mj_L} {v : mj_V} (hp : ∀ j x, i = j + 1 → mj_nth ls j ≠ some (some (.inr (.inl x))))
    (h' : lv_has Ls' n ((i, mk_ev ad v) :: (mk_asc ad 0 ls).filter (fun q => !(q.1 == i) && !(q.1 + 1 == i && q.2.category == 2)))) : mk_lok ad Ls' n (mj_set ls i (some v)) := by
  refine ⟨⟨h'.1, h'.2.1, fun q hq => by cases hq⟩, fun j w hj => ?_⟩
  rw [mj_nth_set] at hj
  by_cases e : j = i
  · rw [if_pos e] at hj
    subst e
    split at hj
    · cases hj
      exact h'.2.2 (j, mk_ev ad v) List.mem_cons_self
    · cases hj
  · rw [if_neg e] at hj
    refine h'.2.2 (j, mk_ev ad w) (List.mem_cons_of_mem _ (List.mem_filter.mpr ⟨(mk_asc_mem ls 0 _).mpr ⟨j, w, hj, by rw [Nat.zero_add]⟩, ?_⟩))
    have h1 : (j == i) = false := by simpa using e
    by_cases e2 : j + 1 = i
    · have : (mk_ev ad w).category = 1 := mk_cat1 fun x hx => hp j x e2.symm (by rw [hj, hx])
      simp [h1, this]
    · simp [h1, e2]
theorem mk_lok_sl {ad : mk_AD} {Ls' : Array Slot} {n i : Nat} {ls : mj_L} {x : Int} (hp : ∀ j x, i = j + 1 → mj_nth ls j ≠ some (some (.inr (.inl x))))
    (h' : lv_has Ls' n ((i, .long (Int64.ofInt x)) :: (mk_asc ad 0 ls).filter (fun q => !(q.1 == i) && (!(q.1 == i + 1) && !(q.1 + 1 == i && q.2.category == 2))))) : mk_lok ad Ls' n (mj_set (mj_set ls i (some (.inr (.inl x)))) (i + 1) none) := by
  refine ⟨⟨h'.1, h'.2.1, fun q hq => by cases hq⟩, fun j w hj => ?_⟩
  rw [mj_nth_set] at hj
  by_cases e3 : j = i + 1
  · rw [if_pos e3] at hj
    split at hj <;> cases hj
  rw [if_neg e3, mj_nth_set] at hj
  by_cases e : j = i
  · rw [if_pos e] at hj
    subst e
    split at hj
    · cases hj
      exact h'.2.2 (j, .long (Int64.ofInt x)) List.mem_cons_self
    · cases hj
  · rw [if_neg e] at hj
    refine h'.2.2 (j, mk_ev ad w) (List.mem_cons_of_mem _ (List.mem_filter.mpr ⟨(mk_asc_mem ls 0 _).mpr ⟨j, w, hj, by rw [Nat.zero_add]⟩, ?_⟩))
    have h1 : (j == i) = false := by simpa using e
    have h3 : (j == i + 1) = false := by simpa using e3
    by_cases e2 : j + 1 = i
    · have : (mk_ev ad w).category = 1 := mk_cat1 fun x hx => hp j x e2.symm (by rw [hj, hx])
      simp [h1, h3, this]
    · simp [h1, h3, e2]
theorem mk_sto_sp {ls : mj_L} {a : Nat} {v : mj_V} {κ : mj_L → mj_R} {x : Option mj_V × mj_M} (h : mj_sto ls a v κ = some x) : κ (mj_set ls a (some v)) = some x ∧ ∀ j y, a = j + 1 → mj_nth ls j ≠ some (some (.inr (.inl y))) := by
  cases a with
  | zero => exact ⟨h, fun j y e => by cases e⟩
  | succ j =>
    unfold mj_sto at h
    dsimp only at h
    split at h
    · cases h
    · rename_i hn
      refine ⟨h, fun j' y e => ?_⟩
      cases e
      exact hn y
theorem mk_lok_keep {ad : mk_AD} {Ls : Array Slot} {n : Nat} : ∀ (bs : List Bool) {ls : mj_L}, mk_lok ad Ls n ls → mk_lok ad Ls n (mj_keep bs ls) := by
  intro bs ls h
  refine ⟨h.1, fun i v hi => h.2 i v ?_⟩
  have key : ∀ (bs : List Bool) (ls : mj_L) (i : Nat) (v : mj_V), mj_nth (mj_keep bs ls) i = some (some v) → mj_nth ls i = some (some v) := by
    intro bs
    induction bs with
    | nil => intro ls i v h; cases ls <;> cases i <;> cases h
    | cons b bs ih =>
      intro ls i v h
      cases ls with
      | nil => cases b <;> cases i <;> cases h
      | cons a r =>
        cases b with
        | true =>
          cases i with
          | zero => exact h
          | succ i => exact ih r i v h
        | false =>
          cases i with
          | zero => cases h
          | succ i => exact ih r i v h
  exact key bs ls i v hi
theorem mk_keep_nth : ∀ (bs : List Bool) (ls : mj_L) (i : Nat) (v : mj_V), mj_nth (mj_keep bs ls) i = some (some v) → mj_nth ls i = some (some v) := by
  intro bs
  induction bs with
  | nil => intro ls i v h; cases ls <;> cases i <;> cases h
  | cons b bs ih =>
    intro ls i v h
    cases ls with
    | nil => cases b <;> cases i <;> cases h
    | cons a r =>
      cases b with
      | true =>
        cases i with
        | zero => exact h
        | succ i => exact ih r i v h
      | false =>
        cases i with
        | zero => cases h
        | succ i => exact ih r i v h
/-- the classes of the arrays -/
def mk_TY (lo hi : Nat) (cA : Nat → ClassId) (tys : List (ClassId × FieldType)) : Prop := ∀ t, lo ≤ t → t < hi →
  ((mj_srt mk_LY t).1 = 1 → ∃ t0 : Nat, tys[t0]? = some (cA t, .int)) ∧ ((mj_srt mk_LY t).1 = 2 → ∃ t0 : Nat, tys[t0]? = some (cA t, .long)) ∧ ((mj_srt mk_LY t).1 = 3 → ∃ (t0 : Nat) (C : String), tys[t0]? = some (cA t, .object C))
/-- what lies outside the world and stays: the static table, the text constant (its own facts: XS), the nest mates' links -/
def mk_ab (j : Nat) : Value := .int (Int32.ofInt ((mj_nth [-1, 0, 0, 2, 0, 1] j).getD 0))
def mk_Ext (XS : (Nat → Prop) → State → Prop) (ad : mk_AD) (A : Nat → Prop) (U : State) : Prop := (∀ q ∈ mk_NL, va_Nw (mk_nw q) U) ∧ va_Z "NumbersCalled$Asker" "ABOVE" "[I" (.ref (ad 64 0)) A U U.heap ∧ va_T .int (ad 64 0) 6 mk_ab A U U.heap ∧ XS A U
def mk_Cx (p : Program) (R : Room) (s : State) (m : MethodId) (args : Array Value) (meth : Method) (c : Code) (XS : (Nat → Prop) → State → Prop) (lo hi : Nat) (cA : Nat → ClassId) (ad : mk_AD) (D : va_G) (tys : List (ClassId × FieldType)) (A : Nat → Prop) (own : Nat) (bytes : ByteArray) (n : Nat) (ret : Option FieldType) (d : Nat) : Prop :=
  p.tables.exec = Jvm.exec ∧ c.code = bytes ∧ meth.sig.returnType = ret ∧ c.maxLocals = n ∧ s.vm.findClass (mk_cn own) = some m.cls ∧ (∀ w ∈ mk_tb, w.before args s = true) ∧ meth.locks = false ∧ va_K D vwCl tys s ∧ mk_TY lo hi cA tys ∧ mk_Ext XS ad A s ∧ (∀ q, s.heap.size ≤ q → A q) ∧
  (mk_cells lo hi).Nodup ∧ mk_closed lo hi = true ∧ d + 8 ≤ R.frames ∧ 64 * d + 400 ≤ R.locals
def mk_Rel (s : State) (lo hi : Nat) (cA : Nat → ClassId) (ad : mk_AD) (D : va_G) (A : Nat → Prop) (n : Nat) (ls : mj_L) (st : List mj_V) (μ : mj_M) (H : Heap) (locs : List Loc) (Ls : Array Slot) : Prop :=
  mk_lok ad Ls n ls ∧ (∀ i v, mj_nth ls i = some (some v) → mk_vv lo hi v) ∧ (∀ v ∈ st, mk_vv lo hi v) ∧ mk_vm μ ∧ va_P D vwCl (mk_ws lo hi cA ad μ) H ∧ va_D A (mk_ws lo hi cA ad μ) ∧ va_S A s.heap H locs
def mk_W (p : Program) (l : Launch) (e : Env) (R : Room) (s : State) (m : MethodId) (args : Array Value) (below : List Frame) (meth : Method) (c : Code) (Q : State → Prop) (lo hi : Nat) (cA : Nat → ClassId) (ad : mk_AD) (D : va_G) (A : Nat → Prop) (n : Nat) (pc : Nat) (ls : mj_L) (st : List mj_V) (μ : mj_M) : Prop :=
  ∀ (H : Heap) (locs : List Loc) (Ls : Array Slot), mk_Rel s lo hi cA ad D A n ls st μ H locs Ls → W p l e R s m args below meth c H locs 0 0 Q (F0 m pc Ls (st.map (mk_ev ad)))
end
section
/-! the laws of the steps -/
theorem mk_sc {lo hi : Nat} {v : mj_V} {st : List mj_V} (h : mk_vv lo hi v) (h2 : ∀ v ∈ st, mk_vv lo hi v) : ∀ w ∈ v :: st, mk_vv lo hi w := fun w hw => by
  rcases List.mem_cons.mp hw with rfl | hw
  · exact h
  · exact h2 w hw
theorem mk_st {lo hi : Nat} {v : mj_V} {st : List mj_V} (h : ∀ w ∈ v :: st, mk_vv lo hi w) : mk_vv lo hi v ∧ ∀ w ∈ st, mk_vv lo hi w := ⟨h v List.mem_cons_self, fun w hw => h w (List.mem_cons_of_mem _ hw)⟩
theorem mk_b8 {n : Int} (h : -128 ≤ n ∧ n < 128) : (Int8.ofInt n).toInt32 = Int32.ofInt n := by
  apply Int32.toInt_inj.1
  rw [mj_tI (by unfold mj_n32; omega), Int8.toInt_toInt32, Int8.toInt_ofInt_of_le (by omega) (by omega)]
theorem mk_b16 {n : Int} (h : -32768 ≤ n ∧ n < 32768) : (Int16.ofInt n).toInt32 = Int32.ofInt n := by
  apply Int32.toInt_inj.1
  rw [mj_tI (by unfold mj_n32; omega), Int16.toInt_toInt32, Int16.toInt_ofInt_of_le (by omega) (by omega)]
theorem mk_vset {lo hi a : Nat} {ls : mj_L} {v : mj_V} (h : ∀ i v, mj_nth ls i = some (some v) → mk_vv lo hi v) (hv : mk_vv lo hi v) : ∀ i w, mj_nth (mj_set ls a (some v)) i = some (some w) → mk_vv lo hi w := by
  intro i w hi
  rw [mj_nth_set] at hi
  split at hi
  · split at hi
    · cases hi; exact hv
    · cases hi
  · exact h i w hi
theorem mk_vset0 {lo hi a : Nat} {ls : mj_L} (h : ∀ i v, mj_nth ls i = some (some v) → mk_vv lo hi v) : ∀ i w, mj_nth (mj_set ls a none) i = some (some w) → mk_vv lo hi w := by
  intro i w hi
  rw [mj_nth_set] at hi
  split at hi
  · split at hi <;> cases hi
  · exact h i w hi
section MS
variable {p : Program} {l : Launch} {e : Env} {R : Room} {s : State} {m : MethodId} {args : Array Value} {below : List Frame} {meth : Method} {c : Code} {Q : State → Prop} {XS : (Nat → Prop) → State → Prop} {lo hi : Nat} {cA : Nat → ClassId} {ad : mk_AD} {D : va_G} {tys : List (ClassId × FieldType)} {A : Nat → Prop} {own : Nat} {bytes : ByteArray} {n : Nat} {ret : Option FieldType} {d : Nat}
variable {pc : Nat} {ls : mj_L} {st : List mj_V} {μ : mj_M}
theorem ms_iconst (C : mk_Cx p R s m args meth c XS lo hi cA ad D tys A own bytes n ret d) {v : Int} (hd : decode bytes pc = .ok (.iconst v, 1)) (hv : mj_n32 v) (k : mk_W p l e R s m args below meth c Q lo hi cA ad D A n (pc + 1) ls (.inl v :: st) μ) : mk_W p l e R s m args below meth c Q lo hi cA ad D A n pc ls st μ := by
  intro H locs Ls ⟨h1, h2, h3, h4, h5⟩
  refine lv_iconst C.1 C.2.1 hd rfl ?_
  exact k H locs Ls ⟨h1, h2, mk_sc hv h3, h4, h5⟩
theorem ms_bipush (C : mk_Cx p R s m args meth c XS lo hi cA ad D tys A own bytes n ret d) {v : Int} (hd : decode bytes pc = .ok (.bipush v, 2)) (hv : -128 ≤ v ∧ v < 128) (k : mk_W p l e R s m args below meth c Q lo hi cA ad D A n (pc + 2) ls (.inl v :: st) μ) : mk_W p l e R s m args below meth c Q lo hi cA ad D A n pc ls st μ := by
  intro H locs Ls ⟨h1, h2, h3, h4, h5⟩
  refine lv_bipush C.1 C.2.1 hd (mk_b8 hv) ?_
  exact k H locs Ls ⟨h1, h2, mk_sc (show mj_n32 v by unfold mj_n32; omega) h3, h4, h5⟩
theorem ms_sipush (C : mk_Cx p R s m args meth c XS lo hi cA ad D tys A own bytes n ret d) {v : Int} (hd : decode bytes pc = .ok (.sipush v, 3)) (hv : -32768 ≤ v ∧ v < 32768) (k : mk_W p l e R s m args below meth c Q lo hi cA ad D A n (pc + 3) ls (.inl v :: st) μ) : mk_W p l e R s m args below meth c Q lo hi cA ad D A n pc ls st μ := by
  intro H locs Ls ⟨h1, h2, h3, h4, h5⟩
  refine lv_sipush C.1 C.2.1 hd (mk_b16 hv) ?_
  exact k H locs Ls ⟨h1, h2, mk_sc (show mj_n32 v by unfold mj_n32; omega) h3, h4, h5⟩
theorem ms_lconst (C : mk_Cx p R s m args meth c XS lo hi cA ad D tys A own bytes n ret d) {v : Fin 2} (hd : decode bytes pc = .ok (.lconst v, 1)) (k : mk_W p l e R s m args below meth c Q lo hi cA ad D A n (pc + 1) ls (.inr (.inl (v.val : Int)) :: st) μ) : mk_W p l e R s m args below meth c Q lo hi cA ad D A n pc ls st μ := by
  intro H locs Ls ⟨h1, h2, h3, h4, h5⟩
  refine lv_lconst C.1 C.2.1 hd (show _ = Int64.ofInt ((v.val : Nat) : Int) from Int64.ofInt_eq_ofNat.symm) ?_
  exact k H locs Ls ⟨h1, h2, mk_sc (show mj_n64 _ by have := v.isLt; unfold mj_n64; omega) h3, h4, h5⟩
theorem ms_iload (C : mk_Cx p R s m args meth c XS lo hi cA ad D tys A own bytes n ret d) {a : Nat} {x : Int} (hd : decode bytes pc = .ok (.iload a, 2)) (hx : mj_nth ls a = some (some (.inl x))) (k : mk_W p l e R s m args below meth c Q lo hi cA ad D A n (pc + 2) ls (.inl x :: st) μ) : mk_W p l e R s m args below meth c Q lo hi cA ad D A n pc ls st μ := by
  intro H locs Ls ⟨h1, h2, h3, h4, h5⟩
  refine lv_iload C.1 C.2.1 hd (h1.2 a _ hx) ?_
  exact k H locs Ls ⟨h1, h2, mk_sc (h2 a _ hx) h3, h4, h5⟩
theorem ms_iload_n (C : mk_Cx p R s m args meth c XS lo hi cA ad D tys A own bytes n ret d) {f : Fin 4} {a : Nat} {x : Int} (hd : decode bytes pc = .ok (.iload_n f, 1)) (hf : f.val = a) (hx : mj_nth ls a = some (some (.inl x))) (k : mk_W p l e R s m args below meth c Q lo hi cA ad D A n (pc + 1) ls (.inl x :: st) μ) : mk_W p l e R s m args below meth c Q lo hi cA ad D A n pc ls st μ := by
  intro H locs Ls ⟨h1, h2, h3, h4, h5⟩
  refine lv_iload_n C.1 C.2.1 hd hf (h1.2 a _ hx) ?_
  exact k H locs Ls ⟨h1, h2, mk_sc (h2 a _ hx) h3, h4, h5⟩
theorem ms_lload (C : mk_Cx p R s m args meth c XS lo hi cA ad D tys A own bytes n ret d) {a : Nat} {x : Int} (hd : decode bytes pc = .ok (.lload a, 2)) (hx : mj_nth ls a = some (some (.inr (.inl x)))) (k : mk_W p l e R s m args below meth c Q lo hi cA ad D A n (pc + 2) ls (.inr (.inl x) :: st) μ) : mk_W p l e R s m args below meth c Q lo hi cA ad D A n pc ls st μ := by
  intro H locs Ls ⟨h1, h2, h3, h4, h5⟩
  refine lv_lload C.1 C.2.1 hd (h1.2 a _ hx) ?_
  exact k H locs Ls ⟨h1, h2, mk_sc (h2 a _ hx) h3, h4, h5⟩
theorem ms_lload_n (C : mk_Cx p R s m args meth c XS lo hi cA ad D tys A own bytes n ret d) {f : Fin 4} {a : Nat} {x : Int} (hd : decode bytes pc = .ok (.lload_n f, 1)) (hf : f.val = a) (hx : mj_nth ls a = some (some (.inr (.inl x)))) (k : mk_W p l e R s m args below meth c Q lo hi cA ad D A n (pc + 1) ls (.inr (.inl x) :: st) μ) : mk_W p l e R s m args below meth c Q lo hi cA ad D A n pc ls st μ := by
  intro H locs Ls ⟨h1, h2, h3, h4, h5⟩
  refine lv_lload_n C.1 C.2.1 hd hf (h1.2 a _ hx) ?_
  exact k H locs Ls ⟨h1, h2, mk_sc (h2 a _ hx) h3, h4, h5⟩
theorem ms_aload (C : mk_Cx p R s m args meth c XS lo hi cA ad D tys A own bytes n ret d) {a q i : Nat} (hd : decode bytes pc = .ok (.aload a, 2)) (hx : mj_nth ls a = some (some (.inr (.inr (q, i))))) (k : mk_W p l e R s m args below meth c Q lo hi cA ad D A n (pc + 2) ls (.inr (.inr (q, i)) :: st) μ) : mk_W p l e R s m args below meth c Q lo hi cA ad D A n pc ls st μ := by
  intro H locs Ls ⟨h1, h2, h3, h4, h5⟩
  refine lv_aload C.1 C.2.1 hd (h1.2 a _ hx) ?_
  exact k H locs Ls ⟨h1, h2, mk_sc (h2 a _ hx) h3, h4, h5⟩
theorem ms_aload_n (C : mk_Cx p R s m args meth c XS lo hi cA ad D tys A own bytes n ret d) {f : Fin 4} {a q i : Nat} (hd : decode bytes pc = .ok (.aload_n f, 1)) (hf : f.val = a) (hx : mj_nth ls a = some (some (.inr (.inr (q, i))))) (k : mk_W p l e R s m args below meth c Q lo hi cA ad D A n (pc + 1) ls (.inr (.inr (q, i)) :: st) μ) : mk_W p l e R s m args below meth c Q lo hi cA ad D A n pc ls st μ := by
  intro H locs Ls ⟨h1, h2, h3, h4, h5⟩
  refine lv_aload_n C.1 C.2.1 hd hf (h1.2 a _ hx) ?_
  exact k H locs Ls ⟨h1, h2, mk_sc (h2 a _ hx) h3, h4, h5⟩
theorem ms_ldc (C : mk_Cx p R s m args meth c XS lo hi cA ad D tys A own bytes n ret d) {idx : Nat} {v : Int} (hd : decode bytes pc = .ok (.ldc idx, 2)) (hw : Cond.constant (mk_cn own) idx (Int32.ofInt v) ∈ mk_tb) (hv : mj_n32 v) (k : mk_W p l e R s m args below meth c Q lo hi cA ad D A n (pc + 2) ls (.inl v :: st) μ) : mk_W p l e R s m args below meth c Q lo hi cA ad D A n pc ls st μ := by
  intro H locs Ls ⟨h1, h2, h3, h4, h5⟩
  refine lv_ldc C.1 C.2.1 C.2.2.2.2.1 (C.2.2.2.2.2.1 _ hw) hd ?_
  exact k H locs Ls ⟨h1, h2, mk_sc hv h3, h4, h5⟩
theorem ms_ldcw (C : mk_Cx p R s m args meth c XS lo hi cA ad D tys A own bytes n ret d) {idx : Nat} {v : Int} (hd : decode bytes pc = .ok (.ldc_w idx, 3)) (hw : Cond.constant (mk_cn own) idx (Int32.ofInt v) ∈ mk_tb) (hv : mj_n32 v) (k : mk_W p l e R s m args below meth c Q lo hi cA ad D A n (pc + 3) ls (.inl v :: st) μ) : mk_W p l e R s m args below meth c Q lo hi cA ad D A n pc ls st μ := by
  intro H locs Ls ⟨h1, h2, h3, h4, h5⟩
  refine lv_ldcw C.1 C.2.1 C.2.2.2.2.1 (C.2.2.2.2.2.1 _ hw) hd ?_
  exact k H locs Ls ⟨h1, h2, mk_sc hv h3, h4, h5⟩
theorem ms_ldc2 (C : mk_Cx p R s m args meth c XS lo hi cA ad D tys A own bytes n ret d) {idx : Nat} {v : Int} (hd : decode bytes pc = .ok (.ldc2_w idx, 3)) (hw : Cond.constantLong (mk_cn own) idx (Int64.ofInt v) ∈ mk_tb) (hv : mj_n64 v) (k : mk_W p l e R s m args below meth c Q lo hi cA ad D A n (pc + 3) ls (.inr (.inl v) :: st) μ) : mk_W p l e R s m args below meth c Q lo hi cA ad D A n pc ls st μ := by
  intro H locs Ls ⟨h1, h2, h3, h4, h5⟩
  refine lv_ldc2 C.1 C.2.1 C.2.2.2.2.1 (C.2.2.2.2.2.1 _ hw) hd ?_
  exact k H locs Ls ⟨h1, h2, mk_sc hv h3, h4, h5⟩
theorem ms_getstatic (C : mk_Cx p R s m args meth c XS lo hi cA ad D tys A own bytes n ret d) {idx : Nat} (ho : own = 0) (hd : decode bytes pc = .ok (.getstatic idx, 3)) (hw : Cond.fieldLink (mk_cn own) idx "NumbersCalled$Asker" "ABOVE" "[I" ∈ mk_tb) (k : mk_W p l e R s m args below meth c Q lo hi cA ad D A n (pc + 3) ls (.inr (.inr (64, 0)) :: st) μ) : mk_W p l e R s m args below meth c Q lo hi cA ad D A n pc ls st μ := by
  intro H locs Ls ⟨h1, h2, h3, h4, h5⟩
  refine va_gets C.1 C.2.1 C.2.2.2.2.2.2.2.2.2.1.2.1 h5.2.2 C.2.2.2.2.1 (C.2.2.2.2.2.1 _ hw) (fun _ h => h) hd ?_
  exact k H locs Ls ⟨h1, h2, mk_sc (show mk_vr lo hi 64 0 from Or.inr (Or.inr ⟨rfl, rfl⟩)) h3, h4, h5⟩
theorem ms_istore (C : mk_Cx p R s m args meth c XS lo hi cA ad D tys A own bytes n ret d) {a : Nat} {x : Int} (hd : decode bytes pc = .ok (.istore a, 2)) (ha : a < n) (hp : ∀ j x, a = j + 1 → mj_nth ls j ≠ some (some (.inr (.inl x)))) (k : mk_W p l e R s m args below meth c Q lo hi cA ad D A n (pc + 2) (mj_set ls a (some (.inl x))) st μ) : mk_W p l e R s m args below meth c Q lo hi cA ad D A n pc ls (.inl x :: st) μ := by
  intro H locs Ls ⟨h1, h2, h3, h4, h5⟩
  obtain ⟨h6, h7⟩ := mk_st h3
  refine lv_istore (lv := mk_asc ad 0 ls) C.1 C.2.1 hd (mk_lok_has h1) ha rfl (fun Ls' h' => ?_)
  exact k H locs Ls' ⟨mk_lok_st (v := .inl x) hp h', mk_vset h2 h6, h7, h4, h5⟩
theorem ms_astore (C : mk_Cx p R s m args meth c XS lo hi cA ad D tys A own bytes n ret d) {a q i : Nat} (hd : decode bytes pc = .ok (.astore a, 2)) (ha : a < n) (hp : ∀ j x, a = j + 1 → mj_nth ls j ≠ some (some (.inr (.inl x)))) (k : mk_W p l e R s m args below meth c Q lo hi cA ad D A n (pc + 2) (mj_set ls a (some (.inr (.inr (q, i))))) st μ) : mk_W p l e R s m args below meth c Q lo hi cA ad D A n pc ls (.inr (.inr (q, i)) :: st) μ := by
  intro H locs Ls ⟨h1, h2, h3, h4, h5⟩
  obtain ⟨h6, h7⟩ := mk_st h3
  refine lv_astore (lv := mk_asc ad 0 ls) C.1 C.2.1 hd (mk_lok_has h1) ha rfl (fun Ls' h' => ?_)
  exact k H locs Ls' ⟨mk_lok_st (v := .inr (.inr (q, i))) hp h', mk_vset h2 h6, h7, h4, h5⟩
theorem ms_lstore (C : mk_Cx p R s m args meth c XS lo hi cA ad D tys A own bytes n ret d) {a : Nat} {x : Int} (hd : decode bytes pc = .ok (.lstore a, 2)) (ha : a + 1 < n) (hp : ∀ j x, a = j + 1 → mj_nth ls j ≠ some (some (.inr (.inl x)))) (k : mk_W p l e R s m args below meth c Q lo hi cA ad D A n (pc + 2) (mj_set (mj_set ls a (some (.inr (.inl x)))) (a + 1) none) st μ) : mk_W p l e R s m args below meth c Q lo hi cA ad D A n pc ls (.inr (.inl x) :: st) μ := by
  intro H locs Ls ⟨h1, h2, h3, h4, h5⟩
  obtain ⟨h6, h7⟩ := mk_st h3
  refine lv_lstore (lv := mk_asc ad 0 ls) C.1 C.2.1 hd (mk_lok_has h1) ha rfl (fun Ls' h' => ?_)
  exact k H locs Ls' ⟨mk_lok_sl hp h', mk_vset0 (mk_vset h2 h6), h7, h4, h5⟩
theorem ms_istore_n (C : mk_Cx p R s m args meth c XS lo hi cA ad D tys A own bytes n ret d) {f : Fin 4} {a : Nat} {x : Int} (hd : decode bytes pc = .ok (.istore_n f, 1)) (hf : f.val = a) (ha : a < n) (hp : ∀ j x, a = j + 1 → mj_nth ls j ≠ some (some (.inr (.inl x)))) (k : mk_W p l e R s m args below meth c Q lo hi cA ad D A n (pc + 1) (mj_set ls a (some (.inl x))) st μ) : mk_W p l e R s m args below meth c Q lo hi cA ad D A n pc ls (.inl x :: st) μ := by
  intro H locs Ls ⟨h1, h2, h3, h4, h5⟩
  obtain ⟨h6, h7⟩ := mk_st h3
  refine lv_istore_n (lv := mk_asc ad 0 ls) C.1 C.2.1 hd hf (mk_lok_has h1) ha rfl (fun Ls' h' => ?_)
  exact k H locs Ls' ⟨mk_lok_st (v := .inl x) hp h', mk_vset h2 h6, h7, h4, h5⟩
theorem ms_astore_n (C : mk_Cx p R s m args meth c XS lo hi cA ad D tys A own bytes n ret d) {f : Fin 4} {a q i : Nat} (hd : decode bytes pc = .ok (.astore_n f, 1)) (hf : f.val = a) (ha : a < n) (hp : ∀ j x, a = j + 1 → mj_nth ls j ≠ some (some (.inr (.inl x)))) (k : mk_W p l e R s m args below meth c Q lo hi cA ad D A n (pc + 1) (mj_set ls a (some (.inr (.inr (q, i))))) st μ) : mk_W p l e R s m args below meth c Q lo hi cA ad D A n pc ls (.inr (.inr (q, i)) :: st) μ := by
  intro H locs Ls ⟨h1, h2, h3, h4, h5⟩
  obtain ⟨h6, h7⟩ := mk_st h3
  refine lv_astore_n (lv := mk_asc ad 0 ls) C.1 C.2.1 hd hf (mk_lok_has h1) ha rfl (fun Ls' h' => ?_)
  exact k H locs Ls' ⟨mk_lok_st (v := .inr (.inr (q, i))) hp h', mk_vset h2 h6, h7, h4, h5⟩
theorem ms_lstore_n (C : mk_Cx p R s m args meth c XS lo hi cA ad D tys A own bytes n ret d) {f : Fin 4} {a : Nat} {x : Int} (hd : decode bytes pc = .ok (.lstore_n f, 1)) (hf : f.val = a) (ha : a + 1 < n) (hp : ∀ j x, a = j + 1 → mj_nth ls j ≠ some (some (.inr (.inl x)))) (k : mk_W p l e R s m args below meth c Q lo hi cA ad D A n (pc + 1) (mj_set (mj_set ls a (some (.inr (.inl x)))) (a + 1) none) st μ) : mk_W p l e R s m args below meth c Q lo hi cA ad D A n pc ls (.inr (.inl x) :: st) μ := by
  intro H locs Ls ⟨h1, h2, h3, h4, h5⟩
  obtain ⟨h6, h7⟩ := mk_st h3
  refine lv_lstore_n (lv := mk_asc ad 0 ls) C.1 C.2.1 hd hf (mk_lok_has h1) ha rfl (fun Ls' h' => ?_)
  exact k H locs Ls' ⟨mk_lok_sl hp h', mk_vset0 (mk_vset h2 h6), h7, h4, h5⟩
theorem ms_iinc (C : mk_Cx p R s m args meth c XS lo hi cA ad D tys A own bytes n ret d) {a : Nat} {x v : Int} (hd : decode bytes pc = .ok (.iinc a v, 3)) (hx : mj_nth ls a = some (some (.inl x))) (ha : a < n) (hp : ∀ j x, a = j + 1 → mj_nth ls j ≠ some (some (.inr (.inl x)))) (k : mk_W p l e R s m args below meth c Q lo hi cA ad D A n (pc + 3) (mj_set ls a (some (.inl (mj_w (x + v))))) st μ) : mk_W p l e R s m args below meth c Q lo hi cA ad D A n pc ls st μ := by
  intro H locs Ls ⟨h1, h2, h3, h4, h5⟩
  obtain ⟨q, hq⟩ := List.getElem?_of_mem ((mk_asc_mem (ad := ad) ls 0 (a, .int (Int32.ofInt x))).mpr ⟨a, .inl x, hx, by rw [Nat.zero_add]; rfl⟩)
  refine lv_iinc (lv := mk_asc ad 0 ls) (v := Int32.ofInt (mj_w (x + v))) C.1 C.2.1 hd (mk_lok_has h1) hq (by rw [mj_I_w, Int32.ofInt_add]) ha rfl (fun Ls' h' => ?_)
  exact k H locs Ls' ⟨mk_lok_st (v := .inl (mj_w (x + v))) hp h', mk_vset h2 (mj_w_in _), h3, h4, h5⟩
theorem ms_bi (C : mk_Cx p R s m args meth c XS lo hi cA ad D tys A own bytes n ret d) {ins : Instr} {x y : Int} {κ : Int → mj_R} {r : Option mj_V × mj_M} (hd : decode bytes pc = .ok (ins, 1)) (h : mj_bi ins x y κ = some r) : ∃ z, κ z = some r ∧ (mk_W p l e R s m args below meth c Q lo hi cA ad D A n (pc + 1) ls (.inl z :: st) μ → mk_W p l e R s m args below meth c Q lo hi cA ad D A n pc ls (.inl y :: .inl x :: st) μ) := by
  unfold mj_bi at h
  split at h
  · refine ⟨_, h, fun k H locs Ls ⟨h1, h2, h3, h4, h5⟩ => lv_iadd C.1 C.2.1 hd ?_⟩
    obtain ⟨hy, h3⟩ := mk_st h3; obtain ⟨hx, h3⟩ := mk_st h3
    rw [← Int32.ofInt_add, ← mj_I_w]
    exact k H locs Ls ⟨h1, h2, mk_sc (mj_w_in _) h3, h4, h5⟩
  · refine ⟨_, h, fun k H locs Ls ⟨h1, h2, h3, h4, h5⟩ => lv_isub C.1 C.2.1 hd ?_⟩
    obtain ⟨hy, h3⟩ := mk_st h3; obtain ⟨hx, h3⟩ := mk_st h3
    rw [← Int32.ofInt_sub, ← mj_I_w]
    exact k H locs Ls ⟨h1, h2, mk_sc (mj_w_in _) h3, h4, h5⟩
  · refine ⟨_, h, fun k H locs Ls ⟨h1, h2, h3, h4, h5⟩ => lv_imul C.1 C.2.1 hd ?_⟩
    obtain ⟨hy, h3⟩ := mk_st h3; obtain ⟨hx, h3⟩ := mk_st h3
    rw [← Int32.ofInt_mul, ← mj_I_w]
    exact k H locs Ls ⟨h1, h2, mk_sc (mj_w_in _) h3, h4, h5⟩
  · split at h
    · cases h
    · rename_i hz
      refine ⟨_, h, fun k H locs Ls ⟨h1, h2, h3, h4, h5⟩ => ?_⟩
      obtain ⟨hy, h3⟩ := mk_st h3; obtain ⟨hx, h3⟩ := mk_st h3
      refine lv_idiv C.1 C.2.1 hd (fun q => hz ((mj_I_inj hy mj_n0).mp q)) ?_
      rw [← mj_I_div hx hy]
      exact k H locs Ls ⟨h1, h2, mk_sc (mj_w_in _) h3, h4, h5⟩
  · split at h
    · cases h
    · rename_i hz
      refine ⟨_, h, fun k H locs Ls ⟨h1, h2, h3, h4, h5⟩ => ?_⟩
      obtain ⟨hy, h3⟩ := mk_st h3; obtain ⟨hx, h3⟩ := mk_st h3
      refine lv_irem C.1 C.2.1 hd (fun q => hz ((mj_I_inj hy mj_n0).mp q)) ?_
      rw [← mj_I_rem hx hy]
      exact k H locs Ls ⟨h1, h2, mk_sc (mj_tmod_in hx) h3, h4, h5⟩
  · split at h
    · rename_i hz
      refine ⟨_, h, fun k H locs Ls ⟨h1, h2, h3, h4, h5⟩ => lv_iand C.1 C.2.1 hd ?_⟩
      obtain ⟨hy, h3⟩ := mk_st h3; obtain ⟨hx, h3⟩ := mk_st h3
      rw [mj_I_nat hz.1, mj_I_nat hz.2, mj_I_and, ← mj_I_N]
      exact k H locs Ls ⟨h1, h2, mk_sc (mj_and_in hx) h3, h4, h5⟩
    · cases h
  · split at h
    · rename_i hz
      refine ⟨_, h, fun k H locs Ls ⟨h1, h2, h3, h4, h5⟩ => lv_ior C.1 C.2.1 hd ?_⟩
      obtain ⟨hy, h3⟩ := mk_st h3; obtain ⟨hx, h3⟩ := mk_st h3
      rw [mj_I_nat hz.1, mj_I_nat hz.2, mj_I_or, ← mj_I_N]
      exact k H locs Ls ⟨h1, h2, mk_sc (mj_or_in hx hy) h3, h4, h5⟩
    · cases h
  · split at h
    · rename_i hz
      refine ⟨_, h, fun k H locs Ls ⟨h1, h2, h3, h4, h5⟩ => lv_ixor C.1 C.2.1 hd ?_⟩
      obtain ⟨hy, h3⟩ := mk_st h3; obtain ⟨hx, h3⟩ := mk_st h3
      rw [mj_I_nat hz.1, mj_I_nat hz.2, mj_I_xor, ← mj_I_N]
      exact k H locs Ls ⟨h1, h2, mk_sc (mj_xor_in hx hy) h3, h4, h5⟩
    · cases h
  · split at h
    · rename_i hz
      refine ⟨_, h, fun k H locs Ls ⟨h1, h2, h3, h4, h5⟩ => lv_ishl C.1 C.2.1 hd ?_⟩
      obtain ⟨hy, h3⟩ := mk_st h3; obtain ⟨hx, h3⟩ := mk_st h3
      rw [← mj_I_shl hx hz]
      exact k H locs Ls ⟨h1, h2, mk_sc (mj_w_in _) h3, h4, h5⟩
    · cases h
  · split at h
    · rename_i hz
      refine ⟨_, h, fun k H locs Ls ⟨h1, h2, h3, h4, h5⟩ => lv_ishr C.1 C.2.1 hd ?_⟩
      obtain ⟨hy, h3⟩ := mk_st h3; obtain ⟨hx, h3⟩ := mk_st h3
      rw [← (mj_I_shr hx hz).1]
      exact k H locs Ls ⟨h1, h2, mk_sc (mj_I_shr hx hz).2 h3, h4, h5⟩
    · cases h
  · cases h
theorem ms_bl (C : mk_Cx p R s m args meth c XS lo hi cA ad D tys A own bytes n ret d) {ins : Instr} {x y : Int} {κ : Int → mj_R} {r : Option mj_V × mj_M} (hd : decode bytes pc = .ok (ins, 1)) (h : mj_bl ins x y κ = some r) : ∃ z, κ z = some r ∧ (mk_W p l e R s m args below meth c Q lo hi cA ad D A n (pc + 1) ls (.inr (.inl z) :: st) μ → mk_W p l e R s m args below meth c Q lo hi cA ad D A n pc ls (.inr (.inl y) :: .inr (.inl x) :: st) μ) := by
  unfold mj_bl at h
  split at h
  · refine ⟨_, h, fun k H locs Ls ⟨h1, h2, h3, h4, h5⟩ => lv_ladd C.1 C.2.1 hd ?_⟩
    obtain ⟨hy, h3⟩ := mk_st h3; obtain ⟨hx, h3⟩ := mk_st h3
    rw [← Int64.ofInt_add, ← mj_L_x]
    exact k H locs Ls ⟨h1, h2, mk_sc (mj_x_in _) h3, h4, h5⟩
  · refine ⟨_, h, fun k H locs Ls ⟨h1, h2, h3, h4, h5⟩ => lv_lsub C.1 C.2.1 hd ?_⟩
    obtain ⟨hy, h3⟩ := mk_st h3; obtain ⟨hx, h3⟩ := mk_st h3
    rw [← Int64.ofInt_sub, ← mj_L_x]
    exact k H locs Ls ⟨h1, h2, mk_sc (mj_x_in _) h3, h4, h5⟩
  · refine ⟨_, h, fun k H locs Ls ⟨h1, h2, h3, h4, h5⟩ => lv_lmul C.1 C.2.1 hd ?_⟩
    obtain ⟨hy, h3⟩ := mk_st h3; obtain ⟨hx, h3⟩ := mk_st h3
    rw [← Int64.ofInt_mul, ← mj_L_x]
    exact k H locs Ls ⟨h1, h2, mk_sc (mj_x_in _) h3, h4, h5⟩
  · split at h
    · cases h
    · rename_i hz
      refine ⟨_, h, fun k H locs Ls ⟨h1, h2, h3, h4, h5⟩ => ?_⟩
      obtain ⟨hy, h3⟩ := mk_st h3; obtain ⟨hx, h3⟩ := mk_st h3
      refine lv_ldiv C.1 C.2.1 hd (fun q => hz ((mj_L_inj hy (mj_n32_64 mj_n0)).mp q)) ?_
      rw [← mj_L_div hx hy]
      exact k H locs Ls ⟨h1, h2, mk_sc (mj_x_in _) h3, h4, h5⟩
  · split at h
    · cases h
    · rename_i hz
      refine ⟨_, h, fun k H locs Ls ⟨h1, h2, h3, h4, h5⟩ => ?_⟩
      obtain ⟨hy, h3⟩ := mk_st h3; obtain ⟨hx, h3⟩ := mk_st h3
      refine lv_lrem C.1 C.2.1 hd (fun q => hz ((mj_L_inj hy (mj_n32_64 mj_n0)).mp q)) ?_
      rw [← mj_L_rem hx hy]
      exact k H locs Ls ⟨h1, h2, mk_sc (mj_tmod_in64 hx) h3, h4, h5⟩
  · cases h
theorem ms_ineg (C : mk_Cx p R s m args meth c XS lo hi cA ad D tys A own bytes n ret d) {x : Int} (hd : decode bytes pc = .ok (.ineg, 1)) (k : mk_W p l e R s m args below meth c Q lo hi cA ad D A n (pc + 1) ls (.inl (mj_w (-x)) :: st) μ) : mk_W p l e R s m args below meth c Q lo hi cA ad D A n pc ls (.inl x :: st) μ := by
  intro H locs Ls ⟨h1, h2, h3, h4, h5⟩
  obtain ⟨hx, h3⟩ := mk_st h3
  refine lv_ineg C.1 C.2.1 hd ?_
  rw [← Int32.ofInt_neg, ← mj_I_w]
  exact k H locs Ls ⟨h1, h2, mk_sc (mj_w_in _) h3, h4, h5⟩
theorem ms_i2l (C : mk_Cx p R s m args meth c XS lo hi cA ad D tys A own bytes n ret d) {x : Int} (hd : decode bytes pc = .ok (.i2l, 1)) (k : mk_W p l e R s m args below meth c Q lo hi cA ad D A n (pc + 1) ls (.inr (.inl x) :: st) μ) : mk_W p l e R s m args below meth c Q lo hi cA ad D A n pc ls (.inl x :: st) μ := by
  intro H locs Ls ⟨h1, h2, h3, h4, h5⟩
  obtain ⟨hx, h3⟩ := mk_st h3
  refine lv_i2l C.1 C.2.1 hd (mj_i2l hx) ?_
  exact k H locs Ls ⟨h1, h2, mk_sc (mj_n32_64 hx) h3, h4, h5⟩
theorem ms_l2i (C : mk_Cx p R s m args meth c XS lo hi cA ad D tys A own bytes n ret d) {x : Int} (hd : decode bytes pc = .ok (.l2i, 1)) (k : mk_W p l e R s m args below meth c Q lo hi cA ad D A n (pc + 1) ls (.inl (mj_w x) :: st) μ) : mk_W p l e R s m args below meth c Q lo hi cA ad D A n pc ls (.inr (.inl x) :: st) μ := by
  intro H locs Ls ⟨h1, h2, h3, h4, h5⟩
  obtain ⟨hx, h3⟩ := mk_st h3
  refine lv_l2i C.1 C.2.1 hd mj_l2i ?_
  exact k H locs Ls ⟨h1, h2, mk_sc (mj_w_in _) h3, h4, h5⟩
theorem ms_i2b (C : mk_Cx p R s m args meth c XS lo hi cA ad D tys A own bytes n ret d) {x : Int} (hd : decode bytes pc = .ok (.i2b, 1)) (k : mk_W p l e R s m args below meth c Q lo hi cA ad D A n (pc + 1) ls (.inl ((x + 128) % 256 - 128) :: st) μ) : mk_W p l e R s m args below meth c Q lo hi cA ad D A n pc ls (.inl x :: st) μ := by
  intro H locs Ls ⟨h1, h2, h3, h4, h5⟩
  obtain ⟨hx, h3⟩ := mk_st h3
  refine lv_i2b C.1 C.2.1 hd mj_i2b.1 ?_
  exact k H locs Ls ⟨h1, h2, mk_sc mj_i2b.2 h3, h4, h5⟩
theorem ms_i2s (C : mk_Cx p R s m args meth c XS lo hi cA ad D tys A own bytes n ret d) {x : Int} (hd : decode bytes pc = .ok (.i2s, 1)) (k : mk_W p l e R s m args below meth c Q lo hi cA ad D A n (pc + 1) ls (.inl ((x + 32768) % 65536 - 32768) :: st) μ) : mk_W p l e R s m args below meth c Q lo hi cA ad D A n pc ls (.inl x :: st) μ := by
  intro H locs Ls ⟨h1, h2, h3, h4, h5⟩
  obtain ⟨hx, h3⟩ := mk_st h3
  refine lv_i2s C.1 C.2.1 hd mj_i2s.1 ?_
  exact k H locs Ls ⟨h1, h2, mk_sc mj_i2s.2 h3, h4, h5⟩
theorem ms_dup_i (C : mk_Cx p R s m args meth c XS lo hi cA ad D tys A own bytes n ret d) {x : Int} (hd : decode bytes pc = .ok (.dup, 1)) (k : mk_W p l e R s m args below meth c Q lo hi cA ad D A n (pc + 1) ls (.inl x :: .inl x :: st) μ) : mk_W p l e R s m args below meth c Q lo hi cA ad D A n pc ls (.inl x :: st) μ := by
  intro H locs Ls ⟨h1, h2, h3, h4, h5⟩
  obtain ⟨hx, h3⟩ := mk_st h3
  refine lv_dup C.1 C.2.1 hd rfl ?_
  exact k H locs Ls ⟨h1, h2, mk_sc hx (mk_sc hx h3), h4, h5⟩
theorem ms_dup_r (C : mk_Cx p R s m args meth c XS lo hi cA ad D tys A own bytes n ret d) {q : Nat × Nat} (hd : decode bytes pc = .ok (.dup, 1)) (k : mk_W p l e R s m args below meth c Q lo hi cA ad D A n (pc + 1) ls (.inr (.inr q) :: .inr (.inr q) :: st) μ) : mk_W p l e R s m args below meth c Q lo hi cA ad D A n pc ls (.inr (.inr q) :: st) μ := by
  intro H locs Ls ⟨h1, h2, h3, h4, h5⟩
  obtain ⟨hx, h3⟩ := mk_st h3
  refine lv_dup C.1 C.2.1 hd rfl ?_
  exact k H locs Ls ⟨h1, h2, mk_sc hx (mk_sc hx h3), h4, h5⟩
theorem ms_dup2 (C : mk_Cx p R s m args meth c XS lo hi cA ad D tys A own bytes n ret d) {j : Int} {q : Nat × Nat} (hd : decode bytes pc = .ok (.dup2, 1)) (k : mk_W p l e R s m args below meth c Q lo hi cA ad D A n (pc + 1) ls (.inl j :: .inr (.inr q) :: .inl j :: .inr (.inr q) :: st) μ) : mk_W p l e R s m args below meth c Q lo hi cA ad D A n pc ls (.inl j :: .inr (.inr q) :: st) μ := by
  intro H locs Ls ⟨h1, h2, h3, h4, h5⟩
  obtain ⟨hx, h3⟩ := mk_st h3
  obtain ⟨hy, h3⟩ := mk_st h3
  refine lv_dup2_11 C.1 C.2.1 hd rfl rfl ?_
  exact k H locs Ls ⟨h1, h2, mk_sc hx (mk_sc hy (mk_sc hx (mk_sc hy h3))), h4, h5⟩
theorem ms_pop (C : mk_Cx p R s m args meth c XS lo hi cA ad D tys A own bytes n ret d) {x : Int} (hd : decode bytes pc = .ok (.pop, 1)) (k : mk_W p l e R s m args below meth c Q lo hi cA ad D A n (pc + 1) ls st μ) : mk_W p l e R s m args below meth c Q lo hi cA ad D A n pc ls (.inl x :: st) μ := by
  intro H locs Ls ⟨h1, h2, h3, h4, h5⟩
  obtain ⟨hx, h3⟩ := mk_st h3
  refine lv_pop C.1 C.2.1 hd rfl ?_
  exact k H locs Ls ⟨h1, h2, h3, h4, h5⟩
theorem ms_lcmp (C : mk_Cx p R s m args meth c XS lo hi cA ad D tys A own bytes n ret d) {x y : Int} (hd : decode bytes pc = .ok (.lcmp, 1)) (k : mk_W p l e R s m args below meth c Q lo hi cA ad D A n (pc + 1) ls (.inl (if x < y then -1 else if x = y then 0 else 1) :: st) μ) : mk_W p l e R s m args below meth c Q lo hi cA ad D A n pc ls (.inr (.inl y) :: .inr (.inl x) :: st) μ := by
  intro H locs Ls ⟨h1, h2, h3, h4, h5⟩
  obtain ⟨hy, h3⟩ := mk_st h3
  obtain ⟨hx, h3⟩ := mk_st h3
  refine W.lcmp C.1 C.2.1 hd ?_
  rw [mj_lcmp hx hy]
  refine k H locs Ls ⟨h1, h2, mk_sc ?_ h3, h4, h5⟩
  show mj_n32 _
  unfold mj_n32
  split
  · omega
  · split <;> omega
end MS
end
section
/-! the laws of the steps: fields and arrays -/
def mk_dz (k : Nat) : String := match k with
  | 0 => "I"
  | _ + 1 => "Z"
def mk_flk (q : Nat × Nat × Nat × Nat × Nat) : Bool := match vwCl[q.2.2.1]? with
  | some (_, _, N) => Nat.blt q.2.2.2.1 N
  | none => false
theorem mk_FLs : mk_FL.all mk_flk = true := by decide +kernel
theorem mk_cls {ci : Nat} {Cn : String} {T : u_T} {N : Nat} (h : vwCl[ci]? = some (Cn, T, N)) : (∀ w ∈ u_ws Cn T N, w ∈ mk_tb) ∧ (∃ ty : Nat → FieldType, ∀ k, k < N → parseFieldDescriptor (T k).2.2.1 = some (ty k)) ∧ (∀ a, a < N → ∀ b, b < N → a ≠ b → (T a).2.1 ≠ (T b).2.1) := by
  match ci, h with
  | 0, h => cases h; exact ⟨mk_u0, ⟨tyX0, tyX0_ok⟩, nmX0⟩
  | 1, h => cases h; exact ⟨mk_u1, ⟨tyX1, tyX1_ok⟩, nmX1⟩
  | 2, h => cases h; exact ⟨mk_u2, ⟨tyX2, tyX2_ok⟩, nmX2⟩
  | 3, h => cases h; exact ⟨mk_u3, ⟨tyX3, tyX3_ok⟩, nmX3⟩
  | 4, h => cases h; exact ⟨mk_u4, ⟨tyX4, tyX4_ok⟩, nmX4⟩
  | 5, h => cases h; exact ⟨mk_u5, ⟨tyX5, tyX5_ok⟩, nmX5⟩
  | 6, h => cases h; exact ⟨mk_u6, ⟨tyX6, tyX6_ok⟩, nmX6⟩
  | 7, h => cases h; exact ⟨mk_u7, ⟨tyX7, tyX7_ok⟩, nmX7⟩
  | 8, h => cases h; exact ⟨mk_u8, ⟨tyX8, tyX8_ok⟩, nmX8⟩
  | k + 9, h => simp [vwCl] at h
theorem mk_nfw : nativeFrameWords "java/lang/System" "arraycopy" 5 ≤ 100 := by decide +kernel
theorem mk_vr_in {lo hi s i : Nat} (h : mk_vr lo hi s i) (hk : (mj_srt mk_LY s).1 < 4) : lo ≤ s ∧ s < hi ∧ i < mk_cnt s := by
  rcases h with h | ⟨rfl, -⟩ | ⟨rfl, -⟩
  · exact h
  · exact absurd hk (by decide)
  · exact absurd hk (by decide)
theorem mk_en_of {cA : Nat → ClassId} {ad : mk_AD} {μ μ' : mj_M} {s' i' : Nat} (hm : ∀ j, μ' s' i' j = μ s' i' j) : mk_en cA ad μ' s' i' = mk_en cA ad μ s' i' := by
  have hf : ∀ (sl : List (Option (Nat × Nat))) (j : Nat), mk_fs ad μ' s' i' j sl = mk_fs ad μ s' i' j sl := by
    intro sl
    induction sl with
    | nil => intro j; rfl
    | cons a r ih =>
      intro j
      cases a with
      | none => show _ :: _ = _ :: _; rw [hm, ih]
      | some q => show _ :: _ = _ :: _; rw [ih]
  unfold mk_en
  simp only [hf, hm]
theorem mk_closed_5 {lo hi s : Nat} (h : mk_closed lo hi = true) (h1 : lo ≤ s) (h2 : s < hi) : (mj_srt mk_LY s).1 ≠ 5 := by
  have hs := List.all_eq_true.mp h s (List.mem_range'.mpr ⟨s - lo, by omega, by omega⟩)
  intro q
  generalize mj_srt mk_LY s = v at q hs
  obtain ⟨k, n, c, sl⟩ := v
  change k = 5 at q
  subst q
  simp at hs
section MH
variable {p : Program} {l : Launch} {e : Env} {R : Room} {s : State} {m : MethodId} {args : Array Value} {below : List Frame} {meth : Method} {c : Code} {Q : State → Prop} {XS : (Nat → Prop) → State → Prop} {lo hi : Nat} {cA : Nat → ClassId} {ad : mk_AD} {D : va_G} {tys : List (ClassId × FieldType)} {A : Nat → Prop} {own : Nat} {bytes : ByteArray} {n : Nat} {ret : Option FieldType} {d : Nat}
variable {pc : Nat} {ls : mj_L} {st : List mj_V} {μ : mj_M}
theorem ms_get (C : mk_Cx p R s m args meth c XS lo hi cA ad D tys A own bytes n ret d) {idx a b z s' i : Nat} {κ : List mj_V → mj_R} {r : Option mj_V × mj_M} (hd : decode bytes pc = .ok (.getfield idx, 3)) (hf : (own, idx, b, a, z) ∈ mk_FL) (h : mj_gf mk_LY a b s' i st μ κ = some r) : ∃ v, κ (v :: st) = some r ∧ (mk_W p l e R s m args below meth c Q lo hi cA ad D A n (pc + 3) ls (v :: st) μ → mk_W p l e R s m args below meth c Q lo hi cA ad D A n pc ls (.inr (.inr (s', i)) :: st) μ) := by
  unfold mj_gf at h
  split at h
  · rename_i ci cn sl e1
    split at h
    · rename_i e2
      have e2 := Nat.eq_of_beq_eq_true e2
      subst e2
      have hw := C.2.2.2.2.2.1 _ (mk_FLw _ hf)
      have hk := List.all_eq_true.mp mk_FLs _ hf
      unfold mk_flk at hk
      dsimp only at hk hw
      cases hv : vwCl[ci]? with
      | none => rw [hv] at hk; cases hk
      | some q =>
        obtain ⟨Cn, T, N⟩ := q
        rw [hv] at hk
        have hk := Nat.blt_eq.mp hk
        have hft : mk_ft ci a = T a := by unfold mk_ft; rw [hv]
        rw [hft] at hw
        obtain ⟨c1, c2, c3⟩ := mk_cls hv
        have key : ∀ (v : mj_V) (o : Option (Nat × Nat)), mj_nth sl a = some o → mk_ev ad v = mk_ov ad μ s' i (0 + a) o → (∀ (H : Heap) (locs : List Loc) (Ls : Array Slot), mk_Rel s lo hi cA ad D A n ls (.inr (.inr (s', i)) :: st) μ H locs Ls → mk_vv lo hi v) → (mk_W p l e R s m args below meth c Q lo hi cA ad D A n (pc + 3) ls (v :: st) μ → mk_W p l e R s m args below meth c Q lo hi cA ad D A n pc ls (.inr (.inr (s', i)) :: st) μ) := by
          intro v o ho he hvv k H locs Ls hR
          have hv1 := hvv H locs Ls hR
          obtain ⟨h1, h2, h3, h4, h5⟩ := hR
          obtain ⟨hr, h6⟩ := mk_st h3
          obtain ⟨g1, g2, g3⟩ := mk_vr_in hr (by rw [e1]; exact Nat.zero_lt_succ 3)
          obtain ⟨j, hj⟩ := mk_cell_at g1 g2 g3
          have hat := mk_ws_at (cA := cA) (ad := ad) (μ := μ) hj
          have hen : mk_en cA ad μ s' i = .inr (ci, mk_fs ad μ s' i 0 sl) := by simp only [mk_en, e1]
          rw [hen] at hat
          have hfs := mk_fs_at (ad := ad) (μ := μ) (s := s') (i := i) sl a 0 o ho
          rw [← he] at hfs
          exact va_get (D := D) (ci := ci) (C := Cn) (T := T) (N := N) C.1 C.2.1 C.2.2.2.2.2.1 c1 C.2.2.2.2.1 C.2.2.2.2.2.2.2.1 h5.1 j hat hv a hk hw (fun _ h => h) hfs hd (k H locs Ls ⟨h1, h2, mk_sc hv1 h6, h4, h5⟩)
        split at h
        · rename_i e3
          refine ⟨_, h, key _ none e3 (by rw [Nat.zero_add]; rfl) (fun H locs Ls hR => ?_)⟩
          exact (hR.2.2.2.1 s' i a).2 (by rw [e1]; exact fun q => by cases q)
        · rename_i t d e3
          refine ⟨_, h, key _ (some (t, d)) e3 rfl (fun H locs Ls hR => ?_)⟩
          obtain ⟨g1, g2, g3⟩ := mk_vr_in (mk_st hR.2.2.1).1 (by rw [e1]; exact Nat.zero_lt_succ 3)
          obtain ⟨q1, q2, q3⟩ := (mk_closed_at C.2.2.2.2.2.2.2.2.2.2.2.2.1 g1 g2).2.1 ci cn sl a t d e1 e3
          have : mk_cnt s' = cn := by unfold mk_cnt; rw [e1]
          exact Or.inl ⟨q1, q2, by omega⟩
        · cases h
    · cases h
  · cases h
theorem ms_put (C : mk_Cx p R s m args meth c XS lo hi cA ad D tys A own bytes n ret d) {idx a b k s' i : Nat} {x : Int} {κ : mj_M → mj_R} {r : Option mj_V × mj_M} (hd : decode bytes pc = .ok (.putfield idx, 3)) (hf : (own, idx, b, a, k) ∈ mk_FL) (hq : (mk_ft b a).2.2.2 = false ∧ (mk_ft b a).2.2.1 = mk_dz k) (h : mj_pf mk_LY a b k s' i x μ κ = some r) : ∃ μ', κ μ' = some r ∧ (mk_W p l e R s m args below meth c Q lo hi cA ad D A n (pc + 3) ls st μ' → mk_W p l e R s m args below meth c Q lo hi cA ad D A n pc ls (.inl x :: .inr (.inr (s', i)) :: st) μ) := by
  unfold mj_pf at h
  split at h
  · rename_i ci cn sl e1
    split at h
    · rename_i e2
      have e2 := Nat.eq_of_beq_eq_true e2
      subst e2
      have hw := C.2.2.2.2.2.1 _ (mk_FLw _ hf)
      have hk := List.all_eq_true.mp mk_FLs _ hf
      unfold mk_flk at hk
      dsimp only at hk hw
      cases hv : vwCl[ci]? with
      | none => rw [hv] at hk; cases hk
      | some q =>
        obtain ⟨Cn, T, N⟩ := q
        rw [hv] at hk
        have hk := Nat.blt_eq.mp hk
        have hft : mk_ft ci a = T a := by unfold mk_ft; rw [hv]
        rw [hft] at hw hq
        obtain ⟨c1, ⟨ty, c2⟩, c3⟩ := mk_cls hv
        split at h
        · rename_i e3
          have key : ∀ (ft : FieldType), parseFieldDescriptor (T a).2.2.1 = some ft → narrow ft (.int (Int32.ofInt x)) = .int (Int32.ofInt x) → fits ft (.int (Int32.ofInt x)) = true → (mk_W p l e R s m args below meth c Q lo hi cA ad D A n (pc + 3) ls st (mj_up μ s' i a x) → mk_W p l e R s m args below meth c Q lo hi cA ad D A n pc ls (.inl x :: .inr (.inr (s', i)) :: st) μ) := by
            intro ft hp1 hp2 hp3 k H locs Ls ⟨h1, h2, h3, h4, h5⟩
            obtain ⟨hx, h6⟩ := mk_st h3
            obtain ⟨hr, h6⟩ := mk_st h6
            obtain ⟨g1, g2, g3⟩ := mk_vr_in hr (by rw [e1]; exact Nat.zero_lt_succ 3)
            obtain ⟨j, hj⟩ := mk_cell_at g1 g2 g3
            have hat := mk_ws_at (cA := cA) (ad := ad) (μ := μ) hj
            have hen : ∀ μ, mk_en cA ad μ s' i = .inr (ci, mk_fs ad μ s' i 0 sl) := by intro μ; simp only [mk_en, e1]
            rw [hen] at hat
            refine va_put (v := .int (Int32.ofInt x)) (D := D) (ci := ci) (C := Cn) (T := T) (N := N) C.1 C.2.1 C.2.2.2.2.2.1 c1 ty c2 c3 C.2.2.2.2.1 C.2.2.2.2.2.2.2.1 h5.1 h5.2.1 h5.2.2 j hat hv a hk hw (fun _ h => h) hq.1 hp1 hp2 hp3 (by rw [mk_fs_len]; exact mj_nth_lt _ _ _ e3) hd (fun H1 locs1 hP hD hS => ?_)
            have hset := mk_ws_set (cA := cA) (ad := ad) (μ := μ) (μ' := mj_up μ s' i a x) (e := .inr (ci, (mk_fs ad μ s' i 0 sl).set a (.int (Int32.ofInt x)))) C.2.2.2.2.2.2.2.2.2.2.2.1 hj (by rw [hen, mk_fs_up sl a 0 e3, Nat.zero_add]) (fun _ _ h => mk_en_off h)
            rw [hset] at hP hD
            exact k H1 locs1 Ls ⟨h1, h2, h6, mk_vm_up h4 (mj_n32_64 hx) (fun _ => hx), hP, hD, hS⟩
          split at h
          · exact ⟨_, h, key .int (by rw [hq.2]; decide +kernel) rfl rfl⟩
          · by_cases q01 : x = 0 ∨ x = 1
            · rw [if_pos q01] at h
              refine ⟨_, h, key .boolean (by rw [hq.2]; show parseFieldDescriptor "Z" = _; decide +kernel) ?_ ?_⟩
              · rcases q01 with rfl | rfl <;> rfl
              · rcases q01 with rfl | rfl <;> rfl
            · rw [if_neg q01] at h
              cases h
        · cases h
    · cases h
  · cases h
theorem ms_iald (C : mk_Cx p R s m args meth c XS lo hi cA ad D tys A own bytes n ret d) {j : Int} {s' i : Nat} {κ : Int → mj_R} {r : Option mj_V × mj_M} (hd : decode bytes pc = .ok (.iaload, 1)) (h : mj_ial mk_LY mk_TB j s' i μ κ = some r) : ∃ x, κ x = some r ∧ (mk_W p l e R s m args below meth c Q lo hi cA ad D A n (pc + 1) ls (.inl x :: st) μ → mk_W p l e R s m args below meth c Q lo hi cA ad D A n pc ls (.inl j :: .inr (.inr (s', i)) :: st) μ) := by
  unfold mj_ial at h
  split at h
  · rename_i n' cn sl e1
    split at h
    · rename_i hb
      refine ⟨_, h, fun k H locs Ls ⟨h1, h2, h3, h4, h5⟩ => ?_⟩
      obtain ⟨hj, h6⟩ := mk_st h3
      obtain ⟨hr, h6⟩ := mk_st h6
      obtain ⟨g1, g2, g3⟩ := mk_vr_in hr (by rw [e1]; exact (by decide : 1 < 4))
      obtain ⟨q, hq⟩ := mk_cell_at g1 g2 g3
      have hat := mk_ws_at (cA := cA) (ad := ad) (μ := μ) hq
      have hen : mk_en cA ad μ s' i = .inl (cA s', n', .inl (fun j => Int32.ofInt (μ s' i j))) := by simp only [mk_en, e1]
      rw [hen] at hat
      obtain ⟨t0, ht0⟩ := (C.2.2.2.2.2.2.2.2.1 s' g1 g2).1 (by rw [e1])
      refine va_iald C.1 C.2.1 C.2.2.2.2.2.2.2.1 h5.1 q t0 hat ht0 (mj_vin hj hb) hd ?_
      rw [mj_clN hj]
      exact k H locs Ls ⟨h1, h2, mk_sc ((h4 s' i j.toNat).2 (by rw [e1]; exact fun q => by cases q)) h6, h4, h5⟩
    · cases h
  · rename_i n' cn sl e1
    obtain ⟨x, h1, -, hj0, l', hl1, hl2⟩ := mj_tb4_pu h
    refine ⟨x, h1, fun k H locs Ls ⟨h1, h2, h3, h4, h5⟩ => ?_⟩
    obtain ⟨hj, h6⟩ := mk_st h3
    obtain ⟨hr, h7⟩ := mk_st h6
    have hs : s' = 64 ∧ i = 0 := by
      rcases hr with ⟨g1, g2, -⟩ | ⟨rfl, -⟩ | h
      · exact absurd (by rw [e1] : (mj_srt mk_LY s').1 = 5) (mk_closed_5 C.2.2.2.2.2.2.2.2.2.2.2.2.1 g1 g2)
      · have e2 : mj_srt mk_LY 63 = (4, 0, 1, []) := rfl
        rw [e2] at e1
        cases e1
      · exact h
    obtain ⟨rfl, rfl⟩ := hs
    have e1' : mj_srt mk_LY 64 = (5, 1, 1, []) := rfl
    rw [e1'] at e1
    cases e1
    have e2 : mj_nth mk_TB 1 = some [-1, 0, 0, 2, 0, 1] := rfl
    rw [e2] at hl1
    cases hl1
    have hlt : j.toNat < 6 := mj_nth_lt _ _ _ hl2
    have hx : mk_ab j.toNat = .int (Int32.ofInt x) := by unfold mk_ab; rw [hl2]; rfl
    obtain ⟨cell, t1, t2, t3, t4, t5, t6, t7⟩ := C.2.2.2.2.2.2.2.2.2.1.2.2.1
    refine W.iald C.1 C.2.1 (cell := cell) (j := Int32.ofInt j) (v := .int (Int32.ofInt x)) ?_ t2 t3 ?_ ?_ rfl rfl hd ?_
    · rw [h5.2.2.2.1 _ (Array.getElem?_eq_some_iff.mp t1).1 t7]
      exact t1
    · rw [mj_clN hj]
      rintro (q | q)
      · have := (mj_I_lt hj mj_n0).mp q
        omega
      · omega
    · rw [mj_clN hj, t6 _ hlt, hx]
    · refine k H locs Ls ⟨h1, h2, mk_sc ?_ h7, h4, h5⟩
      have : ∀ q : Nat, q < 6 → ∀ x, mj_nth [-1, 0, 0, 2, 0, (1 : Int)] q = some x → mj_n32 x := by
        intro q hq x hx
        have : x = -1 ∨ x = 0 ∨ x = 2 ∨ x = 1 := by
          match q, hx with
          | 0, hx => cases hx; simp
          | 1, hx => cases hx; simp
          | 2, hx => cases hx; simp
          | 3, hx => cases hx; simp
          | 4, hx => cases hx; simp
          | 5, hx => cases hx; simp
          | q + 6, hx => cases hx
        unfold mj_n32
        omega
      exact this _ hlt _ hl2
  · cases h
theorem ms_lald (C : mk_Cx p R s m args meth c XS lo hi cA ad D tys A own bytes n ret d) {j : Int} {s' i : Nat} {κ : Int → mj_R} {r : Option mj_V × mj_M} (hd : decode bytes pc = .ok (.laload, 1)) (h : mj_lal mk_LY j s' i μ κ = some r) : ∃ x, κ x = some r ∧ (mk_W p l e R s m args below meth c Q lo hi cA ad D A n (pc + 1) ls (.inr (.inl x) :: st) μ → mk_W p l e R s m args below meth c Q lo hi cA ad D A n pc ls (.inl j :: .inr (.inr (s', i)) :: st) μ) := by
  unfold mj_lal at h
  split at h
  · rename_i n' cn sl e1
    split at h
    · rename_i hb
      refine ⟨_, h, fun k H locs Ls ⟨h1, h2, h3, h4, h5⟩ => ?_⟩
      obtain ⟨hj, h6⟩ := mk_st h3
      obtain ⟨hr, h6⟩ := mk_st h6
      obtain ⟨g1, g2, g3⟩ := mk_vr_in hr (by rw [e1]; exact (by decide : 2 < 4))
      obtain ⟨q, hq⟩ := mk_cell_at g1 g2 g3
      have hat := mk_ws_at (cA := cA) (ad := ad) (μ := μ) hq
      have hen : mk_en cA ad μ s' i = .inl (cA s', n', .inr (.inl (fun j => Int64.ofInt (μ s' i j)))) := by simp only [mk_en, e1]
      rw [hen] at hat
      obtain ⟨t0, ht0⟩ := (C.2.2.2.2.2.2.2.2.1 s' g1 g2).2.1 (by rw [e1])
      refine va_lald C.1 C.2.1 C.2.2.2.2.2.2.2.1 h5.1 q t0 hat ht0 (mj_vin hj hb) hd ?_
      rw [mj_clN hj]
      exact k H locs Ls ⟨h1, h2, mk_sc (h4 s' i j.toNat).1 h6, h4, h5⟩
    · cases h
  · cases h
theorem ms_iast (C : mk_Cx p R s m args meth c XS lo hi cA ad D tys A own bytes n ret d) {x j : Int} {s' i : Nat} {κ : mj_M → mj_R} {r : Option mj_V × mj_M} (hd : decode bytes pc = .ok (.iastore, 1)) (h : mj_ias mk_LY x j s' i μ κ = some r) : ∃ μ', κ μ' = some r ∧ (mk_W p l e R s m args below meth c Q lo hi cA ad D A n (pc + 1) ls st μ' → mk_W p l e R s m args below meth c Q lo hi cA ad D A n pc ls (.inl x :: .inl j :: .inr (.inr (s', i)) :: st) μ) := by
  unfold mj_ias at h
  split at h
  · rename_i n' cn sl e1
    split at h
    · rename_i hb
      refine ⟨_, h, fun k H locs Ls ⟨h1, h2, h3, h4, h5⟩ => ?_⟩
      obtain ⟨hx, h6⟩ := mk_st h3
      obtain ⟨hj, h6⟩ := mk_st h6
      obtain ⟨hr, h6⟩ := mk_st h6
      obtain ⟨g1, g2, g3⟩ := mk_vr_in hr (by rw [e1]; exact (by decide : 1 < 4))
      obtain ⟨q, hq⟩ := mk_cell_at g1 g2 g3
      have hat := mk_ws_at (cA := cA) (ad := ad) (μ := μ) hq
      have hen : ∀ μ, mk_en cA ad μ s' i = .inl (cA s', n', .inl (fun j => Int32.ofInt (μ s' i j))) := by intro μ; simp only [mk_en, e1]
      rw [hen] at hat
      obtain ⟨t0, ht0⟩ := (C.2.2.2.2.2.2.2.2.1 s' g1 g2).1 (by rw [e1])
      refine va_iast C.1 C.2.1 C.2.2.2.2.2.2.2.1 h5.1 h5.2.1 h5.2.2 q t0 hat ht0 (mj_vin hj hb) hd (fun H1 locs1 hP hD hS => ?_)
      have hu : upd (fun j => Int32.ofInt (μ s' i j)) (Int32.ofInt j).toNatClampNeg (Int32.ofInt x) = fun q => Int32.ofInt (mj_up μ s' i j.toNat x s' i q) := by
        funext z
        rw [mj_clN hj]
        unfold upd mj_up
        by_cases hz : z = j.toNat
        · rw [if_pos hz, if_pos ⟨rfl, hz, rfl⟩]
        · rw [if_neg hz, if_neg (fun w => hz w.2.1)]
      rw [hu] at hP hD
      have hset := mk_ws_set (cA := cA) (ad := ad) (μ := μ) (μ' := mj_up μ s' i j.toNat x) C.2.2.2.2.2.2.2.2.2.2.2.1 hq (hen _).symm (fun _ _ h => mk_en_off h)
      rw [hset] at hP hD
      exact k H1 locs1 Ls ⟨h1, h2, h6, mk_vm_up h4 (mj_n32_64 hx) (fun _ => hx), hP, hD, hS⟩
    · cases h
  · cases h
theorem ms_last (C : mk_Cx p R s m args meth c XS lo hi cA ad D tys A own bytes n ret d) {x j : Int} {s' i : Nat} {κ : mj_M → mj_R} {r : Option mj_V × mj_M} (hd : decode bytes pc = .ok (.lastore, 1)) (h : mj_las mk_LY x j s' i μ κ = some r) : ∃ μ', κ μ' = some r ∧ (mk_W p l e R s m args below meth c Q lo hi cA ad D A n (pc + 1) ls st μ' → mk_W p l e R s m args below meth c Q lo hi cA ad D A n pc ls (.inr (.inl x) :: .inl j :: .inr (.inr (s', i)) :: st) μ) := by
  unfold mj_las at h
  split at h
  · rename_i n' cn sl e1
    split at h
    · rename_i hb
      refine ⟨_, h, fun k H locs Ls ⟨h1, h2, h3, h4, h5⟩ => ?_⟩
      obtain ⟨hx, h6⟩ := mk_st h3
      obtain ⟨hj, h6⟩ := mk_st h6
      obtain ⟨hr, h6⟩ := mk_st h6
      obtain ⟨g1, g2, g3⟩ := mk_vr_in hr (by rw [e1]; exact (by decide : 2 < 4))
      obtain ⟨q, hq⟩ := mk_cell_at g1 g2 g3
      have hat := mk_ws_at (cA := cA) (ad := ad) (μ := μ) hq
      have hen : ∀ μ, mk_en cA ad μ s' i = .inl (cA s', n', .inr (.inl (fun j => Int64.ofInt (μ s' i j)))) := by intro μ; simp only [mk_en, e1]
      rw [hen] at hat
      obtain ⟨t0, ht0⟩ := (C.2.2.2.2.2.2.2.2.1 s' g1 g2).2.1 (by rw [e1])
      refine va_last C.1 C.2.1 C.2.2.2.2.2.2.2.1 h5.1 h5.2.1 h5.2.2 q t0 hat ht0 (mj_vin hj hb) hd (fun H1 locs1 hP hD hS => ?_)
      have hu : vp_updL (fun j => Int64.ofInt (μ s' i j)) (Int32.ofInt j).toNatClampNeg (Int64.ofInt x) = fun q => Int64.ofInt (mj_up μ s' i j.toNat x s' i q) := by
        funext z
        rw [mj_clN hj]
        unfold vp_updL mj_up
        by_cases hz : z = j.toNat
        · rw [if_pos hz, if_pos ⟨rfl, hz, rfl⟩]
        · rw [if_neg hz, if_neg (fun w => hz w.2.1)]
      rw [hu] at hP hD
      have hset := mk_ws_set (cA := cA) (ad := ad) (μ := μ) (μ' := mj_up μ s' i j.toNat x) C.2.2.2.2.2.2.2.2.2.2.2.1 hq (hen _).symm (fun _ _ h => mk_en_off h)
      rw [hset] at hP hD
      exact k H1 locs1 Ls ⟨h1, h2, h6, mk_vm_up h4 hx (fun q => absurd (by rw [e1]) q), hP, hD, hS⟩
    · cases h
  · cases h
theorem ms_aald (C : mk_Cx p R s m args meth c XS lo hi cA ad D tys A own bytes n ret d) {j : Int} {s' i : Nat} {κ : Nat → Nat → mj_R} {r : Option mj_V × mj_M} (hd : decode bytes pc = .ok (.aaload, 1)) (h : mj_aal mk_LY j s' κ = some r) : ∃ t o, κ t o = some r ∧ (mk_W p l e R s m args below meth c Q lo hi cA ad D A n (pc + 1) ls (.inr (.inr (t, o)) :: st) μ → mk_W p l e R s m args below meth c Q lo hi cA ad D A n pc ls (.inl j :: .inr (.inr (s', i)) :: st) μ) := by
  unfold mj_aal at h
  split at h
  · rename_i n' cn t o e1
    split at h
    · rename_i hb
      refine ⟨_, _, h, fun k H locs Ls ⟨h1, h2, h3, h4, h5⟩ => ?_⟩
      obtain ⟨hj, h6⟩ := mk_st h3
      obtain ⟨hr, h6⟩ := mk_st h6
      obtain ⟨g1, g2, g3⟩ := mk_vr_in hr (by rw [e1]; exact (by decide : 3 < 4))
      obtain ⟨q, hq⟩ := mk_cell_at g1 g2 g3
      have hat := mk_ws_at (cA := cA) (ad := ad) (μ := μ) hq
      have hen : mk_en cA ad μ s' i = .inl (cA s', n', .inr (.inr (.inr (.inr (fun j => some (ad t (j + o))))))) := by simp only [mk_en, e1]
      rw [hen] at hat
      obtain ⟨t0, Cn, ht0⟩ := (C.2.2.2.2.2.2.2.2.1 s' g1 g2).2.2 (by rw [e1])
      refine va_aldq C.1 C.2.1 C.2.2.2.2.2.2.2.1 h5.1 q t0 hat ht0 (mj_vin hj hb) hd ?_
      dsimp only [va_rf]
      rw [mj_clN hj]
      obtain ⟨q1, q2, q3⟩ := (mk_closed_at C.2.2.2.2.2.2.2.2.2.2.2.2.1 g1 g2).2.2 n' cn t o e1
      exact k H locs Ls ⟨h1, h2, mk_sc (Or.inl ⟨q1, q2, by omega⟩) h6, h4, h5⟩
    · cases h
  · cases h
theorem ms_max (C : mk_Cx p R s m args meth c XS lo hi cA ad D tys A own bytes n ret d) {idx : Nat} {x y : Int} (hd : decode bytes pc = .ok (.invokestatic idx, 3)) (hw : Cond.methodLink (mk_cn own) idx Lib.Math.max.name ∈ mk_tb) (hc : mj_cat st ≤ 8) (k : mk_W p l e R s m args below meth c Q lo hi cA ad D A n (pc + 3) ls (.inl (if x < y then y else x) :: st) μ) : mk_W p l e R s m args below meth c Q lo hi cA ad D A n pc ls (.inl y :: .inl x :: st) μ := by
  intro H locs Ls ⟨h1, h2, h3, h4, h5⟩
  obtain ⟨hy, h6⟩ := mk_st h3
  obtain ⟨hx, h6⟩ := mk_st h6
  obtain ⟨r1, r2⟩ := C.2.2.2.2.2.2.2.2.2.2.2.2.2
  refine va_mmax C.1 C.2.1 (C.2.2.2.1.trans h1.1.1.symm) C.2.2.2.2.1 (C.2.2.2.2.2.1 _ hw) (C.2.2.2.2.2.1 _ mk_maxs) (C.2.2.2.2.2.1 _ mk_maxi) (C.2.2.2.2.2.1 _ mk_maxc) (by omega) (by rw [mk_cats]; omega) (Nat.zero_le _) (Nat.zero_le _) hd ?_
  have e : (if Int32.ofInt x < Int32.ofInt y then Int32.ofInt y else Int32.ofInt x) = Int32.ofInt (if x < y then y else x) := by
    by_cases q : x < y
    · rw [if_pos q, if_pos ((mj_I_lt hx hy).mpr q)]
    · rw [if_neg q, if_neg (fun w => q ((mj_I_lt hx hy).mp w))]
  rw [e]
  refine k H locs Ls ⟨h1, h2, mk_sc ?_ h6, h4, h5⟩
  show mj_n32 _
  split
  · exact hy
  · exact hx
theorem ms_acp (C : mk_Cx p R s m args meth c XS lo hi cA ad D tys A own bytes n ret d) {idx : Nat} {κ : List mj_V → mj_M → mj_R} {r : Option mj_V × mj_M} (hd : decode bytes pc = .ok (.invokestatic idx, 3)) (hw : Cond.methodLink (mk_cn own) idx arraycopyName ∈ mk_tb) (h : mj_acp mk_LY st μ κ = some r) : ∃ st' μ', κ st' μ' = some r ∧ (mj_cat st' ≤ 8 → mk_W p l e R s m args below meth c Q lo hi cA ad D A n (pc + 3) ls st' μ' → mk_W p l e R s m args below meth c Q lo hi cA ad D A n pc ls st μ) := by
  unfold mj_acp at h
  split at h
  · rename_i nn qq s2 i2 pp s1 i1 rr
    split at h
    · rename_i m1 c1 sl1 m2 c2 sl2 e1 e2
      split at h
      · rename_i hb
        refine ⟨_, _, h, fun hc k H locs Ls ⟨h1, h2, h3, h4, h5⟩ => ?_⟩
        obtain ⟨v1, h6⟩ := mk_st h3
        obtain ⟨v2, h6⟩ := mk_st h6
        obtain ⟨v3, h6⟩ := mk_st h6
        obtain ⟨v4, h6⟩ := mk_st h6
        obtain ⟨v5, h6⟩ := mk_st h6
        obtain ⟨f1, f2, f3⟩ := mk_vr_in v3 (by rw [e2]; exact (by decide : 1 < 4))
        obtain ⟨g1, g2, g3⟩ := mk_vr_in v5 (by rw [e1]; exact (by decide : 1 < 4))
        obtain ⟨q1, hq1⟩ := mk_cell_at g1 g2 g3
        obtain ⟨q2, hq2⟩ := mk_cell_at f1 f2 f3
        have hat1 := mk_ws_at (cA := cA) (ad := ad) (μ := μ) hq1
        have hat2 := mk_ws_at (cA := cA) (ad := ad) (μ := μ) hq2
        have hen1 : ∀ μ, mk_en cA ad μ s1 i1 = .inl (cA s1, m1, .inl (fun j => Int32.ofInt (μ s1 i1 j))) := by intro μ; simp only [mk_en, e1]
        have hen2 : ∀ μ, mk_en cA ad μ s2 i2 = .inl (cA s2, m2, .inl (fun j => Int32.ofInt (μ s2 i2 j))) := by intro μ; simp only [mk_en, e2]
        rw [hen1] at hat1
        rw [hen2] at hat2
        obtain ⟨t1, ht1⟩ := (C.2.2.2.2.2.2.2.2.1 s1 g1 g2).1 (by rw [e1])
        obtain ⟨t2, ht2⟩ := (C.2.2.2.2.2.2.2.2.1 s2 f1 f2).1 (by rw [e2])
        obtain ⟨r1, r2⟩ := C.2.2.2.2.2.2.2.2.2.2.2.2.2
        obtain ⟨b1, b2, b3, b4, b5⟩ := hb
        refine va_copyi C.1 C.2.1 (C.2.2.2.1.trans h1.1.1.symm) C.2.2.2.2.1 (C.2.2.2.2.2.1 _ hw) (C.2.2.2.2.2.1 _ mk_acpn) (C.2.2.2.2.2.1 _ mk_acps) (C.2.2.2.2.2.1 _ mk_acpi) C.2.2.2.2.2.2.2.1 h5.1 h5.2.1 h5.2.2 q1 q2 t1 t2 hat1 hat2 ht1 ht2 rfl (sp := Int32.ofInt pp) (dp := Int32.ofInt qq) (n := Int32.ofInt nn)
          (fun q => by have := (mj_I_lt v4 mj_n0).mp q; omega) (fun q => by have := (mj_I_lt v2 mj_n0).mp q; omega) (fun q => by have := (mj_I_lt v1 mj_n0).mp q; omega) (by rw [mj_clN v4, mj_clN v1]; omega) (by rw [mj_clN v2, mj_clN v1]; omega) (fun _ _ => rfl) (by omega) (by rw [mk_cats]; have := mk_nfw; omega) hd (fun H1 locs1 hP hD hS => ?_)
        have hu : va_cpy (fun j => Int32.ofInt (μ s1 i1 j)) (fun j => Int32.ofInt (μ s2 i2 j)) (Int32.ofInt pp).toNatClampNeg (Int32.ofInt qq).toNatClampNeg (Int32.ofInt nn).toNatClampNeg = fun z => Int32.ofInt (mj_cpy μ s1 i1 pp.toNat s2 i2 qq.toNat nn.toNat s2 i2 z) := by
          funext z
          rw [mj_clN v4, mj_clN v2, mj_clN v1]
          unfold va_cpy mj_cpy
          by_cases hz : qq.toNat ≤ z ∧ z < qq.toNat + nn.toNat
          · rw [if_pos hz, if_pos ⟨rfl, rfl, hz⟩]
          · rw [if_neg hz, if_neg (fun w => hz w.2.2)]
        rw [hu] at hP hD
        have hset := mk_ws_set (cA := cA) (ad := ad) (μ := μ) (μ' := mj_cpy μ s1 i1 pp.toNat s2 i2 qq.toNat nn.toNat) C.2.2.2.2.2.2.2.2.2.2.2.1 hq2 (hen2 _).symm (fun s' i' hne => mk_en_of (fun z => by
          unfold mj_cpy
          rw [if_neg]
          rintro ⟨w1, w2, -⟩
          rcases hne with hne | hne
          · exact hne w1
          · exact hne w2))
        rw [hset] at hP hD
        refine k H1 locs1 Ls ⟨h1, h2, h6, fun s' i' z => ?_, hP, hD, hS⟩
        unfold mj_cpy
        split
        · rename_i hz
          have := h4 s1 i1 (pp.toNat + (z - qq.toNat))
          exact ⟨this.1, fun _ => this.2 (by rw [e1]; exact fun q => by cases q)⟩
        · exact h4 s' i' z
      · cases h
    · cases h
  · cases h
end MH
end
section
/-! what is checked of the code, once, by the kernel -/
def mk_dl (bytes : ByteArray) (pc : Nat) (ins : Instr) (len : Nat) : Bool := match decode bytes pc with
  | .ok (i, k) => decide (i = ins) && Nat.beq k len
  | .error _ => false
theorem mk_dl_sp {bytes : ByteArray} {pc : Nat} {ins : Instr} {len : Nat} (h : mk_dl bytes pc ins len = true) : decode bytes pc = .ok (ins, len) := by
  unfold mk_dl at h
  split at h
  · rename_i i k e
    simp only [Bool.and_eq_true, decide_eq_true_eq, Nat.beq_eq] at h
    rw [e, h.1, h.2]
  · cases h
def mk_di (bytes : ByteArray) (pc : Nat) (ins : Instr) : Bool := match decode bytes pc with
  | .ok (i, _) => decide (i = ins)
  | .error _ => false
theorem mk_di_sp {bytes : ByteArray} {pc : Nat} {ins : Instr} (h : mk_di bytes pc ins = true) : ∃ len, decode bytes pc = .ok (ins, len) := by
  unfold mk_di at h
  split at h
  · rename_i i k e
    simp only [decide_eq_true_eq] at h
    exact ⟨k, by rw [e, h]⟩
  · cases h
def mk_pc (y l : Nat) : Nat := match (mj_bk mk_PG y l).2 with
  | (pc, _) :: _ => pc
  | [] => 0
def mk_tsw (y pc : Nat) : Int → List Int → List (Int × Nat) → Bool
  | v, o :: os, (w, l) :: sw => decide (w = v) && decide ((pc : Int) + o = (mk_pc y l : Int)) && mk_tsw y pc (v + 1) os sw
  | _, [], [] => true
  | _, _, _ => false
def mk_lsw (y pc : Nat) : List (Int × Int) → List (Int × Nat) → Bool
  | (v, o) :: ps, (w, l) :: sw => decide (w = v) && decide ((pc : Int) + o = (mk_pc y l : Int)) && mk_lsw y pc ps sw
  | [], [] => true
  | _, _ => false
def mk_rk (k : Nat) (ret : Option FieldType) : Bool := match k with
  | 0 => decide (ret = none)
  | 1 => decide (ret = some .int) || decide (ret = some .boolean)
  | 2 => decide (ret = some .long)
  | _ => false
def mk_cc (own idx a b k kind : Nat) (stat : Bool) : Bool := mk_CL.contains (own, idx, a, kind) && Nat.beq b (mk_mi a).2.2.2.2.2.1 && (mk_mi a).2.2.2.2.2.2 == stat && mk_rk k (mk_mi a).2.2.1
def mk_ck (y own n : Nat) (ret : Option FieldType) (bytes : ByteArray) (q : mj_I) (nx : Nat) : Bool := match q with
  | (pc, ins, a, b, k, sw) => match ins with
    | .nop => Nat.beq (mk_pc y a) pc
    | .goto off => mk_dl bytes pc ins 3 && decide ((pc : Int) + off = (mk_pc y a : Int))
    | .ifCond _ off => mk_dl bytes pc ins 3 && Nat.beq nx (pc + 3) && decide ((pc : Int) + off = (mk_pc y a : Int))
    | .if_icmp _ off => mk_dl bytes pc ins 3 && Nat.beq nx (pc + 3) && decide ((pc : Int) + off = (mk_pc y a : Int))
    | .tableswitch d lo hi offs => mk_di bytes pc ins && decide ((pc : Int) + d = (mk_pc y a : Int)) && mk_tsw y pc lo offs.toList sw && decide (hi = lo + offs.toList.length - 1) && decide (-2147483648 ≤ lo ∧ hi < 2147483648)
    | .lookupswitch d ps => mk_di bytes pc ins && decide ((pc : Int) + d = (mk_pc y a : Int)) && mk_lsw y pc ps.toList sw && (ps.toList.zip (ps.toList.drop 1)).all (fun (a, next) => a.1 < next.1)
    | .ireturn => mk_dl bytes pc ins 1 && (match k with | 0 => decide (ret = some .int) | _ => decide (ret = some .boolean))
    | .lreturn => mk_dl bytes pc ins 1 && decide (ret = some .long)
    | .return_ => mk_dl bytes pc ins 1 && decide (ret = none)
    | .invokevirtual idx => mk_dl bytes pc ins 3 && Nat.beq nx (pc + 3) && (match k with | 7 => Nat.beq own 5 && Nat.beq idx 98 | _ => mk_cc own idx a b k 0 false)
    | .invokestatic idx => mk_dl bytes pc ins 3 && Nat.beq nx (pc + 3) && (match k with | 5 => (Nat.beq own 0 && Nat.beq idx 32) || (Nat.beq own 1 && Nat.beq idx 150) | 6 => Nat.beq own 7 && Nat.beq idx 326 | _ => mk_cc own idx a b k 1 true || (mk_cc own idx a b k 2 true && mk_NL.contains (own, idx, a)))
    | .iconst v => mk_dl bytes pc ins 1 && Nat.beq nx (pc + 1) && decide (-2147483648 ≤ v ∧ v < 2147483648)
    | .bipush v => mk_dl bytes pc ins 2 && Nat.beq nx (pc + 2) && decide (-128 ≤ v ∧ v < 128)
    | .sipush v => mk_dl bytes pc ins 3 && Nat.beq nx (pc + 3) && decide (-32768 ≤ v ∧ v < 32768)
    | .lconst _ => mk_dl bytes pc ins 1 && Nat.beq nx (pc + 1)
    | .iload i => mk_dl bytes pc ins 2 && Nat.beq nx (pc + 2) && Nat.beq i a
    | .iload_n i => mk_dl bytes pc ins 1 && Nat.beq nx (pc + 1) && Nat.beq i.val a
    | .lload i => mk_dl bytes pc ins 2 && Nat.beq nx (pc + 2) && Nat.beq i a
    | .lload_n i => mk_dl bytes pc ins 1 && Nat.beq nx (pc + 1) && Nat.beq i.val a
    | .aload i => mk_dl bytes pc ins 2 && Nat.beq nx (pc + 2) && Nat.beq i a
    | .aload_n i => mk_dl bytes pc ins 1 && Nat.beq nx (pc + 1) && Nat.beq i.val a
    | .istore i => mk_dl bytes pc ins 2 && Nat.beq nx (pc + 2) && Nat.beq i a && Nat.blt a n
    | .istore_n i => mk_dl bytes pc ins 1 && Nat.beq nx (pc + 1) && Nat.beq i.val a && Nat.blt a n
    | .lstore i => mk_dl bytes pc ins 2 && Nat.beq nx (pc + 2) && Nat.beq i a && Nat.blt (a + 1) n
    | .lstore_n i => mk_dl bytes pc ins 1 && Nat.beq nx (pc + 1) && Nat.beq i.val a && Nat.blt (a + 1) n
    | .astore i => mk_dl bytes pc ins 2 && Nat.beq nx (pc + 2) && Nat.beq i a && Nat.blt a n
    | .astore_n i => mk_dl bytes pc ins 1 && Nat.beq nx (pc + 1) && Nat.beq i.val a && Nat.blt a n
    | .iinc i _ => mk_dl bytes pc ins 3 && Nat.beq nx (pc + 3) && Nat.beq i a && Nat.blt a n
    | .ldc idx => mk_dl bytes pc ins 2 && Nat.beq nx (pc + 2) && (match k with | 0 => mk_KL.contains (own, idx, a, 0) | _ => Nat.beq own 5 && Nat.beq idx 96 && Nat.beq a 63)
    | .ldc_w idx => mk_dl bytes pc ins 3 && Nat.beq nx (pc + 3) && mk_KL.contains (own, idx, a, 0)
    | .ldc2_w idx => mk_dl bytes pc ins 3 && Nat.beq nx (pc + 3) && mk_KL.contains (own, idx, a, 2)
    | .getstatic idx => mk_dl bytes pc ins 3 && Nat.beq nx (pc + 3) && Nat.beq own 0 && Nat.beq idx 24 && Nat.beq a 64
    | .getfield idx => mk_dl bytes pc ins 3 && Nat.beq nx (pc + 3) && mk_FL.contains (own, idx, b, a, k)
    | .putfield idx => mk_dl bytes pc ins 3 && Nat.beq nx (pc + 3) && mk_FL.contains (own, idx, b, a, k) && !(mk_ft b a).2.2.2 && decide ((mk_ft b a).2.2.1 = mk_dz k)
    | _ => mk_dl bytes pc ins 1 && Nat.beq nx (pc + 1)
def mk_ckb (y own n : Nat) (ret : Option FieldType) (bytes : ByteArray) : List mj_I → Bool
  | [] => true
  | q :: r => mk_ck y own n ret bytes q (match r with | (pc, _) :: _ => pc | [] => 0) && mk_ckb y own n ret bytes r
def mk_ckm (y : Nat) : Bool := match mj_nth mk_PG y with
  | some (n, rc, bs) => bs.all (fun q => mk_ckb y (mk_mi y).2.2.2.1 n (mk_mi y).2.2.1 (mk_mi y).2.1 q.2) && Nat.beq n (mk_mi y).2.2.2.2.1 && Nat.beq rc (match (mk_mi y).2.2.2.2.2.2 with | true => 0 | false => (mk_mi y).2.2.2.1 + 1) && Nat.beq (mk_pc y 0) 0 && decide (0 < bs.length)
  | none => false
end
section
/-! the code holds against the check -/
theorem mk_ok0 : (List.range' 0 16).all mk_ckm = true := by decide +kernel
theorem mk_ok1 : (List.range' 16 16).all mk_ckm = true := by decide +kernel
theorem mk_ok2 : (List.range' 32 16).all mk_ckm = true := by decide +kernel
theorem mk_ok3 : (List.range' 48 16).all mk_ckm = true := by decide +kernel
theorem mk_ok4 : (List.range' 64 16).all mk_ckm = true := by decide +kernel
theorem mk_ok5 : (List.range' 80 16).all mk_ckm = true := by decide +kernel
theorem mk_ok6 : (List.range' 96 16).all mk_ckm = true := by decide +kernel
theorem mk_ok7 : (List.range' 112 16).all mk_ckm = true := by decide +kernel
theorem mk_ok8 : (List.range' 128 16).all mk_ckm = true := by decide +kernel
theorem mk_ok9 : (List.range' 144 16).all mk_ckm = true := by decide +kernel
theorem mk_ok10 : (List.range' 160 16).all mk_ckm = true := by decide +kernel
theorem mk_ok11 : (List.range' 176 16).all mk_ckm = true := by decide +kernel
theorem mk_ok12 : (List.range' 192 16).all mk_ckm = true := by decide +kernel
theorem mk_ok13 : (List.range' 208 9).all mk_ckm = true := by decide +kernel
end
section
/-! THE SMALL MACHINE IS TRUE TO THE MACHINE -/
def mk_A (lo hi : Nat) (ad : mk_AD) (sz : Nat) : Nat → Prop := fun q => (∃ c ∈ mk_cells lo hi, q = ad c.1 c.2) ∨ sz ≤ q
def mk_wy (y : Nat) : List Cond := Cond.code (mk_mi y).1 (mk_mi y).2.1 (mk_mi y).2.2.2.2.1 (mk_mi y).2.2.1 :: mk_tb
def mk_rm (d : Nat) : Room := { frames := d + 8, cells := 0, slots := 0, locals := 64 * d + 400 }
def mk_Pre (XS : (Nat → Prop) → State → Prop) (lo hi : Nat) (cA : Nat → ClassId) (ad : mk_AD) (D : va_G) (tys : List (ClassId × FieldType)) (as : List mj_V) (μ : mj_M) (sz : Nat) : Array Value → State → Prop :=
  va_Pc (as.map (mk_ev ad)) (fun U => U.heap.size = sz ∧ va_P D vwCl (mk_ws lo hi cA ad μ) U.heap ∧ va_K D vwCl tys U ∧ va_D (mk_A lo hi ad sz) (mk_ws lo hi cA ad μ) ∧ mk_Ext XS ad (mk_A lo hi ad sz) U)
def mk_B (lo hi : Nat) (cA : Nat → ClassId) (ad : mk_AD) (D : va_G) (tys : List (ClassId × FieldType)) (μ : mj_M) (sz : Nat) (t : State) : Prop := mk_vm μ ∧ va_P D vwCl (mk_ws lo hi cA ad μ) t.heap ∧ va_K D vwCl tys t ∧ va_D (mk_A lo hi ad sz) (mk_ws lo hi cA ad μ)
def mk_Post (lo hi : Nat) (cA : Nat → ClassId) (ad : mk_AD) (D : va_G) (tys : List (ClassId × FieldType)) (r : Option mj_V × mj_M) (sz : Nat) : Array Value → State → Outcome → State → Prop := match r with
  | (none, μ) => va_Qv (fun _ : Unit => True) (fun _ => mk_B lo hi cA ad D tys μ sz) (mk_A lo hi ad sz)
  | (some (.inl x), μ) => va_Qi (fun v (_ : Unit) => v = Int32.ofInt x ∧ mj_n32 x) (fun _ => mk_B lo hi cA ad D tys μ sz) (mk_A lo hi ad sz)
  | (some (.inr (.inl x)), μ) => va_Ql (fun v (_ : Unit) => v = Int64.ofInt x ∧ mj_n64 x) (fun _ => mk_B lo hi cA ad D tys μ sz) (mk_A lo hi ad sz)
  | _ => fun _ _ _ _ => False
def mk_XSc (XS : (Nat → Prop) → State → Prop) : Prop := ∀ (A B : Nat → Prop) (u U : State), u.WarmedH U.vm → (∀ a : Nat, a < u.heap.size → ¬ A a → U.heap[a]? = u.heap[a]?) → (∀ q, B q → A q) → XS A u → XS B U
theorem mk_Ext_mv {XS : (Nat → Prop) → State → Prop} {ad : mk_AD} {A B : Nat → Prop} {u U : State} (hX : mk_XSc XS) (hW : u.WarmedH U.vm) (hq : ∀ a : Nat, a < u.heap.size → ¬ A a → U.heap[a]? = u.heap[a]?) (hAB : ∀ q, B q → A q) (h : mk_Ext XS ad A u) : mk_Ext XS ad B U :=
  ⟨fun q hm => va_Nw.warmM hW (h.1 q hm), ((h.2.1.moved hW.alike).kept hq).narrow hAB, ((h.2.2.1.moved hW.alike).kept hq).narrow hAB, hX A B u U hW hq hAB h.2.2.2⟩
theorem mk_A_le {lo hi : Nat} {ad : mk_AD} {s1 s2 : Nat} (h : s1 ≤ s2) : ∀ q, mk_A lo hi ad s2 q → mk_A lo hi ad s1 q := by
  rintro q (h1 | h1)
  · exact Or.inl h1
  · exact Or.inr (Nat.le_trans h h1)
theorem mk_D_A {lo hi : Nat} {cA : Nat → ClassId} {ad : mk_AD} {A : Nat → Prop} {μ : mj_M} {sz : Nat} (h : va_D A (mk_ws lo hi cA ad μ)) : va_D (mk_A lo hi ad sz) (mk_ws lo hi cA ad μ) := by
  refine h.weaken fun k q hk _ => ?_
  unfold mk_ws at hk
  rw [List.getElem?_map] at hk
  cases hc : (mk_cells lo hi)[k]? with
  | none => rw [hc] at hk; cases hk
  | some c => rw [hc] at hk; cases hk; exact Or.inl ⟨c, List.mem_of_getElem? hc, rfl⟩
theorem mk_okall {y : Nat} (h : y < 217) : mk_ckm y = true := by
  have key : ∀ (a n : Nat), (List.range' a n).all mk_ckm = true → a ≤ y → y < a + n → mk_ckm y = true := fun a n q h1 h2 => List.all_eq_true.mp q y (List.mem_range'.mpr ⟨y - a, by omega, by omega⟩)

  by_cases h0 : y < 16
  · exact key 0 16 mk_ok0 (by omega) (by omega)
  by_cases h1 : y < 32
  · exact key 16 16 mk_ok1 (by omega) (by omega)
  by_cases h2 : y < 48
  · exact key 32 16 mk_ok2 (by omega) (by omega)
  by_cases h3 : y < 64
  · exact key 48 16 mk_ok3 (by omega) (by omega)
  by_cases h4 : y < 80
  · exact key 64 16 mk_ok4 (by omega) (by omega)
  by_cases h5 : y < 96
  · exact key 80 16 mk_ok5 (by omega) (by omega)
  by_cases h6 : y < 112
  · exact key 96 16 mk_ok6 (by omega) (by omega)
  by_cases h7 : y < 128
  · exact key 112 16 mk_ok7 (by omega) (by omega)
  by_cases h8 : y < 144
  · exact key 128 16 mk_ok8 (by omega) (by omega)
  by_cases h9 : y < 160
  · exact key 144 16 mk_ok9 (by omega) (by omega)
  by_cases h10 : y < 176
  · exact key 160 16 mk_ok10 (by omega) (by omega)
  by_cases h11 : y < 192
  · exact key 176 16 mk_ok11 (by omega) (by omega)
  by_cases h12 : y < 208
  · exact key 192 16 mk_ok12 (by omega) (by omega)
  by_cases h13 : y < 217
  · exact key 208 9 mk_ok13 (by omega) (by omega)
  omega
theorem mk_len : mk_PG.length = 217 := by decide +kernel
theorem mk_lenM : mk_MI.length = 217 := by decide +kernel
theorem mk_mi_in {y : Nat} (h : y < 217) : mk_mi y ∈ mk_MI := by
  unfold mk_mi
  rw [mj_nth_eq]
  cases hq : mk_MI[y]? with
  | none => rw [List.getElem?_eq_none_iff, mk_lenM] at hq; omega
  | some q => exact List.mem_of_getElem? hq
theorem mk_y_lt {y : Nat} {q : Nat × Nat × List (List Bool × List mj_I)} (h : mj_nth mk_PG y = some q) : y < 217 := by
  have := mj_nth_lt _ _ _ h
  rw [mk_len] at this
  exact this
def mk_mc (q : mk_T7) : Bool := decide ((parseMethodDescriptor q.1.desc).map (fun d => d.parameters.length) = some (match q.2.2.2.2.2.2 with | true => q.2.2.2.2.2.1 | false => q.2.2.2.2.2.1 - 1)) && decide (q.1.cls ≠ "java/lang/invoke/MethodHandle" ∧ q.1.cls ≠ "java/lang/invoke/VarHandle") && decide (q.1.cls = mk_cn q.2.2.2.1) && Nat.blt q.2.2.2.1 9 && plainName q.1.cls && Nat.ble q.2.2.2.2.1 40
theorem mk_MIc : mk_MI.all mk_mc = true := by decide +kernel
theorem mk_mi_c {y : Nat} (h : y < 217) : (parseMethodDescriptor (mk_mi y).1.desc).map (fun d => d.parameters.length) = some (match (mk_mi y).2.2.2.2.2.2 with | true => (mk_mi y).2.2.2.2.2.1 | false => (mk_mi y).2.2.2.2.2.1 - 1) ∧ ((mk_mi y).1.cls ≠ "java/lang/invoke/MethodHandle" ∧ (mk_mi y).1.cls ≠ "java/lang/invoke/VarHandle") ∧ (mk_mi y).1.cls = mk_cn (mk_mi y).2.2.2.1 ∧ (mk_mi y).2.2.2.1 < 9 ∧ plainName (mk_mi y).1.cls = true ∧ (mk_mi y).2.2.2.2.1 ≤ 40 := by
  have := List.all_eq_true.mp mk_MIc _ (mk_mi_in h)
  unfold mk_mc at this
  simp only [Bool.and_eq_true, decide_eq_true_eq, Nat.blt_eq, Nat.ble_eq] at this
  exact ⟨this.1.1.1.1.1, this.1.1.1.1.2, this.1.1.1.2, this.1.1.2, this.1.2, this.2⟩
theorem mk_wyw {y : Nat} (h : y < 217) : ∀ w ∈ mk_wy y, w ∈ mk_tb := by
  intro w hw
  rcases List.mem_cons.mp hw with rfl | hw
  · exact mk_MIw _ (mk_mi_in h)
  · exact hw
theorem mk_gin {ws : List Cond} (h : ∀ w ∈ ws, w ∈ mk_tb) : GoodIn mk_tb ws := fun w hw => ⟨h w hw, good_of_word (mk_good w (h w hw))⟩
theorem mk_ini {y : Nat} (h : y < 217) : Cond.initialized (mk_mi y).1.cls ∈ mk_tb := by
  rw [(mk_mi_c h).2.2.1]
  have h9 := (mk_mi_c h).2.2.2.1
  unfold mk_cn
  rw [mj_nth_eq]
  cases hq : mk_CN[(mk_mi y).2.2.2.1]? with
  | none => rw [List.getElem?_eq_none_iff] at hq; exact absurd (show 9 ≤ _ from hq) (by omega)
  | some q => exact mk_CNi q (List.mem_of_getElem? hq)
theorem mk_cl_cn {ci : Nat} (h : ci < 9) : ∃ q : vw_C, vwCl[ci]? = some q ∧ q.1 = mk_cn ci := by
  match ci, h with
  | 0, _ => exact ⟨_, rfl, rfl⟩
  | 1, _ => exact ⟨_, rfl, rfl⟩
  | 2, _ => exact ⟨_, rfl, rfl⟩
  | 3, _ => exact ⟨_, rfl, rfl⟩
  | 4, _ => exact ⟨_, rfl, rfl⟩
  | 5, _ => exact ⟨_, rfl, rfl⟩
  | 6, _ => exact ⟨_, rfl, rfl⟩
  | 7, _ => exact ⟨_, rfl, rfl⟩
  | 8, _ => exact ⟨_, rfl, rfl⟩
section MR
variable {p : Program} {l : Launch} {e : Env} {R : Room} {s : State} {m : MethodId} {args : Array Value} {below : List Frame} {meth : Method} {c : Code} {Q : State → Prop} {XS : (Nat → Prop) → State → Prop} {lo hi : Nat} {cA : Nat → ClassId} {ad : mk_AD} {D : va_G} {tys : List (ClassId × FieldType)} {A : Nat → Prop} {own : Nat} {bytes : ByteArray} {n : Nat} {ret : Option FieldType} {d : Nat}
variable {pc : Nat} {ls : mj_L} {st : List mj_V} {μ : mj_M}
theorem ms_run (C : mk_Cx p R s m args meth c XS lo hi cA ad D tys (mk_A lo hi ad s.heap.size) own bytes n ret (d + 1)) (hX : mk_XSc XS) {idx a b k kind : Nat} {stat : Bool} (hcc : mk_cc own idx a b k kind stat = true) (hkind : (kind = 0 ∧ stat = false) ∨ (kind = 1 ∧ stat = true) ∨ (kind = 2 ∧ stat = true ∧ (own, idx, a) ∈ mk_NL)) (hd : decode bytes pc = .ok (if stat then .invokestatic idx else .invokevirtual idx, 3))
    {as rst : List mj_V} {r : Option mj_V × mj_M} {H : Heap} {locs : List Loc} {Ls : Array Slot} (hfit : mj_fit mk_LY mk_PG a as = true) (hlen : as.length = b) (hc : mj_cat rst ≤ 8)
    (hM : Met l (mk_mi a).1 (mk_wy a) (mk_rm d) (mk_Pre XS lo hi cA ad D tys as μ H.size) (mk_Post lo hi cA ad D tys r H.size) 0 0 (mk_A lo hi ad H.size))
    (hR : mk_Rel s lo hi cA ad D (mk_A lo hi ad s.heap.size) n ls (as.reverse ++ rst) μ H locs Ls) :
    va_Run p l e R s m args below meth c H locs 0 0 0 0 (F0 m pc Ls ((as.reverse ++ rst).map (mk_ev ad))) (rst.map (mk_ev ad)) (mk_Post lo hi cA ad D tys r H.size (as.map (mk_ev ad)).toArray) (mk_A lo hi ad H.size) := by
  obtain ⟨h1, h2, h3, h4, h5, h6, h7⟩ := hR
  have hy : a < 217 := by
    unfold mj_fit at hfit
    cases hq : mj_nth mk_PG a with
    | none => rw [hq] at hfit; cases hfit
    | some q => exact mk_y_lt hq
  obtain ⟨c1, c2, c3, c4, c5, c6⟩ := mk_mi_c hy
  unfold mk_cc at hcc
  simp only [Bool.and_eq_true, beq_iff_eq, List.contains_iff_mem, Nat.beq_eq] at hcc
  obtain ⟨⟨⟨k1, k2⟩, k3⟩, k4⟩ := hcc
  have hcw := mk_CLw _ k1
  have hblind : FrameBlind (mk_Pre XS lo hi cA ad D tys as μ H.size) := by
    intro a' U g mk q
    obtain ⟨q0, q1, q2, q3, q4, q5⟩ := q
    exact ⟨q0, q1, q2, va_K.moved (u := U) (U := U.calling g mk a') (Vm.Alike.refl U.vm) q3, q4, mk_Ext_mv (u := U) (U := U.calling g mk a') hX (State.WarmedH.refl U) (fun _ _ _ => rfl) (fun _ h => h) q5⟩
  have hpre : ∀ U : State, U.heap = H → s.WarmedH U.vm → mk_Pre XS lo hi cA ad D tys as μ H.size (as.map (mk_ev ad)).toArray U := by
    intro U hU hW
    refine ⟨rfl, by rw [hU], by rw [hU]; exact h5, va_K.moved hW.alike C.2.2.2.2.2.2.2.1, mk_D_A h6, ?_⟩
    exact mk_Ext_mv hX hW (fun a' ha hn => by rw [hU]; exact h7.2.1 a' ha hn) (mk_A_le h7.1) C.2.2.2.2.2.2.2.2.2.1
  have hst : (as.reverse ++ rst).map (mk_ev ad) = (as.map (mk_ev ad)).reverse ++ rst.map (mk_ev ad) := by rw [List.map_append, List.map_reverse]
  have hroom : (mk_rm d).frames + 1 ≤ R.frames ∧ 8 + ((mk_mi a).2.2.2.2.1 + 11) + (mk_rm d).locals ≤ R.locals := by
    obtain ⟨r1, r2⟩ := C.2.2.2.2.2.2.2.2.2.2.2.2.2
    unfold mk_rm
    dsimp only
    omega
  have hcat : 2 * (F0 m pc Ls ((as.reverse ++ rst).map (mk_ev ad))).monitorRoom + ((rst.map (mk_ev ad)).map fun v => v.category).sum ≤ 8 := lv_room (by rw [mk_cats]; exact hc)
  have hfx : CallFix p m c bytes n s args mk_tb (mk_cn own) := ⟨C.1, C.2.1, C.2.2.2.1, C.2.2.2.2.1, C.2.2.2.2.2.1⟩
  rcases hkind with ⟨rfl, rfl⟩ | ⟨rfl, rfl⟩ | ⟨rfl, rfl, hnl⟩
  · -- of an object
    rw [k3] at c1
    have hrc : ∃ s' i as', as = .inr (.inr (s', i)) :: as' ∧ ∃ cn sl, mj_srt mk_LY s' = (0, (mk_mi a).2.2.2.1, cn, sl) := by
      unfold mj_fit at hfit
      have hok := mk_okall hy
      unfold mk_ckm at hok
      cases hq : mj_nth mk_PG a with
      | none => rw [hq] at hfit; cases hfit
      | some q =>
        obtain ⟨n', rc, bs⟩ := q
        rw [hq] at hfit hok
        simp only [Bool.and_eq_true, Nat.beq_eq, k3] at hok
        have hrc := hok.1.1.2
        subst hrc
        dsimp only at hfit
        split at hfit
        · unfold mj_rcv at hfit
          dsimp only at hfit
          split at hfit
          · rename_i s' i as'
            refine ⟨_, _, _, rfl, ?_⟩
            split at hfit
            · rename_i ci cn sl e
              have := Nat.eq_of_beq_eq_true hfit
              subst this
              exact ⟨_, _, e⟩
            · cases hfit
          · cases hfit
        · cases hfit
    obtain ⟨s', i, as', rfl, cn, sl, es⟩ := hrc
    have hr := h3 (.inr (.inr (s', i))) (List.mem_append_left _ (List.mem_reverse.mpr List.mem_cons_self))
    obtain ⟨g1, g2, g3⟩ := mk_vr_in hr (by rw [es]; exact Nat.zero_lt_succ 3)
    obtain ⟨j, hj⟩ := mk_cell_at g1 g2 g3
    have hat := mk_ws_at (cA := cA) (ad := ad) (μ := μ) hj
    have hen : mk_en cA ad μ s' i = .inr ((mk_mi a).2.2.2.1, mk_fs ad μ s' i 0 sl) := by simp only [mk_en, es]
    rw [hen] at hat
    obtain ⟨qc, hqc, hqn⟩ := mk_cl_cn c4
    have hrecv := va_recv C.2.2.2.2.2.2.2.1 h5 hqc hat
    rw [hqn, ← c3] at hrecv
    have hL : (as'.map (mk_ev ad)).length = b - 1 := by rw [List.length_map]; rw [List.length_cons] at hlen; omega
    refine va_runV (bytes := (mk_mi a).2.1) (maxL := (mk_mi a).2.2.2.2.1) (ret := (mk_mi a).2.2.1) (As := as'.map (mk_ev ad)) (b := ad s' i) (C := (mk_mi a).1.cls) (n := b - 1) hfx hM ?_ ⟨hblind, hrecv, hpre⟩ rfl hL h1.1.1 ?_ hcat hd ⟨Nat.zero_le _, Nat.zero_le _⟩
    · refine cwV (ws' := mk_tb) (b - 1) C.2.2.2.2.2.1 (mk_gin ?_) rfl rfl rfl ⟨rfl, c2.1, c2.2, by rw [c1, k2]⟩ hroom
      intro w hw
      unfold wsV at hw
      rcases List.mem_append.mp hw with hw | hw
      · rcases List.mem_cons.mp hw with rfl | hw
        · exact hcw _ List.mem_cons_self
        rcases List.mem_cons.mp hw with rfl | hw
        · exact hcw _ (List.mem_cons_of_mem _ List.mem_cons_self)
        rcases List.mem_cons.mp hw with rfl | hw
        · exact hcw _ (List.mem_cons_of_mem _ (List.mem_cons_of_mem _ List.mem_cons_self))
        rcases List.mem_cons.mp hw with rfl | hw
        · exact mk_ini hy
        · cases hw
      · exact mk_wyw hy w hw
    · rw [hst]
      show ((Value.ref (ad s' i)) :: as'.map (mk_ev ad)).reverse ++ _ = _
      rw [List.reverse_cons, List.append_assoc]
      rfl
  · -- static
    rw [k3] at c1
    have hL : (as.map (mk_ev ad)).length = b := by rw [List.length_map]; exact hlen
    refine va_runS (bytes := (mk_mi a).2.1) (maxL := (mk_mi a).2.2.2.2.1) (ret := (mk_mi a).2.2.1) (As := as.map (mk_ev ad)) (n := b) hfx hM ?_ ⟨hblind, hpre⟩ rfl hL h1.1.1 ?_ hcat hd ⟨Nat.zero_le _, Nat.zero_le _⟩
    · refine va_cwS (ws' := mk_tb) b C.2.2.2.2.2.1 (mk_gin ?_) rfl rfl rfl ⟨c2.1, c2.2, by rw [c1, k2]⟩ hroom
      intro w hw
      unfold va_wsS at hw
      rcases List.mem_append.mp hw with hw | hw
      · rcases List.mem_cons.mp hw with rfl | hw
        · exact hcw _ List.mem_cons_self
        rcases List.mem_cons.mp hw with rfl | hw
        · exact hcw _ (List.mem_cons_of_mem _ List.mem_cons_self)
        rcases List.mem_cons.mp hw with rfl | hw
        · exact mk_ini hy
        · cases hw
      · exact mk_wyw hy w hw
    · rw [hst]
  · -- static, of a nest mate
    rw [k3] at c1
    have hL : (as.map (mk_ev ad)).length = b := by rw [List.length_map]; exact hlen
    refine va_runSN (bytes := (mk_mi a).2.1) (maxL := (mk_mi a).2.2.2.2.1) (ret := (mk_mi a).2.2.1) (As := as.map (mk_ev ad)) (n := b) (host := RX7) hfx hM ⟨?_, C.2.2.2.2.2.1 _ (hcw _ List.mem_cons_self), trivial⟩ ⟨hblind, hpre⟩ rfl hL h1.1.1 ?_ hcat hd ⟨Nat.zero_le _, Nat.zero_le _⟩
    · exact va_cnB (ws' := mk_tb) b C.2.2.2.2.2.1 (mk_gin (mk_wyw hy)) rfl rfl rfl (C.2.2.2.2.2.2.2.2.2.1.1 _ hnl) (C.2.2.2.2.2.1 _ (mk_ini hy)) ⟨c2.1, c2.2, by rw [c1, k2]⟩ hroom
    · rw [hst]
end MR
end
