section
-- ===== PART A: goes FIRST, ahead of the names: the tables' words, and 'selects' of the private methods out of them =====
/-- a private method of a class that the tables say can be made, by its rows of tables_1 -/
def lw_okq (q : MethodName × Nat) : Prop := (q.1.cls ≠ "java/lang/invoke/MethodHandle" ∧ q.1.cls ≠ "java/lang/invoke/VarHandle") ∧ Cond.instantiable q.1.cls q.2 ∈ tables_1 ∧ Cond.privateMethod q.1 ∈ tables_1 ∧ Cond.instanceMethod q.1 ∈ tables_1
theorem lw_p0 : lw_okq (⟨"TypewritersKnow", "isNumberOf", "(II)Z"⟩, 16) := ⟨⟨by decide +kernel, by decide +kernel⟩, List.mem_of_getElem? (i := 18) (by decide +kernel), List.mem_of_getElem? (i := 375) (by decide +kernel), List.mem_of_getElem? (i := 376) (by decide +kernel)⟩
theorem lw_p1 : lw_okq (⟨"TypewritersKnow", "valueOf", "(II)I"⟩, 16) := ⟨⟨by decide +kernel, by decide +kernel⟩, List.mem_of_getElem? (i := 18) (by decide +kernel), List.mem_of_getElem? (i := 390) (by decide +kernel), List.mem_of_getElem? (i := 391) (by decide +kernel)⟩
theorem lw_p2 : lw_okq (⟨"TypewritersKnow", "setValue", "(III)V"⟩, 16) := ⟨⟨by decide +kernel, by decide +kernel⟩, List.mem_of_getElem? (i := 18) (by decide +kernel), List.mem_of_getElem? (i := 413) (by decide +kernel), List.mem_of_getElem? (i := 414) (by decide +kernel)⟩
theorem lw_p3 : lw_okq (⟨"TypewritersKnow$Tape", "readLevel", "(II)Z"⟩, 5) := ⟨⟨by decide +kernel, by decide +kernel⟩, List.mem_of_getElem? (i := 73) (by decide +kernel), List.mem_of_getElem? (i := 445) (by decide +kernel), List.mem_of_getElem? (i := 446) (by decide +kernel)⟩
theorem lw_p4 : lw_okq (⟨"TypewritersKnow$Tape", "readOperand", "(I)Z"⟩, 5) := ⟨⟨by decide +kernel, by decide +kernel⟩, List.mem_of_getElem? (i := 73) (by decide +kernel), List.mem_of_getElem? (i := 449) (by decide +kernel), List.mem_of_getElem? (i := 450) (by decide +kernel)⟩
theorem lw_p5 : lw_okq (⟨"TypewritersKnow", "isPair", "(I)Z"⟩, 16) := ⟨⟨by decide +kernel, by decide +kernel⟩, List.mem_of_getElem? (i := 18) (by decide +kernel), List.mem_of_getElem? (i := 487) (by decide +kernel), List.mem_of_getElem? (i := 488) (by decide +kernel)⟩
theorem lw_p6 : lw_okq (⟨"TypewritersKnow", "shown", "(LTypewritersKnow$Machines;III)I"⟩, 16) := ⟨⟨by decide +kernel, by decide +kernel⟩, List.mem_of_getElem? (i := 18) (by decide +kernel), List.mem_of_getElem? (i := 491) (by decide +kernel), List.mem_of_getElem? (i := 492) (by decide +kernel)⟩
theorem lw_p7 : lw_okq (⟨"TypewritersKnow", "gripOf", "(LTypewritersKnow$Machines;III)I"⟩, 16) := ⟨⟨by decide +kernel, by decide +kernel⟩, List.mem_of_getElem? (i := 18) (by decide +kernel), List.mem_of_getElem? (i := 495) (by decide +kernel), List.mem_of_getElem? (i := 496) (by decide +kernel)⟩
theorem lw_p8 : lw_okq (⟨"TypewritersKnow", "rowRefusal", "(II)I"⟩, 16) := ⟨⟨by decide +kernel, by decide +kernel⟩, List.mem_of_getElem? (i := 18) (by decide +kernel), List.mem_of_getElem? (i := 524) (by decide +kernel), List.mem_of_getElem? (i := 525) (by decide +kernel)⟩
theorem lw_p9 : lw_okq (⟨"TypewritersKnow", "thinkDay", "(LTypewritersKnow$Shelf;I)I"⟩, 16) := ⟨⟨by decide +kernel, by decide +kernel⟩, List.mem_of_getElem? (i := 18) (by decide +kernel), List.mem_of_getElem? (i := 528) (by decide +kernel), List.mem_of_getElem? (i := 529) (by decide +kernel)⟩
theorem lw_p10 : lw_okq (⟨"TypewritersKnow", "dayHas", "(LTypewritersKnow$Shelf;I)Z"⟩, 16) := ⟨⟨by decide +kernel, by decide +kernel⟩, List.mem_of_getElem? (i := 18) (by decide +kernel), List.mem_of_getElem? (i := 541) (by decide +kernel), List.mem_of_getElem? (i := 542) (by decide +kernel)⟩
theorem lw_p11 : lw_okq (⟨"TypewritersKnow", "pass", "(LTypewritersKnow$Machines;II)V"⟩, 16) := ⟨⟨by decide +kernel, by decide +kernel⟩, List.mem_of_getElem? (i := 18) (by decide +kernel), List.mem_of_getElem? (i := 545) (by decide +kernel), List.mem_of_getElem? (i := 546) (by decide +kernel)⟩
theorem lw_p12 : lw_okq (⟨"TypewritersKnow", "shownCode", "(LTypewritersKnow$Machines;II)I"⟩, 16) := ⟨⟨by decide +kernel, by decide +kernel⟩, List.mem_of_getElem? (i := 18) (by decide +kernel), List.mem_of_getElem? (i := 556) (by decide +kernel), List.mem_of_getElem? (i := 557) (by decide +kernel)⟩
theorem lw_p13 : lw_okq (⟨"TypewritersKnow", "playRound", "(LTypewritersKnow$Shelf;)Z"⟩, 16) := ⟨⟨by decide +kernel, by decide +kernel⟩, List.mem_of_getElem? (i := 18) (by decide +kernel), List.mem_of_getElem? (i := 567) (by decide +kernel), List.mem_of_getElem? (i := 568) (by decide +kernel)⟩
theorem lw_p14 : lw_okq (⟨"TypewritersKnow", "apart", "(LTypewritersKnow$Machines;II)I"⟩, 16) := ⟨⟨by decide +kernel, by decide +kernel⟩, List.mem_of_getElem? (i := 18) (by decide +kernel), List.mem_of_getElem? (i := 583) (by decide +kernel), List.mem_of_getElem? (i := 584) (by decide +kernel)⟩
theorem lw_p15 : lw_okq (⟨"TypewritersKnow", "nearestMachine", "(I)I"⟩, 16) := ⟨⟨by decide +kernel, by decide +kernel⟩, List.mem_of_getElem? (i := 18) (by decide +kernel), List.mem_of_getElem? (i := 591) (by decide +kernel), List.mem_of_getElem? (i := 592) (by decide +kernel)⟩
def lw_privs_1 : List (MethodName × Nat) := [(⟨"TypewritersKnow", "isNumberOf", "(II)Z"⟩, 16), (⟨"TypewritersKnow", "valueOf", "(II)I"⟩, 16), (⟨"TypewritersKnow", "setValue", "(III)V"⟩, 16), (⟨"TypewritersKnow$Tape", "readLevel", "(II)Z"⟩, 5), (⟨"TypewritersKnow$Tape", "readOperand", "(I)Z"⟩, 5), (⟨"TypewritersKnow", "isPair", "(I)Z"⟩, 16), (⟨"TypewritersKnow", "shown", "(LTypewritersKnow$Machines;III)I"⟩, 16), (⟨"TypewritersKnow", "gripOf", "(LTypewritersKnow$Machines;III)I"⟩, 16), (⟨"TypewritersKnow", "rowRefusal", "(II)I"⟩, 16), (⟨"TypewritersKnow", "thinkDay", "(LTypewritersKnow$Shelf;I)I"⟩, 16), (⟨"TypewritersKnow", "dayHas", "(LTypewritersKnow$Shelf;I)Z"⟩, 16), (⟨"TypewritersKnow", "pass", "(LTypewritersKnow$Machines;II)V"⟩, 16), (⟨"TypewritersKnow", "shownCode", "(LTypewritersKnow$Machines;II)I"⟩, 16), (⟨"TypewritersKnow", "playRound", "(LTypewritersKnow$Shelf;)Z"⟩, 16), (⟨"TypewritersKnow", "apart", "(LTypewritersKnow$Machines;II)I"⟩, 16), (⟨"TypewritersKnow", "nearestMachine", "(I)I"⟩, 16)]
theorem lw_r1 : ∀ q ∈ lw_privs_1, lw_okq q := List.forall_mem_cons.mpr ⟨lw_p0, List.forall_mem_cons.mpr ⟨lw_p1, List.forall_mem_cons.mpr ⟨lw_p2, List.forall_mem_cons.mpr ⟨lw_p3, List.forall_mem_cons.mpr ⟨lw_p4, List.forall_mem_cons.mpr ⟨lw_p5, List.forall_mem_cons.mpr ⟨lw_p6, List.forall_mem_cons.mpr ⟨lw_p7, List.forall_mem_cons.mpr ⟨lw_p8, List.forall_mem_cons.mpr ⟨lw_p9, List.forall_mem_cons.mpr ⟨lw_p10, List.forall_mem_cons.mpr ⟨lw_p11, List.forall_mem_cons.mpr ⟨lw_p12, List.forall_mem_cons.mpr ⟨lw_p13, List.forall_mem_cons.mpr ⟨lw_p14, List.forall_mem_cons.mpr ⟨lw_p15, fun _ h => absurd h List.not_mem_nil⟩⟩⟩⟩⟩⟩⟩⟩⟩⟩⟩⟩⟩⟩⟩⟩
theorem lw_p16 : lw_okq (⟨"TypewritersKnow", "nearestWriter", "(I)I"⟩, 16) := ⟨⟨by decide +kernel, by decide +kernel⟩, List.mem_of_getElem? (i := 18) (by decide +kernel), List.mem_of_getElem? (i := 595) (by decide +kernel), List.mem_of_getElem? (i := 596) (by decide +kernel)⟩
theorem lw_p17 : lw_okq (⟨"TypewritersKnow", "fillGivenRest", "()V"⟩, 16) := ⟨⟨by decide +kernel, by decide +kernel⟩, List.mem_of_getElem? (i := 18) (by decide +kernel), List.mem_of_getElem? (i := 603) (by decide +kernel), List.mem_of_getElem? (i := 604) (by decide +kernel)⟩
theorem lw_p18 : lw_okq (⟨"TypewritersKnow", "givenTo", "(II)I"⟩, 16) := ⟨⟨by decide +kernel, by decide +kernel⟩, List.mem_of_getElem? (i := 18) (by decide +kernel), List.mem_of_getElem? (i := 613) (by decide +kernel), List.mem_of_getElem? (i := 614) (by decide +kernel)⟩
theorem lw_p19 : lw_okq (⟨"TypewritersKnow", "writersFor", "(LTypewritersKnow$Shelf;I)I"⟩, 16) := ⟨⟨by decide +kernel, by decide +kernel⟩, List.mem_of_getElem? (i := 18) (by decide +kernel), List.mem_of_getElem? (i := 658) (by decide +kernel), List.mem_of_getElem? (i := 659) (by decide +kernel)⟩
theorem lw_p20 : lw_okq (⟨"TypewritersKnow", "fits", "(LTypewritersKnow$Shelf;LTypewritersKnow$Machines;II)Z"⟩, 16) := ⟨⟨by decide +kernel, by decide +kernel⟩, List.mem_of_getElem? (i := 18) (by decide +kernel), List.mem_of_getElem? (i := 662) (by decide +kernel), List.mem_of_getElem? (i := 663) (by decide +kernel)⟩
theorem lw_p21 : lw_okq (⟨"TypewritersKnow", "firstWrong", "(LTypewritersKnow$Shelf;III)I"⟩, 16) := ⟨⟨by decide +kernel, by decide +kernel⟩, List.mem_of_getElem? (i := 18) (by decide +kernel), List.mem_of_getElem? (i := 686) (by decide +kernel), List.mem_of_getElem? (i := 687) (by decide +kernel)⟩
theorem lw_p22 : lw_okq (⟨"TypewritersKnow", "pence", "(I)I"⟩, 16) := ⟨⟨by decide +kernel, by decide +kernel⟩, List.mem_of_getElem? (i := 18) (by decide +kernel), List.mem_of_getElem? (i := 720) (by decide +kernel), List.mem_of_getElem? (i := 721) (by decide +kernel)⟩
theorem lw_p23 : lw_okq (⟨"TypewritersKnow", "penceOf", "(I)I"⟩, 16) := ⟨⟨by decide +kernel, by decide +kernel⟩, List.mem_of_getElem? (i := 18) (by decide +kernel), List.mem_of_getElem? (i := 728) (by decide +kernel), List.mem_of_getElem? (i := 729) (by decide +kernel)⟩
theorem lw_p24 : lw_okq (⟨"TypewritersKnow", "allApart", "(LTypewritersKnow$Machines;)I"⟩, 16) := ⟨⟨by decide +kernel, by decide +kernel⟩, List.mem_of_getElem? (i := 18) (by decide +kernel), List.mem_of_getElem? (i := 737) (by decide +kernel), List.mem_of_getElem? (i := 738) (by decide +kernel)⟩
theorem lw_p25 : lw_okq (⟨"TypewritersKnow$Ghosts", "perform", "(IIIII)I"⟩, 4) := ⟨⟨by decide +kernel, by decide +kernel⟩, List.mem_of_getElem? (i := 176) (by decide +kernel), List.mem_of_getElem? (i := 819) (by decide +kernel), List.mem_of_getElem? (i := 820) (by decide +kernel)⟩
theorem lw_p26 : lw_okq (⟨"TypewritersKnow$Ghosts", "runGhost", "(IIII)I"⟩, 4) := ⟨⟨by decide +kernel, by decide +kernel⟩, List.mem_of_getElem? (i := 176) (by decide +kernel), List.mem_of_getElem? (i := 831) (by decide +kernel), List.mem_of_getElem? (i := 832) (by decide +kernel)⟩
theorem lw_p27 : lw_okq (⟨"TypewritersKnow$Ghosts", "own", "(IIII)I"⟩, 4) := ⟨⟨by decide +kernel, by decide +kernel⟩, List.mem_of_getElem? (i := 176) (by decide +kernel), List.mem_of_getElem? (i := 835) (by decide +kernel), List.mem_of_getElem? (i := 836) (by decide +kernel)⟩
theorem lw_p28 : lw_okq (⟨"TypewritersKnow$Ghosts", "runUnder", "(IIIII)I"⟩, 4) := ⟨⟨by decide +kernel, by decide +kernel⟩, List.mem_of_getElem? (i := 176) (by decide +kernel), List.mem_of_getElem? (i := 840) (by decide +kernel), List.mem_of_getElem? (i := 841) (by decide +kernel)⟩
theorem lw_p29 : lw_okq (⟨"TypewritersKnow", "cellRefusal", "(II)I"⟩, 16) := ⟨⟨by decide +kernel, by decide +kernel⟩, List.mem_of_getElem? (i := 18) (by decide +kernel), List.mem_of_getElem? (i := 871) (by decide +kernel), List.mem_of_getElem? (i := 872) (by decide +kernel)⟩
theorem lw_p30 : lw_okq (⟨"TypewritersKnowModel", "addsMachine", "(III)V"⟩, 43) := ⟨⟨by decide +kernel, by decide +kernel⟩, List.mem_of_getElem? (i := 904) (by decide +kernel), List.mem_of_getElem? (i := 1052) (by decide +kernel), List.mem_of_getElem? (i := 1053) (by decide +kernel)⟩
theorem lw_p31 : lw_okq (⟨"TypewritersKnowModel", "placeOf", "(II)I"⟩, 43) := ⟨⟨by decide +kernel, by decide +kernel⟩, List.mem_of_getElem? (i := 904) (by decide +kernel), List.mem_of_getElem? (i := 1084) (by decide +kernel), List.mem_of_getElem? (i := 1085) (by decide +kernel)⟩
def lw_privs_2 : List (MethodName × Nat) := [(⟨"TypewritersKnow", "nearestWriter", "(I)I"⟩, 16), (⟨"TypewritersKnow", "fillGivenRest", "()V"⟩, 16), (⟨"TypewritersKnow", "givenTo", "(II)I"⟩, 16), (⟨"TypewritersKnow", "writersFor", "(LTypewritersKnow$Shelf;I)I"⟩, 16), (⟨"TypewritersKnow", "fits", "(LTypewritersKnow$Shelf;LTypewritersKnow$Machines;II)Z"⟩, 16), (⟨"TypewritersKnow", "firstWrong", "(LTypewritersKnow$Shelf;III)I"⟩, 16), (⟨"TypewritersKnow", "pence", "(I)I"⟩, 16), (⟨"TypewritersKnow", "penceOf", "(I)I"⟩, 16), (⟨"TypewritersKnow", "allApart", "(LTypewritersKnow$Machines;)I"⟩, 16), (⟨"TypewritersKnow$Ghosts", "perform", "(IIIII)I"⟩, 4), (⟨"TypewritersKnow$Ghosts", "runGhost", "(IIII)I"⟩, 4), (⟨"TypewritersKnow$Ghosts", "own", "(IIII)I"⟩, 4), (⟨"TypewritersKnow$Ghosts", "runUnder", "(IIIII)I"⟩, 4), (⟨"TypewritersKnow", "cellRefusal", "(II)I"⟩, 16), (⟨"TypewritersKnowModel", "addsMachine", "(III)V"⟩, 43), (⟨"TypewritersKnowModel", "placeOf", "(II)I"⟩, 43)]
theorem lw_r2 : ∀ q ∈ lw_privs_2, lw_okq q := List.forall_mem_cons.mpr ⟨lw_p16, List.forall_mem_cons.mpr ⟨lw_p17, List.forall_mem_cons.mpr ⟨lw_p18, List.forall_mem_cons.mpr ⟨lw_p19, List.forall_mem_cons.mpr ⟨lw_p20, List.forall_mem_cons.mpr ⟨lw_p21, List.forall_mem_cons.mpr ⟨lw_p22, List.forall_mem_cons.mpr ⟨lw_p23, List.forall_mem_cons.mpr ⟨lw_p24, List.forall_mem_cons.mpr ⟨lw_p25, List.forall_mem_cons.mpr ⟨lw_p26, List.forall_mem_cons.mpr ⟨lw_p27, List.forall_mem_cons.mpr ⟨lw_p28, List.forall_mem_cons.mpr ⟨lw_p29, List.forall_mem_cons.mpr ⟨lw_p30, List.forall_mem_cons.mpr ⟨lw_p31, fun _ h => absurd h List.not_mem_nil⟩⟩⟩⟩⟩⟩⟩⟩⟩⟩⟩⟩⟩⟩⟩⟩
theorem lw_p32 : lw_okq (⟨"TypewritersKnowModel", "isMachine", "(J)Z"⟩, 43) := ⟨⟨by decide +kernel, by decide +kernel⟩, List.mem_of_getElem? (i := 904) (by decide +kernel), List.mem_of_getElem? (i := 1089) (by decide +kernel), List.mem_of_getElem? (i := 1090) (by decide +kernel)⟩
theorem lw_p33 : lw_okq (⟨"TypewritersKnowModel", "isWriter", "(J)Z"⟩, 43) := ⟨⟨by decide +kernel, by decide +kernel⟩, List.mem_of_getElem? (i := 904) (by decide +kernel), List.mem_of_getElem? (i := 1095) (by decide +kernel), List.mem_of_getElem? (i := 1096) (by decide +kernel)⟩
theorem lw_p34 : lw_okq (⟨"TypewritersKnowModel", "becomes", "(II)I"⟩, 43) := ⟨⟨by decide +kernel, by decide +kernel⟩, List.mem_of_getElem? (i := 904) (by decide +kernel), List.mem_of_getElem? (i := 1099) (by decide +kernel), List.mem_of_getElem? (i := 1100) (by decide +kernel)⟩
theorem lw_p35 : lw_okq (⟨"TypewritersKnowModel", "workOut", "(II)I"⟩, 43) := ⟨⟨by decide +kernel, by decide +kernel⟩, List.mem_of_getElem? (i := 904) (by decide +kernel), List.mem_of_getElem? (i := 1116) (by decide +kernel), List.mem_of_getElem? (i := 1117) (by decide +kernel)⟩
theorem lw_p36 : lw_okq (⟨"TypewritersKnowModel", "either", "()I"⟩, 43) := ⟨⟨by decide +kernel, by decide +kernel⟩, List.mem_of_getElem? (i := 904) (by decide +kernel), List.mem_of_getElem? (i := 1120) (by decide +kernel), List.mem_of_getElem? (i := 1121) (by decide +kernel)⟩
theorem lw_p37 : lw_okq (⟨"TypewritersKnowModel", "both", "()I"⟩, 43) := ⟨⟨by decide +kernel, by decide +kernel⟩, List.mem_of_getElem? (i := 904) (by decide +kernel), List.mem_of_getElem? (i := 1124) (by decide +kernel), List.mem_of_getElem? (i := 1125) (by decide +kernel)⟩
theorem lw_p38 : lw_okq (⟨"TypewritersKnowModel", "compared", "()I"⟩, 43) := ⟨⟨by decide +kernel, by decide +kernel⟩, List.mem_of_getElem? (i := 904) (by decide +kernel), List.mem_of_getElem? (i := 1128) (by decide +kernel), List.mem_of_getElem? (i := 1129) (by decide +kernel)⟩
theorem lw_p39 : lw_okq (⟨"TypewritersKnowModel", "sums", "()I"⟩, 43) := ⟨⟨by decide +kernel, by decide +kernel⟩, List.mem_of_getElem? (i := 904) (by decide +kernel), List.mem_of_getElem? (i := 1132) (by decide +kernel), List.mem_of_getElem? (i := 1133) (by decide +kernel)⟩
theorem lw_p40 : lw_okq (⟨"TypewritersKnowModel", "product", "()I"⟩, 43) := ⟨⟨by decide +kernel, by decide +kernel⟩, List.mem_of_getElem? (i := 904) (by decide +kernel), List.mem_of_getElem? (i := 1136) (by decide +kernel), List.mem_of_getElem? (i := 1137) (by decide +kernel)⟩
theorem lw_p41 : lw_okq (⟨"TypewritersKnowModel", "one", "()I"⟩, 43) := ⟨⟨by decide +kernel, by decide +kernel⟩, List.mem_of_getElem? (i := 904) (by decide +kernel), List.mem_of_getElem? (i := 1140) (by decide +kernel), List.mem_of_getElem? (i := 1141) (by decide +kernel)⟩
theorem lw_p42 : lw_okq (⟨"TypewritersKnowModel", "byteAt", "()I"⟩, 43) := ⟨⟨by decide +kernel, by decide +kernel⟩, List.mem_of_getElem? (i := 904) (by decide +kernel), List.mem_of_getElem? (i := 1144) (by decide +kernel), List.mem_of_getElem? (i := 1145) (by decide +kernel)⟩
theorem lw_p43 : lw_okq (⟨"TypewritersKnowModel", "wrong", "()I"⟩, 43) := ⟨⟨by decide +kernel, by decide +kernel⟩, List.mem_of_getElem? (i := 904) (by decide +kernel), List.mem_of_getElem? (i := 1148) (by decide +kernel), List.mem_of_getElem? (i := 1149) (by decide +kernel)⟩
theorem lw_p44 : lw_okq (⟨"TypewritersKnowModel", "takes", "(I)Z"⟩, 43) := ⟨⟨by decide +kernel, by decide +kernel⟩, List.mem_of_getElem? (i := 904) (by decide +kernel), List.mem_of_getElem? (i := 1152) (by decide +kernel), List.mem_of_getElem? (i := 1153) (by decide +kernel)⟩
theorem lw_p45 : lw_okq (⟨"TypewritersKnowModel", "isWm", "(I)Z"⟩, 43) := ⟨⟨by decide +kernel, by decide +kernel⟩, List.mem_of_getElem? (i := 904) (by decide +kernel), List.mem_of_getElem? (i := 1163) (by decide +kernel), List.mem_of_getElem? (i := 1164) (by decide +kernel)⟩
theorem lw_p46 : lw_okq (⟨"TypewritersKnowModel", "begins", "()V"⟩, 43) := ⟨⟨by decide +kernel, by decide +kernel⟩, List.mem_of_getElem? (i := 904) (by decide +kernel), List.mem_of_getElem? (i := 1167) (by decide +kernel), List.mem_of_getElem? (i := 1168) (by decide +kernel)⟩
theorem lw_p47 : lw_okq (⟨"TypewritersKnowModel", "showsOf", "(III)I"⟩, 43) := ⟨⟨by decide +kernel, by decide +kernel⟩, List.mem_of_getElem? (i := 904) (by decide +kernel), List.mem_of_getElem? (i := 1171) (by decide +kernel), List.mem_of_getElem? (i := 1172) (by decide +kernel)⟩
def lw_privs_3 : List (MethodName × Nat) := [(⟨"TypewritersKnowModel", "isMachine", "(J)Z"⟩, 43), (⟨"TypewritersKnowModel", "isWriter", "(J)Z"⟩, 43), (⟨"TypewritersKnowModel", "becomes", "(II)I"⟩, 43), (⟨"TypewritersKnowModel", "workOut", "(II)I"⟩, 43), (⟨"TypewritersKnowModel", "either", "()I"⟩, 43), (⟨"TypewritersKnowModel", "both", "()I"⟩, 43), (⟨"TypewritersKnowModel", "compared", "()I"⟩, 43), (⟨"TypewritersKnowModel", "sums", "()I"⟩, 43), (⟨"TypewritersKnowModel", "product", "()I"⟩, 43), (⟨"TypewritersKnowModel", "one", "()I"⟩, 43), (⟨"TypewritersKnowModel", "byteAt", "()I"⟩, 43), (⟨"TypewritersKnowModel", "wrong", "()I"⟩, 43), (⟨"TypewritersKnowModel", "takes", "(I)Z"⟩, 43), (⟨"TypewritersKnowModel", "isWm", "(I)Z"⟩, 43), (⟨"TypewritersKnowModel", "begins", "()V"⟩, 43), (⟨"TypewritersKnowModel", "showsOf", "(III)I"⟩, 43)]
theorem lw_r3 : ∀ q ∈ lw_privs_3, lw_okq q := List.forall_mem_cons.mpr ⟨lw_p32, List.forall_mem_cons.mpr ⟨lw_p33, List.forall_mem_cons.mpr ⟨lw_p34, List.forall_mem_cons.mpr ⟨lw_p35, List.forall_mem_cons.mpr ⟨lw_p36, List.forall_mem_cons.mpr ⟨lw_p37, List.forall_mem_cons.mpr ⟨lw_p38, List.forall_mem_cons.mpr ⟨lw_p39, List.forall_mem_cons.mpr ⟨lw_p40, List.forall_mem_cons.mpr ⟨lw_p41, List.forall_mem_cons.mpr ⟨lw_p42, List.forall_mem_cons.mpr ⟨lw_p43, List.forall_mem_cons.mpr ⟨lw_p44, List.forall_mem_cons.mpr ⟨lw_p45, List.forall_mem_cons.mpr ⟨lw_p46, List.forall_mem_cons.mpr ⟨lw_p47, fun _ h => absurd h List.not_mem_nil⟩⟩⟩⟩⟩⟩⟩⟩⟩⟩⟩⟩⟩⟩⟩⟩
theorem lw_p48 : lw_okq (⟨"TypewritersKnowModel", "gripOf", "(III)I"⟩, 43) := ⟨⟨by decide +kernel, by decide +kernel⟩, List.mem_of_getElem? (i := 904) (by decide +kernel), List.mem_of_getElem? (i := 1175) (by decide +kernel), List.mem_of_getElem? (i := 1176) (by decide +kernel)⟩
theorem lw_p49 : lw_okq (⟨"TypewritersKnowModel", "handOf", "(II)I"⟩, 43) := ⟨⟨by decide +kernel, by decide +kernel⟩, List.mem_of_getElem? (i := 904) (by decide +kernel), List.mem_of_getElem? (i := 1179) (by decide +kernel), List.mem_of_getElem? (i := 1180) (by decide +kernel)⟩
theorem lw_p50 : lw_okq (⟨"TypewritersKnowModel", "rowIs", "(II)I"⟩, 43) := ⟨⟨by decide +kernel, by decide +kernel⟩, List.mem_of_getElem? (i := 904) (by decide +kernel), List.mem_of_getElem? (i := 1190) (by decide +kernel), List.mem_of_getElem? (i := 1191) (by decide +kernel)⟩
theorem lw_p51 : lw_okq (⟨"TypewritersKnowModel", "typesDay", "(II)V"⟩, 43) := ⟨⟨by decide +kernel, by decide +kernel⟩, List.mem_of_getElem? (i := 904) (by decide +kernel), List.mem_of_getElem? (i := 1196) (by decide +kernel), List.mem_of_getElem? (i := 1197) (by decide +kernel)⟩
theorem lw_p52 : lw_okq (⟨"TypewritersKnowModel", "lettersIn", "(I)I"⟩, 43) := ⟨⟨by decide +kernel, by decide +kernel⟩, List.mem_of_getElem? (i := 904) (by decide +kernel), List.mem_of_getElem? (i := 1200) (by decide +kernel), List.mem_of_getElem? (i := 1201) (by decide +kernel)⟩
theorem lw_p53 : lw_okq (⟨"TypewritersKnowModel", "typesOn", "(II)V"⟩, 43) := ⟨⟨by decide +kernel, by decide +kernel⟩, List.mem_of_getElem? (i := 904) (by decide +kernel), List.mem_of_getElem? (i := 1204) (by decide +kernel), List.mem_of_getElem? (i := 1205) (by decide +kernel)⟩
theorem lw_p54 : lw_okq (⟨"TypewritersKnowModel", "codeOf", "(II)I"⟩, 43) := ⟨⟨by decide +kernel, by decide +kernel⟩, List.mem_of_getElem? (i := 904) (by decide +kernel), List.mem_of_getElem? (i := 1215) (by decide +kernel), List.mem_of_getElem? (i := 1216) (by decide +kernel)⟩
theorem lw_p55 : lw_okq (⟨"TypewritersKnowModel", "farOf", "(II)I"⟩, 43) := ⟨⟨by decide +kernel, by decide +kernel⟩, List.mem_of_getElem? (i := 904) (by decide +kernel), List.mem_of_getElem? (i := 1227) (by decide +kernel), List.mem_of_getElem? (i := 1228) (by decide +kernel)⟩
theorem lw_p56 : lw_okq (⟨"TypewritersKnowModel", "codeBehind", "(II)I"⟩, 43) := ⟨⟨by decide +kernel, by decide +kernel⟩, List.mem_of_getElem? (i := 904) (by decide +kernel), List.mem_of_getElem? (i := 1248) (by decide +kernel), List.mem_of_getElem? (i := 1249) (by decide +kernel)⟩
theorem lw_p57 : lw_okq (⟨"TypewritersKnowModel", "isSheet", "(III)Z"⟩, 43) := ⟨⟨by decide +kernel, by decide +kernel⟩, List.mem_of_getElem? (i := 904) (by decide +kernel), List.mem_of_getElem? (i := 1256) (by decide +kernel), List.mem_of_getElem? (i := 1257) (by decide +kernel)⟩
theorem lw_p58 : lw_okq (⟨"TypewritersKnowModel", "firstFalse", "(III)I"⟩, 43) := ⟨⟨by decide +kernel, by decide +kernel⟩, List.mem_of_getElem? (i := 904) (by decide +kernel), List.mem_of_getElem? (i := 1276) (by decide +kernel), List.mem_of_getElem? (i := 1277) (by decide +kernel)⟩
theorem lw_p59 : lw_okq (⟨"TypewritersKnowModel", "sleeps", "()V"⟩, 43) := ⟨⟨by decide +kernel, by decide +kernel⟩, List.mem_of_getElem? (i := 904) (by decide +kernel), List.mem_of_getElem? (i := 1293) (by decide +kernel), List.mem_of_getElem? (i := 1294) (by decide +kernel)⟩
theorem lw_p60 : lw_okq (⟨"TypewritersKnowModel", "priceOf", "(I)I"⟩, 43) := ⟨⟨by decide +kernel, by decide +kernel⟩, List.mem_of_getElem? (i := 904) (by decide +kernel), List.mem_of_getElem? (i := 1305) (by decide +kernel), List.mem_of_getElem? (i := 1306) (by decide +kernel)⟩
theorem lw_p61 : lw_okq (⟨"TypewritersKnowModel", "isBody", "(I)Z"⟩, 43) := ⟨⟨by decide +kernel, by decide +kernel⟩, List.mem_of_getElem? (i := 904) (by decide +kernel), List.mem_of_getElem? (i := 1355) (by decide +kernel), List.mem_of_getElem? (i := 1356) (by decide +kernel)⟩
theorem lw_p62 : lw_okq (⟨"TypewritersKnowModel", "typesAs", "(II)I"⟩, 43) := ⟨⟨by decide +kernel, by decide +kernel⟩, List.mem_of_getElem? (i := 904) (by decide +kernel), List.mem_of_getElem? (i := 1359) (by decide +kernel), List.mem_of_getElem? (i := 1360) (by decide +kernel)⟩
theorem lw_p63 : lw_okq (⟨"TypewritersKnowModel", "runs", "(I)V"⟩, 43) := ⟨⟨by decide +kernel, by decide +kernel⟩, List.mem_of_getElem? (i := 904) (by decide +kernel), List.mem_of_getElem? (i := 1363) (by decide +kernel), List.mem_of_getElem? (i := 1364) (by decide +kernel)⟩
def lw_privs_4 : List (MethodName × Nat) := [(⟨"TypewritersKnowModel", "gripOf", "(III)I"⟩, 43), (⟨"TypewritersKnowModel", "handOf", "(II)I"⟩, 43), (⟨"TypewritersKnowModel", "rowIs", "(II)I"⟩, 43), (⟨"TypewritersKnowModel", "typesDay", "(II)V"⟩, 43), (⟨"TypewritersKnowModel", "lettersIn", "(I)I"⟩, 43), (⟨"TypewritersKnowModel", "typesOn", "(II)V"⟩, 43), (⟨"TypewritersKnowModel", "codeOf", "(II)I"⟩, 43), (⟨"TypewritersKnowModel", "farOf", "(II)I"⟩, 43), (⟨"TypewritersKnowModel", "codeBehind", "(II)I"⟩, 43), (⟨"TypewritersKnowModel", "isSheet", "(III)Z"⟩, 43), (⟨"TypewritersKnowModel", "firstFalse", "(III)I"⟩, 43), (⟨"TypewritersKnowModel", "sleeps", "()V"⟩, 43), (⟨"TypewritersKnowModel", "priceOf", "(I)I"⟩, 43), (⟨"TypewritersKnowModel", "isBody", "(I)Z"⟩, 43), (⟨"TypewritersKnowModel", "typesAs", "(II)I"⟩, 43), (⟨"TypewritersKnowModel", "runs", "(I)V"⟩, 43)]
theorem lw_r4 : ∀ q ∈ lw_privs_4, lw_okq q := List.forall_mem_cons.mpr ⟨lw_p48, List.forall_mem_cons.mpr ⟨lw_p49, List.forall_mem_cons.mpr ⟨lw_p50, List.forall_mem_cons.mpr ⟨lw_p51, List.forall_mem_cons.mpr ⟨lw_p52, List.forall_mem_cons.mpr ⟨lw_p53, List.forall_mem_cons.mpr ⟨lw_p54, List.forall_mem_cons.mpr ⟨lw_p55, List.forall_mem_cons.mpr ⟨lw_p56, List.forall_mem_cons.mpr ⟨lw_p57, List.forall_mem_cons.mpr ⟨lw_p58, List.forall_mem_cons.mpr ⟨lw_p59, List.forall_mem_cons.mpr ⟨lw_p60, List.forall_mem_cons.mpr ⟨lw_p61, List.forall_mem_cons.mpr ⟨lw_p62, List.forall_mem_cons.mpr ⟨lw_p63, fun _ h => absurd h List.not_mem_nil⟩⟩⟩⟩⟩⟩⟩⟩⟩⟩⟩⟩⟩⟩⟩⟩
theorem lw_p64 : lw_okq (⟨"TypewritersKnowModel", "sticksAs", "(II)I"⟩, 43) := ⟨⟨by decide +kernel, by decide +kernel⟩, List.mem_of_getElem? (i := 904) (by decide +kernel), List.mem_of_getElem? (i := 1367) (by decide +kernel), List.mem_of_getElem? (i := 1368) (by decide +kernel)⟩
theorem lw_p65 : lw_okq (⟨"TypewritersKnowModel", "ringsAs", "(II)I"⟩, 43) := ⟨⟨by decide +kernel, by decide +kernel⟩, List.mem_of_getElem? (i := 904) (by decide +kernel), List.mem_of_getElem? (i := 1371) (by decide +kernel), List.mem_of_getElem? (i := 1372) (by decide +kernel)⟩
theorem lw_p66 : lw_okq (⟨"TypewritersKnowModel", "tellsAs", "(II)I"⟩, 43) := ⟨⟨by decide +kernel, by decide +kernel⟩, List.mem_of_getElem? (i := 904) (by decide +kernel), List.mem_of_getElem? (i := 1375) (by decide +kernel), List.mem_of_getElem? (i := 1376) (by decide +kernel)⟩
theorem lw_p67 : lw_okq (⟨"TypewritersKnowModel", "refusal", "(II)I"⟩, 43) := ⟨⟨by decide +kernel, by decide +kernel⟩, List.mem_of_getElem? (i := 904) (by decide +kernel), List.mem_of_getElem? (i := 1395) (by decide +kernel), List.mem_of_getElem? (i := 1396) (by decide +kernel)⟩
theorem lw_p68 : lw_okq (⟨"TypewritersKnowModel", "kindOf", "(I)I"⟩, 43) := ⟨⟨by decide +kernel, by decide +kernel⟩, List.mem_of_getElem? (i := 904) (by decide +kernel), List.mem_of_getElem? (i := 1415) (by decide +kernel), List.mem_of_getElem? (i := 1416) (by decide +kernel)⟩
def lw_privs_5 : List (MethodName × Nat) := [(⟨"TypewritersKnowModel", "sticksAs", "(II)I"⟩, 43), (⟨"TypewritersKnowModel", "ringsAs", "(II)I"⟩, 43), (⟨"TypewritersKnowModel", "tellsAs", "(II)I"⟩, 43), (⟨"TypewritersKnowModel", "refusal", "(II)I"⟩, 43), (⟨"TypewritersKnowModel", "kindOf", "(I)I"⟩, 43)]
theorem lw_r5 : ∀ q ∈ lw_privs_5, lw_okq q := List.forall_mem_cons.mpr ⟨lw_p64, List.forall_mem_cons.mpr ⟨lw_p65, List.forall_mem_cons.mpr ⟨lw_p66, List.forall_mem_cons.mpr ⟨lw_p67, List.forall_mem_cons.mpr ⟨lw_p68, fun _ h => absurd h List.not_mem_nil⟩⟩⟩⟩⟩
def lw_privs : List (MethodName × Nat) := lw_privs_1 ++ (lw_privs_2 ++ (lw_privs_3 ++ (lw_privs_4 ++ (lw_privs_5))))
def lw_tbl : List Cond := k2_sels lw_privs ++ tables_1
theorem lw_privs_ok : ∀ q ∈ lw_privs, lw_okq q := by
  show ∀ q ∈ lw_privs_1 ++ (lw_privs_2 ++ (lw_privs_3 ++ (lw_privs_4 ++ (lw_privs_5)))), lw_okq q
  exact List.forall_mem_append.mpr ⟨lw_r1, List.forall_mem_append.mpr ⟨lw_r2, List.forall_mem_append.mpr ⟨lw_r3, List.forall_mem_append.mpr ⟨lw_r4, lw_r5⟩⟩⟩⟩
-- ===== end of PART A; then your names; then what follows =====
end
section
/-! ===== BEGIN words of one list among another's, by their places ===== -/
theorem goodIn_r {big : List Cond} (ws : List Cond) (ps : List Nat) (hp : ws = ps.filterMap (fun i => big[i]?)) (h : ws.all goodWord = true) : GoodIn big ws := by
  intro w hw
  have h1 := List.all_eq_true.mp h w hw
  rw [hp] at hw
  obtain ⟨i, -, hi⟩ := List.mem_filterMap.mp hw
  have hm : w ∈ big := by first | exact List.mem_of_getElem? hi | exact List.getElem?_mem hi
  exact ⟨hm, good_of_word h1⟩
theorem goodIn_app {big a b : List Cond} (ha : GoodIn big a) (hb : GoodIn big b) : GoodIn big (a ++ b) := fun w h => (List.mem_append.mp h).elim (ha w) (hb w)
theorem goodIn_ca {big a b : List Cond} {c : Cond} (ha : GoodIn big (c :: a)) (hb : GoodIn big b) : GoodIn big (c :: (a ++ b)) := fun w h => (List.mem_cons.mp h).elim (fun e => ha w (List.mem_cons.mpr (Or.inl e))) (fun h => (List.mem_append.mp h).elim (fun h => ha w (List.mem_cons.mpr (Or.inr h))) (hb w))
theorem goodIn_sub {big ws : List Cond} (hm : ∀ w ∈ ws, w ∈ big) (h : ws.all goodWord = true) : GoodIn big ws := fun w hw => ⟨hm w hw, good_of_word (List.all_eq_true.mp h w hw)⟩
/-! ===== END ===== -/

/-! ===== BEGIN printed: names, fields, word lists, decode rows ===== -/
def RX0 : String := "TypewritersKnow$Bringing"
def TX0 : u_T := fun k => match k with
  | 0 => ("TypewritersKnow$Bringing", "ways", "[I", true)
  | 1 => ("TypewritersKnow$Bringing", "queue", "[I", true)
  | _ => ("TypewritersKnow$Bringing", "goal", "I", false)
def tyX0 : Nat → FieldType := fun k => match k with
  | 0 => .array .int
  | 1 => .array .int
  | _ => .int
abbrev wsX00 : List Cond := u_ws RX0 TX0 3
theorem nmX0 : ∀ a, a < 3 → ∀ b, b < 3 → a ≠ b → (TX0 a).2.1 ≠ (TX0 b).2.1 := by decide +kernel
theorem tyX0_ok : ∀ k, k < 3 → parseFieldDescriptor (TX0 k).2.2.1 = some (tyX0 k) := by decide +kernel
abbrev cX0_init : ByteArray := prog_2_method_1_code
def yX0_init : MethodName := ⟨RX0, "<init>", "()V"⟩
abbrev cX0_fewest : ByteArray := prog_2_method_2_code
def yX0_fewest : MethodName := ⟨RX0, "fewest", "(IILTypewritersKnow$Writers;)I"⟩
abbrev cX0_typed : ByteArray := prog_2_method_3_code
def yX0_typed : MethodName := ⟨RX0, "typed", "(ILTypewritersKnow$Writers;I)I"⟩
abbrev cX0_wayLength : ByteArray := prog_2_method_4_code
def yX0_wayLength : MethodName := ⟨RX0, "wayLength", "(I)I"⟩
abbrev cX0_writerOfStep : ByteArray := prog_2_method_5_code
def yX0_writerOfStep : MethodName := ⟨RX0, "writerOfStep", "(II)I"⟩
def RX1 : String := "TypewritersKnow$Changes"
def TX1 : u_T := fun k => match k with
  | 0 => ("TypewritersKnow$Changes", "numbers", "[I", true)
  | 1 => ("TypewritersKnow$Changes", "whats", "[I", true)
  | 2 => ("TypewritersKnow$Changes", "olds", "[I", true)
  | 3 => ("TypewritersKnow$Changes", "news", "[I", true)
  | 4 => ("TypewritersKnow$Changes", "done", "I", false)
  | _ => ("TypewritersKnow$Changes", "kept", "I", false)
def tyX1 : Nat → FieldType := fun k => match k with
  | 0 => .array .int
  | 1 => .array .int
  | 2 => .array .int
  | 3 => .array .int
  | 4 => .int
  | _ => .int
abbrev wsX10 : List Cond := u_ws RX1 TX1 6
theorem nmX1 : ∀ a, a < 6 → ∀ b, b < 6 → a ≠ b → (TX1 a).2.1 ≠ (TX1 b).2.1 := by decide +kernel
theorem tyX1_ok : ∀ k, k < 6 → parseFieldDescriptor (TX1 k).2.2.1 = some (tyX1 k) := by decide +kernel
abbrev cX1_init : ByteArray := prog_3_method_1_code
def yX1_init : MethodName := ⟨RX1, "<init>", "()V"⟩
abbrev cX1_add : ByteArray := prog_3_method_2_code
def yX1_add : MethodName := ⟨RX1, "add", "(IIII)V"⟩
abbrev cX1_dropOldest : ByteArray := prog_3_method_3_code
def yX1_dropOldest : MethodName := ⟨RX1, "dropOldest", "()V"⟩
def RX2 : String := "TypewritersKnow$Codes"
def TX2 : u_T := fun k => match k with
  | _ => ("", "", "", false)
def tyX2 : Nat → FieldType := fun k => match k with
  | _ => .int
abbrev wsX20 : List Cond := u_ws RX2 TX2 0
theorem nmX2 : ∀ a, a < 0 → ∀ b, b < 0 → a ≠ b → (TX2 a).2.1 ≠ (TX2 b).2.1 := by decide +kernel
theorem tyX2_ok : ∀ k, k < 0 → parseFieldDescriptor (TX2 k).2.2.1 = some (tyX2 k) := by decide +kernel
abbrev cX2_isCode : ByteArray := prog_4_method_2_code
def yX2_isCode : MethodName := ⟨RX2, "isCode", "(I)Z"⟩
abbrev cX2_code : ByteArray := prog_4_method_3_code
def yX2_code : MethodName := ⟨RX2, "code", "(III)I"⟩
abbrev cX2_part : ByteArray := prog_4_method_4_code
def yX2_part : MethodName := ⟨RX2, "part", "(II)I"⟩
abbrev cX2_sum : ByteArray := prog_4_method_5_code
def yX2_sum : MethodName := ⟨RX2, "sum", "(I)I"⟩
abbrev cX2_nearer : ByteArray := prog_4_method_6_code
def yX2_nearer : MethodName := ⟨RX2, "nearer", "(II)I"⟩
def RX3 : String := "TypewritersKnow$Ghosts"
def TX3 : u_T := fun k => match k with
  | 0 => ("TypewritersKnow$Ghosts", "kinds", "[I", true)
  | 1 => ("TypewritersKnow$Ghosts", "traced", "[I", true)
  | 2 => ("TypewritersKnow$Ghosts", "size", "I", false)
  | _ => ("TypewritersKnow$Ghosts", "ran", "I", false)
def tyX3 : Nat → FieldType := fun k => match k with
  | 0 => .array .int
  | 1 => .array .int
  | 2 => .int
  | _ => .int
abbrev wsX30 : List Cond := u_ws RX3 TX3 4
theorem nmX3 : ∀ a, a < 4 → ∀ b, b < 4 → a ≠ b → (TX3 a).2.1 ≠ (TX3 b).2.1 := by decide +kernel
theorem tyX3_ok : ∀ k, k < 4 → parseFieldDescriptor (TX3 k).2.2.1 = some (tyX3 k) := by decide +kernel
abbrev cX3_init : ByteArray := prog_5_method_1_code
def yX3_init : MethodName := ⟨RX3, "<init>", "()V"⟩
abbrev cX3_has : ByteArray := prog_5_method_2_code
def yX3_has : MethodName := ⟨RX3, "has", "(I)Z"⟩
abbrev cX3_isFull : ByteArray := prog_5_method_3_code
def yX3_isFull : MethodName := ⟨RX3, "isFull", "()Z"⟩
abbrev cX3_join : ByteArray := prog_5_method_4_code
def yX3_join : MethodName := ⟨RX3, "join", "(I)I"⟩
abbrev cX3_isUnder : ByteArray := prog_5_method_5_code
def yX3_isUnder : MethodName := ⟨RX3, "isUnder", "(II)Z"⟩
abbrev cX3_note : ByteArray := prog_5_method_6_code
def yX3_note : MethodName := ⟨RX3, "note", "(I)V"⟩
abbrev cX3_perform : ByteArray := prog_5_method_7_code
def yX3_perform : MethodName := ⟨RX3, "perform", "(IIIII)I"⟩
abbrev cX3_own : ByteArray := prog_5_method_8_code
def yX3_own : MethodName := ⟨RX3, "own", "(IIII)I"⟩
abbrev cX3_runGhost : ByteArray := prog_5_method_9_code
def yX3_runGhost : MethodName := ⟨RX3, "runGhost", "(IIII)I"⟩
abbrev cX3_runUnder : ByteArray := prog_5_method_10_code
def yX3_runUnder : MethodName := ⟨RX3, "runUnder", "(IIIII)I"⟩
def RX4 : String := "TypewritersKnow$Law"
def TX4 : u_T := fun k => match k with
  | 0 => ("TypewritersKnow$Law", "steps", "[I", true)
  | 1 => ("TypewritersKnow$Law", "stepsSize", "I", false)
  | 2 => ("TypewritersKnow$Law", "told", "Z", false)
  | 3 => ("TypewritersKnow$Law", "stack", "[I", true)
  | 4 => ("TypewritersKnow$Law", "age", "I", false)
  | 5 => ("TypewritersKnow$Law", "touch", "I", false)
  | 6 => ("TypewritersKnow$Law", "habit", "I", false)
  | 7 => ("TypewritersKnow$Law", "unlike", "I", false)
  | 8 => ("TypewritersKnow$Law", "ribbon", "I", false)
  | _ => ("TypewritersKnow$Law", "machine", "I", false)
def tyX4 : Nat → FieldType := fun k => match k with
  | 0 => .array .int
  | 1 => .int
  | 2 => .boolean
  | 3 => .array .int
  | 4 => .int
  | 5 => .int
  | 6 => .int
  | 7 => .int
  | 8 => .int
  | _ => .int
abbrev wsX40 : List Cond := u_ws RX4 TX4 10
theorem nmX4 : ∀ a, a < 10 → ∀ b, b < 10 → a ≠ b → (TX4 a).2.1 ≠ (TX4 b).2.1 := by decide +kernel
theorem tyX4_ok : ∀ k, k < 10 → parseFieldDescriptor (TX4 k).2.2.1 = some (tyX4 k) := by decide +kernel
abbrev cX4_init : ByteArray := prog_6_method_1_code
def yX4_init : MethodName := ⟨RX4, "<init>", "()V"⟩
abbrev cX4_become : ByteArray := prog_6_method_2_code
def yX4_become : MethodName := ⟨RX4, "become", "(LTypewritersKnow$Tape;)V"⟩
abbrev cX4_value : ByteArray := prog_6_method_3_code
def yX4_value : MethodName := ⟨RX4, "value", "()I"⟩
abbrev cX4_operandsOf : ByteArray := prog_6_method_4_code
def yX4_operandsOf : MethodName := ⟨RX4, "operandsOf", "(I)I"⟩
abbrev cX4_valueOfStep : ByteArray := prog_6_method_5_code
def yX4_valueOfStep : MethodName := ⟨RX4, "valueOfStep", "(III)I"⟩
def RX5 : String := "TypewritersKnow$Ledger"
def TX5 : u_T := fun k => match k with
  | 0 => ("TypewritersKnow$Ledger", "letters", "I", false)
  | 1 => ("TypewritersKnow$Ledger", "cleanings", "I", false)
  | 2 => ("TypewritersKnow$Ledger", "learnings", "I", false)
  | 3 => ("TypewritersKnow$Ledger", "showed", "I", false)
  | _ => ("TypewritersKnow$Ledger", "latest", "I", false)
def tyX5 : Nat → FieldType := fun k => match k with
  | 0 => .int
  | 1 => .int
  | 2 => .int
  | 3 => .int
  | _ => .int
abbrev wsX50 : List Cond := u_ws RX5 TX5 5
theorem nmX5 : ∀ a, a < 5 → ∀ b, b < 5 → a ≠ b → (TX5 a).2.1 ≠ (TX5 b).2.1 := by decide +kernel
theorem tyX5_ok : ∀ k, k < 5 → parseFieldDescriptor (TX5 k).2.2.1 = some (tyX5 k) := by decide +kernel
abbrev cX5_init : ByteArray := prog_7_method_1_code
def yX5_init : MethodName := ⟨RX5, "<init>", "()V"⟩
abbrev cX5_copy : ByteArray := prog_7_method_2_code
def yX5_copy : MethodName := ⟨RX5, "copy", "(LTypewritersKnow$Ledger;)V"⟩
def RX6 : String := "TypewritersKnow$Machines"
def TX6 : u_T := fun k => match k with
  | 0 => ("TypewritersKnow$Machines", "pulls", "[I", true)
  | 1 => ("TypewritersKnow$Machines", "marks", "[I", true)
  | 2 => ("TypewritersKnow$Machines", "ages", "[I", true)
  | 3 => ("TypewritersKnow$Machines", "size", "I", false)
  | _ => ("TypewritersKnow$Machines", "ribbon", "I", false)
def tyX6 : Nat → FieldType := fun k => match k with
  | 0 => .array .int
  | 1 => .array .int
  | 2 => .array .int
  | 3 => .int
  | _ => .int
abbrev wsX60 : List Cond := u_ws RX6 TX6 5
theorem nmX6 : ∀ a, a < 5 → ∀ b, b < 5 → a ≠ b → (TX6 a).2.1 ≠ (TX6 b).2.1 := by decide +kernel
theorem tyX6_ok : ∀ k, k < 5 → parseFieldDescriptor (TX6 k).2.2.1 = some (tyX6 k) := by decide +kernel
abbrev cX6_init : ByteArray := prog_8_method_1_code
def yX6_init : MethodName := ⟨RX6, "<init>", "()V"⟩
abbrev cX6_has : ByteArray := prog_8_method_2_code
def yX6_has : MethodName := ⟨RX6, "has", "(I)Z"⟩
abbrev cX6_isFull : ByteArray := prog_8_method_3_code
def yX6_isFull : MethodName := ⟨RX6, "isFull", "()Z"⟩
abbrev cX6_join : ByteArray := prog_8_method_4_code
def yX6_join : MethodName := ⟨RX6, "join", "(III)I"⟩
abbrev cX6_setNew : ByteArray := prog_8_method_5_code
def yX6_setNew : MethodName := ⟨RX6, "setNew", "(IIII)V"⟩
abbrev cX6_pull : ByteArray := prog_8_method_6_code
def yX6_pull : MethodName := ⟨RX6, "pull", "(II)I"⟩
abbrev cX6_pullCode : ByteArray := prog_8_method_7_code
def yX6_pullCode : MethodName := ⟨RX6, "pullCode", "(I)I"⟩
abbrev cX6_copy : ByteArray := prog_8_method_8_code
def yX6_copy : MethodName := ⟨RX6, "copy", "(LTypewritersKnow$Machines;)V"⟩
abbrev cX6_layBack : ByteArray := prog_8_method_9_code
def yX6_layBack : MethodName := ⟨RX6, "layBack", "(LTypewritersKnow$Machines;)V"⟩
abbrev cX6_markPulls : ByteArray := prog_8_method_10_code
def yX6_markPulls : MethodName := ⟨RX6, "markPulls", "()V"⟩
abbrev cX6_haveMoved : ByteArray := prog_8_method_11_code
def yX6_haveMoved : MethodName := ⟨RX6, "haveMoved", "()Z"⟩
abbrev cX6_passNight : ByteArray := prog_8_method_12_code
def yX6_passNight : MethodName := ⟨RX6, "passNight", "()V"⟩
abbrev cX6_areAllAlike : ByteArray := prog_8_method_13_code
def yX6_areAllAlike : MethodName := ⟨RX6, "areAllAlike", "()Z"⟩
def RX7 : String := "TypewritersKnow$Shelf"
def TX7 : u_T := fun k => match k with
  | 0 => ("TypewritersKnow$Shelf", "cells", "[J", true)
  | 1 => ("TypewritersKnow$Shelf", "sort", "I", false)
  | 2 => ("TypewritersKnow$Shelf", "size", "I", false)
  | _ => ("TypewritersKnow$Shelf", "ghost", "I", false)
def tyX7 : Nat → FieldType := fun k => match k with
  | 0 => .array .long
  | 1 => .int
  | 2 => .int
  | _ => .int
abbrev wsX70 : List Cond := u_ws RX7 TX7 4
theorem nmX7 : ∀ a, a < 4 → ∀ b, b < 4 → a ≠ b → (TX7 a).2.1 ≠ (TX7 b).2.1 := by decide +kernel
theorem tyX7_ok : ∀ k, k < 4 → parseFieldDescriptor (TX7 k).2.2.1 = some (tyX7 k) := by decide +kernel
abbrev cX7_init : ByteArray := prog_9_method_1_code
def yX7_init : MethodName := ⟨RX7, "<init>", "()V"⟩
abbrev cX7_isRow : ByteArray := prog_9_method_2_code
def yX7_isRow : MethodName := ⟨RX7, "isRow", "()Z"⟩
abbrev cX7_isRowOf : ByteArray := prog_9_method_3_code
def yX7_isRowOf : MethodName := ⟨RX7, "isRowOf", "(I)Z"⟩
abbrev cX7_isEmpty : ByteArray := prog_9_method_4_code
def yX7_isEmpty : MethodName := ⟨RX7, "isEmpty", "()Z"⟩
abbrev cX7_holdGhost : ByteArray := prog_9_method_5_code
def yX7_holdGhost : MethodName := ⟨RX7, "holdGhost", "(I)V"⟩
abbrev cX7_holdRow : ByteArray := prog_9_method_6_code
def yX7_holdRow : MethodName := ⟨RX7, "holdRow", "(II)V"⟩
abbrev cX7_hasSpan : ByteArray := prog_9_method_7_code
def yX7_hasSpan : MethodName := ⟨RX7, "hasSpan", "(II)Z"⟩
abbrev cX7_lowest : ByteArray := prog_9_method_8_code
def yX7_lowest : MethodName := ⟨RX7, "lowest", "(J)J"⟩
def RX8 : String := "TypewritersKnow$Tape"
def TX8 : u_T := fun k => match k with
  | 0 => ("TypewritersKnow$Tape", "bytes", "[I", true)
  | 1 => ("TypewritersKnow$Tape", "size", "I", false)
  | 2 => ("TypewritersKnow$Tape", "steps", "[I", true)
  | 3 => ("TypewritersKnow$Tape", "stepsSize", "I", false)
  | _ => ("TypewritersKnow$Tape", "at", "I", false)
def tyX8 : Nat → FieldType := fun k => match k with
  | 0 => .array .int
  | 1 => .int
  | 2 => .array .int
  | 3 => .int
  | _ => .int
abbrev wsX80 : List Cond := u_ws RX8 TX8 5
theorem nmX8 : ∀ a, a < 5 → ∀ b, b < 5 → a ≠ b → (TX8 a).2.1 ≠ (TX8 b).2.1 := by decide +kernel
theorem tyX8_ok : ∀ k, k < 5 → parseFieldDescriptor (TX8 k).2.2.1 = some (tyX8 k) := by decide +kernel
abbrev cX8_init : ByteArray := prog_10_method_1_code
def yX8_init : MethodName := ⟨RX8, "<init>", "()V"⟩
abbrev cX8_isFull : ByteArray := prog_10_method_2_code
def yX8_isFull : MethodName := ⟨RX8, "isFull", "()Z"⟩
abbrev cX8_addByte : ByteArray := prog_10_method_3_code
def yX8_addByte : MethodName := ⟨RX8, "addByte", "(I)I"⟩
abbrev cX8_read : ByteArray := prog_10_method_4_code
def yX8_read : MethodName := ⟨RX8, "read", "()Z"⟩
abbrev cX8_readLine : ByteArray := prog_10_method_5_code
def yX8_readLine : MethodName := ⟨RX8, "readLine", "()Z"⟩
abbrev cX8_readLevel : ByteArray := prog_10_method_6_code
def yX8_readLevel : MethodName := ⟨RX8, "readLevel", "(II)Z"⟩
abbrev cX8_readOperand : ByteArray := prog_10_method_7_code
def yX8_readOperand : MethodName := ⟨RX8, "readOperand", "(I)Z"⟩
abbrev cX8_readNumber : ByteArray := prog_10_method_8_code
def yX8_readNumber : MethodName := ⟨RX8, "readNumber", "()V"⟩
abbrev cX8_next : ByteArray := prog_10_method_9_code
def yX8_next : MethodName := ⟨RX8, "next", "()I"⟩
abbrev cX8_takes : ByteArray := prog_10_method_10_code
def yX8_takes : MethodName := ⟨RX8, "takes", "(I)Z"⟩
abbrev cX8_addStep : ByteArray := prog_10_method_11_code
def yX8_addStep : MethodName := ⟨RX8, "addStep", "(I)V"⟩
abbrev cX8_isDigit : ByteArray := prog_10_method_12_code
def yX8_isDigit : MethodName := ⟨RX8, "isDigit", "(I)Z"⟩
abbrev cX8_isName : ByteArray := prog_10_method_13_code
def yX8_isName : MethodName := ⟨RX8, "isName", "(I)Z"⟩
abbrev cX8_levelOf : ByteArray := prog_10_method_14_code
def yX8_levelOf : MethodName := ⟨RX8, "levelOf", "(I)I"⟩
def RX9 : String := "TypewritersKnow$Writers"
def TX9 : u_T := fun k => match k with
  | 0 => ("TypewritersKnow$Writers", "hands", "[I", true)
  | 1 => ("TypewritersKnow$Writers", "touches", "[I", true)
  | _ => ("TypewritersKnow$Writers", "size", "I", false)
def tyX9 : Nat → FieldType := fun k => match k with
  | 0 => .array .int
  | 1 => .array .int
  | _ => .int
abbrev wsX90 : List Cond := u_ws RX9 TX9 3
theorem nmX9 : ∀ a, a < 3 → ∀ b, b < 3 → a ≠ b → (TX9 a).2.1 ≠ (TX9 b).2.1 := by decide +kernel
theorem tyX9_ok : ∀ k, k < 3 → parseFieldDescriptor (TX9 k).2.2.1 = some (tyX9 k) := by decide +kernel
abbrev cX9_init : ByteArray := prog_11_method_1_code
def yX9_init : MethodName := ⟨RX9, "<init>", "()V"⟩
abbrev cX9_has : ByteArray := prog_11_method_2_code
def yX9_has : MethodName := ⟨RX9, "has", "(I)Z"⟩
abbrev cX9_isFull : ByteArray := prog_11_method_3_code
def yX9_isFull : MethodName := ⟨RX9, "isFull", "()Z"⟩
abbrev cX9_join : ByteArray := prog_11_method_4_code
def yX9_join : MethodName := ⟨RX9, "join", "(I)I"⟩
abbrev cX9_hand : ByteArray := prog_11_method_5_code
def yX9_hand : MethodName := ⟨RX9, "hand", "(II)I"⟩
abbrev cX9_handCode : ByteArray := prog_11_method_6_code
def yX9_handCode : MethodName := ⟨RX9, "handCode", "(I)I"⟩
abbrev cX9_copy : ByteArray := prog_11_method_7_code
def yX9_copy : MethodName := ⟨RX9, "copy", "(LTypewritersKnow$Writers;)V"⟩
abbrev cX9_layBack : ByteArray := prog_11_method_8_code
def yX9_layBack : MethodName := ⟨RX9, "layBack", "(LTypewritersKnow$Writers;)V"⟩
def RX10 : String := "TypewritersKnow"
def TX10 : u_T := fun k => match k with
  | 0 => ("TypewritersKnow", "now", "LTypewritersKnow$Machines;", true)
  | 1 => ("TypewritersKnow", "thought", "LTypewritersKnow$Machines;", true)
  | 2 => ("TypewritersKnow", "writers", "LTypewritersKnow$Writers;", true)
  | 3 => ("TypewritersKnow", "tape", "LTypewritersKnow$Tape;", true)
  | 4 => ("TypewritersKnow", "grips", "LTypewritersKnow$Law;", true)
  | 5 => ("TypewritersKnow", "shelves", "[LTypewritersKnow$Shelf;", true)
  | 6 => ("TypewritersKnow", "changes", "LTypewritersKnow$Changes;", true)
  | 7 => ("TypewritersKnow", "ghosts", "LTypewritersKnow$Ghosts;", true)
  | 8 => ("TypewritersKnow", "ledger", "LTypewritersKnow$Ledger;", true)
  | 9 => ("TypewritersKnow", "bringing", "LTypewritersKnow$Bringing;", true)
  | 10 => ("TypewritersKnow", "givenRest", "[I", true)
  | 11 => ("TypewritersKnow", "prices", "[I", true)
  | 12 => ("TypewritersKnow", "keptMachines", "LTypewritersKnow$Machines;", true)
  | 13 => ("TypewritersKnow", "keptWriters", "LTypewritersKnow$Writers;", true)
  | 14 => ("TypewritersKnow", "keptLedger", "LTypewritersKnow$Ledger;", true)
  | _ => ("TypewritersKnow", "imageKept", "Z", false)
def tyX10 : Nat → FieldType := fun k => match k with
  | 0 => .object "TypewritersKnow$Machines"
  | 1 => .object "TypewritersKnow$Machines"
  | 2 => .object "TypewritersKnow$Writers"
  | 3 => .object "TypewritersKnow$Tape"
  | 4 => .object "TypewritersKnow$Law"
  | 5 => .array (.object "TypewritersKnow$Shelf")
  | 6 => .object "TypewritersKnow$Changes"
  | 7 => .object "TypewritersKnow$Ghosts"
  | 8 => .object "TypewritersKnow$Ledger"
  | 9 => .object "TypewritersKnow$Bringing"
  | 10 => .array .int
  | 11 => .array .int
  | 12 => .object "TypewritersKnow$Machines"
  | 13 => .object "TypewritersKnow$Writers"
  | 14 => .object "TypewritersKnow$Ledger"
  | _ => .boolean
abbrev wsX100 : List Cond := u_ws RX10 TX10 16
theorem nmX10 : ∀ a, a < 16 → ∀ b, b < 16 → a ≠ b → (TX10 a).2.1 ≠ (TX10 b).2.1 := by decide +kernel
theorem tyX10_ok : ∀ k, k < 16 → parseFieldDescriptor (TX10 k).2.2.1 = some (tyX10 k) := by decide +kernel
abbrev cX10_init : ByteArray := prog_1_method_1_code
def yX10_init : MethodName := ⟨RX10, "<init>", "()V"⟩
abbrev cX10_machine : ByteArray := prog_1_method_2_code
def yX10_machine : MethodName := ⟨RX10, "machine", "()I"⟩
abbrev cX10_machines : ByteArray := prog_1_method_3_code
def yX10_machines : MethodName := ⟨RX10, "machines", "(III)I"⟩
abbrev cX10_writer : ByteArray := prog_1_method_4_code
def yX10_writer : MethodName := ⟨RX10, "writer", "(I)I"⟩
abbrev cX10_mend : ByteArray := prog_1_method_5_code
def yX10_mend : MethodName := ⟨RX10, "mend", "(III)I"⟩
abbrev cX10_of : ByteArray := prog_1_method_6_code
def yX10_of : MethodName := ⟨RX10, "of", "(II)I"⟩
abbrev cX10_feed : ByteArray := prog_1_method_7_code
def yX10_feed : MethodName := ⟨RX10, "feed", "(I)I"⟩
abbrev cX10_law : ByteArray := prog_1_method_8_code
def yX10_law : MethodName := ⟨RX10, "law", "()I"⟩
abbrev cX10_shows : ByteArray := prog_1_method_9_code
def yX10_shows : MethodName := ⟨RX10, "shows", "(III)I"⟩
abbrev cX10_later : ByteArray := prog_1_method_10_code
def yX10_later : MethodName := ⟨RX10, "later", "(IIII)I"⟩
abbrev cX10_letter : ByteArray := prog_1_method_11_code
def yX10_letter : MethodName := ⟨RX10, "letter", "(II)I"⟩
abbrev cX10_still : ByteArray := prog_1_method_12_code
def yX10_still : MethodName := ⟨RX10, "still", "(I)I"⟩
abbrev cX10_far : ByteArray := prog_1_method_13_code
def yX10_far : MethodName := ⟨RX10, "far", "(I)I"⟩
abbrev cX10_nearest : ByteArray := prog_1_method_14_code
def yX10_nearest : MethodName := ⟨RX10, "nearest", "(II)I"⟩
abbrev cX10_given : ByteArray := prog_1_method_15_code
def yX10_given : MethodName := ⟨RX10, "given", "(I)I"⟩
abbrev cX10_teach : ByteArray := prog_1_method_16_code
def yX10_teach : MethodName := ⟨RX10, "teach", "(II)I"⟩
abbrev cX10_bring : ByteArray := prog_1_method_17_code
def yX10_bring : MethodName := ⟨RX10, "bring", "(III)I"⟩
abbrev cX10_whose : ByteArray := prog_1_method_18_code
def yX10_whose : MethodName := ⟨RX10, "whose", "(II)I"⟩
abbrev cX10_where : ByteArray := prog_1_method_19_code
def yX10_where : MethodName := ⟨RX10, "where", "(II)I"⟩
abbrev cX10_pairs : ByteArray := prog_1_method_20_code
def yX10_pairs : MethodName := ⟨RX10, "pairs", "(II)I"⟩
abbrev cX10_between : ByteArray := prog_1_method_21_code
def yX10_between : MethodName := ⟨RX10, "between", "(III)I"⟩
abbrev cX10_judge : ByteArray := prog_1_method_22_code
def yX10_judge : MethodName := ⟨RX10, "judge", "(I)I"⟩
abbrev cX10_falseOne : ByteArray := prog_1_method_23_code
def yX10_falseOne : MethodName := ⟨RX10, "falseOne", "(II)I"⟩
abbrev cX10_ribbons : ByteArray := prog_1_method_24_code
def yX10_ribbons : MethodName := ⟨RX10, "ribbons", "(II)I"⟩
abbrev cX10_morning : ByteArray := prog_1_method_25_code
def yX10_morning : MethodName := ⟨RX10, "morning", "(III)I"⟩
abbrev cX10_alike : ByteArray := prog_1_method_26_code
def yX10_alike : MethodName := ⟨RX10, "alike", "()I"⟩
abbrev cX10_price : ByteArray := prog_1_method_27_code
def yX10_price : MethodName := ⟨RX10, "price", "(I)I"⟩
abbrev cX10_buy : ByteArray := prog_1_method_28_code
def yX10_buy : MethodName := ⟨RX10, "buy", "(II)I"⟩
abbrev cX10_drawn : ByteArray := prog_1_method_29_code
def yX10_drawn : MethodName := ⟨RX10, "drawn", "(III)I"⟩
abbrev cX10_types : ByteArray := prog_1_method_30_code
def yX10_types : MethodName := ⟨RX10, "types", "(I)I"⟩
abbrev cX10_clean : ByteArray := prog_1_method_31_code
def yX10_clean : MethodName := ⟨RX10, "clean", "(I)I"⟩
abbrev cX10_learn : ByteArray := prog_1_method_32_code
def yX10_learn : MethodName := ⟨RX10, "learn", "(I)I"⟩
abbrev cX10_led : ByteArray := prog_1_method_33_code
def yX10_led : MethodName := ⟨RX10, "led", "(I)I"⟩
abbrev cX10_image : ByteArray := prog_1_method_34_code
def yX10_image : MethodName := ⟨RX10, "image", "()I"⟩
abbrev cX10_back : ByteArray := prog_1_method_35_code
def yX10_back : MethodName := ⟨RX10, "back", "()I"⟩
abbrev cX10_undo : ByteArray := prog_1_method_36_code
def yX10_undo : MethodName := ⟨RX10, "undo", "()I"⟩
abbrev cX10_redo : ByteArray := prog_1_method_37_code
def yX10_redo : MethodName := ⟨RX10, "redo", "()I"⟩
abbrev cX10_body : ByteArray := prog_1_method_38_code
def yX10_body : MethodName := ⟨RX10, "body", "(I)I"⟩
abbrev cX10_act : ByteArray := prog_1_method_39_code
def yX10_act : MethodName := ⟨RX10, "act", "(III)I"⟩
abbrev cX10_trace : ByteArray := prog_1_method_40_code
def yX10_trace : MethodName := ⟨RX10, "trace", "(I)I"⟩
abbrev cX10_keep : ByteArray := prog_1_method_41_code
def yX10_keep : MethodName := ⟨RX10, "keep", "(II)I"⟩
abbrev cX10_row : ByteArray := prog_1_method_42_code
def yX10_row : MethodName := ⟨RX10, "row", "(III)I"⟩
abbrev cX10_put : ByteArray := prog_1_method_43_code
def yX10_put : MethodName := ⟨RX10, "put", "(IIJ)I"⟩
abbrev cX10_element : ByteArray := prog_1_method_44_code
def yX10_element : MethodName := ⟨RX10, "element", "(II)J"⟩
abbrev cX10_shift : ByteArray := prog_1_method_45_code
def yX10_shift : MethodName := ⟨RX10, "shift", "(IIIII)I"⟩
abbrev cX10_taken : ByteArray := prog_1_method_46_code
def yX10_taken : MethodName := ⟨RX10, "taken", "(II)I"⟩
abbrev cX10_count : ByteArray := prog_1_method_47_code
def yX10_count : MethodName := ⟨RX10, "count", "(I)I"⟩
abbrev cX10_isShelf : ByteArray := prog_1_method_48_code
def yX10_isShelf : MethodName := ⟨RX10, "isShelf", "(I)Z"⟩
abbrev cX10_isPair : ByteArray := prog_1_method_49_code
def yX10_isPair : MethodName := ⟨RX10, "isPair", "(I)Z"⟩
abbrev cX10_rowRefusal : ByteArray := prog_1_method_50_code
def yX10_rowRefusal : MethodName := ⟨RX10, "rowRefusal", "(II)I"⟩
abbrev cX10_cellRefusal : ByteArray := prog_1_method_51_code
def yX10_cellRefusal : MethodName := ⟨RX10, "cellRefusal", "(II)I"⟩
abbrev cX10_pullsStandAt : ByteArray := prog_1_method_52_code
def yX10_pullsStandAt : MethodName := ⟨RX10, "pullsStandAt", "(LTypewritersKnow$Shelf;I)Z"⟩
abbrev cX10_isNumberOf : ByteArray := prog_1_method_53_code
def yX10_isNumberOf : MethodName := ⟨RX10, "isNumberOf", "(II)Z"⟩
abbrev cX10_topOf : ByteArray := prog_1_method_54_code
def yX10_topOf : MethodName := ⟨RX10, "topOf", "(I)I"⟩
abbrev cX10_valueOf : ByteArray := prog_1_method_55_code
def yX10_valueOf : MethodName := ⟨RX10, "valueOf", "(II)I"⟩
abbrev cX10_setValue : ByteArray := prog_1_method_56_code
def yX10_setValue : MethodName := ⟨RX10, "setValue", "(III)V"⟩
abbrev cX10_gripOf : ByteArray := prog_1_method_57_code
def yX10_gripOf : MethodName := ⟨RX10, "gripOf", "(LTypewritersKnow$Machines;III)I"⟩
abbrev cX10_shown : ByteArray := prog_1_method_58_code
def yX10_shown : MethodName := ⟨RX10, "shown", "(LTypewritersKnow$Machines;III)I"⟩
abbrev cX10_shownCode : ByteArray := prog_1_method_59_code
def yX10_shownCode : MethodName := ⟨RX10, "shownCode", "(LTypewritersKnow$Machines;II)I"⟩
abbrev cX10_pass : ByteArray := prog_1_method_60_code
def yX10_pass : MethodName := ⟨RX10, "pass", "(LTypewritersKnow$Machines;II)V"⟩
abbrev cX10_dayHas : ByteArray := prog_1_method_61_code
def yX10_dayHas : MethodName := ⟨RX10, "dayHas", "(LTypewritersKnow$Shelf;I)Z"⟩
abbrev cX10_thinkDay : ByteArray := prog_1_method_62_code
def yX10_thinkDay : MethodName := ⟨RX10, "thinkDay", "(LTypewritersKnow$Shelf;I)I"⟩
abbrev cX10_playRound : ByteArray := prog_1_method_63_code
def yX10_playRound : MethodName := ⟨RX10, "playRound", "(LTypewritersKnow$Shelf;)Z"⟩
abbrev cX10_apart : ByteArray := prog_1_method_64_code
def yX10_apart : MethodName := ⟨RX10, "apart", "(LTypewritersKnow$Machines;II)I"⟩
abbrev cX10_allApart : ByteArray := prog_1_method_65_code
def yX10_allApart : MethodName := ⟨RX10, "allApart", "(LTypewritersKnow$Machines;)I"⟩
abbrev cX10_nearestMachine : ByteArray := prog_1_method_66_code
def yX10_nearestMachine : MethodName := ⟨RX10, "nearestMachine", "(I)I"⟩
abbrev cX10_nearestWriter : ByteArray := prog_1_method_67_code
def yX10_nearestWriter : MethodName := ⟨RX10, "nearestWriter", "(I)I"⟩
abbrev cX10_fillGivenRest : ByteArray := prog_1_method_68_code
def yX10_fillGivenRest : MethodName := ⟨RX10, "fillGivenRest", "()V"⟩
abbrev cX10_givenTo : ByteArray := prog_1_method_69_code
def yX10_givenTo : MethodName := ⟨RX10, "givenTo", "(II)I"⟩
abbrev cX10_fits : ByteArray := prog_1_method_70_code
def yX10_fits : MethodName := ⟨RX10, "fits", "(LTypewritersKnow$Shelf;LTypewritersKnow$Machines;II)Z"⟩
abbrev cX10_writersFor : ByteArray := prog_1_method_71_code
def yX10_writersFor : MethodName := ⟨RX10, "writersFor", "(LTypewritersKnow$Shelf;I)I"⟩
abbrev cX10_firstWrong : ByteArray := prog_1_method_72_code
def yX10_firstWrong : MethodName := ⟨RX10, "firstWrong", "(LTypewritersKnow$Shelf;III)I"⟩
abbrev cX10_pence : ByteArray := prog_1_method_73_code
def yX10_pence : MethodName := ⟨RX10, "pence", "(I)I"⟩
abbrev cX10_penceOf : ByteArray := prog_1_method_74_code
def yX10_penceOf : MethodName := ⟨RX10, "penceOf", "(I)I"⟩
def RX11 : String := "TypewritersKnowModel"
def TX11 : u_T := fun k => match k with
  | 0 => ("TypewritersKnowModel", "may", "[I", true)
  | 1 => ("TypewritersKnowModel", "changeAt", "[I", true)
  | 2 => ("TypewritersKnowModel", "changeWas", "[I", true)
  | 3 => ("TypewritersKnowModel", "changeIs", "[I", true)
  | 4 => ("TypewritersKnowModel", "keptMany", "I", false)
  | 5 => ("TypewritersKnowModel", "done", "I", false)
  | 6 => ("TypewritersKnowModel", "machines", "I", false)
  | 7 => ("TypewritersKnowModel", "writers", "I", false)
  | 8 => ("TypewritersKnowModel", "tape", "[I", true)
  | 9 => ("TypewritersKnowModel", "tapeMany", "I", false)
  | 10 => ("TypewritersKnowModel", "text", "[I", true)
  | 11 => ("TypewritersKnowModel", "textMany", "I", false)
  | 12 => ("TypewritersKnowModel", "base", "I", false)
  | 13 => ("TypewritersKnowModel", "at", "I", false)
  | 14 => ("TypewritersKnowModel", "ends", "I", false)
  | 15 => ("TypewritersKnowModel", "fault", "I", false)
  | 16 => ("TypewritersKnowModel", "opened", "I", false)
  | 17 => ("TypewritersKnowModel", "names", "[I", true)
  | 18 => ("TypewritersKnowModel", "pull", "[I", true)
  | 19 => ("TypewritersKnowModel", "age", "[I", true)
  | 20 => ("TypewritersKnowModel", "ribbon", "I", false)
  | 21 => ("TypewritersKnowModel", "hadPull", "[I", true)
  | 22 => ("TypewritersKnowModel", "restFar", "[I", true)
  | 23 => ("TypewritersKnowModel", "restGets", "[I", true)
  | 24 => ("TypewritersKnowModel", "lettersTo", "[I", true)
  | 25 => ("TypewritersKnowModel", "latest", "I", false)
  | 26 => ("TypewritersKnowModel", "ledNow", "[I", true)
  | 27 => ("TypewritersKnowModel", "isKept", "Z", false)
  | 28 => ("TypewritersKnowModel", "imageMachines", "I", false)
  | 29 => ("TypewritersKnowModel", "imageWriters", "I", false)
  | 30 => ("TypewritersKnowModel", "imageLatest", "I", false)
  | 31 => ("TypewritersKnowModel", "imageMay", "[I", true)
  | 32 => ("TypewritersKnowModel", "imageLed", "[I", true)
  | 33 => ("TypewritersKnowModel", "bodies", "I", false)
  | 34 => ("TypewritersKnowModel", "bodyKind", "[I", true)
  | 35 => ("TypewritersKnowModel", "trace", "[I", true)
  | 36 => ("TypewritersKnowModel", "ran", "I", false)
  | 37 => ("TypewritersKnowModel", "ownKind", "I", false)
  | 38 => ("TypewritersKnowModel", "ownNumber", "I", false)
  | 39 => ("TypewritersKnowModel", "shelf", "[I", true)
  | 40 => ("TypewritersKnowModel", "many", "[I", true)
  | 41 => ("TypewritersKnowModel", "items", "[J", true)
  | _ => ("TypewritersKnowModel", "carried", "[J", true)
def tyX11 : Nat → FieldType := fun k => match k with
  | 0 => .array .int
  | 1 => .array .int
  | 2 => .array .int
  | 3 => .array .int
  | 4 => .int
  | 5 => .int
  | 6 => .int
  | 7 => .int
  | 8 => .array .int
  | 9 => .int
  | 10 => .array .int
  | 11 => .int
  | 12 => .int
  | 13 => .int
  | 14 => .int
  | 15 => .int
  | 16 => .int
  | 17 => .array .int
  | 18 => .array .int
  | 19 => .array .int
  | 20 => .int
  | 21 => .array .int
  | 22 => .array .int
  | 23 => .array .int
  | 24 => .array .int
  | 25 => .int
  | 26 => .array .int
  | 27 => .boolean
  | 28 => .int
  | 29 => .int
  | 30 => .int
  | 31 => .array .int
  | 32 => .array .int
  | 33 => .int
  | 34 => .array .int
  | 35 => .array .int
  | 36 => .int
  | 37 => .int
  | 38 => .int
  | 39 => .array .int
  | 40 => .array .int
  | 41 => .array .long
  | _ => .array .long
abbrev wsX110 : List Cond := u_ws RX11 TX11 43
theorem nmX11 : ∀ a, a < 43 → ∀ b, b < 43 → a ≠ b → (TX11 a).2.1 ≠ (TX11 b).2.1 := by decide +kernel
theorem tyX11_ok : ∀ k, k < 43 → parseFieldDescriptor (TX11 k).2.2.1 = some (tyX11 k) := by decide +kernel
abbrev cX11_within : ByteArray := prog_13_method_1_code
def yX11_within : MethodName := ⟨RX11, "within", "(JJJ)Z"⟩
abbrev cX11_bitsOf : ByteArray := prog_13_method_2_code
def yX11_bitsOf : MethodName := ⟨RX11, "bitsOf", "(I)I"⟩
abbrev cX11_init : ByteArray := prog_13_method_3_code
def yX11_init : MethodName := ⟨RX11, "<init>", "()V"⟩
abbrev cX11_becomes : ByteArray := prog_13_method_4_code
def yX11_becomes : MethodName := ⟨RX11, "becomes", "(II)I"⟩
abbrev cX11_undo : ByteArray := prog_13_method_5_code
def yX11_undo : MethodName := ⟨RX11, "undo", "()I"⟩
abbrev cX11_redo : ByteArray := prog_13_method_6_code
def yX11_redo : MethodName := ⟨RX11, "redo", "()I"⟩
abbrev cX11_isMachine : ByteArray := prog_13_method_7_code
def yX11_isMachine : MethodName := ⟨RX11, "isMachine", "(J)Z"⟩
abbrev cX11_isWriter : ByteArray := prog_13_method_8_code
def yX11_isWriter : MethodName := ⟨RX11, "isWriter", "(J)Z"⟩
abbrev cX11_isWm : ByteArray := prog_13_method_9_code
def yX11_isWm : MethodName := ⟨RX11, "isWm", "(I)Z"⟩
abbrev cX11_addsMachine : ByteArray := prog_13_method_10_code
def yX11_addsMachine : MethodName := ⟨RX11, "addsMachine", "(III)V"⟩
abbrev cX11_machine : ByteArray := prog_13_method_11_code
def yX11_machine : MethodName := ⟨RX11, "machine", "()I"⟩
abbrev cX11_machines : ByteArray := prog_13_method_12_code
def yX11_machines : MethodName := ⟨RX11, "machines", "(III)I"⟩
abbrev cX11_isCode : ByteArray := prog_13_method_13_code
def yX11_isCode : MethodName := ⟨RX11, "isCode", "(J)Z"⟩
abbrev cX11_inCode : ByteArray := prog_13_method_14_code
def yX11_inCode : MethodName := ⟨RX11, "inCode", "(II)I"⟩
abbrev cX11_writer : ByteArray := prog_13_method_15_code
def yX11_writer : MethodName := ⟨RX11, "writer", "(I)I"⟩
abbrev cX11_placeOf : ByteArray := prog_13_method_16_code
def yX11_placeOf : MethodName := ⟨RX11, "placeOf", "(II)I"⟩
abbrev cX11_mend : ByteArray := prog_13_method_17_code
def yX11_mend : MethodName := ⟨RX11, "mend", "(III)I"⟩
abbrev cX11_of : ByteArray := prog_13_method_18_code
def yX11_of : MethodName := ⟨RX11, "of", "(II)I"⟩
abbrev cX11_feed : ByteArray := prog_13_method_19_code
def yX11_feed : MethodName := ⟨RX11, "feed", "(I)I"⟩
abbrev cX11_byteAt : ByteArray := prog_13_method_20_code
def yX11_byteAt : MethodName := ⟨RX11, "byteAt", "()I"⟩
abbrev cX11_wrong : ByteArray := prog_13_method_21_code
def yX11_wrong : MethodName := ⟨RX11, "wrong", "()I"⟩
abbrev cX11_takes : ByteArray := prog_13_method_22_code
def yX11_takes : MethodName := ⟨RX11, "takes", "(I)Z"⟩
abbrev cX11_either : ByteArray := prog_13_method_23_code
def yX11_either : MethodName := ⟨RX11, "either", "()I"⟩
abbrev cX11_both : ByteArray := prog_13_method_24_code
def yX11_both : MethodName := ⟨RX11, "both", "()I"⟩
abbrev cX11_compared : ByteArray := prog_13_method_25_code
def yX11_compared : MethodName := ⟨RX11, "compared", "()I"⟩
abbrev cX11_sums : ByteArray := prog_13_method_26_code
def yX11_sums : MethodName := ⟨RX11, "sums", "()I"⟩
abbrev cX11_product : ByteArray := prog_13_method_27_code
def yX11_product : MethodName := ⟨RX11, "product", "()I"⟩
abbrev cX11_nameOf : ByteArray := prog_13_method_28_code
def yX11_nameOf : MethodName := ⟨RX11, "nameOf", "(I)I"⟩
abbrev cX11_one : ByteArray := prog_13_method_29_code
def yX11_one : MethodName := ⟨RX11, "one", "()I"⟩
abbrev cX11_workOut : ByteArray := prog_13_method_30_code
def yX11_workOut : MethodName := ⟨RX11, "workOut", "(II)I"⟩
abbrev cX11_law : ByteArray := prog_13_method_31_code
def yX11_law : MethodName := ⟨RX11, "law", "()I"⟩
abbrev cX11_begins : ByteArray := prog_13_method_32_code
def yX11_begins : MethodName := ⟨RX11, "begins", "()V"⟩
abbrev cX11_handOf : ByteArray := prog_13_method_33_code
def yX11_handOf : MethodName := ⟨RX11, "handOf", "(II)I"⟩
abbrev cX11_apart : ByteArray := prog_13_method_34_code
def yX11_apart : MethodName := ⟨RX11, "apart", "(II)I"⟩
abbrev cX11_nearer : ByteArray := prog_13_method_35_code
def yX11_nearer : MethodName := ⟨RX11, "nearer", "(II)I"⟩
abbrev cX11_gripOf : ByteArray := prog_13_method_36_code
def yX11_gripOf : MethodName := ⟨RX11, "gripOf", "(III)I"⟩
abbrev cX11_showsOf : ByteArray := prog_13_method_37_code
def yX11_showsOf : MethodName := ⟨RX11, "showsOf", "(III)I"⟩
abbrev cX11_codeOf : ByteArray := prog_13_method_38_code
def yX11_codeOf : MethodName := ⟨RX11, "codeOf", "(II)I"⟩
abbrev cX11_typesOn : ByteArray := prog_13_method_39_code
def yX11_typesOn : MethodName := ⟨RX11, "typesOn", "(II)V"⟩
abbrev cX11_shows : ByteArray := prog_13_method_40_code
def yX11_shows : MethodName := ⟨RX11, "shows", "(III)I"⟩
abbrev cX11_rowIs : ByteArray := prog_13_method_41_code
def yX11_rowIs : MethodName := ⟨RX11, "rowIs", "(II)I"⟩
abbrev cX11_lettersIn : ByteArray := prog_13_method_42_code
def yX11_lettersIn : MethodName := ⟨RX11, "lettersIn", "(I)I"⟩
abbrev cX11_typesDay : ByteArray := prog_13_method_43_code
def yX11_typesDay : MethodName := ⟨RX11, "typesDay", "(II)V"⟩
abbrev cX11_later : ByteArray := prog_13_method_44_code
def yX11_later : MethodName := ⟨RX11, "later", "(IIII)I"⟩
abbrev cX11_letter : ByteArray := prog_13_method_45_code
def yX11_letter : MethodName := ⟨RX11, "letter", "(II)I"⟩
abbrev cX11_still : ByteArray := prog_13_method_46_code
def yX11_still : MethodName := ⟨RX11, "still", "(I)I"⟩
abbrev cX11_farOf : ByteArray := prog_13_method_47_code
def yX11_farOf : MethodName := ⟨RX11, "farOf", "(II)I"⟩
abbrev cX11_far : ByteArray := prog_13_method_48_code
def yX11_far : MethodName := ⟨RX11, "far", "(I)I"⟩
abbrev cX11_nearest : ByteArray := prog_13_method_49_code
def yX11_nearest : MethodName := ⟨RX11, "nearest", "(II)I"⟩
abbrev cX11_given : ByteArray := prog_13_method_50_code
def yX11_given : MethodName := ⟨RX11, "given", "(I)I"⟩
abbrev cX11_teach : ByteArray := prog_13_method_51_code
def yX11_teach : MethodName := ⟨RX11, "teach", "(II)I"⟩
abbrev cX11_codeBehind : ByteArray := prog_13_method_52_code
def yX11_codeBehind : MethodName := ⟨RX11, "codeBehind", "(II)I"⟩
abbrev cX11_bring : ByteArray := prog_13_method_53_code
def yX11_bring : MethodName := ⟨RX11, "bring", "(III)I"⟩
abbrev cX11_isSheet : ByteArray := prog_13_method_54_code
def yX11_isSheet : MethodName := ⟨RX11, "isSheet", "(III)Z"⟩
abbrev cX11_whose : ByteArray := prog_13_method_55_code
def yX11_whose : MethodName := ⟨RX11, "whose", "(II)I"⟩
abbrev cX11_where : ByteArray := prog_13_method_56_code
def yX11_where : MethodName := ⟨RX11, "where", "(II)I"⟩
abbrev cX11_pairs : ByteArray := prog_13_method_57_code
def yX11_pairs : MethodName := ⟨RX11, "pairs", "(II)I"⟩
abbrev cX11_between : ByteArray := prog_13_method_58_code
def yX11_between : MethodName := ⟨RX11, "between", "(III)I"⟩
abbrev cX11_firstFalse : ByteArray := prog_13_method_59_code
def yX11_firstFalse : MethodName := ⟨RX11, "firstFalse", "(III)I"⟩
abbrev cX11_judge : ByteArray := prog_13_method_60_code
def yX11_judge : MethodName := ⟨RX11, "judge", "(I)I"⟩
abbrev cX11_falseOne : ByteArray := prog_13_method_61_code
def yX11_falseOne : MethodName := ⟨RX11, "falseOne", "(II)I"⟩
abbrev cX11_ribbons : ByteArray := prog_13_method_62_code
def yX11_ribbons : MethodName := ⟨RX11, "ribbons", "(II)I"⟩
abbrev cX11_sleeps : ByteArray := prog_13_method_63_code
def yX11_sleeps : MethodName := ⟨RX11, "sleeps", "()V"⟩
abbrev cX11_morning : ByteArray := prog_13_method_64_code
def yX11_morning : MethodName := ⟨RX11, "morning", "(III)I"⟩
abbrev cX11_alike : ByteArray := prog_13_method_65_code
def yX11_alike : MethodName := ⟨RX11, "alike", "()I"⟩
abbrev cX11_priceOf : ByteArray := prog_13_method_66_code
def yX11_priceOf : MethodName := ⟨RX11, "priceOf", "(I)I"⟩
abbrev cX11_price : ByteArray := prog_13_method_67_code
def yX11_price : MethodName := ⟨RX11, "price", "(I)I"⟩
abbrev cX11_buy : ByteArray := prog_13_method_68_code
def yX11_buy : MethodName := ⟨RX11, "buy", "(II)I"⟩
abbrev cX11_drawn : ByteArray := prog_13_method_69_code
def yX11_drawn : MethodName := ⟨RX11, "drawn", "(III)I"⟩
abbrev cX11_types : ByteArray := prog_13_method_70_code
def yX11_types : MethodName := ⟨RX11, "types", "(I)I"⟩
abbrev cX11_clean : ByteArray := prog_13_method_71_code
def yX11_clean : MethodName := ⟨RX11, "clean", "(I)I"⟩
abbrev cX11_learn : ByteArray := prog_13_method_72_code
def yX11_learn : MethodName := ⟨RX11, "learn", "(I)I"⟩
abbrev cX11_led : ByteArray := prog_13_method_73_code
def yX11_led : MethodName := ⟨RX11, "led", "(I)I"⟩
abbrev cX11_image : ByteArray := prog_13_method_74_code
def yX11_image : MethodName := ⟨RX11, "image", "()I"⟩
abbrev cX11_back : ByteArray := prog_13_method_75_code
def yX11_back : MethodName := ⟨RX11, "back", "()I"⟩
abbrev cX11_isBody : ByteArray := prog_13_method_76_code
def yX11_isBody : MethodName := ⟨RX11, "isBody", "(I)Z"⟩
abbrev cX11_kindOf : ByteArray := prog_13_method_77_code
def yX11_kindOf : MethodName := ⟨RX11, "kindOf", "(I)I"⟩
abbrev cX11_body : ByteArray := prog_13_method_78_code
def yX11_body : MethodName := ⟨RX11, "body", "(I)I"⟩
abbrev cX11_above : ByteArray := prog_13_method_79_code
def yX11_above : MethodName := ⟨RX11, "above", "(I)I"⟩
abbrev cX11_runs : ByteArray := prog_13_method_80_code
def yX11_runs : MethodName := ⟨RX11, "runs", "(I)V"⟩
abbrev cX11_typesAs : ByteArray := prog_13_method_81_code
def yX11_typesAs : MethodName := ⟨RX11, "typesAs", "(II)I"⟩
abbrev cX11_sticksAs : ByteArray := prog_13_method_82_code
def yX11_sticksAs : MethodName := ⟨RX11, "sticksAs", "(II)I"⟩
abbrev cX11_ringsAs : ByteArray := prog_13_method_83_code
def yX11_ringsAs : MethodName := ⟨RX11, "ringsAs", "(II)I"⟩
abbrev cX11_tellsAs : ByteArray := prog_13_method_84_code
def yX11_tellsAs : MethodName := ⟨RX11, "tellsAs", "(II)I"⟩
abbrev cX11_act : ByteArray := prog_13_method_85_code
def yX11_act : MethodName := ⟨RX11, "act", "(III)I"⟩
abbrev cX11_trace : ByteArray := prog_13_method_86_code
def yX11_trace : MethodName := ⟨RX11, "trace", "(I)I"⟩
abbrev cX11_isShelf : ByteArray := prog_13_method_87_code
def yX11_isShelf : MethodName := ⟨RX11, "isShelf", "(I)Z"⟩
abbrev cX11_keep : ByteArray := prog_13_method_88_code
def yX11_keep : MethodName := ⟨RX11, "keep", "(II)I"⟩
abbrev cX11_row : ByteArray := prog_13_method_89_code
def yX11_row : MethodName := ⟨RX11, "row", "(III)I"⟩
abbrev cX11_refusal : ByteArray := prog_13_method_90_code
def yX11_refusal : MethodName := ⟨RX11, "refusal", "(II)I"⟩
abbrev cX11_asSort : ByteArray := prog_13_method_91_code
def yX11_asSort : MethodName := ⟨RX11, "asSort", "(IJ)J"⟩
abbrev cX11_put : ByteArray := prog_13_method_92_code
def yX11_put : MethodName := ⟨RX11, "put", "(IIJ)I"⟩
abbrev cX11_element : ByteArray := prog_13_method_93_code
def yX11_element : MethodName := ⟨RX11, "element", "(II)J"⟩
abbrev cX11_shift : ByteArray := prog_13_method_94_code
def yX11_shift : MethodName := ⟨RX11, "shift", "(IIIII)I"⟩
abbrev cX11_taken : ByteArray := prog_13_method_95_code
def yX11_taken : MethodName := ⟨RX11, "taken", "(II)I"⟩
abbrev cX11_count : ByteArray := prog_13_method_96_code
def yX11_count : MethodName := ⟨RX11, "count", "(I)I"⟩
def RJ6 : String := "java/lang/Integer"
def TJ6 : u_T := fun k => match k with
  | _ => ("", "", "", false)
def tyJ6 : Nat → FieldType := fun k => match k with
  | _ => .int
abbrev wsJ60 : List Cond := u_ws RJ6 TJ6 0
theorem nmJ6 : ∀ a, a < 0 → ∀ b, b < 0 → a ≠ b → (TJ6 a).2.1 ≠ (TJ6 b).2.1 := by decide +kernel
theorem tyJ6_ok : ∀ k, k < 0 → parseFieldDescriptor (TJ6 k).2.2.1 = some (tyJ6 k) := by decide +kernel
abbrev cJ6_numberOfTrailingZeros_0f7a4 : ByteArray := prog_14_method_48_code
def yJ6_numberOfTrailingZeros_0f7a4 : MethodName := ⟨RJ6, "numberOfTrailingZeros", "(I)I"⟩
abbrev cJ6_bitCount_0f7a4 : ByteArray := prog_14_method_49_code
def yJ6_bitCount_0f7a4 : MethodName := ⟨RJ6, "bitCount", "(I)I"⟩
def RJ9 : String := "java/lang/Math"
def TJ9 : u_T := fun k => match k with
  | _ => ("", "", "", false)
def tyJ9 : Nat → FieldType := fun k => match k with
  | _ => .int
abbrev wsJ90 : List Cond := u_ws RJ9 TJ9 0
theorem nmJ9 : ∀ a, a < 0 → ∀ b, b < 0 → a ≠ b → (TJ9 a).2.1 ≠ (TJ9 b).2.1 := by decide +kernel
theorem tyJ9_ok : ∀ k, k < 0 → parseFieldDescriptor (TJ9 k).2.2.1 = some (tyJ9 k) := by decide +kernel
abbrev cJ9_abs_0f7a4 : ByteArray := prog_15_method_59_code
def yJ9_abs_0f7a4 : MethodName := ⟨RJ9, "abs", "(I)I"⟩
abbrev cJ9_max_7cf53 : ByteArray := prog_15_method_65_code
def yJ9_max_7cf53 : MethodName := ⟨RJ9, "max", "(II)I"⟩
abbrev cJ9_min_7cf53 : ByteArray := prog_15_method_69_code
def yJ9_min_7cf53 : MethodName := ⟨RJ9, "min", "(II)I"⟩
def RJ10 : String := "java/lang/System"
def TJ10 : u_T := fun k => match k with
  | _ => ("", "", "", false)
def tyJ10 : Nat → FieldType := fun k => match k with
  | _ => .int
abbrev wsJ100 : List Cond := u_ws RJ10 TJ10 0
theorem nmJ10 : ∀ a, a < 0 → ∀ b, b < 0 → a ≠ b → (TJ10 a).2.1 ≠ (TJ10 b).2.1 := by decide +kernel
theorem tyJ10_ok : ∀ k, k < 0 → parseFieldDescriptor (TJ10 k).2.2.1 = some (tyJ10 k) := by decide +kernel
def RJ7 : String := "java/util/Arrays"
def TJ7 : u_T := fun k => match k with
  | _ => ("", "", "", false)
def tyJ7 : Nat → FieldType := fun k => match k with
  | _ => .int
abbrev wsJ70 : List Cond := u_ws RJ7 TJ7 0
theorem nmJ7 : ∀ a, a < 0 → ∀ b, b < 0 → a ≠ b → (TJ7 a).2.1 ≠ (TJ7 b).2.1 := by decide +kernel
theorem tyJ7_ok : ∀ k, k < 0 → parseFieldDescriptor (TJ7 k).2.2.1 = some (tyJ7 k) := by decide +kernel
abbrev cJ7_fill_d0a16 : ByteArray := prog_17_method_101_code
def yJ7_fill_d0a16 : MethodName := ⟨RJ7, "fill", "([JJ)V"⟩
abbrev cJ7_fill_53178 : ByteArray := prog_17_method_103_code
def yJ7_fill_53178 : MethodName := ⟨RJ7, "fill", "([II)V"⟩
def RL : String := "TypewritersKnowLaw"
abbrev cL_law : ByteArray := code
def yL_law : MethodName := ⟨RL, "law", "([I)Z"⟩
abbrev vwCl : List vw_C := [(RX0, TX0, 3), (RX1, TX1, 6), (RX3, TX3, 4), (RX4, TX4, 10), (RX5, TX5, 5), (RX6, TX6, 5), (RX7, TX7, 4), (RX8, TX8, 5), (RX9, TX9, 3), (RX10, TX10, 16), (RX11, TX11, 43)]
end
section
-- tables of the links and methods, by program (wip/gen/tables.py)
theorem mm1 {w : Cond} (h : w ∈ tables_1_1) : w ∈ lw_tbl := List.mem_append_right _ (show w ∈ tables_1_1 ++ (tables_1_2 ++ (tables_1_3 ++ (tables_1_4 ++ (tables_1_5 ++ tables_1_6)))) from List.mem_append_left _ h)
theorem mm2 {w : Cond} (h : w ∈ tables_1_2) : w ∈ lw_tbl := List.mem_append_right _ (show w ∈ tables_1_1 ++ (tables_1_2 ++ (tables_1_3 ++ (tables_1_4 ++ (tables_1_5 ++ tables_1_6)))) from List.mem_append_right _ (List.mem_append_left _ h))
theorem mm3 {w : Cond} (h : w ∈ tables_1_3) : w ∈ lw_tbl := List.mem_append_right _ (show w ∈ tables_1_1 ++ (tables_1_2 ++ (tables_1_3 ++ (tables_1_4 ++ (tables_1_5 ++ tables_1_6)))) from List.mem_append_right _ (List.mem_append_right _ (List.mem_append_left _ h)))
theorem mm4 {w : Cond} (h : w ∈ tables_1_4) : w ∈ lw_tbl := List.mem_append_right _ (show w ∈ tables_1_1 ++ (tables_1_2 ++ (tables_1_3 ++ (tables_1_4 ++ (tables_1_5 ++ tables_1_6)))) from List.mem_append_right _ (List.mem_append_right _ (List.mem_append_right _ (List.mem_append_left _ h))))
theorem mm5 {w : Cond} (h : w ∈ tables_1_5) : w ∈ lw_tbl := List.mem_append_right _ (show w ∈ tables_1_1 ++ (tables_1_2 ++ (tables_1_3 ++ (tables_1_4 ++ (tables_1_5 ++ tables_1_6)))) from List.mem_append_right _ (List.mem_append_right _ (List.mem_append_right _ (List.mem_append_right _ (List.mem_append_left _ h)))))
theorem mm6 {w : Cond} (h : w ∈ tables_1_6) : w ∈ lw_tbl := List.mem_append_right _ (show w ∈ tables_1_1 ++ (tables_1_2 ++ (tables_1_3 ++ (tables_1_4 ++ (tables_1_5 ++ tables_1_6)))) from List.mem_append_right _ (List.mem_append_right _ (List.mem_append_right _ (List.mem_append_right _ (List.mem_append_right _ (h))))))
theorem mmp {q : MethodName × Nat} (h : q ∈ lw_privs) : Cond.selects q.1.cls q.1 q.1 ∈ lw_tbl := List.mem_append_left _ (List.mem_map.mpr ⟨q, h, rfl⟩)
def mOwn (o : Nat) : String := match o with
  | 0 => RX0
  | 1 => RX1
  | 2 => RX2
  | 3 => RX3
  | 4 => RX4
  | 5 => RX5
  | 6 => RX6
  | 7 => RX7
  | 8 => RX8
  | 9 => RX9
  | 10 => RX10
  | 11 => RX11
  | 12 => RL
  | 13 => RJ6
  | 14 => RJ9
  | _ => RJ7
abbrev mRec : Type := Nat × MethodName × ByteArray × Nat × Option FieldType × Bool × Nat
def mTab_0 : List mRec := [(0, yX0_fewest, cX0_fewest, 8, (some .int), false, 3), (0, yX0_typed, cX0_typed, 6, (some .int), true, 3), (0, yX0_wayLength, cX0_wayLength, 4, (some .int), false, 1), (0, yX0_writerOfStep, cX0_writerOfStep, 5, (some .int), false, 2), (1, yX1_add, cX1_add, 5, none, false, 4), (1, yX1_dropOldest, cX1_dropOldest, 1, none, false, 0), (2, yX2_isCode, cX2_isCode, 1, (some .boolean), true, 1), (2, yX2_code, cX2_code, 3, (some .int), true, 3), (2, yX2_part, cX2_part, 2, (some .int), true, 2), (2, yX2_sum, cX2_sum, 1, (some .int), true, 1), (2, yX2_nearer, cX2_nearer, 2, (some .int), true, 2), (3, yX3_has, cX3_has, 2, (some .boolean), false, 1), (3, yX3_isFull, cX3_isFull, 1, (some .boolean), false, 0), (3, yX3_join, cX3_join, 2, (some .int), false, 1), (3, yX3_isUnder, cX3_isUnder, 4, (some .boolean), true, 2), (3, yX3_note, cX3_note, 2, none, false, 1), (3, yX3_perform, cX3_perform, 8, (some .int), false, 5), (3, yX3_own, cX3_own, 5, (some .int), false, 4), (3, yX3_runGhost, cX3_runGhost, 5, (some .int), false, 4), (3, yX3_runUnder, cX3_runUnder, 6, (some .int), false, 5), (4, yX4_become, cX4_become, 2, none, false, 1), (4, yX4_value, cX4_value, 7, (some .int), false, 0), (4, yX4_operandsOf, cX4_operandsOf, 1, (some .int), true, 1), (4, yX4_valueOfStep, cX4_valueOfStep, 4, (some .int), false, 3)]
def mTab_1 : List mRec := [(5, yX5_copy, cX5_copy, 2, none, false, 1), (6, yX6_has, cX6_has, 2, (some .boolean), false, 1), (6, yX6_isFull, cX6_isFull, 1, (some .boolean), false, 0), (6, yX6_join, cX6_join, 4, (some .int), false, 3), (6, yX6_setNew, cX6_setNew, 5, none, false, 4), (6, yX6_pull, cX6_pull, 3, (some .int), false, 2), (6, yX6_pullCode, cX6_pullCode, 2, (some .int), false, 1), (6, yX6_copy, cX6_copy, 2, none, false, 1), (6, yX6_layBack, cX6_layBack, 2, none, false, 1), (6, yX6_markPulls, cX6_markPulls, 1, none, false, 0), (6, yX6_haveMoved, cX6_haveMoved, 2, (some .boolean), false, 0), (6, yX6_passNight, cX6_passNight, 4, none, false, 0), (6, yX6_areAllAlike, cX6_areAllAlike, 2, (some .boolean), false, 0), (7, yX7_isRow, cX7_isRow, 1, (some .boolean), false, 0), (7, yX7_isRowOf, cX7_isRowOf, 2, (some .boolean), false, 1), (7, yX7_isEmpty, cX7_isEmpty, 1, (some .boolean), false, 0), (7, yX7_holdGhost, cX7_holdGhost, 2, none, false, 1), (7, yX7_holdRow, cX7_holdRow, 3, none, false, 2), (7, yX7_hasSpan, cX7_hasSpan, 3, (some .boolean), false, 2), (7, yX7_lowest, cX7_lowest, 3, (some .long), false, 1), (8, yX8_isFull, cX8_isFull, 1, (some .boolean), false, 0), (8, yX8_addByte, cX8_addByte, 2, (some .int), false, 1), (8, yX8_read, cX8_read, 2, (some .boolean), false, 0), (8, yX8_readLine, cX8_readLine, 1, (some .boolean), false, 0)]
def mTab_2 : List mRec := [(8, yX8_readLevel, cX8_readLevel, 6, (some .boolean), false, 2), (8, yX8_readOperand, cX8_readOperand, 3, (some .boolean), false, 1), (8, yX8_readNumber, cX8_readNumber, 3, none, false, 0), (8, yX8_next, cX8_next, 1, (some .int), false, 0), (8, yX8_takes, cX8_takes, 2, (some .boolean), false, 1), (8, yX8_addStep, cX8_addStep, 2, none, false, 1), (8, yX8_isDigit, cX8_isDigit, 1, (some .boolean), true, 1), (8, yX8_isName, cX8_isName, 1, (some .boolean), true, 1), (8, yX8_levelOf, cX8_levelOf, 1, (some .int), true, 1), (9, yX9_has, cX9_has, 2, (some .boolean), false, 1), (9, yX9_isFull, cX9_isFull, 1, (some .boolean), false, 0), (9, yX9_join, cX9_join, 3, (some .int), false, 1), (9, yX9_hand, cX9_hand, 3, (some .int), false, 2), (9, yX9_handCode, cX9_handCode, 2, (some .int), false, 1), (9, yX9_copy, cX9_copy, 2, none, false, 1), (9, yX9_layBack, cX9_layBack, 2, none, false, 1), (10, yX10_machine, cX10_machine, 1, (some .int), false, 0), (10, yX10_machines, cX10_machines, 7, (some .int), false, 3), (10, yX10_writer, cX10_writer, 2, (some .int), false, 1), (10, yX10_mend, cX10_mend, 5, (some .int), false, 3), (10, yX10_of, cX10_of, 3, (some .int), false, 2), (10, yX10_feed, cX10_feed, 2, (some .int), false, 1), (10, yX10_law, cX10_law, 2, (some .int), false, 0), (10, yX10_shows, cX10_shows, 4, (some .int), false, 3)]
def mTab_3 : List mRec := [(10, yX10_later, cX10_later, 6, (some .int), false, 4), (10, yX10_letter, cX10_letter, 5, (some .int), false, 2), (10, yX10_still, cX10_still, 5, (some .int), false, 1), (10, yX10_far, cX10_far, 2, (some .int), false, 1), (10, yX10_nearest, cX10_nearest, 3, (some .int), false, 2), (10, yX10_given, cX10_given, 5, (some .int), false, 1), (10, yX10_teach, cX10_teach, 7, (some .int), false, 2), (10, yX10_bring, cX10_bring, 5, (some .int), false, 3), (10, yX10_whose, cX10_whose, 4, (some .int), false, 2), (10, yX10_where, cX10_where, 6, (some .int), false, 2), (10, yX10_pairs, cX10_pairs, 8, (some .int), false, 2), (10, yX10_between, cX10_between, 6, (some .int), false, 3), (10, yX10_judge, cX10_judge, 3, (some .int), false, 1), (10, yX10_falseOne, cX10_falseOne, 7, (some .int), false, 2), (10, yX10_ribbons, cX10_ribbons, 7, (some .int), false, 2), (10, yX10_morning, cX10_morning, 5, (some .int), false, 3), (10, yX10_alike, cX10_alike, 2, (some .int), false, 0), (10, yX10_price, cX10_price, 2, (some .int), false, 1), (10, yX10_buy, cX10_buy, 8, (some .int), false, 2), (10, yX10_drawn, cX10_drawn, 12, (some .int), false, 3), (10, yX10_types, cX10_types, 3, (some .int), false, 1), (10, yX10_clean, cX10_clean, 3, (some .int), false, 1), (10, yX10_learn, cX10_learn, 5, (some .int), false, 1), (10, yX10_led, cX10_led, 2, (some .int), false, 1)]
def mTab_4 : List mRec := [(10, yX10_image, cX10_image, 1, (some .int), false, 0), (10, yX10_back, cX10_back, 1, (some .int), false, 0), (10, yX10_undo, cX10_undo, 2, (some .int), false, 0), (10, yX10_redo, cX10_redo, 2, (some .int), false, 0), (10, yX10_body, cX10_body, 2, (some .int), false, 1), (10, yX10_act, cX10_act, 4, (some .int), false, 3), (10, yX10_trace, cX10_trace, 2, (some .int), false, 1), (10, yX10_keep, cX10_keep, 3, (some .int), false, 2), (10, yX10_row, cX10_row, 4, (some .int), false, 3), (10, yX10_put, cX10_put, 6, (some .int), false, 3), (10, yX10_element, cX10_element, 3, (some .long), false, 2), (10, yX10_shift, cX10_shift, 8, (some .int), false, 5), (10, yX10_taken, cX10_taken, 4, (some .int), false, 2), (10, yX10_count, cX10_count, 2, (some .int), false, 1), (10, yX10_isShelf, cX10_isShelf, 1, (some .boolean), true, 1), (10, yX10_isPair, cX10_isPair, 2, (some .boolean), false, 1), (10, yX10_rowRefusal, cX10_rowRefusal, 3, (some .int), false, 2), (10, yX10_cellRefusal, cX10_cellRefusal, 3, (some .int), false, 2), (10, yX10_pullsStandAt, cX10_pullsStandAt, 3, (some .boolean), true, 2), (10, yX10_isNumberOf, cX10_isNumberOf, 3, (some .boolean), false, 2), (10, yX10_topOf, cX10_topOf, 1, (some .int), true, 1), (10, yX10_valueOf, cX10_valueOf, 3, (some .int), false, 2), (10, yX10_setValue, cX10_setValue, 4, none, false, 3), (10, yX10_gripOf, cX10_gripOf, 6, (some .int), false, 4)]
def mTab_5 : List mRec := [(10, yX10_shown, cX10_shown, 6, (some .int), false, 4), (10, yX10_shownCode, cX10_shownCode, 4, (some .int), false, 3), (10, yX10_pass, cX10_pass, 6, none, false, 3), (10, yX10_dayHas, cX10_dayHas, 3, (some .boolean), false, 2), (10, yX10_thinkDay, cX10_thinkDay, 4, (some .int), false, 2), (10, yX10_playRound, cX10_playRound, 3, (some .boolean), false, 1), (10, yX10_apart, cX10_apart, 6, (some .int), false, 3), (10, yX10_allApart, cX10_allApart, 5, (some .int), false, 1), (10, yX10_nearestMachine, cX10_nearestMachine, 4, (some .int), false, 1), (10, yX10_nearestWriter, cX10_nearestWriter, 4, (some .int), false, 1), (10, yX10_fillGivenRest, cX10_fillGivenRest, 4, none, false, 0), (10, yX10_givenTo, cX10_givenTo, 7, (some .int), false, 2), (10, yX10_fits, cX10_fits, 6, (some .boolean), false, 4), (10, yX10_writersFor, cX10_writersFor, 5, (some .int), false, 2), (10, yX10_firstWrong, cX10_firstWrong, 8, (some .int), false, 4), (10, yX10_pence, cX10_pence, 4, (some .int), false, 1), (10, yX10_penceOf, cX10_penceOf, 4, (some .int), false, 1), (11, yX11_within, cX11_within, 6, (some .boolean), true, 3), (11, yX11_bitsOf, cX11_bitsOf, 3, (some .int), true, 1), (11, yX11_becomes, cX11_becomes, 5, (some .int), false, 2), (11, yX11_undo, cX11_undo, 1, (some .int), false, 0), (11, yX11_redo, cX11_redo, 1, (some .int), false, 0), (11, yX11_isMachine, cX11_isMachine, 3, (some .boolean), false, 1), (11, yX11_isWriter, cX11_isWriter, 3, (some .boolean), false, 1)]
def mTab_6 : List mRec := [(11, yX11_isWm, cX11_isWm, 2, (some .boolean), false, 1), (11, yX11_addsMachine, cX11_addsMachine, 4, none, false, 3), (11, yX11_machine, cX11_machine, 1, (some .int), false, 0), (11, yX11_machines, cX11_machines, 7, (some .int), false, 3), (11, yX11_isCode, cX11_isCode, 2, (some .boolean), true, 1), (11, yX11_inCode, cX11_inCode, 2, (some .int), true, 2), (11, yX11_writer, cX11_writer, 3, (some .int), false, 1), (11, yX11_placeOf, cX11_placeOf, 3, (some .int), false, 2), (11, yX11_mend, cX11_mend, 6, (some .int), false, 3), (11, yX11_of, cX11_of, 4, (some .int), false, 2), (11, yX11_feed, cX11_feed, 2, (some .int), false, 1), (11, yX11_byteAt, cX11_byteAt, 1, (some .int), false, 0), (11, yX11_wrong, cX11_wrong, 1, (some .int), false, 0), (11, yX11_takes, cX11_takes, 2, (some .boolean), false, 1), (11, yX11_either, cX11_either, 3, (some .int), false, 0), (11, yX11_both, cX11_both, 3, (some .int), false, 0), (11, yX11_compared, cX11_compared, 4, (some .int), false, 0), (11, yX11_sums, cX11_sums, 4, (some .int), false, 0), (11, yX11_product, cX11_product, 4, (some .int), false, 0), (11, yX11_nameOf, cX11_nameOf, 1, (some .int), true, 1), (11, yX11_one, cX11_one, 5, (some .int), false, 0), (11, yX11_workOut, cX11_workOut, 8, (some .int), false, 2), (11, yX11_law, cX11_law, 4, (some .int), false, 0), (11, yX11_begins, cX11_begins, 2, none, false, 0)]
def mTab_7 : List mRec := [(11, yX11_handOf, cX11_handOf, 3, (some .int), false, 2), (11, yX11_apart, cX11_apart, 2, (some .int), true, 2), (11, yX11_nearer, cX11_nearer, 2, (some .int), true, 2), (11, yX11_gripOf, cX11_gripOf, 5, (some .int), false, 3), (11, yX11_showsOf, cX11_showsOf, 5, (some .int), false, 3), (11, yX11_codeOf, cX11_codeOf, 3, (some .int), false, 2), (11, yX11_typesOn, cX11_typesOn, 4, none, false, 2), (11, yX11_shows, cX11_shows, 4, (some .int), false, 3), (11, yX11_rowIs, cX11_rowIs, 3, (some .int), false, 2), (11, yX11_lettersIn, cX11_lettersIn, 3, (some .int), false, 1), (11, yX11_typesDay, cX11_typesDay, 5, none, false, 2), (11, yX11_later, cX11_later, 5, (some .int), false, 4), (11, yX11_letter, cX11_letter, 4, (some .int), false, 2), (11, yX11_still, cX11_still, 5, (some .int), false, 1), (11, yX11_farOf, cX11_farOf, 5, (some .int), false, 2), (11, yX11_far, cX11_far, 2, (some .int), false, 1), (11, yX11_nearest, cX11_nearest, 7, (some .int), false, 2), (11, yX11_given, cX11_given, 8, (some .int), false, 1), (11, yX11_teach, cX11_teach, 5, (some .int), false, 2), (11, yX11_codeBehind, cX11_codeBehind, 5, (some .int), false, 2), (11, yX11_bring, cX11_bring, 9, (some .int), false, 3), (11, yX11_isSheet, cX11_isSheet, 5, (some .boolean), false, 3), (11, yX11_whose, cX11_whose, 5, (some .int), false, 2), (11, yX11_where, cX11_where, 5, (some .int), false, 2)]
def mTab_8 : List mRec := [(11, yX11_pairs, cX11_pairs, 9, (some .int), false, 2), (11, yX11_between, cX11_between, 5, (some .int), false, 3), (11, yX11_firstFalse, cX11_firstFalse, 8, (some .int), false, 3), (11, yX11_judge, cX11_judge, 2, (some .int), false, 1), (11, yX11_falseOne, cX11_falseOne, 5, (some .int), false, 2), (11, yX11_ribbons, cX11_ribbons, 6, (some .int), false, 2), (11, yX11_sleeps, cX11_sleeps, 4, none, false, 0), (11, yX11_morning, cX11_morning, 5, (some .int), false, 3), (11, yX11_alike, cX11_alike, 4, (some .int), false, 0), (11, yX11_priceOf, cX11_priceOf, 5, (some .int), false, 1), (11, yX11_price, cX11_price, 2, (some .int), false, 1), (11, yX11_buy, cX11_buy, 8, (some .int), false, 2), (11, yX11_drawn, cX11_drawn, 10, (some .int), false, 3), (11, yX11_types, cX11_types, 5, (some .int), false, 1), (11, yX11_clean, cX11_clean, 4, (some .int), false, 1), (11, yX11_learn, cX11_learn, 5, (some .int), false, 1), (11, yX11_led, cX11_led, 2, (some .int), false, 1), (11, yX11_image, cX11_image, 2, (some .int), false, 0), (11, yX11_back, cX11_back, 2, (some .int), false, 0), (11, yX11_isBody, cX11_isBody, 2, (some .boolean), false, 1), (11, yX11_kindOf, cX11_kindOf, 2, (some .int), false, 1), (11, yX11_body, cX11_body, 2, (some .int), false, 1), (11, yX11_above, cX11_above, 1, (some .int), true, 1), (11, yX11_runs, cX11_runs, 2, none, false, 1)]
def mTab_9 : List mRec := [(11, yX11_typesAs, cX11_typesAs, 3, (some .int), false, 2), (11, yX11_sticksAs, cX11_sticksAs, 4, (some .int), false, 2), (11, yX11_ringsAs, cX11_ringsAs, 4, (some .int), false, 2), (11, yX11_tellsAs, cX11_tellsAs, 4, (some .int), false, 2), (11, yX11_act, cX11_act, 4, (some .int), false, 3), (11, yX11_trace, cX11_trace, 2, (some .int), false, 1), (11, yX11_isShelf, cX11_isShelf, 1, (some .boolean), true, 1), (11, yX11_keep, cX11_keep, 3, (some .int), false, 2), (11, yX11_row, cX11_row, 5, (some .int), false, 3), (11, yX11_refusal, cX11_refusal, 3, (some .int), false, 2), (11, yX11_asSort, cX11_asSort, 3, (some .long), true, 2), (11, yX11_put, cX11_put, 6, (some .int), false, 3), (11, yX11_element, cX11_element, 3, (some .long), false, 2), (11, yX11_shift, cX11_shift, 7, (some .int), false, 5), (11, yX11_taken, cX11_taken, 4, (some .int), false, 2), (11, yX11_count, cX11_count, 2, (some .int), false, 1), (13, yJ6_numberOfTrailingZeros_0f7a4, cJ6_numberOfTrailingZeros_0f7a4, 2, (some .int), true, 1), (13, yJ6_bitCount_0f7a4, cJ6_bitCount_0f7a4, 1, (some .int), true, 1), (15, yJ7_fill_d0a16, cJ7_fill_d0a16, 5, none, true, 2), (15, yJ7_fill_53178, cJ7_fill_53178, 4, none, true, 2)]
def mTab : List mRec := mTab_0 ++ (mTab_1 ++ (mTab_2 ++ (mTab_3 ++ (mTab_4 ++ (mTab_5 ++ (mTab_6 ++ (mTab_7 ++ (mTab_8 ++ (mTab_9)))))))))
/-- what the tables say of a method's entry -/
def mRecOk (r : mRec) : Prop := Cond.code r.2.1 r.2.2.1 r.2.2.2.1 r.2.2.2.2.1 ∈ lw_tbl ∧ Cond.initialized r.2.1.cls ∈ lw_tbl ∧ (if r.2.2.2.2.2.1 = true then Cond.static r.2.1 ∈ lw_tbl else (Cond.instanceMethod r.2.1 ∈ lw_tbl ∧ Cond.selects r.2.1.cls r.2.1 r.2.1 ∈ lw_tbl)) ∧ r.2.1.cls = mOwn r.1 ∧ plainName r.2.1.cls = true ∧
  (r.2.1.cls ≠ "java/lang/invoke/MethodHandle" ∧ r.2.1.cls ≠ "java/lang/invoke/VarHandle" ∧ (parseMethodDescriptor r.2.1.desc).map (fun d => d.parameters.length) = some r.2.2.2.2.2.2)
theorem mo_0 : mRecOk (0, yX0_fewest, cX0_fewest, 8, (some .int), false, 3) := ⟨(mm3 (List.mem_of_getElem? (i := 154) rfl)), (mm1 (List.mem_of_getElem? (i := 9) rfl)), (show Cond.instanceMethod yX0_fewest ∈ lw_tbl ∧ Cond.selects yX0_fewest.cls yX0_fewest yX0_fewest ∈ lw_tbl from ⟨(mm3 (List.mem_of_getElem? (i := 152) rfl)), (mm3 (List.mem_of_getElem? (i := 153) rfl))⟩), rfl, by decide +kernel, by decide +kernel⟩
theorem mo_1 : mRecOk (0, yX0_typed, cX0_typed, 6, (some .int), true, 3) := ⟨(mm3 (List.mem_of_getElem? (i := 160) rfl)), (mm1 (List.mem_of_getElem? (i := 9) rfl)), (show Cond.static yX0_typed ∈ lw_tbl from (mm3 (List.mem_of_getElem? (i := 159) rfl))), rfl, by decide +kernel, by decide +kernel⟩
theorem mo_2 : mRecOk (0, yX0_wayLength, cX0_wayLength, 4, (some .int), false, 1) := ⟨(mm3 (List.mem_of_getElem? (i := 168) rfl)), (mm1 (List.mem_of_getElem? (i := 9) rfl)), (show Cond.instanceMethod yX0_wayLength ∈ lw_tbl ∧ Cond.selects yX0_wayLength.cls yX0_wayLength yX0_wayLength ∈ lw_tbl from ⟨(mm3 (List.mem_of_getElem? (i := 166) rfl)), (mm3 (List.mem_of_getElem? (i := 167) rfl))⟩), rfl, by decide +kernel, by decide +kernel⟩
theorem mo_3 : mRecOk (0, yX0_writerOfStep, cX0_writerOfStep, 5, (some .int), false, 2) := ⟨(mm3 (List.mem_of_getElem? (i := 172) rfl)), (mm1 (List.mem_of_getElem? (i := 9) rfl)), (show Cond.instanceMethod yX0_writerOfStep ∈ lw_tbl ∧ Cond.selects yX0_writerOfStep.cls yX0_writerOfStep yX0_writerOfStep ∈ lw_tbl from ⟨(mm3 (List.mem_of_getElem? (i := 170) rfl)), (mm3 (List.mem_of_getElem? (i := 171) rfl))⟩), rfl, by decide +kernel, by decide +kernel⟩
theorem mo_4 : mRecOk (1, yX1_add, cX1_add, 5, none, false, 4) := ⟨(mm2 (List.mem_of_getElem? (i := 164) rfl)), (mm1 (List.mem_of_getElem? (i := 6) rfl)), (show Cond.instanceMethod yX1_add ∈ lw_tbl ∧ Cond.selects yX1_add.cls yX1_add yX1_add ∈ lw_tbl from ⟨(mm2 (List.mem_of_getElem? (i := 162) rfl)), (mm2 (List.mem_of_getElem? (i := 163) rfl))⟩), rfl, by decide +kernel, by decide +kernel⟩
theorem mo_5 : mRecOk (1, yX1_dropOldest, cX1_dropOldest, 1, none, false, 0) := ⟨(mm2 (List.mem_of_getElem? (i := 168) rfl)), (mm1 (List.mem_of_getElem? (i := 6) rfl)), (show Cond.instanceMethod yX1_dropOldest ∈ lw_tbl ∧ Cond.selects yX1_dropOldest.cls yX1_dropOldest yX1_dropOldest ∈ lw_tbl from ⟨(mm2 (List.mem_of_getElem? (i := 166) rfl)), (mm2 (List.mem_of_getElem? (i := 167) rfl))⟩), rfl, by decide +kernel, by decide +kernel⟩
theorem mo_6 : mRecOk (2, yX2_isCode, cX2_isCode, 1, (some .boolean), true, 1) := ⟨(mm2 (List.mem_of_getElem? (i := 118) rfl)), (mm1 (List.mem_of_getElem? (i := 12) rfl)), (show Cond.static yX2_isCode ∈ lw_tbl from (mm2 (List.mem_of_getElem? (i := 117) rfl))), rfl, by decide +kernel, by decide +kernel⟩
theorem mo_7 : mRecOk (2, yX2_code, cX2_code, 3, (some .int), true, 3) := ⟨(mm3 (List.mem_of_getElem? (i := 81) rfl)), (mm1 (List.mem_of_getElem? (i := 12) rfl)), (show Cond.static yX2_code ∈ lw_tbl from (mm3 (List.mem_of_getElem? (i := 80) rfl))), rfl, by decide +kernel, by decide +kernel⟩
theorem mo_8 : mRecOk (2, yX2_part, cX2_part, 2, (some .int), true, 2) := ⟨(mm2 (List.mem_of_getElem? (i := 129) rfl)), (mm1 (List.mem_of_getElem? (i := 12) rfl)), (show Cond.static yX2_part ∈ lw_tbl from (mm2 (List.mem_of_getElem? (i := 128) rfl))), rfl, by decide +kernel, by decide +kernel⟩
theorem mo_9 : mRecOk (2, yX2_sum, cX2_sum, 1, (some .int), true, 1) := ⟨(mm4 (List.mem_of_getElem? (i := 26) rfl)), (mm1 (List.mem_of_getElem? (i := 12) rfl)), (show Cond.static yX2_sum ∈ lw_tbl from (mm4 (List.mem_of_getElem? (i := 25) rfl))), rfl, by decide +kernel, by decide +kernel⟩
theorem mo_10 : mRecOk (2, yX2_nearer, cX2_nearer, 2, (some .int), true, 2) := ⟨(mm3 (List.mem_of_getElem? (i := 70) rfl)), (mm1 (List.mem_of_getElem? (i := 12) rfl)), (show Cond.static yX2_nearer ∈ lw_tbl from (mm3 (List.mem_of_getElem? (i := 69) rfl))), rfl, by decide +kernel, by decide +kernel⟩
theorem mo_11 : mRecOk (3, yX3_has, cX3_has, 2, (some .boolean), false, 1) := ⟨(mm4 (List.mem_of_getElem? (i := 97) rfl)), (mm1 (List.mem_of_getElem? (i := 7) rfl)), (show Cond.instanceMethod yX3_has ∈ lw_tbl ∧ Cond.selects yX3_has.cls yX3_has yX3_has ∈ lw_tbl from ⟨(mm4 (List.mem_of_getElem? (i := 95) rfl)), (mm4 (List.mem_of_getElem? (i := 96) rfl))⟩), rfl, by decide +kernel, by decide +kernel⟩
theorem mo_12 : mRecOk (3, yX3_isFull, cX3_isFull, 1, (some .boolean), false, 0) := ⟨(mm4 (List.mem_of_getElem? (i := 85) rfl)), (mm1 (List.mem_of_getElem? (i := 7) rfl)), (show Cond.instanceMethod yX3_isFull ∈ lw_tbl ∧ Cond.selects yX3_isFull.cls yX3_isFull yX3_isFull ∈ lw_tbl from ⟨(mm4 (List.mem_of_getElem? (i := 83) rfl)), (mm4 (List.mem_of_getElem? (i := 84) rfl))⟩), rfl, by decide +kernel, by decide +kernel⟩
theorem mo_13 : mRecOk (3, yX3_join, cX3_join, 2, (some .int), false, 1) := ⟨(mm4 (List.mem_of_getElem? (i := 89) rfl)), (mm1 (List.mem_of_getElem? (i := 7) rfl)), (show Cond.instanceMethod yX3_join ∈ lw_tbl ∧ Cond.selects yX3_join.cls yX3_join yX3_join ∈ lw_tbl from ⟨(mm4 (List.mem_of_getElem? (i := 87) rfl)), (mm4 (List.mem_of_getElem? (i := 88) rfl))⟩), rfl, by decide +kernel, by decide +kernel⟩
theorem mo_14 : mRecOk (3, yX3_isUnder, cX3_isUnder, 4, (some .boolean), true, 2) := ⟨(mm4 (List.mem_of_getElem? (i := 178) rfl)), (mm1 (List.mem_of_getElem? (i := 7) rfl)), (show Cond.static yX3_isUnder ∈ lw_tbl from (mm4 (List.mem_of_getElem? (i := 177) rfl))), rfl, by decide +kernel, by decide +kernel⟩
theorem mo_15 : mRecOk (3, yX3_note, cX3_note, 2, none, false, 1) := ⟨(mm4 (List.mem_of_getElem? (i := 109) rfl)), (mm1 (List.mem_of_getElem? (i := 7) rfl)), (show Cond.instanceMethod yX3_note ∈ lw_tbl ∧ Cond.selects yX3_note.cls yX3_note yX3_note ∈ lw_tbl from ⟨(mm4 (List.mem_of_getElem? (i := 107) rfl)), (mm4 (List.mem_of_getElem? (i := 108) rfl))⟩), rfl, by decide +kernel, by decide +kernel⟩
theorem mo_16 : mRecOk (3, yX3_perform, cX3_perform, 8, (some .int), false, 5) := ⟨(mm4 (List.mem_of_getElem? (i := 101) rfl)), (mm1 (List.mem_of_getElem? (i := 7) rfl)), (show Cond.instanceMethod yX3_perform ∈ lw_tbl ∧ Cond.selects yX3_perform.cls yX3_perform yX3_perform ∈ lw_tbl from ⟨(mm4 (List.mem_of_getElem? (i := 100) rfl)), (mmp (q := (yX3_perform, 4)) (List.mem_of_getElem? (i := 25) rfl))⟩), rfl, by decide +kernel, by decide +kernel⟩
theorem mo_17 : mRecOk (3, yX3_own, cX3_own, 5, (some .int), false, 4) := ⟨(mm4 (List.mem_of_getElem? (i := 117) rfl)), (mm1 (List.mem_of_getElem? (i := 7) rfl)), (show Cond.instanceMethod yX3_own ∈ lw_tbl ∧ Cond.selects yX3_own.cls yX3_own yX3_own ∈ lw_tbl from ⟨(mm4 (List.mem_of_getElem? (i := 116) rfl)), (mmp (q := (yX3_own, 4)) (List.mem_of_getElem? (i := 27) rfl))⟩), rfl, by decide +kernel, by decide +kernel⟩
theorem mo_18 : mRecOk (3, yX3_runGhost, cX3_runGhost, 5, (some .int), false, 4) := ⟨(mm4 (List.mem_of_getElem? (i := 113) rfl)), (mm1 (List.mem_of_getElem? (i := 7) rfl)), (show Cond.instanceMethod yX3_runGhost ∈ lw_tbl ∧ Cond.selects yX3_runGhost.cls yX3_runGhost yX3_runGhost ∈ lw_tbl from ⟨(mm4 (List.mem_of_getElem? (i := 112) rfl)), (mmp (q := (yX3_runGhost, 4)) (List.mem_of_getElem? (i := 26) rfl))⟩), rfl, by decide +kernel, by decide +kernel⟩
theorem mo_19 : mRecOk (3, yX3_runUnder, cX3_runUnder, 6, (some .int), false, 5) := ⟨(mm4 (List.mem_of_getElem? (i := 122) rfl)), (mm1 (List.mem_of_getElem? (i := 7) rfl)), (show Cond.instanceMethod yX3_runUnder ∈ lw_tbl ∧ Cond.selects yX3_runUnder.cls yX3_runUnder yX3_runUnder ∈ lw_tbl from ⟨(mm4 (List.mem_of_getElem? (i := 121) rfl)), (mmp (q := (yX3_runUnder, 4)) (List.mem_of_getElem? (i := 28) rfl))⟩), rfl, by decide +kernel, by decide +kernel⟩
theorem mo_20 : mRecOk (4, yX4_become, cX4_become, 2, none, false, 1) := ⟨(mm3 (List.mem_of_getElem? (i := 0) rfl)), (mm1 (List.mem_of_getElem? (i := 5) rfl)), (show Cond.instanceMethod yX4_become ∈ lw_tbl ∧ Cond.selects yX4_become.cls yX4_become yX4_become ∈ lw_tbl from ⟨(mm2 (List.mem_of_getElem? (i := 238) rfl)), (mm2 (List.mem_of_getElem? (i := 239) rfl))⟩), rfl, by decide +kernel, by decide +kernel⟩
theorem mo_21 : mRecOk (4, yX4_value, cX4_value, 7, (some .int), false, 0) := ⟨(mm3 (List.mem_of_getElem? (i := 24) rfl)), (mm1 (List.mem_of_getElem? (i := 5) rfl)), (show Cond.instanceMethod yX4_value ∈ lw_tbl ∧ Cond.selects yX4_value.cls yX4_value yX4_value ∈ lw_tbl from ⟨(mm3 (List.mem_of_getElem? (i := 22) rfl)), (mm3 (List.mem_of_getElem? (i := 23) rfl))⟩), rfl, by decide +kernel, by decide +kernel⟩
theorem mo_22 : mRecOk (4, yX4_operandsOf, cX4_operandsOf, 1, (some .int), true, 1) := ⟨(mm3 (List.mem_of_getElem? (i := 27) rfl)), (mm1 (List.mem_of_getElem? (i := 5) rfl)), (show Cond.static yX4_operandsOf ∈ lw_tbl from (mm3 (List.mem_of_getElem? (i := 26) rfl))), rfl, by decide +kernel, by decide +kernel⟩
theorem mo_23 : mRecOk (4, yX4_valueOfStep, cX4_valueOfStep, 4, (some .int), false, 3) := ⟨(mm3 (List.mem_of_getElem? (i := 32) rfl)), (mm1 (List.mem_of_getElem? (i := 5) rfl)), (show Cond.instanceMethod yX4_valueOfStep ∈ lw_tbl ∧ Cond.selects yX4_valueOfStep.cls yX4_valueOfStep yX4_valueOfStep ∈ lw_tbl from ⟨(mm3 (List.mem_of_getElem? (i := 30) rfl)), (mm3 (List.mem_of_getElem? (i := 31) rfl))⟩), rfl, by decide +kernel, by decide +kernel⟩
theorem mTab_ok_0 : ∀ r ∈ mTab_0, mRecOk r := List.forall_mem_cons.mpr ⟨mo_0, List.forall_mem_cons.mpr ⟨mo_1, List.forall_mem_cons.mpr ⟨mo_2, List.forall_mem_cons.mpr ⟨mo_3, List.forall_mem_cons.mpr ⟨mo_4, List.forall_mem_cons.mpr ⟨mo_5, List.forall_mem_cons.mpr ⟨mo_6, List.forall_mem_cons.mpr ⟨mo_7, List.forall_mem_cons.mpr ⟨mo_8, List.forall_mem_cons.mpr ⟨mo_9, List.forall_mem_cons.mpr ⟨mo_10, List.forall_mem_cons.mpr ⟨mo_11, List.forall_mem_cons.mpr ⟨mo_12, List.forall_mem_cons.mpr ⟨mo_13, List.forall_mem_cons.mpr ⟨mo_14, List.forall_mem_cons.mpr ⟨mo_15, List.forall_mem_cons.mpr ⟨mo_16, List.forall_mem_cons.mpr ⟨mo_17, List.forall_mem_cons.mpr ⟨mo_18, List.forall_mem_cons.mpr ⟨mo_19, List.forall_mem_cons.mpr ⟨mo_20, List.forall_mem_cons.mpr ⟨mo_21, List.forall_mem_cons.mpr ⟨mo_22, List.forall_mem_cons.mpr ⟨mo_23, fun _ h => absurd h List.not_mem_nil⟩⟩⟩⟩⟩⟩⟩⟩⟩⟩⟩⟩⟩⟩⟩⟩⟩⟩⟩⟩⟩⟩⟩⟩
theorem mo_24 : mRecOk (5, yX5_copy, cX5_copy, 2, none, false, 1) := ⟨(mm4 (List.mem_of_getElem? (i := 63) rfl)), (mm1 (List.mem_of_getElem? (i := 8) rfl)), (show Cond.instanceMethod yX5_copy ∈ lw_tbl ∧ Cond.selects yX5_copy.cls yX5_copy yX5_copy ∈ lw_tbl from ⟨(mm4 (List.mem_of_getElem? (i := 61) rfl)), (mm4 (List.mem_of_getElem? (i := 62) rfl))⟩), rfl, by decide +kernel, by decide +kernel⟩
theorem mo_25 : mRecOk (6, yX6_has, cX6_has, 2, (some .boolean), false, 1) := ⟨(mm2 (List.mem_of_getElem? (i := 141) rfl)), (mm1 (List.mem_of_getElem? (i := 2) rfl)), (show Cond.instanceMethod yX6_has ∈ lw_tbl ∧ Cond.selects yX6_has.cls yX6_has yX6_has ∈ lw_tbl from ⟨(mm2 (List.mem_of_getElem? (i := 139) rfl)), (mm2 (List.mem_of_getElem? (i := 140) rfl))⟩), rfl, by decide +kernel, by decide +kernel⟩
theorem mo_26 : mRecOk (6, yX6_isFull, cX6_isFull, 1, (some .boolean), false, 0) := ⟨(mm2 (List.mem_of_getElem? (i := 80) rfl)), (mm1 (List.mem_of_getElem? (i := 2) rfl)), (show Cond.instanceMethod yX6_isFull ∈ lw_tbl ∧ Cond.selects yX6_isFull.cls yX6_isFull yX6_isFull ∈ lw_tbl from ⟨(mm2 (List.mem_of_getElem? (i := 78) rfl)), (mm2 (List.mem_of_getElem? (i := 79) rfl))⟩), rfl, by decide +kernel, by decide +kernel⟩
theorem mo_27 : mRecOk (6, yX6_join, cX6_join, 4, (some .int), false, 3) := ⟨(mm2 (List.mem_of_getElem? (i := 84) rfl)), (mm1 (List.mem_of_getElem? (i := 2) rfl)), (show Cond.instanceMethod yX6_join ∈ lw_tbl ∧ Cond.selects yX6_join.cls yX6_join yX6_join ∈ lw_tbl from ⟨(mm2 (List.mem_of_getElem? (i := 82) rfl)), (mm2 (List.mem_of_getElem? (i := 83) rfl))⟩), rfl, by decide +kernel, by decide +kernel⟩
theorem mo_28 : mRecOk (6, yX6_setNew, cX6_setNew, 5, none, false, 4) := ⟨(mm2 (List.mem_of_getElem? (i := 88) rfl)), (mm1 (List.mem_of_getElem? (i := 2) rfl)), (show Cond.instanceMethod yX6_setNew ∈ lw_tbl ∧ Cond.selects yX6_setNew.cls yX6_setNew yX6_setNew ∈ lw_tbl from ⟨(mm2 (List.mem_of_getElem? (i := 86) rfl)), (mm2 (List.mem_of_getElem? (i := 87) rfl))⟩), rfl, by decide +kernel, by decide +kernel⟩
theorem mo_29 : mRecOk (6, yX6_pull, cX6_pull, 3, (some .int), false, 2) := ⟨(mm2 (List.mem_of_getElem? (i := 156) rfl)), (mm1 (List.mem_of_getElem? (i := 2) rfl)), (show Cond.instanceMethod yX6_pull ∈ lw_tbl ∧ Cond.selects yX6_pull.cls yX6_pull yX6_pull ∈ lw_tbl from ⟨(mm2 (List.mem_of_getElem? (i := 154) rfl)), (mm2 (List.mem_of_getElem? (i := 155) rfl))⟩), rfl, by decide +kernel, by decide +kernel⟩
theorem mo_30 : mRecOk (6, yX6_pullCode, cX6_pullCode, 2, (some .int), false, 1) := ⟨(mm3 (List.mem_of_getElem? (i := 148) rfl)), (mm1 (List.mem_of_getElem? (i := 2) rfl)), (show Cond.instanceMethod yX6_pullCode ∈ lw_tbl ∧ Cond.selects yX6_pullCode.cls yX6_pullCode yX6_pullCode ∈ lw_tbl from ⟨(mm3 (List.mem_of_getElem? (i := 146) rfl)), (mm3 (List.mem_of_getElem? (i := 147) rfl))⟩), rfl, by decide +kernel, by decide +kernel⟩
theorem mo_31 : mRecOk (6, yX6_copy, cX6_copy, 2, none, false, 1) := ⟨(mm3 (List.mem_of_getElem? (i := 54) rfl)), (mm1 (List.mem_of_getElem? (i := 2) rfl)), (show Cond.instanceMethod yX6_copy ∈ lw_tbl ∧ Cond.selects yX6_copy.cls yX6_copy yX6_copy ∈ lw_tbl from ⟨(mm3 (List.mem_of_getElem? (i := 52) rfl)), (mm3 (List.mem_of_getElem? (i := 53) rfl))⟩), rfl, by decide +kernel, by decide +kernel⟩
theorem mo_32 : mRecOk (6, yX6_layBack, cX6_layBack, 2, none, false, 1) := ⟨(mm3 (List.mem_of_getElem? (i := 58) rfl)), (mm1 (List.mem_of_getElem? (i := 2) rfl)), (show Cond.instanceMethod yX6_layBack ∈ lw_tbl ∧ Cond.selects yX6_layBack.cls yX6_layBack yX6_layBack ∈ lw_tbl from ⟨(mm3 (List.mem_of_getElem? (i := 56) rfl)), (mm3 (List.mem_of_getElem? (i := 57) rfl))⟩), rfl, by decide +kernel, by decide +kernel⟩
theorem mo_33 : mRecOk (6, yX6_markPulls, cX6_markPulls, 1, none, false, 0) := ⟨(mm3 (List.mem_of_getElem? (i := 93) rfl)), (mm1 (List.mem_of_getElem? (i := 2) rfl)), (show Cond.instanceMethod yX6_markPulls ∈ lw_tbl ∧ Cond.selects yX6_markPulls.cls yX6_markPulls yX6_markPulls ∈ lw_tbl from ⟨(mm3 (List.mem_of_getElem? (i := 91) rfl)), (mm3 (List.mem_of_getElem? (i := 92) rfl))⟩), rfl, by decide +kernel, by decide +kernel⟩
theorem mo_34 : mRecOk (6, yX6_haveMoved, cX6_haveMoved, 2, (some .boolean), false, 0) := ⟨(mm3 (List.mem_of_getElem? (i := 97) rfl)), (mm1 (List.mem_of_getElem? (i := 2) rfl)), (show Cond.instanceMethod yX6_haveMoved ∈ lw_tbl ∧ Cond.selects yX6_haveMoved.cls yX6_haveMoved yX6_haveMoved ∈ lw_tbl from ⟨(mm3 (List.mem_of_getElem? (i := 95) rfl)), (mm3 (List.mem_of_getElem? (i := 96) rfl))⟩), rfl, by decide +kernel, by decide +kernel⟩
theorem mo_35 : mRecOk (6, yX6_passNight, cX6_passNight, 4, none, false, 0) := ⟨(mm3 (List.mem_of_getElem? (i := 224) rfl)), (mm1 (List.mem_of_getElem? (i := 2) rfl)), (show Cond.instanceMethod yX6_passNight ∈ lw_tbl ∧ Cond.selects yX6_passNight.cls yX6_passNight yX6_passNight ∈ lw_tbl from ⟨(mm3 (List.mem_of_getElem? (i := 222) rfl)), (mm3 (List.mem_of_getElem? (i := 223) rfl))⟩), rfl, by decide +kernel, by decide +kernel⟩
theorem mo_36 : mRecOk (6, yX6_areAllAlike, cX6_areAllAlike, 2, (some .boolean), false, 0) := ⟨(mm3 (List.mem_of_getElem? (i := 234) rfl)), (mm1 (List.mem_of_getElem? (i := 2) rfl)), (show Cond.instanceMethod yX6_areAllAlike ∈ lw_tbl ∧ Cond.selects yX6_areAllAlike.cls yX6_areAllAlike yX6_areAllAlike ∈ lw_tbl from ⟨(mm3 (List.mem_of_getElem? (i := 232) rfl)), (mm3 (List.mem_of_getElem? (i := 233) rfl))⟩), rfl, by decide +kernel, by decide +kernel⟩
theorem mo_37 : mRecOk (7, yX7_isRow, cX7_isRow, 1, (some .boolean), false, 0) := ⟨(mm4 (List.mem_of_getElem? (i := 157) rfl)), (mm1 (List.mem_of_getElem? (i := 10) rfl)), (show Cond.instanceMethod yX7_isRow ∈ lw_tbl ∧ Cond.selects yX7_isRow.cls yX7_isRow yX7_isRow ∈ lw_tbl from ⟨(mm4 (List.mem_of_getElem? (i := 155) rfl)), (mm4 (List.mem_of_getElem? (i := 156) rfl))⟩), rfl, by decide +kernel, by decide +kernel⟩
theorem mo_38 : mRecOk (7, yX7_isRowOf, cX7_isRowOf, 2, (some .boolean), false, 1) := ⟨(mm2 (List.mem_of_getElem? (i := 103) rfl)), (mm1 (List.mem_of_getElem? (i := 10) rfl)), (show Cond.instanceMethod yX7_isRowOf ∈ lw_tbl ∧ Cond.selects yX7_isRowOf.cls yX7_isRowOf yX7_isRowOf ∈ lw_tbl from ⟨(mm2 (List.mem_of_getElem? (i := 101) rfl)), (mm2 (List.mem_of_getElem? (i := 102) rfl))⟩), rfl, by decide +kernel, by decide +kernel⟩
theorem mo_39 : mRecOk (7, yX7_isEmpty, cX7_isEmpty, 1, (some .boolean), false, 0) := ⟨(mm2 (List.mem_of_getElem? (i := 99) rfl)), (mm1 (List.mem_of_getElem? (i := 10) rfl)), (show Cond.instanceMethod yX7_isEmpty ∈ lw_tbl ∧ Cond.selects yX7_isEmpty.cls yX7_isEmpty yX7_isEmpty ∈ lw_tbl from ⟨(mm2 (List.mem_of_getElem? (i := 97) rfl)), (mm2 (List.mem_of_getElem? (i := 98) rfl))⟩), rfl, by decide +kernel, by decide +kernel⟩
theorem mo_40 : mRecOk (7, yX7_holdGhost, cX7_holdGhost, 2, none, false, 1) := ⟨(mm4 (List.mem_of_getElem? (i := 134) rfl)), (mm1 (List.mem_of_getElem? (i := 10) rfl)), (show Cond.instanceMethod yX7_holdGhost ∈ lw_tbl ∧ Cond.selects yX7_holdGhost.cls yX7_holdGhost yX7_holdGhost ∈ lw_tbl from ⟨(mm4 (List.mem_of_getElem? (i := 132) rfl)), (mm4 (List.mem_of_getElem? (i := 133) rfl))⟩), rfl, by decide +kernel, by decide +kernel⟩
theorem mo_41 : mRecOk (7, yX7_holdRow, cX7_holdRow, 3, none, false, 2) := ⟨(mm4 (List.mem_of_getElem? (i := 142) rfl)), (mm1 (List.mem_of_getElem? (i := 10) rfl)), (show Cond.instanceMethod yX7_holdRow ∈ lw_tbl ∧ Cond.selects yX7_holdRow.cls yX7_holdRow yX7_holdRow ∈ lw_tbl from ⟨(mm4 (List.mem_of_getElem? (i := 140) rfl)), (mm4 (List.mem_of_getElem? (i := 141) rfl))⟩), rfl, by decide +kernel, by decide +kernel⟩
theorem mo_42 : mRecOk (7, yX7_hasSpan, cX7_hasSpan, 3, (some .boolean), false, 2) := ⟨(mm2 (List.mem_of_getElem? (i := 110) rfl)), (mm1 (List.mem_of_getElem? (i := 10) rfl)), (show Cond.instanceMethod yX7_hasSpan ∈ lw_tbl ∧ Cond.selects yX7_hasSpan.cls yX7_hasSpan yX7_hasSpan ∈ lw_tbl from ⟨(mm2 (List.mem_of_getElem? (i := 108) rfl)), (mm2 (List.mem_of_getElem? (i := 109) rfl))⟩), rfl, by decide +kernel, by decide +kernel⟩
theorem mo_43 : mRecOk (7, yX7_lowest, cX7_lowest, 3, (some .long), false, 1) := ⟨(mm4 (List.mem_of_getElem? (i := 161) rfl)), (mm1 (List.mem_of_getElem? (i := 10) rfl)), (show Cond.instanceMethod yX7_lowest ∈ lw_tbl ∧ Cond.selects yX7_lowest.cls yX7_lowest yX7_lowest ∈ lw_tbl from ⟨(mm4 (List.mem_of_getElem? (i := 159) rfl)), (mm4 (List.mem_of_getElem? (i := 160) rfl))⟩), rfl, by decide +kernel, by decide +kernel⟩
theorem mo_44 : mRecOk (8, yX8_isFull, cX8_isFull, 1, (some .boolean), false, 0) := ⟨(mm2 (List.mem_of_getElem? (i := 187) rfl)), (mm1 (List.mem_of_getElem? (i := 4) rfl)), (show Cond.instanceMethod yX8_isFull ∈ lw_tbl ∧ Cond.selects yX8_isFull.cls yX8_isFull yX8_isFull ∈ lw_tbl from ⟨(mm2 (List.mem_of_getElem? (i := 185) rfl)), (mm2 (List.mem_of_getElem? (i := 186) rfl))⟩), rfl, by decide +kernel, by decide +kernel⟩
theorem mo_45 : mRecOk (8, yX8_addByte, cX8_addByte, 2, (some .int), false, 1) := ⟨(mm2 (List.mem_of_getElem? (i := 191) rfl)), (mm1 (List.mem_of_getElem? (i := 4) rfl)), (show Cond.instanceMethod yX8_addByte ∈ lw_tbl ∧ Cond.selects yX8_addByte.cls yX8_addByte yX8_addByte ∈ lw_tbl from ⟨(mm2 (List.mem_of_getElem? (i := 189) rfl)), (mm2 (List.mem_of_getElem? (i := 190) rfl))⟩), rfl, by decide +kernel, by decide +kernel⟩
theorem mo_46 : mRecOk (8, yX8_read, cX8_read, 2, (some .boolean), false, 0) := ⟨(mm2 (List.mem_of_getElem? (i := 199) rfl)), (mm1 (List.mem_of_getElem? (i := 4) rfl)), (show Cond.instanceMethod yX8_read ∈ lw_tbl ∧ Cond.selects yX8_read.cls yX8_read yX8_read ∈ lw_tbl from ⟨(mm2 (List.mem_of_getElem? (i := 197) rfl)), (mm2 (List.mem_of_getElem? (i := 198) rfl))⟩), rfl, by decide +kernel, by decide +kernel⟩
theorem mo_47 : mRecOk (8, yX8_readLine, cX8_readLine, 1, (some .boolean), false, 0) := ⟨(mm2 (List.mem_of_getElem? (i := 203) rfl)), (mm1 (List.mem_of_getElem? (i := 4) rfl)), (show Cond.instanceMethod yX8_readLine ∈ lw_tbl ∧ Cond.selects yX8_readLine.cls yX8_readLine yX8_readLine ∈ lw_tbl from ⟨(mm2 (List.mem_of_getElem? (i := 201) rfl)), (mm2 (List.mem_of_getElem? (i := 202) rfl))⟩), rfl, by decide +kernel, by decide +kernel⟩
theorem mTab_ok_1 : ∀ r ∈ mTab_1, mRecOk r := List.forall_mem_cons.mpr ⟨mo_24, List.forall_mem_cons.mpr ⟨mo_25, List.forall_mem_cons.mpr ⟨mo_26, List.forall_mem_cons.mpr ⟨mo_27, List.forall_mem_cons.mpr ⟨mo_28, List.forall_mem_cons.mpr ⟨mo_29, List.forall_mem_cons.mpr ⟨mo_30, List.forall_mem_cons.mpr ⟨mo_31, List.forall_mem_cons.mpr ⟨mo_32, List.forall_mem_cons.mpr ⟨mo_33, List.forall_mem_cons.mpr ⟨mo_34, List.forall_mem_cons.mpr ⟨mo_35, List.forall_mem_cons.mpr ⟨mo_36, List.forall_mem_cons.mpr ⟨mo_37, List.forall_mem_cons.mpr ⟨mo_38, List.forall_mem_cons.mpr ⟨mo_39, List.forall_mem_cons.mpr ⟨mo_40, List.forall_mem_cons.mpr ⟨mo_41, List.forall_mem_cons.mpr ⟨mo_42, List.forall_mem_cons.mpr ⟨mo_43, List.forall_mem_cons.mpr ⟨mo_44, List.forall_mem_cons.mpr ⟨mo_45, List.forall_mem_cons.mpr ⟨mo_46, List.forall_mem_cons.mpr ⟨mo_47, fun _ h => absurd h List.not_mem_nil⟩⟩⟩⟩⟩⟩⟩⟩⟩⟩⟩⟩⟩⟩⟩⟩⟩⟩⟩⟩⟩⟩⟩⟩
theorem mo_48 : mRecOk (8, yX8_readLevel, cX8_readLevel, 6, (some .boolean), false, 2) := ⟨(mm2 (List.mem_of_getElem? (i := 207) rfl)), (mm1 (List.mem_of_getElem? (i := 4) rfl)), (show Cond.instanceMethod yX8_readLevel ∈ lw_tbl ∧ Cond.selects yX8_readLevel.cls yX8_readLevel yX8_readLevel ∈ lw_tbl from ⟨(mm2 (List.mem_of_getElem? (i := 206) rfl)), (mmp (q := (yX8_readLevel, 5)) (List.mem_of_getElem? (i := 3) rfl))⟩), rfl, by decide +kernel, by decide +kernel⟩
theorem mo_49 : mRecOk (8, yX8_readOperand, cX8_readOperand, 3, (some .boolean), false, 1) := ⟨(mm2 (List.mem_of_getElem? (i := 211) rfl)), (mm1 (List.mem_of_getElem? (i := 4) rfl)), (show Cond.instanceMethod yX8_readOperand ∈ lw_tbl ∧ Cond.selects yX8_readOperand.cls yX8_readOperand yX8_readOperand ∈ lw_tbl from ⟨(mm2 (List.mem_of_getElem? (i := 210) rfl)), (mmp (q := (yX8_readOperand, 5)) (List.mem_of_getElem? (i := 4) rfl))⟩), rfl, by decide +kernel, by decide +kernel⟩
theorem mo_50 : mRecOk (8, yX8_readNumber, cX8_readNumber, 3, none, false, 0) := ⟨(mm2 (List.mem_of_getElem? (i := 222) rfl)), (mm1 (List.mem_of_getElem? (i := 4) rfl)), (show Cond.instanceMethod yX8_readNumber ∈ lw_tbl ∧ Cond.selects yX8_readNumber.cls yX8_readNumber yX8_readNumber ∈ lw_tbl from ⟨(mm2 (List.mem_of_getElem? (i := 220) rfl)), (mm2 (List.mem_of_getElem? (i := 221) rfl))⟩), rfl, by decide +kernel, by decide +kernel⟩
theorem mo_51 : mRecOk (8, yX8_next, cX8_next, 1, (some .int), false, 0) := ⟨(mm2 (List.mem_of_getElem? (i := 215) rfl)), (mm1 (List.mem_of_getElem? (i := 4) rfl)), (show Cond.instanceMethod yX8_next ∈ lw_tbl ∧ Cond.selects yX8_next.cls yX8_next yX8_next ∈ lw_tbl from ⟨(mm2 (List.mem_of_getElem? (i := 213) rfl)), (mm2 (List.mem_of_getElem? (i := 214) rfl))⟩), rfl, by decide +kernel, by decide +kernel⟩
theorem mo_52 : mRecOk (8, yX8_takes, cX8_takes, 2, (some .boolean), false, 1) := ⟨(mm2 (List.mem_of_getElem? (i := 233) rfl)), (mm1 (List.mem_of_getElem? (i := 4) rfl)), (show Cond.instanceMethod yX8_takes ∈ lw_tbl ∧ Cond.selects yX8_takes.cls yX8_takes yX8_takes ∈ lw_tbl from ⟨(mm2 (List.mem_of_getElem? (i := 231) rfl)), (mm2 (List.mem_of_getElem? (i := 232) rfl))⟩), rfl, by decide +kernel, by decide +kernel⟩
theorem mo_53 : mRecOk (8, yX8_addStep, cX8_addStep, 2, none, false, 1) := ⟨(mm2 (List.mem_of_getElem? (i := 226) rfl)), (mm1 (List.mem_of_getElem? (i := 4) rfl)), (show Cond.instanceMethod yX8_addStep ∈ lw_tbl ∧ Cond.selects yX8_addStep.cls yX8_addStep yX8_addStep ∈ lw_tbl from ⟨(mm2 (List.mem_of_getElem? (i := 224) rfl)), (mm2 (List.mem_of_getElem? (i := 225) rfl))⟩), rfl, by decide +kernel, by decide +kernel⟩
theorem mo_54 : mRecOk (8, yX8_isDigit, cX8_isDigit, 1, (some .boolean), true, 1) := ⟨(mm2 (List.mem_of_getElem? (i := 218) rfl)), (mm1 (List.mem_of_getElem? (i := 4) rfl)), (show Cond.static yX8_isDigit ∈ lw_tbl from (mm2 (List.mem_of_getElem? (i := 217) rfl))), rfl, by decide +kernel, by decide +kernel⟩
theorem mo_55 : mRecOk (8, yX8_isName, cX8_isName, 1, (some .boolean), true, 1) := ⟨(mm2 (List.mem_of_getElem? (i := 229) rfl)), (mm1 (List.mem_of_getElem? (i := 4) rfl)), (show Cond.static yX8_isName ∈ lw_tbl from (mm2 (List.mem_of_getElem? (i := 228) rfl))), rfl, by decide +kernel, by decide +kernel⟩
theorem mo_56 : mRecOk (8, yX8_levelOf, cX8_levelOf, 1, (some .int), true, 1) := ⟨(mm2 (List.mem_of_getElem? (i := 236) rfl)), (mm1 (List.mem_of_getElem? (i := 4) rfl)), (show Cond.static yX8_levelOf ∈ lw_tbl from (mm2 (List.mem_of_getElem? (i := 235) rfl))), rfl, by decide +kernel, by decide +kernel⟩
theorem mo_57 : mRecOk (9, yX9_has, cX9_has, 2, (some .boolean), false, 1) := ⟨(mm2 (List.mem_of_getElem? (i := 145) rfl)), (mm1 (List.mem_of_getElem? (i := 3) rfl)), (show Cond.instanceMethod yX9_has ∈ lw_tbl ∧ Cond.selects yX9_has.cls yX9_has yX9_has ∈ lw_tbl from ⟨(mm2 (List.mem_of_getElem? (i := 143) rfl)), (mm2 (List.mem_of_getElem? (i := 144) rfl))⟩), rfl, by decide +kernel, by decide +kernel⟩
theorem mo_58 : mRecOk (9, yX9_isFull, cX9_isFull, 1, (some .boolean), false, 0) := ⟨(mm2 (List.mem_of_getElem? (i := 122) rfl)), (mm1 (List.mem_of_getElem? (i := 3) rfl)), (show Cond.instanceMethod yX9_isFull ∈ lw_tbl ∧ Cond.selects yX9_isFull.cls yX9_isFull yX9_isFull ∈ lw_tbl from ⟨(mm2 (List.mem_of_getElem? (i := 120) rfl)), (mm2 (List.mem_of_getElem? (i := 121) rfl))⟩), rfl, by decide +kernel, by decide +kernel⟩
theorem mo_59 : mRecOk (9, yX9_join, cX9_join, 3, (some .int), false, 1) := ⟨(mm2 (List.mem_of_getElem? (i := 126) rfl)), (mm1 (List.mem_of_getElem? (i := 3) rfl)), (show Cond.instanceMethod yX9_join ∈ lw_tbl ∧ Cond.selects yX9_join.cls yX9_join yX9_join ∈ lw_tbl from ⟨(mm2 (List.mem_of_getElem? (i := 124) rfl)), (mm2 (List.mem_of_getElem? (i := 125) rfl))⟩), rfl, by decide +kernel, by decide +kernel⟩
theorem mo_60 : mRecOk (9, yX9_hand, cX9_hand, 3, (some .int), false, 2) := ⟨(mm2 (List.mem_of_getElem? (i := 160) rfl)), (mm1 (List.mem_of_getElem? (i := 3) rfl)), (show Cond.instanceMethod yX9_hand ∈ lw_tbl ∧ Cond.selects yX9_hand.cls yX9_hand yX9_hand ∈ lw_tbl from ⟨(mm2 (List.mem_of_getElem? (i := 158) rfl)), (mm2 (List.mem_of_getElem? (i := 159) rfl))⟩), rfl, by decide +kernel, by decide +kernel⟩
theorem mo_61 : mRecOk (9, yX9_handCode, cX9_handCode, 2, (some .int), false, 1) := ⟨(mm4 (List.mem_of_getElem? (i := 40) rfl)), (mm1 (List.mem_of_getElem? (i := 3) rfl)), (show Cond.instanceMethod yX9_handCode ∈ lw_tbl ∧ Cond.selects yX9_handCode.cls yX9_handCode yX9_handCode ∈ lw_tbl from ⟨(mm4 (List.mem_of_getElem? (i := 38) rfl)), (mm4 (List.mem_of_getElem? (i := 39) rfl))⟩), rfl, by decide +kernel, by decide +kernel⟩
theorem mo_62 : mRecOk (9, yX9_copy, cX9_copy, 2, none, false, 1) := ⟨(mm4 (List.mem_of_getElem? (i := 54) rfl)), (mm1 (List.mem_of_getElem? (i := 3) rfl)), (show Cond.instanceMethod yX9_copy ∈ lw_tbl ∧ Cond.selects yX9_copy.cls yX9_copy yX9_copy ∈ lw_tbl from ⟨(mm4 (List.mem_of_getElem? (i := 52) rfl)), (mm4 (List.mem_of_getElem? (i := 53) rfl))⟩), rfl, by decide +kernel, by decide +kernel⟩
theorem mo_63 : mRecOk (9, yX9_layBack, cX9_layBack, 2, none, false, 1) := ⟨(mm4 (List.mem_of_getElem? (i := 58) rfl)), (mm1 (List.mem_of_getElem? (i := 3) rfl)), (show Cond.instanceMethod yX9_layBack ∈ lw_tbl ∧ Cond.selects yX9_layBack.cls yX9_layBack yX9_layBack ∈ lw_tbl from ⟨(mm4 (List.mem_of_getElem? (i := 56) rfl)), (mm4 (List.mem_of_getElem? (i := 57) rfl))⟩), rfl, by decide +kernel, by decide +kernel⟩
theorem mo_64 : mRecOk (10, yX10_machine, cX10_machine, 1, (some .int), false, 0) := ⟨(mm2 (List.mem_of_getElem? (i := 76) rfl)), (mm1 (List.mem_of_getElem? (i := 1) rfl)), (show Cond.instanceMethod yX10_machine ∈ lw_tbl ∧ Cond.selects yX10_machine.cls yX10_machine yX10_machine ∈ lw_tbl from ⟨(mm2 (List.mem_of_getElem? (i := 74) rfl)), (mm2 (List.mem_of_getElem? (i := 75) rfl))⟩), rfl, by decide +kernel, by decide +kernel⟩
theorem mo_65 : mRecOk (10, yX10_machines, cX10_machines, 7, (some .int), false, 3) := ⟨(mm2 (List.mem_of_getElem? (i := 92) rfl)), (mm1 (List.mem_of_getElem? (i := 1) rfl)), (show Cond.instanceMethod yX10_machines ∈ lw_tbl ∧ Cond.selects yX10_machines.cls yX10_machines yX10_machines ∈ lw_tbl from ⟨(mm2 (List.mem_of_getElem? (i := 90) rfl)), (mm2 (List.mem_of_getElem? (i := 91) rfl))⟩), rfl, by decide +kernel, by decide +kernel⟩
theorem mo_66 : mRecOk (10, yX10_writer, cX10_writer, 2, (some .int), false, 1) := ⟨(mm2 (List.mem_of_getElem? (i := 115) rfl)), (mm1 (List.mem_of_getElem? (i := 1) rfl)), (show Cond.instanceMethod yX10_writer ∈ lw_tbl ∧ Cond.selects yX10_writer.cls yX10_writer yX10_writer ∈ lw_tbl from ⟨(mm2 (List.mem_of_getElem? (i := 113) rfl)), (mm2 (List.mem_of_getElem? (i := 114) rfl))⟩), rfl, by decide +kernel, by decide +kernel⟩
theorem mo_67 : mRecOk (10, yX10_mend, cX10_mend, 5, (some .int), false, 3) := ⟨(mm2 (List.mem_of_getElem? (i := 133) rfl)), (mm1 (List.mem_of_getElem? (i := 1) rfl)), (show Cond.instanceMethod yX10_mend ∈ lw_tbl ∧ Cond.selects yX10_mend.cls yX10_mend yX10_mend ∈ lw_tbl from ⟨(mm2 (List.mem_of_getElem? (i := 131) rfl)), (mm2 (List.mem_of_getElem? (i := 132) rfl))⟩), rfl, by decide +kernel, by decide +kernel⟩
theorem mo_68 : mRecOk (10, yX10_of, cX10_of, 3, (some .int), false, 2) := ⟨(mm2 (List.mem_of_getElem? (i := 179) rfl)), (mm1 (List.mem_of_getElem? (i := 1) rfl)), (show Cond.instanceMethod yX10_of ∈ lw_tbl ∧ Cond.selects yX10_of.cls yX10_of yX10_of ∈ lw_tbl from ⟨(mm2 (List.mem_of_getElem? (i := 177) rfl)), (mm2 (List.mem_of_getElem? (i := 178) rfl))⟩), rfl, by decide +kernel, by decide +kernel⟩
theorem mo_69 : mRecOk (10, yX10_feed, cX10_feed, 2, (some .int), false, 1) := ⟨(mm2 (List.mem_of_getElem? (i := 183) rfl)), (mm1 (List.mem_of_getElem? (i := 1) rfl)), (show Cond.instanceMethod yX10_feed ∈ lw_tbl ∧ Cond.selects yX10_feed.cls yX10_feed yX10_feed ∈ lw_tbl from ⟨(mm2 (List.mem_of_getElem? (i := 181) rfl)), (mm2 (List.mem_of_getElem? (i := 182) rfl))⟩), rfl, by decide +kernel, by decide +kernel⟩
theorem mo_70 : mRecOk (10, yX10_law, cX10_law, 2, (some .int), false, 0) := ⟨(mm2 (List.mem_of_getElem? (i := 195) rfl)), (mm1 (List.mem_of_getElem? (i := 1) rfl)), (show Cond.instanceMethod yX10_law ∈ lw_tbl ∧ Cond.selects yX10_law.cls yX10_law yX10_law ∈ lw_tbl from ⟨(mm2 (List.mem_of_getElem? (i := 193) rfl)), (mm2 (List.mem_of_getElem? (i := 194) rfl))⟩), rfl, by decide +kernel, by decide +kernel⟩
theorem mo_71 : mRecOk (10, yX10_shows, cX10_shows, 4, (some .int), false, 3) := ⟨(mm3 (List.mem_of_getElem? (i := 5) rfl)), (mm1 (List.mem_of_getElem? (i := 1) rfl)), (show Cond.instanceMethod yX10_shows ∈ lw_tbl ∧ Cond.selects yX10_shows.cls yX10_shows yX10_shows ∈ lw_tbl from ⟨(mm3 (List.mem_of_getElem? (i := 3) rfl)), (mm3 (List.mem_of_getElem? (i := 4) rfl))⟩), rfl, by decide +kernel, by decide +kernel⟩
theorem mTab_ok_2 : ∀ r ∈ mTab_2, mRecOk r := List.forall_mem_cons.mpr ⟨mo_48, List.forall_mem_cons.mpr ⟨mo_49, List.forall_mem_cons.mpr ⟨mo_50, List.forall_mem_cons.mpr ⟨mo_51, List.forall_mem_cons.mpr ⟨mo_52, List.forall_mem_cons.mpr ⟨mo_53, List.forall_mem_cons.mpr ⟨mo_54, List.forall_mem_cons.mpr ⟨mo_55, List.forall_mem_cons.mpr ⟨mo_56, List.forall_mem_cons.mpr ⟨mo_57, List.forall_mem_cons.mpr ⟨mo_58, List.forall_mem_cons.mpr ⟨mo_59, List.forall_mem_cons.mpr ⟨mo_60, List.forall_mem_cons.mpr ⟨mo_61, List.forall_mem_cons.mpr ⟨mo_62, List.forall_mem_cons.mpr ⟨mo_63, List.forall_mem_cons.mpr ⟨mo_64, List.forall_mem_cons.mpr ⟨mo_65, List.forall_mem_cons.mpr ⟨mo_66, List.forall_mem_cons.mpr ⟨mo_67, List.forall_mem_cons.mpr ⟨mo_68, List.forall_mem_cons.mpr ⟨mo_69, List.forall_mem_cons.mpr ⟨mo_70, List.forall_mem_cons.mpr ⟨mo_71, fun _ h => absurd h List.not_mem_nil⟩⟩⟩⟩⟩⟩⟩⟩⟩⟩⟩⟩⟩⟩⟩⟩⟩⟩⟩⟩⟩⟩⟩⟩
theorem mo_72 : mRecOk (10, yX10_later, cX10_later, 6, (some .int), false, 4) := ⟨(mm3 (List.mem_of_getElem? (i := 42) rfl)), (mm1 (List.mem_of_getElem? (i := 1) rfl)), (show Cond.instanceMethod yX10_later ∈ lw_tbl ∧ Cond.selects yX10_later.cls yX10_later yX10_later ∈ lw_tbl from ⟨(mm3 (List.mem_of_getElem? (i := 40) rfl)), (mm3 (List.mem_of_getElem? (i := 41) rfl))⟩), rfl, by decide +kernel, by decide +kernel⟩
theorem mo_73 : mRecOk (10, yX10_letter, cX10_letter, 5, (some .int), false, 2) := ⟨(mm3 (List.mem_of_getElem? (i := 74) rfl)), (mm1 (List.mem_of_getElem? (i := 1) rfl)), (show Cond.instanceMethod yX10_letter ∈ lw_tbl ∧ Cond.selects yX10_letter.cls yX10_letter yX10_letter ∈ lw_tbl from ⟨(mm3 (List.mem_of_getElem? (i := 72) rfl)), (mm3 (List.mem_of_getElem? (i := 73) rfl))⟩), rfl, by decide +kernel, by decide +kernel⟩
theorem mo_74 : mRecOk (10, yX10_still, cX10_still, 5, (some .int), false, 1) := ⟨(mm3 (List.mem_of_getElem? (i := 85) rfl)), (mm1 (List.mem_of_getElem? (i := 1) rfl)), (show Cond.instanceMethod yX10_still ∈ lw_tbl ∧ Cond.selects yX10_still.cls yX10_still yX10_still ∈ lw_tbl from ⟨(mm3 (List.mem_of_getElem? (i := 83) rfl)), (mm3 (List.mem_of_getElem? (i := 84) rfl))⟩), rfl, by decide +kernel, by decide +kernel⟩
theorem mo_75 : mRecOk (10, yX10_far, cX10_far, 2, (some .int), false, 1) := ⟨(mm3 (List.mem_of_getElem? (i := 101) rfl)), (mm1 (List.mem_of_getElem? (i := 1) rfl)), (show Cond.instanceMethod yX10_far ∈ lw_tbl ∧ Cond.selects yX10_far.cls yX10_far yX10_far ∈ lw_tbl from ⟨(mm3 (List.mem_of_getElem? (i := 99) rfl)), (mm3 (List.mem_of_getElem? (i := 100) rfl))⟩), rfl, by decide +kernel, by decide +kernel⟩
theorem mo_76 : mRecOk (10, yX10_nearest, cX10_nearest, 3, (some .int), false, 2) := ⟨(mm3 (List.mem_of_getElem? (i := 109) rfl)), (mm1 (List.mem_of_getElem? (i := 1) rfl)), (show Cond.instanceMethod yX10_nearest ∈ lw_tbl ∧ Cond.selects yX10_nearest.cls yX10_nearest yX10_nearest ∈ lw_tbl from ⟨(mm3 (List.mem_of_getElem? (i := 107) rfl)), (mm3 (List.mem_of_getElem? (i := 108) rfl))⟩), rfl, by decide +kernel, by decide +kernel⟩
theorem mo_77 : mRecOk (10, yX10_given, cX10_given, 5, (some .int), false, 1) := ⟨(mm3 (List.mem_of_getElem? (i := 121) rfl)), (mm1 (List.mem_of_getElem? (i := 1) rfl)), (show Cond.instanceMethod yX10_given ∈ lw_tbl ∧ Cond.selects yX10_given.cls yX10_given yX10_given ∈ lw_tbl from ⟨(mm3 (List.mem_of_getElem? (i := 119) rfl)), (mm3 (List.mem_of_getElem? (i := 120) rfl))⟩), rfl, by decide +kernel, by decide +kernel⟩
theorem mo_78 : mRecOk (10, yX10_teach, cX10_teach, 7, (some .int), false, 2) := ⟨(mm3 (List.mem_of_getElem? (i := 140) rfl)), (mm1 (List.mem_of_getElem? (i := 1) rfl)), (show Cond.instanceMethod yX10_teach ∈ lw_tbl ∧ Cond.selects yX10_teach.cls yX10_teach yX10_teach ∈ lw_tbl from ⟨(mm3 (List.mem_of_getElem? (i := 138) rfl)), (mm3 (List.mem_of_getElem? (i := 139) rfl))⟩), rfl, by decide +kernel, by decide +kernel⟩
theorem mo_79 : mRecOk (10, yX10_bring, cX10_bring, 5, (some .int), false, 3) := ⟨(mm3 (List.mem_of_getElem? (i := 144) rfl)), (mm1 (List.mem_of_getElem? (i := 1) rfl)), (show Cond.instanceMethod yX10_bring ∈ lw_tbl ∧ Cond.selects yX10_bring.cls yX10_bring yX10_bring ∈ lw_tbl from ⟨(mm3 (List.mem_of_getElem? (i := 142) rfl)), (mm3 (List.mem_of_getElem? (i := 143) rfl))⟩), rfl, by decide +kernel, by decide +kernel⟩
theorem mo_80 : mRecOk (10, yX10_whose, cX10_whose, 4, (some .int), false, 2) := ⟨(mm3 (List.mem_of_getElem? (i := 176) rfl)), (mm1 (List.mem_of_getElem? (i := 1) rfl)), (show Cond.instanceMethod yX10_whose ∈ lw_tbl ∧ Cond.selects yX10_whose.cls yX10_whose yX10_whose ∈ lw_tbl from ⟨(mm3 (List.mem_of_getElem? (i := 174) rfl)), (mm3 (List.mem_of_getElem? (i := 175) rfl))⟩), rfl, by decide +kernel, by decide +kernel⟩
theorem mo_81 : mRecOk (10, yX10_where, cX10_where, 6, (some .int), false, 2) := ⟨(mm3 (List.mem_of_getElem? (i := 188) rfl)), (mm1 (List.mem_of_getElem? (i := 1) rfl)), (show Cond.instanceMethod yX10_where ∈ lw_tbl ∧ Cond.selects yX10_where.cls yX10_where yX10_where ∈ lw_tbl from ⟨(mm3 (List.mem_of_getElem? (i := 186) rfl)), (mm3 (List.mem_of_getElem? (i := 187) rfl))⟩), rfl, by decide +kernel, by decide +kernel⟩
theorem mo_82 : mRecOk (10, yX10_pairs, cX10_pairs, 8, (some .int), false, 2) := ⟨(mm3 (List.mem_of_getElem? (i := 192) rfl)), (mm1 (List.mem_of_getElem? (i := 1) rfl)), (show Cond.instanceMethod yX10_pairs ∈ lw_tbl ∧ Cond.selects yX10_pairs.cls yX10_pairs yX10_pairs ∈ lw_tbl from ⟨(mm3 (List.mem_of_getElem? (i := 190) rfl)), (mm3 (List.mem_of_getElem? (i := 191) rfl))⟩), rfl, by decide +kernel, by decide +kernel⟩
theorem mo_83 : mRecOk (10, yX10_between, cX10_between, 6, (some .int), false, 3) := ⟨(mm3 (List.mem_of_getElem? (i := 200) rfl)), (mm1 (List.mem_of_getElem? (i := 1) rfl)), (show Cond.instanceMethod yX10_between ∈ lw_tbl ∧ Cond.selects yX10_between.cls yX10_between yX10_between ∈ lw_tbl from ⟨(mm3 (List.mem_of_getElem? (i := 198) rfl)), (mm3 (List.mem_of_getElem? (i := 199) rfl))⟩), rfl, by decide +kernel, by decide +kernel⟩
theorem mo_84 : mRecOk (10, yX10_judge, cX10_judge, 3, (some .int), false, 1) := ⟨(mm3 (List.mem_of_getElem? (i := 204) rfl)), (mm1 (List.mem_of_getElem? (i := 1) rfl)), (show Cond.instanceMethod yX10_judge ∈ lw_tbl ∧ Cond.selects yX10_judge.cls yX10_judge yX10_judge ∈ lw_tbl from ⟨(mm3 (List.mem_of_getElem? (i := 202) rfl)), (mm3 (List.mem_of_getElem? (i := 203) rfl))⟩), rfl, by decide +kernel, by decide +kernel⟩
theorem mo_85 : mRecOk (10, yX10_falseOne, cX10_falseOne, 7, (some .int), false, 2) := ⟨(mm3 (List.mem_of_getElem? (i := 212) rfl)), (mm1 (List.mem_of_getElem? (i := 1) rfl)), (show Cond.instanceMethod yX10_falseOne ∈ lw_tbl ∧ Cond.selects yX10_falseOne.cls yX10_falseOne yX10_falseOne ∈ lw_tbl from ⟨(mm3 (List.mem_of_getElem? (i := 210) rfl)), (mm3 (List.mem_of_getElem? (i := 211) rfl))⟩), rfl, by decide +kernel, by decide +kernel⟩
theorem mo_86 : mRecOk (10, yX10_ribbons, cX10_ribbons, 7, (some .int), false, 2) := ⟨(mm3 (List.mem_of_getElem? (i := 216) rfl)), (mm1 (List.mem_of_getElem? (i := 1) rfl)), (show Cond.instanceMethod yX10_ribbons ∈ lw_tbl ∧ Cond.selects yX10_ribbons.cls yX10_ribbons yX10_ribbons ∈ lw_tbl from ⟨(mm3 (List.mem_of_getElem? (i := 214) rfl)), (mm3 (List.mem_of_getElem? (i := 215) rfl))⟩), rfl, by decide +kernel, by decide +kernel⟩
theorem mo_87 : mRecOk (10, yX10_morning, cX10_morning, 5, (some .int), false, 3) := ⟨(mm3 (List.mem_of_getElem? (i := 220) rfl)), (mm1 (List.mem_of_getElem? (i := 1) rfl)), (show Cond.instanceMethod yX10_morning ∈ lw_tbl ∧ Cond.selects yX10_morning.cls yX10_morning yX10_morning ∈ lw_tbl from ⟨(mm3 (List.mem_of_getElem? (i := 218) rfl)), (mm3 (List.mem_of_getElem? (i := 219) rfl))⟩), rfl, by decide +kernel, by decide +kernel⟩
theorem mo_88 : mRecOk (10, yX10_alike, cX10_alike, 2, (some .int), false, 0) := ⟨(mm3 (List.mem_of_getElem? (i := 230) rfl)), (mm1 (List.mem_of_getElem? (i := 1) rfl)), (show Cond.instanceMethod yX10_alike ∈ lw_tbl ∧ Cond.selects yX10_alike.cls yX10_alike yX10_alike ∈ lw_tbl from ⟨(mm3 (List.mem_of_getElem? (i := 228) rfl)), (mm3 (List.mem_of_getElem? (i := 229) rfl))⟩), rfl, by decide +kernel, by decide +kernel⟩
theorem mo_89 : mRecOk (10, yX10_price, cX10_price, 2, (some .int), false, 1) := ⟨(mm3 (List.mem_of_getElem? (i := 238) rfl)), (mm1 (List.mem_of_getElem? (i := 1) rfl)), (show Cond.instanceMethod yX10_price ∈ lw_tbl ∧ Cond.selects yX10_price.cls yX10_price yX10_price ∈ lw_tbl from ⟨(mm3 (List.mem_of_getElem? (i := 236) rfl)), (mm3 (List.mem_of_getElem? (i := 237) rfl))⟩), rfl, by decide +kernel, by decide +kernel⟩
theorem mo_90 : mRecOk (10, yX10_buy, cX10_buy, 8, (some .int), false, 2) := ⟨(mm4 (List.mem_of_getElem? (i := 6) rfl)), (mm1 (List.mem_of_getElem? (i := 1) rfl)), (show Cond.instanceMethod yX10_buy ∈ lw_tbl ∧ Cond.selects yX10_buy.cls yX10_buy yX10_buy ∈ lw_tbl from ⟨(mm4 (List.mem_of_getElem? (i := 4) rfl)), (mm4 (List.mem_of_getElem? (i := 5) rfl))⟩), rfl, by decide +kernel, by decide +kernel⟩
theorem mo_91 : mRecOk (10, yX10_drawn, cX10_drawn, 12, (some .int), false, 3) := ⟨(mm4 (List.mem_of_getElem? (i := 14) rfl)), (mm1 (List.mem_of_getElem? (i := 1) rfl)), (show Cond.instanceMethod yX10_drawn ∈ lw_tbl ∧ Cond.selects yX10_drawn.cls yX10_drawn yX10_drawn ∈ lw_tbl from ⟨(mm4 (List.mem_of_getElem? (i := 12) rfl)), (mm4 (List.mem_of_getElem? (i := 13) rfl))⟩), rfl, by decide +kernel, by decide +kernel⟩
theorem mo_92 : mRecOk (10, yX10_types, cX10_types, 3, (some .int), false, 1) := ⟨(mm4 (List.mem_of_getElem? (i := 23) rfl)), (mm1 (List.mem_of_getElem? (i := 1) rfl)), (show Cond.instanceMethod yX10_types ∈ lw_tbl ∧ Cond.selects yX10_types.cls yX10_types yX10_types ∈ lw_tbl from ⟨(mm4 (List.mem_of_getElem? (i := 21) rfl)), (mm4 (List.mem_of_getElem? (i := 22) rfl))⟩), rfl, by decide +kernel, by decide +kernel⟩
theorem mo_93 : mRecOk (10, yX10_clean, cX10_clean, 3, (some .int), false, 1) := ⟨(mm4 (List.mem_of_getElem? (i := 31) rfl)), (mm1 (List.mem_of_getElem? (i := 1) rfl)), (show Cond.instanceMethod yX10_clean ∈ lw_tbl ∧ Cond.selects yX10_clean.cls yX10_clean yX10_clean ∈ lw_tbl from ⟨(mm4 (List.mem_of_getElem? (i := 29) rfl)), (mm4 (List.mem_of_getElem? (i := 30) rfl))⟩), rfl, by decide +kernel, by decide +kernel⟩
theorem mo_94 : mRecOk (10, yX10_learn, cX10_learn, 5, (some .int), false, 1) := ⟨(mm4 (List.mem_of_getElem? (i := 36) rfl)), (mm1 (List.mem_of_getElem? (i := 1) rfl)), (show Cond.instanceMethod yX10_learn ∈ lw_tbl ∧ Cond.selects yX10_learn.cls yX10_learn yX10_learn ∈ lw_tbl from ⟨(mm4 (List.mem_of_getElem? (i := 34) rfl)), (mm4 (List.mem_of_getElem? (i := 35) rfl))⟩), rfl, by decide +kernel, by decide +kernel⟩
theorem mo_95 : mRecOk (10, yX10_led, cX10_led, 2, (some .int), false, 1) := ⟨(mm4 (List.mem_of_getElem? (i := 46) rfl)), (mm1 (List.mem_of_getElem? (i := 1) rfl)), (show Cond.instanceMethod yX10_led ∈ lw_tbl ∧ Cond.selects yX10_led.cls yX10_led yX10_led ∈ lw_tbl from ⟨(mm4 (List.mem_of_getElem? (i := 44) rfl)), (mm4 (List.mem_of_getElem? (i := 45) rfl))⟩), rfl, by decide +kernel, by decide +kernel⟩
theorem mTab_ok_3 : ∀ r ∈ mTab_3, mRecOk r := List.forall_mem_cons.mpr ⟨mo_72, List.forall_mem_cons.mpr ⟨mo_73, List.forall_mem_cons.mpr ⟨mo_74, List.forall_mem_cons.mpr ⟨mo_75, List.forall_mem_cons.mpr ⟨mo_76, List.forall_mem_cons.mpr ⟨mo_77, List.forall_mem_cons.mpr ⟨mo_78, List.forall_mem_cons.mpr ⟨mo_79, List.forall_mem_cons.mpr ⟨mo_80, List.forall_mem_cons.mpr ⟨mo_81, List.forall_mem_cons.mpr ⟨mo_82, List.forall_mem_cons.mpr ⟨mo_83, List.forall_mem_cons.mpr ⟨mo_84, List.forall_mem_cons.mpr ⟨mo_85, List.forall_mem_cons.mpr ⟨mo_86, List.forall_mem_cons.mpr ⟨mo_87, List.forall_mem_cons.mpr ⟨mo_88, List.forall_mem_cons.mpr ⟨mo_89, List.forall_mem_cons.mpr ⟨mo_90, List.forall_mem_cons.mpr ⟨mo_91, List.forall_mem_cons.mpr ⟨mo_92, List.forall_mem_cons.mpr ⟨mo_93, List.forall_mem_cons.mpr ⟨mo_94, List.forall_mem_cons.mpr ⟨mo_95, fun _ h => absurd h List.not_mem_nil⟩⟩⟩⟩⟩⟩⟩⟩⟩⟩⟩⟩⟩⟩⟩⟩⟩⟩⟩⟩⟩⟩⟩⟩
theorem mo_96 : mRecOk (10, yX10_image, cX10_image, 1, (some .int), false, 0) := ⟨(mm4 (List.mem_of_getElem? (i := 50) rfl)), (mm1 (List.mem_of_getElem? (i := 1) rfl)), (show Cond.instanceMethod yX10_image ∈ lw_tbl ∧ Cond.selects yX10_image.cls yX10_image yX10_image ∈ lw_tbl from ⟨(mm4 (List.mem_of_getElem? (i := 48) rfl)), (mm4 (List.mem_of_getElem? (i := 49) rfl))⟩), rfl, by decide +kernel, by decide +kernel⟩
theorem mo_97 : mRecOk (10, yX10_back, cX10_back, 1, (some .int), false, 0) := ⟨(mm4 (List.mem_of_getElem? (i := 67) rfl)), (mm1 (List.mem_of_getElem? (i := 1) rfl)), (show Cond.instanceMethod yX10_back ∈ lw_tbl ∧ Cond.selects yX10_back.cls yX10_back yX10_back ∈ lw_tbl from ⟨(mm4 (List.mem_of_getElem? (i := 65) rfl)), (mm4 (List.mem_of_getElem? (i := 66) rfl))⟩), rfl, by decide +kernel, by decide +kernel⟩
theorem mo_98 : mRecOk (10, yX10_undo, cX10_undo, 2, (some .int), false, 0) := ⟨(mm4 (List.mem_of_getElem? (i := 73) rfl)), (mm1 (List.mem_of_getElem? (i := 1) rfl)), (show Cond.instanceMethod yX10_undo ∈ lw_tbl ∧ Cond.selects yX10_undo.cls yX10_undo yX10_undo ∈ lw_tbl from ⟨(mm4 (List.mem_of_getElem? (i := 71) rfl)), (mm4 (List.mem_of_getElem? (i := 72) rfl))⟩), rfl, by decide +kernel, by decide +kernel⟩
theorem mo_99 : mRecOk (10, yX10_redo, cX10_redo, 2, (some .int), false, 0) := ⟨(mm4 (List.mem_of_getElem? (i := 77) rfl)), (mm1 (List.mem_of_getElem? (i := 1) rfl)), (show Cond.instanceMethod yX10_redo ∈ lw_tbl ∧ Cond.selects yX10_redo.cls yX10_redo yX10_redo ∈ lw_tbl from ⟨(mm4 (List.mem_of_getElem? (i := 75) rfl)), (mm4 (List.mem_of_getElem? (i := 76) rfl))⟩), rfl, by decide +kernel, by decide +kernel⟩
theorem mo_100 : mRecOk (10, yX10_body, cX10_body, 2, (some .int), false, 1) := ⟨(mm4 (List.mem_of_getElem? (i := 81) rfl)), (mm1 (List.mem_of_getElem? (i := 1) rfl)), (show Cond.instanceMethod yX10_body ∈ lw_tbl ∧ Cond.selects yX10_body.cls yX10_body yX10_body ∈ lw_tbl from ⟨(mm4 (List.mem_of_getElem? (i := 79) rfl)), (mm4 (List.mem_of_getElem? (i := 80) rfl))⟩), rfl, by decide +kernel, by decide +kernel⟩
theorem mo_101 : mRecOk (10, yX10_act, cX10_act, 4, (some .int), false, 3) := ⟨(mm4 (List.mem_of_getElem? (i := 93) rfl)), (mm1 (List.mem_of_getElem? (i := 1) rfl)), (show Cond.instanceMethod yX10_act ∈ lw_tbl ∧ Cond.selects yX10_act.cls yX10_act yX10_act ∈ lw_tbl from ⟨(mm4 (List.mem_of_getElem? (i := 91) rfl)), (mm4 (List.mem_of_getElem? (i := 92) rfl))⟩), rfl, by decide +kernel, by decide +kernel⟩
theorem mo_102 : mRecOk (10, yX10_trace, cX10_trace, 2, (some .int), false, 1) := ⟨(mm4 (List.mem_of_getElem? (i := 126) rfl)), (mm1 (List.mem_of_getElem? (i := 1) rfl)), (show Cond.instanceMethod yX10_trace ∈ lw_tbl ∧ Cond.selects yX10_trace.cls yX10_trace yX10_trace ∈ lw_tbl from ⟨(mm4 (List.mem_of_getElem? (i := 124) rfl)), (mm4 (List.mem_of_getElem? (i := 125) rfl))⟩), rfl, by decide +kernel, by decide +kernel⟩
theorem mo_103 : mRecOk (10, yX10_keep, cX10_keep, 3, (some .int), false, 2) := ⟨(mm4 (List.mem_of_getElem? (i := 130) rfl)), (mm1 (List.mem_of_getElem? (i := 1) rfl)), (show Cond.instanceMethod yX10_keep ∈ lw_tbl ∧ Cond.selects yX10_keep.cls yX10_keep yX10_keep ∈ lw_tbl from ⟨(mm4 (List.mem_of_getElem? (i := 128) rfl)), (mm4 (List.mem_of_getElem? (i := 129) rfl))⟩), rfl, by decide +kernel, by decide +kernel⟩
theorem mo_104 : mRecOk (10, yX10_row, cX10_row, 4, (some .int), false, 3) := ⟨(mm4 (List.mem_of_getElem? (i := 138) rfl)), (mm1 (List.mem_of_getElem? (i := 1) rfl)), (show Cond.instanceMethod yX10_row ∈ lw_tbl ∧ Cond.selects yX10_row.cls yX10_row yX10_row ∈ lw_tbl from ⟨(mm4 (List.mem_of_getElem? (i := 136) rfl)), (mm4 (List.mem_of_getElem? (i := 137) rfl))⟩), rfl, by decide +kernel, by decide +kernel⟩
theorem mo_105 : mRecOk (10, yX10_put, cX10_put, 6, (some .int), false, 3) := ⟨(mm4 (List.mem_of_getElem? (i := 149) rfl)), (mm1 (List.mem_of_getElem? (i := 1) rfl)), (show Cond.instanceMethod yX10_put ∈ lw_tbl ∧ Cond.selects yX10_put.cls yX10_put yX10_put ∈ lw_tbl from ⟨(mm4 (List.mem_of_getElem? (i := 147) rfl)), (mm4 (List.mem_of_getElem? (i := 148) rfl))⟩), rfl, by decide +kernel, by decide +kernel⟩
theorem mo_106 : mRecOk (10, yX10_element, cX10_element, 3, (some .long), false, 2) := ⟨(mm4 (List.mem_of_getElem? (i := 165) rfl)), (mm1 (List.mem_of_getElem? (i := 1) rfl)), (show Cond.instanceMethod yX10_element ∈ lw_tbl ∧ Cond.selects yX10_element.cls yX10_element yX10_element ∈ lw_tbl from ⟨(mm4 (List.mem_of_getElem? (i := 163) rfl)), (mm4 (List.mem_of_getElem? (i := 164) rfl))⟩), rfl, by decide +kernel, by decide +kernel⟩
theorem mo_107 : mRecOk (10, yX10_shift, cX10_shift, 8, (some .int), false, 5) := ⟨(mm4 (List.mem_of_getElem? (i := 170) rfl)), (mm1 (List.mem_of_getElem? (i := 1) rfl)), (show Cond.instanceMethod yX10_shift ∈ lw_tbl ∧ Cond.selects yX10_shift.cls yX10_shift yX10_shift ∈ lw_tbl from ⟨(mm4 (List.mem_of_getElem? (i := 168) rfl)), (mm4 (List.mem_of_getElem? (i := 169) rfl))⟩), rfl, by decide +kernel, by decide +kernel⟩
theorem mo_108 : mRecOk (10, yX10_taken, cX10_taken, 4, (some .int), false, 2) := ⟨(mm4 (List.mem_of_getElem? (i := 175) rfl)), (mm1 (List.mem_of_getElem? (i := 1) rfl)), (show Cond.instanceMethod yX10_taken ∈ lw_tbl ∧ Cond.selects yX10_taken.cls yX10_taken yX10_taken ∈ lw_tbl from ⟨(mm4 (List.mem_of_getElem? (i := 173) rfl)), (mm4 (List.mem_of_getElem? (i := 174) rfl))⟩), rfl, by decide +kernel, by decide +kernel⟩
theorem mo_109 : mRecOk (10, yX10_count, cX10_count, 2, (some .int), false, 1) := ⟨(mm4 (List.mem_of_getElem? (i := 182) rfl)), (mm1 (List.mem_of_getElem? (i := 1) rfl)), (show Cond.instanceMethod yX10_count ∈ lw_tbl ∧ Cond.selects yX10_count.cls yX10_count yX10_count ∈ lw_tbl from ⟨(mm4 (List.mem_of_getElem? (i := 180) rfl)), (mm4 (List.mem_of_getElem? (i := 181) rfl))⟩), rfl, by decide +kernel, by decide +kernel⟩
theorem mo_110 : mRecOk (10, yX10_isShelf, cX10_isShelf, 1, (some .boolean), true, 1) := ⟨(mm2 (List.mem_of_getElem? (i := 95) rfl)), (mm1 (List.mem_of_getElem? (i := 1) rfl)), (show Cond.static yX10_isShelf ∈ lw_tbl from (mm2 (List.mem_of_getElem? (i := 94) rfl))), rfl, by decide +kernel, by decide +kernel⟩
theorem mo_111 : mRecOk (10, yX10_isPair, cX10_isPair, 2, (some .boolean), false, 1) := ⟨(mm3 (List.mem_of_getElem? (i := 9) rfl)), (mm1 (List.mem_of_getElem? (i := 1) rfl)), (show Cond.instanceMethod yX10_isPair ∈ lw_tbl ∧ Cond.selects yX10_isPair.cls yX10_isPair yX10_isPair ∈ lw_tbl from ⟨(mm3 (List.mem_of_getElem? (i := 8) rfl)), (mmp (q := (yX10_isPair, 16)) (List.mem_of_getElem? (i := 5) rfl))⟩), rfl, by decide +kernel, by decide +kernel⟩
theorem mo_112 : mRecOk (10, yX10_rowRefusal, cX10_rowRefusal, 3, (some .int), false, 2) := ⟨(mm3 (List.mem_of_getElem? (i := 46) rfl)), (mm1 (List.mem_of_getElem? (i := 1) rfl)), (show Cond.instanceMethod yX10_rowRefusal ∈ lw_tbl ∧ Cond.selects yX10_rowRefusal.cls yX10_rowRefusal yX10_rowRefusal ∈ lw_tbl from ⟨(mm3 (List.mem_of_getElem? (i := 45) rfl)), (mmp (q := (yX10_rowRefusal, 16)) (List.mem_of_getElem? (i := 8) rfl))⟩), rfl, by decide +kernel, by decide +kernel⟩
theorem mo_113 : mRecOk (10, yX10_cellRefusal, cX10_cellRefusal, 3, (some .int), false, 2) := ⟨(mm4 (List.mem_of_getElem? (i := 153) rfl)), (mm1 (List.mem_of_getElem? (i := 1) rfl)), (show Cond.instanceMethod yX10_cellRefusal ∈ lw_tbl ∧ Cond.selects yX10_cellRefusal.cls yX10_cellRefusal yX10_cellRefusal ∈ lw_tbl from ⟨(mm4 (List.mem_of_getElem? (i := 152) rfl)), (mmp (q := (yX10_cellRefusal, 16)) (List.mem_of_getElem? (i := 29) rfl))⟩), rfl, by decide +kernel, by decide +kernel⟩
theorem mo_114 : mRecOk (10, yX10_pullsStandAt, cX10_pullsStandAt, 3, (some .boolean), true, 2) := ⟨(mm2 (List.mem_of_getElem? (i := 106) rfl)), (mm1 (List.mem_of_getElem? (i := 1) rfl)), (show Cond.static yX10_pullsStandAt ∈ lw_tbl from (mm2 (List.mem_of_getElem? (i := 105) rfl))), rfl, by decide +kernel, by decide +kernel⟩
theorem mo_115 : mRecOk (10, yX10_isNumberOf, cX10_isNumberOf, 3, (some .boolean), false, 2) := ⟨(mm2 (List.mem_of_getElem? (i := 137) rfl)), (mm1 (List.mem_of_getElem? (i := 1) rfl)), (show Cond.instanceMethod yX10_isNumberOf ∈ lw_tbl ∧ Cond.selects yX10_isNumberOf.cls yX10_isNumberOf yX10_isNumberOf ∈ lw_tbl from ⟨(mm2 (List.mem_of_getElem? (i := 136) rfl)), (mmp (q := (yX10_isNumberOf, 16)) (List.mem_of_getElem? (i := 0) rfl))⟩), rfl, by decide +kernel, by decide +kernel⟩
theorem mo_116 : mRecOk (10, yX10_topOf, cX10_topOf, 1, (some .int), true, 1) := ⟨(mm2 (List.mem_of_getElem? (i := 148) rfl)), (mm1 (List.mem_of_getElem? (i := 1) rfl)), (show Cond.static yX10_topOf ∈ lw_tbl from (mm2 (List.mem_of_getElem? (i := 147) rfl))), rfl, by decide +kernel, by decide +kernel⟩
theorem mo_117 : mRecOk (10, yX10_valueOf, cX10_valueOf, 3, (some .int), false, 2) := ⟨(mm2 (List.mem_of_getElem? (i := 152) rfl)), (mm1 (List.mem_of_getElem? (i := 1) rfl)), (show Cond.instanceMethod yX10_valueOf ∈ lw_tbl ∧ Cond.selects yX10_valueOf.cls yX10_valueOf yX10_valueOf ∈ lw_tbl from ⟨(mm2 (List.mem_of_getElem? (i := 151) rfl)), (mmp (q := (yX10_valueOf, 16)) (List.mem_of_getElem? (i := 1) rfl))⟩), rfl, by decide +kernel, by decide +kernel⟩
theorem mo_118 : mRecOk (10, yX10_setValue, cX10_setValue, 4, none, false, 3) := ⟨(mm2 (List.mem_of_getElem? (i := 175) rfl)), (mm1 (List.mem_of_getElem? (i := 1) rfl)), (show Cond.instanceMethod yX10_setValue ∈ lw_tbl ∧ Cond.selects yX10_setValue.cls yX10_setValue yX10_setValue ∈ lw_tbl from ⟨(mm2 (List.mem_of_getElem? (i := 174) rfl)), (mmp (q := (yX10_setValue, 16)) (List.mem_of_getElem? (i := 2) rfl))⟩), rfl, by decide +kernel, by decide +kernel⟩
theorem mo_119 : mRecOk (10, yX10_gripOf, cX10_gripOf, 6, (some .int), false, 4) := ⟨(mm3 (List.mem_of_getElem? (i := 17) rfl)), (mm1 (List.mem_of_getElem? (i := 1) rfl)), (show Cond.instanceMethod yX10_gripOf ∈ lw_tbl ∧ Cond.selects yX10_gripOf.cls yX10_gripOf yX10_gripOf ∈ lw_tbl from ⟨(mm3 (List.mem_of_getElem? (i := 16) rfl)), (mmp (q := (yX10_gripOf, 16)) (List.mem_of_getElem? (i := 7) rfl))⟩), rfl, by decide +kernel, by decide +kernel⟩
theorem mTab_ok_4 : ∀ r ∈ mTab_4, mRecOk r := List.forall_mem_cons.mpr ⟨mo_96, List.forall_mem_cons.mpr ⟨mo_97, List.forall_mem_cons.mpr ⟨mo_98, List.forall_mem_cons.mpr ⟨mo_99, List.forall_mem_cons.mpr ⟨mo_100, List.forall_mem_cons.mpr ⟨mo_101, List.forall_mem_cons.mpr ⟨mo_102, List.forall_mem_cons.mpr ⟨mo_103, List.forall_mem_cons.mpr ⟨mo_104, List.forall_mem_cons.mpr ⟨mo_105, List.forall_mem_cons.mpr ⟨mo_106, List.forall_mem_cons.mpr ⟨mo_107, List.forall_mem_cons.mpr ⟨mo_108, List.forall_mem_cons.mpr ⟨mo_109, List.forall_mem_cons.mpr ⟨mo_110, List.forall_mem_cons.mpr ⟨mo_111, List.forall_mem_cons.mpr ⟨mo_112, List.forall_mem_cons.mpr ⟨mo_113, List.forall_mem_cons.mpr ⟨mo_114, List.forall_mem_cons.mpr ⟨mo_115, List.forall_mem_cons.mpr ⟨mo_116, List.forall_mem_cons.mpr ⟨mo_117, List.forall_mem_cons.mpr ⟨mo_118, List.forall_mem_cons.mpr ⟨mo_119, fun _ h => absurd h List.not_mem_nil⟩⟩⟩⟩⟩⟩⟩⟩⟩⟩⟩⟩⟩⟩⟩⟩⟩⟩⟩⟩⟩⟩⟩⟩
theorem mo_120 : mRecOk (10, yX10_shown, cX10_shown, 6, (some .int), false, 4) := ⟨(mm3 (List.mem_of_getElem? (i := 13) rfl)), (mm1 (List.mem_of_getElem? (i := 1) rfl)), (show Cond.instanceMethod yX10_shown ∈ lw_tbl ∧ Cond.selects yX10_shown.cls yX10_shown yX10_shown ∈ lw_tbl from ⟨(mm3 (List.mem_of_getElem? (i := 12) rfl)), (mmp (q := (yX10_shown, 16)) (List.mem_of_getElem? (i := 6) rfl))⟩), rfl, by decide +kernel, by decide +kernel⟩
theorem mo_121 : mRecOk (10, yX10_shownCode, cX10_shownCode, 4, (some .int), false, 3) := ⟨(mm3 (List.mem_of_getElem? (i := 78) rfl)), (mm1 (List.mem_of_getElem? (i := 1) rfl)), (show Cond.instanceMethod yX10_shownCode ∈ lw_tbl ∧ Cond.selects yX10_shownCode.cls yX10_shownCode yX10_shownCode ∈ lw_tbl from ⟨(mm3 (List.mem_of_getElem? (i := 77) rfl)), (mmp (q := (yX10_shownCode, 16)) (List.mem_of_getElem? (i := 12) rfl))⟩), rfl, by decide +kernel, by decide +kernel⟩
theorem mo_122 : mRecOk (10, yX10_pass, cX10_pass, 6, none, false, 3) := ⟨(mm3 (List.mem_of_getElem? (i := 67) rfl)), (mm1 (List.mem_of_getElem? (i := 1) rfl)), (show Cond.instanceMethod yX10_pass ∈ lw_tbl ∧ Cond.selects yX10_pass.cls yX10_pass yX10_pass ∈ lw_tbl from ⟨(mm3 (List.mem_of_getElem? (i := 66) rfl)), (mmp (q := (yX10_pass, 16)) (List.mem_of_getElem? (i := 11) rfl))⟩), rfl, by decide +kernel, by decide +kernel⟩
theorem mo_123 : mRecOk (10, yX10_dayHas, cX10_dayHas, 3, (some .boolean), false, 2) := ⟨(mm3 (List.mem_of_getElem? (i := 63) rfl)), (mm1 (List.mem_of_getElem? (i := 1) rfl)), (show Cond.instanceMethod yX10_dayHas ∈ lw_tbl ∧ Cond.selects yX10_dayHas.cls yX10_dayHas yX10_dayHas ∈ lw_tbl from ⟨(mm3 (List.mem_of_getElem? (i := 62) rfl)), (mmp (q := (yX10_dayHas, 16)) (List.mem_of_getElem? (i := 10) rfl))⟩), rfl, by decide +kernel, by decide +kernel⟩
theorem mo_124 : mRecOk (10, yX10_thinkDay, cX10_thinkDay, 4, (some .int), false, 2) := ⟨(mm3 (List.mem_of_getElem? (i := 50) rfl)), (mm1 (List.mem_of_getElem? (i := 1) rfl)), (show Cond.instanceMethod yX10_thinkDay ∈ lw_tbl ∧ Cond.selects yX10_thinkDay.cls yX10_thinkDay yX10_thinkDay ∈ lw_tbl from ⟨(mm3 (List.mem_of_getElem? (i := 49) rfl)), (mmp (q := (yX10_thinkDay, 16)) (List.mem_of_getElem? (i := 9) rfl))⟩), rfl, by decide +kernel, by decide +kernel⟩
theorem mo_125 : mRecOk (10, yX10_playRound, cX10_playRound, 3, (some .boolean), false, 1) := ⟨(mm3 (List.mem_of_getElem? (i := 89) rfl)), (mm1 (List.mem_of_getElem? (i := 1) rfl)), (show Cond.instanceMethod yX10_playRound ∈ lw_tbl ∧ Cond.selects yX10_playRound.cls yX10_playRound yX10_playRound ∈ lw_tbl from ⟨(mm3 (List.mem_of_getElem? (i := 88) rfl)), (mmp (q := (yX10_playRound, 16)) (List.mem_of_getElem? (i := 13) rfl))⟩), rfl, by decide +kernel, by decide +kernel⟩
theorem mo_126 : mRecOk (10, yX10_apart, cX10_apart, 6, (some .int), false, 3) := ⟨(mm3 (List.mem_of_getElem? (i := 105) rfl)), (mm1 (List.mem_of_getElem? (i := 1) rfl)), (show Cond.instanceMethod yX10_apart ∈ lw_tbl ∧ Cond.selects yX10_apart.cls yX10_apart yX10_apart ∈ lw_tbl from ⟨(mm3 (List.mem_of_getElem? (i := 104) rfl)), (mmp (q := (yX10_apart, 16)) (List.mem_of_getElem? (i := 14) rfl))⟩), rfl, by decide +kernel, by decide +kernel⟩
theorem mo_127 : mRecOk (10, yX10_allApart, cX10_allApart, 5, (some .int), false, 1) := ⟨(mm4 (List.mem_of_getElem? (i := 19) rfl)), (mm1 (List.mem_of_getElem? (i := 1) rfl)), (show Cond.instanceMethod yX10_allApart ∈ lw_tbl ∧ Cond.selects yX10_allApart.cls yX10_allApart yX10_allApart ∈ lw_tbl from ⟨(mm4 (List.mem_of_getElem? (i := 18) rfl)), (mmp (q := (yX10_allApart, 16)) (List.mem_of_getElem? (i := 24) rfl))⟩), rfl, by decide +kernel, by decide +kernel⟩
theorem mo_128 : mRecOk (10, yX10_nearestMachine, cX10_nearestMachine, 4, (some .int), false, 1) := ⟨(mm3 (List.mem_of_getElem? (i := 113) rfl)), (mm1 (List.mem_of_getElem? (i := 1) rfl)), (show Cond.instanceMethod yX10_nearestMachine ∈ lw_tbl ∧ Cond.selects yX10_nearestMachine.cls yX10_nearestMachine yX10_nearestMachine ∈ lw_tbl from ⟨(mm3 (List.mem_of_getElem? (i := 112) rfl)), (mmp (q := (yX10_nearestMachine, 16)) (List.mem_of_getElem? (i := 15) rfl))⟩), rfl, by decide +kernel, by decide +kernel⟩
theorem mo_129 : mRecOk (10, yX10_nearestWriter, cX10_nearestWriter, 4, (some .int), false, 1) := ⟨(mm3 (List.mem_of_getElem? (i := 117) rfl)), (mm1 (List.mem_of_getElem? (i := 1) rfl)), (show Cond.instanceMethod yX10_nearestWriter ∈ lw_tbl ∧ Cond.selects yX10_nearestWriter.cls yX10_nearestWriter yX10_nearestWriter ∈ lw_tbl from ⟨(mm3 (List.mem_of_getElem? (i := 116) rfl)), (mmp (q := (yX10_nearestWriter, 16)) (List.mem_of_getElem? (i := 16) rfl))⟩), rfl, by decide +kernel, by decide +kernel⟩
theorem mo_130 : mRecOk (10, yX10_fillGivenRest, cX10_fillGivenRest, 4, none, false, 0) := ⟨(mm3 (List.mem_of_getElem? (i := 125) rfl)), (mm1 (List.mem_of_getElem? (i := 1) rfl)), (show Cond.instanceMethod yX10_fillGivenRest ∈ lw_tbl ∧ Cond.selects yX10_fillGivenRest.cls yX10_fillGivenRest yX10_fillGivenRest ∈ lw_tbl from ⟨(mm3 (List.mem_of_getElem? (i := 124) rfl)), (mmp (q := (yX10_fillGivenRest, 16)) (List.mem_of_getElem? (i := 17) rfl))⟩), rfl, by decide +kernel, by decide +kernel⟩
theorem mo_131 : mRecOk (10, yX10_givenTo, cX10_givenTo, 7, (some .int), false, 2) := ⟨(mm3 (List.mem_of_getElem? (i := 135) rfl)), (mm1 (List.mem_of_getElem? (i := 1) rfl)), (show Cond.instanceMethod yX10_givenTo ∈ lw_tbl ∧ Cond.selects yX10_givenTo.cls yX10_givenTo yX10_givenTo ∈ lw_tbl from ⟨(mm3 (List.mem_of_getElem? (i := 134) rfl)), (mmp (q := (yX10_givenTo, 16)) (List.mem_of_getElem? (i := 18) rfl))⟩), rfl, by decide +kernel, by decide +kernel⟩
theorem mo_132 : mRecOk (10, yX10_fits, cX10_fits, 6, (some .boolean), false, 4) := ⟨(mm3 (List.mem_of_getElem? (i := 184) rfl)), (mm1 (List.mem_of_getElem? (i := 1) rfl)), (show Cond.instanceMethod yX10_fits ∈ lw_tbl ∧ Cond.selects yX10_fits.cls yX10_fits yX10_fits ∈ lw_tbl from ⟨(mm3 (List.mem_of_getElem? (i := 183) rfl)), (mmp (q := (yX10_fits, 16)) (List.mem_of_getElem? (i := 20) rfl))⟩), rfl, by decide +kernel, by decide +kernel⟩
theorem mo_133 : mRecOk (10, yX10_writersFor, cX10_writersFor, 5, (some .int), false, 2) := ⟨(mm3 (List.mem_of_getElem? (i := 180) rfl)), (mm1 (List.mem_of_getElem? (i := 1) rfl)), (show Cond.instanceMethod yX10_writersFor ∈ lw_tbl ∧ Cond.selects yX10_writersFor.cls yX10_writersFor yX10_writersFor ∈ lw_tbl from ⟨(mm3 (List.mem_of_getElem? (i := 179) rfl)), (mmp (q := (yX10_writersFor, 16)) (List.mem_of_getElem? (i := 19) rfl))⟩), rfl, by decide +kernel, by decide +kernel⟩
theorem mo_134 : mRecOk (10, yX10_firstWrong, cX10_firstWrong, 8, (some .int), false, 4) := ⟨(mm3 (List.mem_of_getElem? (i := 208) rfl)), (mm1 (List.mem_of_getElem? (i := 1) rfl)), (show Cond.instanceMethod yX10_firstWrong ∈ lw_tbl ∧ Cond.selects yX10_firstWrong.cls yX10_firstWrong yX10_firstWrong ∈ lw_tbl from ⟨(mm3 (List.mem_of_getElem? (i := 207) rfl)), (mmp (q := (yX10_firstWrong, 16)) (List.mem_of_getElem? (i := 21) rfl))⟩), rfl, by decide +kernel, by decide +kernel⟩
theorem mo_135 : mRecOk (10, yX10_pence, cX10_pence, 4, (some .int), false, 1) := ⟨(mm4 (List.mem_of_getElem? (i := 2) rfl)), (mm1 (List.mem_of_getElem? (i := 1) rfl)), (show Cond.instanceMethod yX10_pence ∈ lw_tbl ∧ Cond.selects yX10_pence.cls yX10_pence yX10_pence ∈ lw_tbl from ⟨(mm4 (List.mem_of_getElem? (i := 1) rfl)), (mmp (q := (yX10_pence, 16)) (List.mem_of_getElem? (i := 22) rfl))⟩), rfl, by decide +kernel, by decide +kernel⟩
theorem mo_136 : mRecOk (10, yX10_penceOf, cX10_penceOf, 4, (some .int), false, 1) := ⟨(mm4 (List.mem_of_getElem? (i := 10) rfl)), (mm1 (List.mem_of_getElem? (i := 1) rfl)), (show Cond.instanceMethod yX10_penceOf ∈ lw_tbl ∧ Cond.selects yX10_penceOf.cls yX10_penceOf yX10_penceOf ∈ lw_tbl from ⟨(mm4 (List.mem_of_getElem? (i := 9) rfl)), (mmp (q := (yX10_penceOf, 16)) (List.mem_of_getElem? (i := 23) rfl))⟩), rfl, by decide +kernel, by decide +kernel⟩
theorem mo_137 : mRecOk (11, yX11_within, cX11_within, 6, (some .boolean), true, 3) := ⟨(mm5 (List.mem_of_getElem? (i := 105) rfl)), (mm1 (List.mem_of_getElem? (i := 11) rfl)), (show Cond.static yX11_within ∈ lw_tbl from (mm5 (List.mem_of_getElem? (i := 104) rfl))), rfl, by decide +kernel, by decide +kernel⟩
theorem mo_138 : mRecOk (11, yX11_bitsOf, cX11_bitsOf, 3, (some .int), true, 1) := ⟨(mm6 (List.mem_of_getElem? (i := 115) rfl)), (mm1 (List.mem_of_getElem? (i := 11) rfl)), (show Cond.static yX11_bitsOf ∈ lw_tbl from (mm6 (List.mem_of_getElem? (i := 114) rfl))), rfl, by decide +kernel, by decide +kernel⟩
theorem mo_139 : mRecOk (11, yX11_becomes, cX11_becomes, 5, (some .int), false, 2) := ⟨(mm5 (List.mem_of_getElem? (i := 141) rfl)), (mm1 (List.mem_of_getElem? (i := 11) rfl)), (show Cond.instanceMethod yX11_becomes ∈ lw_tbl ∧ Cond.selects yX11_becomes.cls yX11_becomes yX11_becomes ∈ lw_tbl from ⟨(mm5 (List.mem_of_getElem? (i := 140) rfl)), (mmp (q := (yX11_becomes, 43)) (List.mem_of_getElem? (i := 34) rfl))⟩), rfl, by decide +kernel, by decide +kernel⟩
theorem mo_140 : mRecOk (11, yX11_undo, cX11_undo, 1, (some .int), false, 0) := ⟨(mm5 (List.mem_of_getElem? (i := 82) rfl)), (mm1 (List.mem_of_getElem? (i := 11) rfl)), (show Cond.instanceMethod yX11_undo ∈ lw_tbl ∧ Cond.selects yX11_undo.cls yX11_undo yX11_undo ∈ lw_tbl from ⟨(mm5 (List.mem_of_getElem? (i := 80) rfl)), (mm5 (List.mem_of_getElem? (i := 81) rfl))⟩), rfl, by decide +kernel, by decide +kernel⟩
theorem mo_141 : mRecOk (11, yX11_redo, cX11_redo, 1, (some .int), false, 0) := ⟨(mm5 (List.mem_of_getElem? (i := 86) rfl)), (mm1 (List.mem_of_getElem? (i := 11) rfl)), (show Cond.instanceMethod yX11_redo ∈ lw_tbl ∧ Cond.selects yX11_redo.cls yX11_redo yX11_redo ∈ lw_tbl from ⟨(mm5 (List.mem_of_getElem? (i := 84) rfl)), (mm5 (List.mem_of_getElem? (i := 85) rfl))⟩), rfl, by decide +kernel, by decide +kernel⟩
theorem mo_142 : mRecOk (11, yX11_isMachine, cX11_isMachine, 3, (some .boolean), false, 1) := ⟨(mm5 (List.mem_of_getElem? (i := 131) rfl)), (mm1 (List.mem_of_getElem? (i := 11) rfl)), (show Cond.instanceMethod yX11_isMachine ∈ lw_tbl ∧ Cond.selects yX11_isMachine.cls yX11_isMachine yX11_isMachine ∈ lw_tbl from ⟨(mm5 (List.mem_of_getElem? (i := 130) rfl)), (mmp (q := (yX11_isMachine, 43)) (List.mem_of_getElem? (i := 32) rfl))⟩), rfl, by decide +kernel, by decide +kernel⟩
theorem mo_143 : mRecOk (11, yX11_isWriter, cX11_isWriter, 3, (some .boolean), false, 1) := ⟨(mm5 (List.mem_of_getElem? (i := 137) rfl)), (mm1 (List.mem_of_getElem? (i := 11) rfl)), (show Cond.instanceMethod yX11_isWriter ∈ lw_tbl ∧ Cond.selects yX11_isWriter.cls yX11_isWriter yX11_isWriter ∈ lw_tbl from ⟨(mm5 (List.mem_of_getElem? (i := 136) rfl)), (mmp (q := (yX11_isWriter, 43)) (List.mem_of_getElem? (i := 33) rfl))⟩), rfl, by decide +kernel, by decide +kernel⟩
theorem mTab_ok_5 : ∀ r ∈ mTab_5, mRecOk r := List.forall_mem_cons.mpr ⟨mo_120, List.forall_mem_cons.mpr ⟨mo_121, List.forall_mem_cons.mpr ⟨mo_122, List.forall_mem_cons.mpr ⟨mo_123, List.forall_mem_cons.mpr ⟨mo_124, List.forall_mem_cons.mpr ⟨mo_125, List.forall_mem_cons.mpr ⟨mo_126, List.forall_mem_cons.mpr ⟨mo_127, List.forall_mem_cons.mpr ⟨mo_128, List.forall_mem_cons.mpr ⟨mo_129, List.forall_mem_cons.mpr ⟨mo_130, List.forall_mem_cons.mpr ⟨mo_131, List.forall_mem_cons.mpr ⟨mo_132, List.forall_mem_cons.mpr ⟨mo_133, List.forall_mem_cons.mpr ⟨mo_134, List.forall_mem_cons.mpr ⟨mo_135, List.forall_mem_cons.mpr ⟨mo_136, List.forall_mem_cons.mpr ⟨mo_137, List.forall_mem_cons.mpr ⟨mo_138, List.forall_mem_cons.mpr ⟨mo_139, List.forall_mem_cons.mpr ⟨mo_140, List.forall_mem_cons.mpr ⟨mo_141, List.forall_mem_cons.mpr ⟨mo_142, List.forall_mem_cons.mpr ⟨mo_143, fun _ h => absurd h List.not_mem_nil⟩⟩⟩⟩⟩⟩⟩⟩⟩⟩⟩⟩⟩⟩⟩⟩⟩⟩⟩⟩⟩⟩⟩⟩
theorem mo_144 : mRecOk (11, yX11_isWm, cX11_isWm, 2, (some .boolean), false, 1) := ⟨(mm5 (List.mem_of_getElem? (i := 205) rfl)), (mm1 (List.mem_of_getElem? (i := 11) rfl)), (show Cond.instanceMethod yX11_isWm ∈ lw_tbl ∧ Cond.selects yX11_isWm.cls yX11_isWm yX11_isWm ∈ lw_tbl from ⟨(mm5 (List.mem_of_getElem? (i := 204) rfl)), (mmp (q := (yX11_isWm, 43)) (List.mem_of_getElem? (i := 45) rfl))⟩), rfl, by decide +kernel, by decide +kernel⟩
theorem mo_145 : mRecOk (11, yX11_addsMachine, cX11_addsMachine, 4, none, false, 3) := ⟨(mm5 (List.mem_of_getElem? (i := 94) rfl)), (mm1 (List.mem_of_getElem? (i := 11) rfl)), (show Cond.instanceMethod yX11_addsMachine ∈ lw_tbl ∧ Cond.selects yX11_addsMachine.cls yX11_addsMachine yX11_addsMachine ∈ lw_tbl from ⟨(mm5 (List.mem_of_getElem? (i := 93) rfl)), (mmp (q := (yX11_addsMachine, 43)) (List.mem_of_getElem? (i := 30) rfl))⟩), rfl, by decide +kernel, by decide +kernel⟩
theorem mo_146 : mRecOk (11, yX11_machine, cX11_machine, 1, (some .int), false, 0) := ⟨(mm5 (List.mem_of_getElem? (i := 90) rfl)), (mm1 (List.mem_of_getElem? (i := 11) rfl)), (show Cond.instanceMethod yX11_machine ∈ lw_tbl ∧ Cond.selects yX11_machine.cls yX11_machine yX11_machine ∈ lw_tbl from ⟨(mm5 (List.mem_of_getElem? (i := 88) rfl)), (mm5 (List.mem_of_getElem? (i := 89) rfl))⟩), rfl, by decide +kernel, by decide +kernel⟩
theorem mo_147 : mRecOk (11, yX11_machines, cX11_machines, 7, (some .int), false, 3) := ⟨(mm5 (List.mem_of_getElem? (i := 98) rfl)), (mm1 (List.mem_of_getElem? (i := 11) rfl)), (show Cond.instanceMethod yX11_machines ∈ lw_tbl ∧ Cond.selects yX11_machines.cls yX11_machines yX11_machines ∈ lw_tbl from ⟨(mm5 (List.mem_of_getElem? (i := 96) rfl)), (mm5 (List.mem_of_getElem? (i := 97) rfl))⟩), rfl, by decide +kernel, by decide +kernel⟩
theorem mo_148 : mRecOk (11, yX11_isCode, cX11_isCode, 2, (some .boolean), true, 1) := ⟨(mm5 (List.mem_of_getElem? (i := 114) rfl)), (mm1 (List.mem_of_getElem? (i := 11) rfl)), (show Cond.static yX11_isCode ∈ lw_tbl from (mm5 (List.mem_of_getElem? (i := 113) rfl))), rfl, by decide +kernel, by decide +kernel⟩
theorem mo_149 : mRecOk (11, yX11_inCode, cX11_inCode, 2, (some .int), true, 2) := ⟨(mm5 (List.mem_of_getElem? (i := 118) rfl)), (mm1 (List.mem_of_getElem? (i := 11) rfl)), (show Cond.static yX11_inCode ∈ lw_tbl from (mm5 (List.mem_of_getElem? (i := 117) rfl))), rfl, by decide +kernel, by decide +kernel⟩
theorem mo_150 : mRecOk (11, yX11_writer, cX11_writer, 3, (some .int), false, 1) := ⟨(mm5 (List.mem_of_getElem? (i := 111) rfl)), (mm1 (List.mem_of_getElem? (i := 11) rfl)), (show Cond.instanceMethod yX11_writer ∈ lw_tbl ∧ Cond.selects yX11_writer.cls yX11_writer yX11_writer ∈ lw_tbl from ⟨(mm5 (List.mem_of_getElem? (i := 109) rfl)), (mm5 (List.mem_of_getElem? (i := 110) rfl))⟩), rfl, by decide +kernel, by decide +kernel⟩
theorem mo_151 : mRecOk (11, yX11_placeOf, cX11_placeOf, 3, (some .int), false, 2) := ⟨(mm5 (List.mem_of_getElem? (i := 126) rfl)), (mm1 (List.mem_of_getElem? (i := 11) rfl)), (show Cond.instanceMethod yX11_placeOf ∈ lw_tbl ∧ Cond.selects yX11_placeOf.cls yX11_placeOf yX11_placeOf ∈ lw_tbl from ⟨(mm5 (List.mem_of_getElem? (i := 125) rfl)), (mmp (q := (yX11_placeOf, 43)) (List.mem_of_getElem? (i := 31) rfl))⟩), rfl, by decide +kernel, by decide +kernel⟩
theorem mo_152 : mRecOk (11, yX11_mend, cX11_mend, 6, (some .int), false, 3) := ⟨(mm5 (List.mem_of_getElem? (i := 122) rfl)), (mm1 (List.mem_of_getElem? (i := 11) rfl)), (show Cond.instanceMethod yX11_mend ∈ lw_tbl ∧ Cond.selects yX11_mend.cls yX11_mend yX11_mend ∈ lw_tbl from ⟨(mm5 (List.mem_of_getElem? (i := 120) rfl)), (mm5 (List.mem_of_getElem? (i := 121) rfl))⟩), rfl, by decide +kernel, by decide +kernel⟩
theorem mo_153 : mRecOk (11, yX11_of, cX11_of, 4, (some .int), false, 2) := ⟨(mm5 (List.mem_of_getElem? (i := 145) rfl)), (mm1 (List.mem_of_getElem? (i := 11) rfl)), (show Cond.instanceMethod yX11_of ∈ lw_tbl ∧ Cond.selects yX11_of.cls yX11_of yX11_of ∈ lw_tbl from ⟨(mm5 (List.mem_of_getElem? (i := 143) rfl)), (mm5 (List.mem_of_getElem? (i := 144) rfl))⟩), rfl, by decide +kernel, by decide +kernel⟩
theorem mo_154 : mRecOk (11, yX11_feed, cX11_feed, 2, (some .int), false, 1) := ⟨(mm5 (List.mem_of_getElem? (i := 149) rfl)), (mm1 (List.mem_of_getElem? (i := 11) rfl)), (show Cond.instanceMethod yX11_feed ∈ lw_tbl ∧ Cond.selects yX11_feed.cls yX11_feed yX11_feed ∈ lw_tbl from ⟨(mm5 (List.mem_of_getElem? (i := 147) rfl)), (mm5 (List.mem_of_getElem? (i := 148) rfl))⟩), rfl, by decide +kernel, by decide +kernel⟩
theorem mo_155 : mRecOk (11, yX11_byteAt, cX11_byteAt, 1, (some .int), false, 0) := ⟨(mm5 (List.mem_of_getElem? (i := 186) rfl)), (mm1 (List.mem_of_getElem? (i := 11) rfl)), (show Cond.instanceMethod yX11_byteAt ∈ lw_tbl ∧ Cond.selects yX11_byteAt.cls yX11_byteAt yX11_byteAt ∈ lw_tbl from ⟨(mm5 (List.mem_of_getElem? (i := 185) rfl)), (mmp (q := (yX11_byteAt, 43)) (List.mem_of_getElem? (i := 42) rfl))⟩), rfl, by decide +kernel, by decide +kernel⟩
theorem mo_156 : mRecOk (11, yX11_wrong, cX11_wrong, 1, (some .int), false, 0) := ⟨(mm5 (List.mem_of_getElem? (i := 190) rfl)), (mm1 (List.mem_of_getElem? (i := 11) rfl)), (show Cond.instanceMethod yX11_wrong ∈ lw_tbl ∧ Cond.selects yX11_wrong.cls yX11_wrong yX11_wrong ∈ lw_tbl from ⟨(mm5 (List.mem_of_getElem? (i := 189) rfl)), (mmp (q := (yX11_wrong, 43)) (List.mem_of_getElem? (i := 43) rfl))⟩), rfl, by decide +kernel, by decide +kernel⟩
theorem mo_157 : mRecOk (11, yX11_takes, cX11_takes, 2, (some .boolean), false, 1) := ⟨(mm5 (List.mem_of_getElem? (i := 194) rfl)), (mm1 (List.mem_of_getElem? (i := 11) rfl)), (show Cond.instanceMethod yX11_takes ∈ lw_tbl ∧ Cond.selects yX11_takes.cls yX11_takes yX11_takes ∈ lw_tbl from ⟨(mm5 (List.mem_of_getElem? (i := 193) rfl)), (mmp (q := (yX11_takes, 43)) (List.mem_of_getElem? (i := 44) rfl))⟩), rfl, by decide +kernel, by decide +kernel⟩
theorem mo_158 : mRecOk (11, yX11_either, cX11_either, 3, (some .int), false, 0) := ⟨(mm5 (List.mem_of_getElem? (i := 162) rfl)), (mm1 (List.mem_of_getElem? (i := 11) rfl)), (show Cond.instanceMethod yX11_either ∈ lw_tbl ∧ Cond.selects yX11_either.cls yX11_either yX11_either ∈ lw_tbl from ⟨(mm5 (List.mem_of_getElem? (i := 161) rfl)), (mmp (q := (yX11_either, 43)) (List.mem_of_getElem? (i := 36) rfl))⟩), rfl, by decide +kernel, by decide +kernel⟩
theorem mo_159 : mRecOk (11, yX11_both, cX11_both, 3, (some .int), false, 0) := ⟨(mm5 (List.mem_of_getElem? (i := 166) rfl)), (mm1 (List.mem_of_getElem? (i := 11) rfl)), (show Cond.instanceMethod yX11_both ∈ lw_tbl ∧ Cond.selects yX11_both.cls yX11_both yX11_both ∈ lw_tbl from ⟨(mm5 (List.mem_of_getElem? (i := 165) rfl)), (mmp (q := (yX11_both, 43)) (List.mem_of_getElem? (i := 37) rfl))⟩), rfl, by decide +kernel, by decide +kernel⟩
theorem mo_160 : mRecOk (11, yX11_compared, cX11_compared, 4, (some .int), false, 0) := ⟨(mm5 (List.mem_of_getElem? (i := 170) rfl)), (mm1 (List.mem_of_getElem? (i := 11) rfl)), (show Cond.instanceMethod yX11_compared ∈ lw_tbl ∧ Cond.selects yX11_compared.cls yX11_compared yX11_compared ∈ lw_tbl from ⟨(mm5 (List.mem_of_getElem? (i := 169) rfl)), (mmp (q := (yX11_compared, 43)) (List.mem_of_getElem? (i := 38) rfl))⟩), rfl, by decide +kernel, by decide +kernel⟩
theorem mo_161 : mRecOk (11, yX11_sums, cX11_sums, 4, (some .int), false, 0) := ⟨(mm5 (List.mem_of_getElem? (i := 174) rfl)), (mm1 (List.mem_of_getElem? (i := 11) rfl)), (show Cond.instanceMethod yX11_sums ∈ lw_tbl ∧ Cond.selects yX11_sums.cls yX11_sums yX11_sums ∈ lw_tbl from ⟨(mm5 (List.mem_of_getElem? (i := 173) rfl)), (mmp (q := (yX11_sums, 43)) (List.mem_of_getElem? (i := 39) rfl))⟩), rfl, by decide +kernel, by decide +kernel⟩
theorem mo_162 : mRecOk (11, yX11_product, cX11_product, 4, (some .int), false, 0) := ⟨(mm5 (List.mem_of_getElem? (i := 178) rfl)), (mm1 (List.mem_of_getElem? (i := 11) rfl)), (show Cond.instanceMethod yX11_product ∈ lw_tbl ∧ Cond.selects yX11_product.cls yX11_product yX11_product ∈ lw_tbl from ⟨(mm5 (List.mem_of_getElem? (i := 177) rfl)), (mmp (q := (yX11_product, 43)) (List.mem_of_getElem? (i := 40) rfl))⟩), rfl, by decide +kernel, by decide +kernel⟩
theorem mo_163 : mRecOk (11, yX11_nameOf, cX11_nameOf, 1, (some .int), true, 1) := ⟨(mm5 (List.mem_of_getElem? (i := 197) rfl)), (mm1 (List.mem_of_getElem? (i := 11) rfl)), (show Cond.static yX11_nameOf ∈ lw_tbl from (mm5 (List.mem_of_getElem? (i := 196) rfl))), rfl, by decide +kernel, by decide +kernel⟩
theorem mo_164 : mRecOk (11, yX11_one, cX11_one, 5, (some .int), false, 0) := ⟨(mm5 (List.mem_of_getElem? (i := 182) rfl)), (mm1 (List.mem_of_getElem? (i := 11) rfl)), (show Cond.instanceMethod yX11_one ∈ lw_tbl ∧ Cond.selects yX11_one.cls yX11_one yX11_one ∈ lw_tbl from ⟨(mm5 (List.mem_of_getElem? (i := 181) rfl)), (mmp (q := (yX11_one, 43)) (List.mem_of_getElem? (i := 41) rfl))⟩), rfl, by decide +kernel, by decide +kernel⟩
theorem mo_165 : mRecOk (11, yX11_workOut, cX11_workOut, 8, (some .int), false, 2) := ⟨(mm5 (List.mem_of_getElem? (i := 158) rfl)), (mm1 (List.mem_of_getElem? (i := 11) rfl)), (show Cond.instanceMethod yX11_workOut ∈ lw_tbl ∧ Cond.selects yX11_workOut.cls yX11_workOut yX11_workOut ∈ lw_tbl from ⟨(mm5 (List.mem_of_getElem? (i := 157) rfl)), (mmp (q := (yX11_workOut, 43)) (List.mem_of_getElem? (i := 35) rfl))⟩), rfl, by decide +kernel, by decide +kernel⟩
theorem mo_166 : mRecOk (11, yX11_law, cX11_law, 4, (some .int), false, 0) := ⟨(mm5 (List.mem_of_getElem? (i := 154) rfl)), (mm1 (List.mem_of_getElem? (i := 11) rfl)), (show Cond.instanceMethod yX11_law ∈ lw_tbl ∧ Cond.selects yX11_law.cls yX11_law yX11_law ∈ lw_tbl from ⟨(mm5 (List.mem_of_getElem? (i := 152) rfl)), (mm5 (List.mem_of_getElem? (i := 153) rfl))⟩), rfl, by decide +kernel, by decide +kernel⟩
theorem mo_167 : mRecOk (11, yX11_begins, cX11_begins, 2, none, false, 0) := ⟨(mm5 (List.mem_of_getElem? (i := 209) rfl)), (mm1 (List.mem_of_getElem? (i := 11) rfl)), (show Cond.instanceMethod yX11_begins ∈ lw_tbl ∧ Cond.selects yX11_begins.cls yX11_begins yX11_begins ∈ lw_tbl from ⟨(mm5 (List.mem_of_getElem? (i := 208) rfl)), (mmp (q := (yX11_begins, 43)) (List.mem_of_getElem? (i := 46) rfl))⟩), rfl, by decide +kernel, by decide +kernel⟩
theorem mTab_ok_6 : ∀ r ∈ mTab_6, mRecOk r := List.forall_mem_cons.mpr ⟨mo_144, List.forall_mem_cons.mpr ⟨mo_145, List.forall_mem_cons.mpr ⟨mo_146, List.forall_mem_cons.mpr ⟨mo_147, List.forall_mem_cons.mpr ⟨mo_148, List.forall_mem_cons.mpr ⟨mo_149, List.forall_mem_cons.mpr ⟨mo_150, List.forall_mem_cons.mpr ⟨mo_151, List.forall_mem_cons.mpr ⟨mo_152, List.forall_mem_cons.mpr ⟨mo_153, List.forall_mem_cons.mpr ⟨mo_154, List.forall_mem_cons.mpr ⟨mo_155, List.forall_mem_cons.mpr ⟨mo_156, List.forall_mem_cons.mpr ⟨mo_157, List.forall_mem_cons.mpr ⟨mo_158, List.forall_mem_cons.mpr ⟨mo_159, List.forall_mem_cons.mpr ⟨mo_160, List.forall_mem_cons.mpr ⟨mo_161, List.forall_mem_cons.mpr ⟨mo_162, List.forall_mem_cons.mpr ⟨mo_163, List.forall_mem_cons.mpr ⟨mo_164, List.forall_mem_cons.mpr ⟨mo_165, List.forall_mem_cons.mpr ⟨mo_166, List.forall_mem_cons.mpr ⟨mo_167, fun _ h => absurd h List.not_mem_nil⟩⟩⟩⟩⟩⟩⟩⟩⟩⟩⟩⟩⟩⟩⟩⟩⟩⟩⟩⟩⟩⟩⟩⟩
theorem mo_168 : mRecOk (11, yX11_handOf, cX11_handOf, 3, (some .int), false, 2) := ⟨(mm5 (List.mem_of_getElem? (i := 221) rfl)), (mm1 (List.mem_of_getElem? (i := 11) rfl)), (show Cond.instanceMethod yX11_handOf ∈ lw_tbl ∧ Cond.selects yX11_handOf.cls yX11_handOf yX11_handOf ∈ lw_tbl from ⟨(mm5 (List.mem_of_getElem? (i := 220) rfl)), (mmp (q := (yX11_handOf, 43)) (List.mem_of_getElem? (i := 49) rfl))⟩), rfl, by decide +kernel, by decide +kernel⟩
theorem mo_169 : mRecOk (11, yX11_apart, cX11_apart, 2, (some .int), true, 2) := ⟨(mm5 (List.mem_of_getElem? (i := 224) rfl)), (mm1 (List.mem_of_getElem? (i := 11) rfl)), (show Cond.static yX11_apart ∈ lw_tbl from (mm5 (List.mem_of_getElem? (i := 223) rfl))), rfl, by decide +kernel, by decide +kernel⟩
theorem mo_170 : mRecOk (11, yX11_nearer, cX11_nearer, 2, (some .int), true, 2) := ⟨(mm6 (List.mem_of_getElem? (i := 9) rfl)), (mm1 (List.mem_of_getElem? (i := 11) rfl)), (show Cond.static yX11_nearer ∈ lw_tbl from (mm6 (List.mem_of_getElem? (i := 8) rfl))), rfl, by decide +kernel, by decide +kernel⟩
theorem mo_171 : mRecOk (11, yX11_gripOf, cX11_gripOf, 5, (some .int), false, 3) := ⟨(mm5 (List.mem_of_getElem? (i := 217) rfl)), (mm1 (List.mem_of_getElem? (i := 11) rfl)), (show Cond.instanceMethod yX11_gripOf ∈ lw_tbl ∧ Cond.selects yX11_gripOf.cls yX11_gripOf yX11_gripOf ∈ lw_tbl from ⟨(mm5 (List.mem_of_getElem? (i := 216) rfl)), (mmp (q := (yX11_gripOf, 43)) (List.mem_of_getElem? (i := 48) rfl))⟩), rfl, by decide +kernel, by decide +kernel⟩
theorem mo_172 : mRecOk (11, yX11_showsOf, cX11_showsOf, 5, (some .int), false, 3) := ⟨(mm5 (List.mem_of_getElem? (i := 213) rfl)), (mm1 (List.mem_of_getElem? (i := 11) rfl)), (show Cond.instanceMethod yX11_showsOf ∈ lw_tbl ∧ Cond.selects yX11_showsOf.cls yX11_showsOf yX11_showsOf ∈ lw_tbl from ⟨(mm5 (List.mem_of_getElem? (i := 212) rfl)), (mmp (q := (yX11_showsOf, 43)) (List.mem_of_getElem? (i := 47) rfl))⟩), rfl, by decide +kernel, by decide +kernel⟩
theorem mo_173 : mRecOk (11, yX11_codeOf, cX11_codeOf, 3, (some .int), false, 2) := ⟨(mm6 (List.mem_of_getElem? (i := 17) rfl)), (mm1 (List.mem_of_getElem? (i := 11) rfl)), (show Cond.instanceMethod yX11_codeOf ∈ lw_tbl ∧ Cond.selects yX11_codeOf.cls yX11_codeOf yX11_codeOf ∈ lw_tbl from ⟨(mm6 (List.mem_of_getElem? (i := 16) rfl)), (mmp (q := (yX11_codeOf, 43)) (List.mem_of_getElem? (i := 54) rfl))⟩), rfl, by decide +kernel, by decide +kernel⟩
theorem mo_174 : mRecOk (11, yX11_typesOn, cX11_typesOn, 4, none, false, 2) := ⟨(mm6 (List.mem_of_getElem? (i := 6) rfl)), (mm1 (List.mem_of_getElem? (i := 11) rfl)), (show Cond.instanceMethod yX11_typesOn ∈ lw_tbl ∧ Cond.selects yX11_typesOn.cls yX11_typesOn yX11_typesOn ∈ lw_tbl from ⟨(mm6 (List.mem_of_getElem? (i := 5) rfl)), (mmp (q := (yX11_typesOn, 43)) (List.mem_of_getElem? (i := 53) rfl))⟩), rfl, by decide +kernel, by decide +kernel⟩
theorem mo_175 : mRecOk (11, yX11_shows, cX11_shows, 4, (some .int), false, 3) := ⟨(mm5 (List.mem_of_getElem? (i := 201) rfl)), (mm1 (List.mem_of_getElem? (i := 11) rfl)), (show Cond.instanceMethod yX11_shows ∈ lw_tbl ∧ Cond.selects yX11_shows.cls yX11_shows yX11_shows ∈ lw_tbl from ⟨(mm5 (List.mem_of_getElem? (i := 199) rfl)), (mm5 (List.mem_of_getElem? (i := 200) rfl))⟩), rfl, by decide +kernel, by decide +kernel⟩
theorem mo_176 : mRecOk (11, yX11_rowIs, cX11_rowIs, 3, (some .int), false, 2) := ⟨(mm5 (List.mem_of_getElem? (i := 232) rfl)), (mm1 (List.mem_of_getElem? (i := 11) rfl)), (show Cond.instanceMethod yX11_rowIs ∈ lw_tbl ∧ Cond.selects yX11_rowIs.cls yX11_rowIs yX11_rowIs ∈ lw_tbl from ⟨(mm5 (List.mem_of_getElem? (i := 231) rfl)), (mmp (q := (yX11_rowIs, 43)) (List.mem_of_getElem? (i := 50) rfl))⟩), rfl, by decide +kernel, by decide +kernel⟩
theorem mo_177 : mRecOk (11, yX11_lettersIn, cX11_lettersIn, 3, (some .int), false, 1) := ⟨(mm6 (List.mem_of_getElem? (i := 2) rfl)), (mm1 (List.mem_of_getElem? (i := 11) rfl)), (show Cond.instanceMethod yX11_lettersIn ∈ lw_tbl ∧ Cond.selects yX11_lettersIn.cls yX11_lettersIn yX11_lettersIn ∈ lw_tbl from ⟨(mm6 (List.mem_of_getElem? (i := 1) rfl)), (mmp (q := (yX11_lettersIn, 43)) (List.mem_of_getElem? (i := 52) rfl))⟩), rfl, by decide +kernel, by decide +kernel⟩
theorem mo_178 : mRecOk (11, yX11_typesDay, cX11_typesDay, 5, none, false, 2) := ⟨(mm5 (List.mem_of_getElem? (i := 238) rfl)), (mm1 (List.mem_of_getElem? (i := 11) rfl)), (show Cond.instanceMethod yX11_typesDay ∈ lw_tbl ∧ Cond.selects yX11_typesDay.cls yX11_typesDay yX11_typesDay ∈ lw_tbl from ⟨(mm5 (List.mem_of_getElem? (i := 237) rfl)), (mmp (q := (yX11_typesDay, 43)) (List.mem_of_getElem? (i := 51) rfl))⟩), rfl, by decide +kernel, by decide +kernel⟩
theorem mo_179 : mRecOk (11, yX11_later, cX11_later, 5, (some .int), false, 4) := ⟨(mm5 (List.mem_of_getElem? (i := 228) rfl)), (mm1 (List.mem_of_getElem? (i := 11) rfl)), (show Cond.instanceMethod yX11_later ∈ lw_tbl ∧ Cond.selects yX11_later.cls yX11_later yX11_later ∈ lw_tbl from ⟨(mm5 (List.mem_of_getElem? (i := 226) rfl)), (mm5 (List.mem_of_getElem? (i := 227) rfl))⟩), rfl, by decide +kernel, by decide +kernel⟩
theorem mo_180 : mRecOk (11, yX11_letter, cX11_letter, 4, (some .int), false, 2) := ⟨(mm6 (List.mem_of_getElem? (i := 13) rfl)), (mm1 (List.mem_of_getElem? (i := 11) rfl)), (show Cond.instanceMethod yX11_letter ∈ lw_tbl ∧ Cond.selects yX11_letter.cls yX11_letter yX11_letter ∈ lw_tbl from ⟨(mm6 (List.mem_of_getElem? (i := 11) rfl)), (mm6 (List.mem_of_getElem? (i := 12) rfl))⟩), rfl, by decide +kernel, by decide +kernel⟩
theorem mo_181 : mRecOk (11, yX11_still, cX11_still, 5, (some .int), false, 1) := ⟨(mm6 (List.mem_of_getElem? (i := 21) rfl)), (mm1 (List.mem_of_getElem? (i := 11) rfl)), (show Cond.instanceMethod yX11_still ∈ lw_tbl ∧ Cond.selects yX11_still.cls yX11_still yX11_still ∈ lw_tbl from ⟨(mm6 (List.mem_of_getElem? (i := 19) rfl)), (mm6 (List.mem_of_getElem? (i := 20) rfl))⟩), rfl, by decide +kernel, by decide +kernel⟩
theorem mo_182 : mRecOk (11, yX11_farOf, cX11_farOf, 5, (some .int), false, 2) := ⟨(mm6 (List.mem_of_getElem? (i := 29) rfl)), (mm1 (List.mem_of_getElem? (i := 11) rfl)), (show Cond.instanceMethod yX11_farOf ∈ lw_tbl ∧ Cond.selects yX11_farOf.cls yX11_farOf yX11_farOf ∈ lw_tbl from ⟨(mm6 (List.mem_of_getElem? (i := 28) rfl)), (mmp (q := (yX11_farOf, 43)) (List.mem_of_getElem? (i := 55) rfl))⟩), rfl, by decide +kernel, by decide +kernel⟩
theorem mo_183 : mRecOk (11, yX11_far, cX11_far, 2, (some .int), false, 1) := ⟨(mm6 (List.mem_of_getElem? (i := 25) rfl)), (mm1 (List.mem_of_getElem? (i := 11) rfl)), (show Cond.instanceMethod yX11_far ∈ lw_tbl ∧ Cond.selects yX11_far.cls yX11_far yX11_far ∈ lw_tbl from ⟨(mm6 (List.mem_of_getElem? (i := 23) rfl)), (mm6 (List.mem_of_getElem? (i := 24) rfl))⟩), rfl, by decide +kernel, by decide +kernel⟩
theorem mo_184 : mRecOk (11, yX11_nearest, cX11_nearest, 7, (some .int), false, 2) := ⟨(mm6 (List.mem_of_getElem? (i := 33) rfl)), (mm1 (List.mem_of_getElem? (i := 11) rfl)), (show Cond.instanceMethod yX11_nearest ∈ lw_tbl ∧ Cond.selects yX11_nearest.cls yX11_nearest yX11_nearest ∈ lw_tbl from ⟨(mm6 (List.mem_of_getElem? (i := 31) rfl)), (mm6 (List.mem_of_getElem? (i := 32) rfl))⟩), rfl, by decide +kernel, by decide +kernel⟩
theorem mo_185 : mRecOk (11, yX11_given, cX11_given, 8, (some .int), false, 1) := ⟨(mm6 (List.mem_of_getElem? (i := 37) rfl)), (mm1 (List.mem_of_getElem? (i := 11) rfl)), (show Cond.instanceMethod yX11_given ∈ lw_tbl ∧ Cond.selects yX11_given.cls yX11_given yX11_given ∈ lw_tbl from ⟨(mm6 (List.mem_of_getElem? (i := 35) rfl)), (mm6 (List.mem_of_getElem? (i := 36) rfl))⟩), rfl, by decide +kernel, by decide +kernel⟩
theorem mo_186 : mRecOk (11, yX11_teach, cX11_teach, 5, (some .int), false, 2) := ⟨(mm6 (List.mem_of_getElem? (i := 42) rfl)), (mm1 (List.mem_of_getElem? (i := 11) rfl)), (show Cond.instanceMethod yX11_teach ∈ lw_tbl ∧ Cond.selects yX11_teach.cls yX11_teach yX11_teach ∈ lw_tbl from ⟨(mm6 (List.mem_of_getElem? (i := 40) rfl)), (mm6 (List.mem_of_getElem? (i := 41) rfl))⟩), rfl, by decide +kernel, by decide +kernel⟩
theorem mo_187 : mRecOk (11, yX11_codeBehind, cX11_codeBehind, 5, (some .int), false, 2) := ⟨(mm6 (List.mem_of_getElem? (i := 50) rfl)), (mm1 (List.mem_of_getElem? (i := 11) rfl)), (show Cond.instanceMethod yX11_codeBehind ∈ lw_tbl ∧ Cond.selects yX11_codeBehind.cls yX11_codeBehind yX11_codeBehind ∈ lw_tbl from ⟨(mm6 (List.mem_of_getElem? (i := 49) rfl)), (mmp (q := (yX11_codeBehind, 43)) (List.mem_of_getElem? (i := 56) rfl))⟩), rfl, by decide +kernel, by decide +kernel⟩
theorem mo_188 : mRecOk (11, yX11_bring, cX11_bring, 9, (some .int), false, 3) := ⟨(mm6 (List.mem_of_getElem? (i := 46) rfl)), (mm1 (List.mem_of_getElem? (i := 11) rfl)), (show Cond.instanceMethod yX11_bring ∈ lw_tbl ∧ Cond.selects yX11_bring.cls yX11_bring yX11_bring ∈ lw_tbl from ⟨(mm6 (List.mem_of_getElem? (i := 44) rfl)), (mm6 (List.mem_of_getElem? (i := 45) rfl))⟩), rfl, by decide +kernel, by decide +kernel⟩
theorem mo_189 : mRecOk (11, yX11_isSheet, cX11_isSheet, 5, (some .boolean), false, 3) := ⟨(mm6 (List.mem_of_getElem? (i := 58) rfl)), (mm1 (List.mem_of_getElem? (i := 11) rfl)), (show Cond.instanceMethod yX11_isSheet ∈ lw_tbl ∧ Cond.selects yX11_isSheet.cls yX11_isSheet yX11_isSheet ∈ lw_tbl from ⟨(mm6 (List.mem_of_getElem? (i := 57) rfl)), (mmp (q := (yX11_isSheet, 43)) (List.mem_of_getElem? (i := 57) rfl))⟩), rfl, by decide +kernel, by decide +kernel⟩
theorem mo_190 : mRecOk (11, yX11_whose, cX11_whose, 5, (some .int), false, 2) := ⟨(mm6 (List.mem_of_getElem? (i := 54) rfl)), (mm1 (List.mem_of_getElem? (i := 11) rfl)), (show Cond.instanceMethod yX11_whose ∈ lw_tbl ∧ Cond.selects yX11_whose.cls yX11_whose yX11_whose ∈ lw_tbl from ⟨(mm6 (List.mem_of_getElem? (i := 52) rfl)), (mm6 (List.mem_of_getElem? (i := 53) rfl))⟩), rfl, by decide +kernel, by decide +kernel⟩
theorem mo_191 : mRecOk (11, yX11_where, cX11_where, 5, (some .int), false, 2) := ⟨(mm6 (List.mem_of_getElem? (i := 62) rfl)), (mm1 (List.mem_of_getElem? (i := 11) rfl)), (show Cond.instanceMethod yX11_where ∈ lw_tbl ∧ Cond.selects yX11_where.cls yX11_where yX11_where ∈ lw_tbl from ⟨(mm6 (List.mem_of_getElem? (i := 60) rfl)), (mm6 (List.mem_of_getElem? (i := 61) rfl))⟩), rfl, by decide +kernel, by decide +kernel⟩
theorem mTab_ok_7 : ∀ r ∈ mTab_7, mRecOk r := List.forall_mem_cons.mpr ⟨mo_168, List.forall_mem_cons.mpr ⟨mo_169, List.forall_mem_cons.mpr ⟨mo_170, List.forall_mem_cons.mpr ⟨mo_171, List.forall_mem_cons.mpr ⟨mo_172, List.forall_mem_cons.mpr ⟨mo_173, List.forall_mem_cons.mpr ⟨mo_174, List.forall_mem_cons.mpr ⟨mo_175, List.forall_mem_cons.mpr ⟨mo_176, List.forall_mem_cons.mpr ⟨mo_177, List.forall_mem_cons.mpr ⟨mo_178, List.forall_mem_cons.mpr ⟨mo_179, List.forall_mem_cons.mpr ⟨mo_180, List.forall_mem_cons.mpr ⟨mo_181, List.forall_mem_cons.mpr ⟨mo_182, List.forall_mem_cons.mpr ⟨mo_183, List.forall_mem_cons.mpr ⟨mo_184, List.forall_mem_cons.mpr ⟨mo_185, List.forall_mem_cons.mpr ⟨mo_186, List.forall_mem_cons.mpr ⟨mo_187, List.forall_mem_cons.mpr ⟨mo_188, List.forall_mem_cons.mpr ⟨mo_189, List.forall_mem_cons.mpr ⟨mo_190, List.forall_mem_cons.mpr ⟨mo_191, fun _ h => absurd h List.not_mem_nil⟩⟩⟩⟩⟩⟩⟩⟩⟩⟩⟩⟩⟩⟩⟩⟩⟩⟩⟩⟩⟩⟩⟩⟩
theorem mo_192 : mRecOk (11, yX11_pairs, cX11_pairs, 9, (some .int), false, 2) := ⟨(mm6 (List.mem_of_getElem? (i := 66) rfl)), (mm1 (List.mem_of_getElem? (i := 11) rfl)), (show Cond.instanceMethod yX11_pairs ∈ lw_tbl ∧ Cond.selects yX11_pairs.cls yX11_pairs yX11_pairs ∈ lw_tbl from ⟨(mm6 (List.mem_of_getElem? (i := 64) rfl)), (mm6 (List.mem_of_getElem? (i := 65) rfl))⟩), rfl, by decide +kernel, by decide +kernel⟩
theorem mo_193 : mRecOk (11, yX11_between, cX11_between, 5, (some .int), false, 3) := ⟨(mm6 (List.mem_of_getElem? (i := 70) rfl)), (mm1 (List.mem_of_getElem? (i := 11) rfl)), (show Cond.instanceMethod yX11_between ∈ lw_tbl ∧ Cond.selects yX11_between.cls yX11_between yX11_between ∈ lw_tbl from ⟨(mm6 (List.mem_of_getElem? (i := 68) rfl)), (mm6 (List.mem_of_getElem? (i := 69) rfl))⟩), rfl, by decide +kernel, by decide +kernel⟩
theorem mo_194 : mRecOk (11, yX11_firstFalse, cX11_firstFalse, 8, (some .int), false, 3) := ⟨(mm6 (List.mem_of_getElem? (i := 78) rfl)), (mm1 (List.mem_of_getElem? (i := 11) rfl)), (show Cond.instanceMethod yX11_firstFalse ∈ lw_tbl ∧ Cond.selects yX11_firstFalse.cls yX11_firstFalse yX11_firstFalse ∈ lw_tbl from ⟨(mm6 (List.mem_of_getElem? (i := 77) rfl)), (mmp (q := (yX11_firstFalse, 43)) (List.mem_of_getElem? (i := 58) rfl))⟩), rfl, by decide +kernel, by decide +kernel⟩
theorem mo_195 : mRecOk (11, yX11_judge, cX11_judge, 2, (some .int), false, 1) := ⟨(mm6 (List.mem_of_getElem? (i := 74) rfl)), (mm1 (List.mem_of_getElem? (i := 11) rfl)), (show Cond.instanceMethod yX11_judge ∈ lw_tbl ∧ Cond.selects yX11_judge.cls yX11_judge yX11_judge ∈ lw_tbl from ⟨(mm6 (List.mem_of_getElem? (i := 72) rfl)), (mm6 (List.mem_of_getElem? (i := 73) rfl))⟩), rfl, by decide +kernel, by decide +kernel⟩
theorem mo_196 : mRecOk (11, yX11_falseOne, cX11_falseOne, 5, (some .int), false, 2) := ⟨(mm6 (List.mem_of_getElem? (i := 82) rfl)), (mm1 (List.mem_of_getElem? (i := 11) rfl)), (show Cond.instanceMethod yX11_falseOne ∈ lw_tbl ∧ Cond.selects yX11_falseOne.cls yX11_falseOne yX11_falseOne ∈ lw_tbl from ⟨(mm6 (List.mem_of_getElem? (i := 80) rfl)), (mm6 (List.mem_of_getElem? (i := 81) rfl))⟩), rfl, by decide +kernel, by decide +kernel⟩
theorem mo_197 : mRecOk (11, yX11_ribbons, cX11_ribbons, 6, (some .int), false, 2) := ⟨(mm6 (List.mem_of_getElem? (i := 86) rfl)), (mm1 (List.mem_of_getElem? (i := 11) rfl)), (show Cond.instanceMethod yX11_ribbons ∈ lw_tbl ∧ Cond.selects yX11_ribbons.cls yX11_ribbons yX11_ribbons ∈ lw_tbl from ⟨(mm6 (List.mem_of_getElem? (i := 84) rfl)), (mm6 (List.mem_of_getElem? (i := 85) rfl))⟩), rfl, by decide +kernel, by decide +kernel⟩
theorem mo_198 : mRecOk (11, yX11_sleeps, cX11_sleeps, 4, none, false, 0) := ⟨(mm6 (List.mem_of_getElem? (i := 95) rfl)), (mm1 (List.mem_of_getElem? (i := 11) rfl)), (show Cond.instanceMethod yX11_sleeps ∈ lw_tbl ∧ Cond.selects yX11_sleeps.cls yX11_sleeps yX11_sleeps ∈ lw_tbl from ⟨(mm6 (List.mem_of_getElem? (i := 94) rfl)), (mmp (q := (yX11_sleeps, 43)) (List.mem_of_getElem? (i := 59) rfl))⟩), rfl, by decide +kernel, by decide +kernel⟩
theorem mo_199 : mRecOk (11, yX11_morning, cX11_morning, 5, (some .int), false, 3) := ⟨(mm6 (List.mem_of_getElem? (i := 90) rfl)), (mm1 (List.mem_of_getElem? (i := 11) rfl)), (show Cond.instanceMethod yX11_morning ∈ lw_tbl ∧ Cond.selects yX11_morning.cls yX11_morning yX11_morning ∈ lw_tbl from ⟨(mm6 (List.mem_of_getElem? (i := 88) rfl)), (mm6 (List.mem_of_getElem? (i := 89) rfl))⟩), rfl, by decide +kernel, by decide +kernel⟩
theorem mo_200 : mRecOk (11, yX11_alike, cX11_alike, 4, (some .int), false, 0) := ⟨(mm6 (List.mem_of_getElem? (i := 99) rfl)), (mm1 (List.mem_of_getElem? (i := 11) rfl)), (show Cond.instanceMethod yX11_alike ∈ lw_tbl ∧ Cond.selects yX11_alike.cls yX11_alike yX11_alike ∈ lw_tbl from ⟨(mm6 (List.mem_of_getElem? (i := 97) rfl)), (mm6 (List.mem_of_getElem? (i := 98) rfl))⟩), rfl, by decide +kernel, by decide +kernel⟩
theorem mo_201 : mRecOk (11, yX11_priceOf, cX11_priceOf, 5, (some .int), false, 1) := ⟨(mm6 (List.mem_of_getElem? (i := 107) rfl)), (mm1 (List.mem_of_getElem? (i := 11) rfl)), (show Cond.instanceMethod yX11_priceOf ∈ lw_tbl ∧ Cond.selects yX11_priceOf.cls yX11_priceOf yX11_priceOf ∈ lw_tbl from ⟨(mm6 (List.mem_of_getElem? (i := 106) rfl)), (mmp (q := (yX11_priceOf, 43)) (List.mem_of_getElem? (i := 60) rfl))⟩), rfl, by decide +kernel, by decide +kernel⟩
theorem mo_202 : mRecOk (11, yX11_price, cX11_price, 2, (some .int), false, 1) := ⟨(mm6 (List.mem_of_getElem? (i := 103) rfl)), (mm1 (List.mem_of_getElem? (i := 11) rfl)), (show Cond.instanceMethod yX11_price ∈ lw_tbl ∧ Cond.selects yX11_price.cls yX11_price yX11_price ∈ lw_tbl from ⟨(mm6 (List.mem_of_getElem? (i := 101) rfl)), (mm6 (List.mem_of_getElem? (i := 102) rfl))⟩), rfl, by decide +kernel, by decide +kernel⟩
theorem mo_203 : mRecOk (11, yX11_buy, cX11_buy, 8, (some .int), false, 2) := ⟨(mm6 (List.mem_of_getElem? (i := 111) rfl)), (mm1 (List.mem_of_getElem? (i := 11) rfl)), (show Cond.instanceMethod yX11_buy ∈ lw_tbl ∧ Cond.selects yX11_buy.cls yX11_buy yX11_buy ∈ lw_tbl from ⟨(mm6 (List.mem_of_getElem? (i := 109) rfl)), (mm6 (List.mem_of_getElem? (i := 110) rfl))⟩), rfl, by decide +kernel, by decide +kernel⟩
theorem mo_204 : mRecOk (11, yX11_drawn, cX11_drawn, 10, (some .int), false, 3) := ⟨(mm6 (List.mem_of_getElem? (i := 119) rfl)), (mm1 (List.mem_of_getElem? (i := 11) rfl)), (show Cond.instanceMethod yX11_drawn ∈ lw_tbl ∧ Cond.selects yX11_drawn.cls yX11_drawn yX11_drawn ∈ lw_tbl from ⟨(mm6 (List.mem_of_getElem? (i := 117) rfl)), (mm6 (List.mem_of_getElem? (i := 118) rfl))⟩), rfl, by decide +kernel, by decide +kernel⟩
theorem mo_205 : mRecOk (11, yX11_types, cX11_types, 5, (some .int), false, 1) := ⟨(mm6 (List.mem_of_getElem? (i := 124) rfl)), (mm1 (List.mem_of_getElem? (i := 11) rfl)), (show Cond.instanceMethod yX11_types ∈ lw_tbl ∧ Cond.selects yX11_types.cls yX11_types yX11_types ∈ lw_tbl from ⟨(mm6 (List.mem_of_getElem? (i := 122) rfl)), (mm6 (List.mem_of_getElem? (i := 123) rfl))⟩), rfl, by decide +kernel, by decide +kernel⟩
theorem mo_206 : mRecOk (11, yX11_clean, cX11_clean, 4, (some .int), false, 1) := ⟨(mm6 (List.mem_of_getElem? (i := 128) rfl)), (mm1 (List.mem_of_getElem? (i := 11) rfl)), (show Cond.instanceMethod yX11_clean ∈ lw_tbl ∧ Cond.selects yX11_clean.cls yX11_clean yX11_clean ∈ lw_tbl from ⟨(mm6 (List.mem_of_getElem? (i := 126) rfl)), (mm6 (List.mem_of_getElem? (i := 127) rfl))⟩), rfl, by decide +kernel, by decide +kernel⟩
theorem mo_207 : mRecOk (11, yX11_learn, cX11_learn, 5, (some .int), false, 1) := ⟨(mm6 (List.mem_of_getElem? (i := 132) rfl)), (mm1 (List.mem_of_getElem? (i := 11) rfl)), (show Cond.instanceMethod yX11_learn ∈ lw_tbl ∧ Cond.selects yX11_learn.cls yX11_learn yX11_learn ∈ lw_tbl from ⟨(mm6 (List.mem_of_getElem? (i := 130) rfl)), (mm6 (List.mem_of_getElem? (i := 131) rfl))⟩), rfl, by decide +kernel, by decide +kernel⟩
theorem mo_208 : mRecOk (11, yX11_led, cX11_led, 2, (some .int), false, 1) := ⟨(mm6 (List.mem_of_getElem? (i := 136) rfl)), (mm1 (List.mem_of_getElem? (i := 11) rfl)), (show Cond.instanceMethod yX11_led ∈ lw_tbl ∧ Cond.selects yX11_led.cls yX11_led yX11_led ∈ lw_tbl from ⟨(mm6 (List.mem_of_getElem? (i := 134) rfl)), (mm6 (List.mem_of_getElem? (i := 135) rfl))⟩), rfl, by decide +kernel, by decide +kernel⟩
theorem mo_209 : mRecOk (11, yX11_image, cX11_image, 2, (some .int), false, 0) := ⟨(mm6 (List.mem_of_getElem? (i := 140) rfl)), (mm1 (List.mem_of_getElem? (i := 11) rfl)), (show Cond.instanceMethod yX11_image ∈ lw_tbl ∧ Cond.selects yX11_image.cls yX11_image yX11_image ∈ lw_tbl from ⟨(mm6 (List.mem_of_getElem? (i := 138) rfl)), (mm6 (List.mem_of_getElem? (i := 139) rfl))⟩), rfl, by decide +kernel, by decide +kernel⟩
theorem mo_210 : mRecOk (11, yX11_back, cX11_back, 2, (some .int), false, 0) := ⟨(mm6 (List.mem_of_getElem? (i := 144) rfl)), (mm1 (List.mem_of_getElem? (i := 11) rfl)), (show Cond.instanceMethod yX11_back ∈ lw_tbl ∧ Cond.selects yX11_back.cls yX11_back yX11_back ∈ lw_tbl from ⟨(mm6 (List.mem_of_getElem? (i := 142) rfl)), (mm6 (List.mem_of_getElem? (i := 143) rfl))⟩), rfl, by decide +kernel, by decide +kernel⟩
theorem mo_211 : mRecOk (11, yX11_isBody, cX11_isBody, 2, (some .boolean), false, 1) := ⟨(mm6 (List.mem_of_getElem? (i := 157) rfl)), (mm1 (List.mem_of_getElem? (i := 11) rfl)), (show Cond.instanceMethod yX11_isBody ∈ lw_tbl ∧ Cond.selects yX11_isBody.cls yX11_isBody yX11_isBody ∈ lw_tbl from ⟨(mm6 (List.mem_of_getElem? (i := 156) rfl)), (mmp (q := (yX11_isBody, 43)) (List.mem_of_getElem? (i := 61) rfl))⟩), rfl, by decide +kernel, by decide +kernel⟩
theorem mo_212 : mRecOk (11, yX11_kindOf, cX11_kindOf, 2, (some .int), false, 1) := ⟨(mm6 (List.mem_of_getElem? (i := 217) rfl)), (mm1 (List.mem_of_getElem? (i := 11) rfl)), (show Cond.instanceMethod yX11_kindOf ∈ lw_tbl ∧ Cond.selects yX11_kindOf.cls yX11_kindOf yX11_kindOf ∈ lw_tbl from ⟨(mm6 (List.mem_of_getElem? (i := 216) rfl)), (mmp (q := (yX11_kindOf, 43)) (List.mem_of_getElem? (i := 68) rfl))⟩), rfl, by decide +kernel, by decide +kernel⟩
theorem mo_213 : mRecOk (11, yX11_body, cX11_body, 2, (some .int), false, 1) := ⟨(mm6 (List.mem_of_getElem? (i := 148) rfl)), (mm1 (List.mem_of_getElem? (i := 11) rfl)), (show Cond.instanceMethod yX11_body ∈ lw_tbl ∧ Cond.selects yX11_body.cls yX11_body yX11_body ∈ lw_tbl from ⟨(mm6 (List.mem_of_getElem? (i := 146) rfl)), (mm6 (List.mem_of_getElem? (i := 147) rfl))⟩), rfl, by decide +kernel, by decide +kernel⟩
theorem mo_214 : mRecOk (11, yX11_above, cX11_above, 1, (some .int), true, 1) := ⟨(mm6 (List.mem_of_getElem? (i := 220) rfl)), (mm1 (List.mem_of_getElem? (i := 11) rfl)), (show Cond.static yX11_above ∈ lw_tbl from (mm6 (List.mem_of_getElem? (i := 219) rfl))), rfl, by decide +kernel, by decide +kernel⟩
theorem mo_215 : mRecOk (11, yX11_runs, cX11_runs, 2, none, false, 1) := ⟨(mm6 (List.mem_of_getElem? (i := 165) rfl)), (mm1 (List.mem_of_getElem? (i := 11) rfl)), (show Cond.instanceMethod yX11_runs ∈ lw_tbl ∧ Cond.selects yX11_runs.cls yX11_runs yX11_runs ∈ lw_tbl from ⟨(mm6 (List.mem_of_getElem? (i := 164) rfl)), (mmp (q := (yX11_runs, 43)) (List.mem_of_getElem? (i := 63) rfl))⟩), rfl, by decide +kernel, by decide +kernel⟩
theorem mTab_ok_8 : ∀ r ∈ mTab_8, mRecOk r := List.forall_mem_cons.mpr ⟨mo_192, List.forall_mem_cons.mpr ⟨mo_193, List.forall_mem_cons.mpr ⟨mo_194, List.forall_mem_cons.mpr ⟨mo_195, List.forall_mem_cons.mpr ⟨mo_196, List.forall_mem_cons.mpr ⟨mo_197, List.forall_mem_cons.mpr ⟨mo_198, List.forall_mem_cons.mpr ⟨mo_199, List.forall_mem_cons.mpr ⟨mo_200, List.forall_mem_cons.mpr ⟨mo_201, List.forall_mem_cons.mpr ⟨mo_202, List.forall_mem_cons.mpr ⟨mo_203, List.forall_mem_cons.mpr ⟨mo_204, List.forall_mem_cons.mpr ⟨mo_205, List.forall_mem_cons.mpr ⟨mo_206, List.forall_mem_cons.mpr ⟨mo_207, List.forall_mem_cons.mpr ⟨mo_208, List.forall_mem_cons.mpr ⟨mo_209, List.forall_mem_cons.mpr ⟨mo_210, List.forall_mem_cons.mpr ⟨mo_211, List.forall_mem_cons.mpr ⟨mo_212, List.forall_mem_cons.mpr ⟨mo_213, List.forall_mem_cons.mpr ⟨mo_214, List.forall_mem_cons.mpr ⟨mo_215, fun _ h => absurd h List.not_mem_nil⟩⟩⟩⟩⟩⟩⟩⟩⟩⟩⟩⟩⟩⟩⟩⟩⟩⟩⟩⟩⟩⟩⟩⟩
theorem mo_216 : mRecOk (11, yX11_typesAs, cX11_typesAs, 3, (some .int), false, 2) := ⟨(mm6 (List.mem_of_getElem? (i := 161) rfl)), (mm1 (List.mem_of_getElem? (i := 11) rfl)), (show Cond.instanceMethod yX11_typesAs ∈ lw_tbl ∧ Cond.selects yX11_typesAs.cls yX11_typesAs yX11_typesAs ∈ lw_tbl from ⟨(mm6 (List.mem_of_getElem? (i := 160) rfl)), (mmp (q := (yX11_typesAs, 43)) (List.mem_of_getElem? (i := 62) rfl))⟩), rfl, by decide +kernel, by decide +kernel⟩
theorem mo_217 : mRecOk (11, yX11_sticksAs, cX11_sticksAs, 4, (some .int), false, 2) := ⟨(mm6 (List.mem_of_getElem? (i := 169) rfl)), (mm1 (List.mem_of_getElem? (i := 11) rfl)), (show Cond.instanceMethod yX11_sticksAs ∈ lw_tbl ∧ Cond.selects yX11_sticksAs.cls yX11_sticksAs yX11_sticksAs ∈ lw_tbl from ⟨(mm6 (List.mem_of_getElem? (i := 168) rfl)), (mmp (q := (yX11_sticksAs, 43)) (List.mem_of_getElem? (i := 64) rfl))⟩), rfl, by decide +kernel, by decide +kernel⟩
theorem mo_218 : mRecOk (11, yX11_ringsAs, cX11_ringsAs, 4, (some .int), false, 2) := ⟨(mm6 (List.mem_of_getElem? (i := 173) rfl)), (mm1 (List.mem_of_getElem? (i := 11) rfl)), (show Cond.instanceMethod yX11_ringsAs ∈ lw_tbl ∧ Cond.selects yX11_ringsAs.cls yX11_ringsAs yX11_ringsAs ∈ lw_tbl from ⟨(mm6 (List.mem_of_getElem? (i := 172) rfl)), (mmp (q := (yX11_ringsAs, 43)) (List.mem_of_getElem? (i := 65) rfl))⟩), rfl, by decide +kernel, by decide +kernel⟩
theorem mo_219 : mRecOk (11, yX11_tellsAs, cX11_tellsAs, 4, (some .int), false, 2) := ⟨(mm6 (List.mem_of_getElem? (i := 177) rfl)), (mm1 (List.mem_of_getElem? (i := 11) rfl)), (show Cond.instanceMethod yX11_tellsAs ∈ lw_tbl ∧ Cond.selects yX11_tellsAs.cls yX11_tellsAs yX11_tellsAs ∈ lw_tbl from ⟨(mm6 (List.mem_of_getElem? (i := 176) rfl)), (mmp (q := (yX11_tellsAs, 43)) (List.mem_of_getElem? (i := 66) rfl))⟩), rfl, by decide +kernel, by decide +kernel⟩
theorem mo_220 : mRecOk (11, yX11_act, cX11_act, 4, (some .int), false, 3) := ⟨(mm6 (List.mem_of_getElem? (i := 153) rfl)), (mm1 (List.mem_of_getElem? (i := 11) rfl)), (show Cond.instanceMethod yX11_act ∈ lw_tbl ∧ Cond.selects yX11_act.cls yX11_act yX11_act ∈ lw_tbl from ⟨(mm6 (List.mem_of_getElem? (i := 151) rfl)), (mm6 (List.mem_of_getElem? (i := 152) rfl))⟩), rfl, by decide +kernel, by decide +kernel⟩
theorem mo_221 : mRecOk (11, yX11_trace, cX11_trace, 2, (some .int), false, 1) := ⟨(mm6 (List.mem_of_getElem? (i := 181) rfl)), (mm1 (List.mem_of_getElem? (i := 11) rfl)), (show Cond.instanceMethod yX11_trace ∈ lw_tbl ∧ Cond.selects yX11_trace.cls yX11_trace yX11_trace ∈ lw_tbl from ⟨(mm6 (List.mem_of_getElem? (i := 179) rfl)), (mm6 (List.mem_of_getElem? (i := 180) rfl))⟩), rfl, by decide +kernel, by decide +kernel⟩
theorem mo_222 : mRecOk (11, yX11_isShelf, cX11_isShelf, 1, (some .boolean), true, 1) := ⟨(mm5 (List.mem_of_getElem? (i := 101) rfl)), (mm1 (List.mem_of_getElem? (i := 11) rfl)), (show Cond.static yX11_isShelf ∈ lw_tbl from (mm5 (List.mem_of_getElem? (i := 100) rfl))), rfl, by decide +kernel, by decide +kernel⟩
theorem mo_223 : mRecOk (11, yX11_keep, cX11_keep, 3, (some .int), false, 2) := ⟨(mm6 (List.mem_of_getElem? (i := 185) rfl)), (mm1 (List.mem_of_getElem? (i := 11) rfl)), (show Cond.instanceMethod yX11_keep ∈ lw_tbl ∧ Cond.selects yX11_keep.cls yX11_keep yX11_keep ∈ lw_tbl from ⟨(mm6 (List.mem_of_getElem? (i := 183) rfl)), (mm6 (List.mem_of_getElem? (i := 184) rfl))⟩), rfl, by decide +kernel, by decide +kernel⟩
theorem mo_224 : mRecOk (11, yX11_row, cX11_row, 5, (some .int), false, 3) := ⟨(mm6 (List.mem_of_getElem? (i := 189) rfl)), (mm1 (List.mem_of_getElem? (i := 11) rfl)), (show Cond.instanceMethod yX11_row ∈ lw_tbl ∧ Cond.selects yX11_row.cls yX11_row yX11_row ∈ lw_tbl from ⟨(mm6 (List.mem_of_getElem? (i := 187) rfl)), (mm6 (List.mem_of_getElem? (i := 188) rfl))⟩), rfl, by decide +kernel, by decide +kernel⟩
theorem mo_225 : mRecOk (11, yX11_refusal, cX11_refusal, 3, (some .int), false, 2) := ⟨(mm6 (List.mem_of_getElem? (i := 197) rfl)), (mm1 (List.mem_of_getElem? (i := 11) rfl)), (show Cond.instanceMethod yX11_refusal ∈ lw_tbl ∧ Cond.selects yX11_refusal.cls yX11_refusal yX11_refusal ∈ lw_tbl from ⟨(mm6 (List.mem_of_getElem? (i := 196) rfl)), (mmp (q := (yX11_refusal, 43)) (List.mem_of_getElem? (i := 67) rfl))⟩), rfl, by decide +kernel, by decide +kernel⟩
theorem mo_226 : mRecOk (11, yX11_asSort, cX11_asSort, 3, (some .long), true, 2) := ⟨(mm6 (List.mem_of_getElem? (i := 200) rfl)), (mm1 (List.mem_of_getElem? (i := 11) rfl)), (show Cond.static yX11_asSort ∈ lw_tbl from (mm6 (List.mem_of_getElem? (i := 199) rfl))), rfl, by decide +kernel, by decide +kernel⟩
theorem mo_227 : mRecOk (11, yX11_put, cX11_put, 6, (some .int), false, 3) := ⟨(mm6 (List.mem_of_getElem? (i := 193) rfl)), (mm1 (List.mem_of_getElem? (i := 11) rfl)), (show Cond.instanceMethod yX11_put ∈ lw_tbl ∧ Cond.selects yX11_put.cls yX11_put yX11_put ∈ lw_tbl from ⟨(mm6 (List.mem_of_getElem? (i := 191) rfl)), (mm6 (List.mem_of_getElem? (i := 192) rfl))⟩), rfl, by decide +kernel, by decide +kernel⟩
theorem mo_228 : mRecOk (11, yX11_element, cX11_element, 3, (some .long), false, 2) := ⟨(mm6 (List.mem_of_getElem? (i := 204) rfl)), (mm1 (List.mem_of_getElem? (i := 11) rfl)), (show Cond.instanceMethod yX11_element ∈ lw_tbl ∧ Cond.selects yX11_element.cls yX11_element yX11_element ∈ lw_tbl from ⟨(mm6 (List.mem_of_getElem? (i := 202) rfl)), (mm6 (List.mem_of_getElem? (i := 203) rfl))⟩), rfl, by decide +kernel, by decide +kernel⟩
theorem mo_229 : mRecOk (11, yX11_shift, cX11_shift, 7, (some .int), false, 5) := ⟨(mm6 (List.mem_of_getElem? (i := 209) rfl)), (mm1 (List.mem_of_getElem? (i := 11) rfl)), (show Cond.instanceMethod yX11_shift ∈ lw_tbl ∧ Cond.selects yX11_shift.cls yX11_shift yX11_shift ∈ lw_tbl from ⟨(mm6 (List.mem_of_getElem? (i := 207) rfl)), (mm6 (List.mem_of_getElem? (i := 208) rfl))⟩), rfl, by decide +kernel, by decide +kernel⟩
theorem mo_230 : mRecOk (11, yX11_taken, cX11_taken, 4, (some .int), false, 2) := ⟨(mm6 (List.mem_of_getElem? (i := 213) rfl)), (mm1 (List.mem_of_getElem? (i := 11) rfl)), (show Cond.instanceMethod yX11_taken ∈ lw_tbl ∧ Cond.selects yX11_taken.cls yX11_taken yX11_taken ∈ lw_tbl from ⟨(mm6 (List.mem_of_getElem? (i := 211) rfl)), (mm6 (List.mem_of_getElem? (i := 212) rfl))⟩), rfl, by decide +kernel, by decide +kernel⟩
theorem mo_231 : mRecOk (11, yX11_count, cX11_count, 2, (some .int), false, 1) := ⟨(mm6 (List.mem_of_getElem? (i := 224) rfl)), (mm1 (List.mem_of_getElem? (i := 11) rfl)), (show Cond.instanceMethod yX11_count ∈ lw_tbl ∧ Cond.selects yX11_count.cls yX11_count yX11_count ∈ lw_tbl from ⟨(mm6 (List.mem_of_getElem? (i := 222) rfl)), (mm6 (List.mem_of_getElem? (i := 223) rfl))⟩), rfl, by decide +kernel, by decide +kernel⟩
theorem mo_232 : mRecOk (13, yJ6_numberOfTrailingZeros_0f7a4, cJ6_numberOfTrailingZeros_0f7a4, 2, (some .int), true, 1) := ⟨(mm3 (List.mem_of_getElem? (i := 195) rfl)), (mm1 (List.mem_of_getElem? (i := 15) rfl)), (show Cond.static yJ6_numberOfTrailingZeros_0f7a4 ∈ lw_tbl from (mm3 (List.mem_of_getElem? (i := 194) rfl))), rfl, by decide +kernel, by decide +kernel⟩
theorem mo_233 : mRecOk (13, yJ6_bitCount_0f7a4, cJ6_bitCount_0f7a4, 1, (some .int), true, 1) := ⟨(mm3 (List.mem_of_getElem? (i := 128) rfl)), (mm1 (List.mem_of_getElem? (i := 15) rfl)), (show Cond.static yJ6_bitCount_0f7a4 ∈ lw_tbl from (mm3 (List.mem_of_getElem? (i := 127) rfl))), rfl, by decide +kernel, by decide +kernel⟩
theorem mo_234 : mRecOk (15, yJ7_fill_d0a16, cJ7_fill_d0a16, 5, none, true, 2) := ⟨(mm4 (List.mem_of_getElem? (i := 145) rfl)), (mm1 (List.mem_of_getElem? (i := 16) rfl)), (show Cond.static yJ7_fill_d0a16 ∈ lw_tbl from (mm4 (List.mem_of_getElem? (i := 144) rfl))), rfl, by decide +kernel, by decide +kernel⟩
theorem mo_235 : mRecOk (15, yJ7_fill_53178, cJ7_fill_53178, 4, none, true, 2) := ⟨(mm3 (List.mem_of_getElem? (i := 157) rfl)), (mm1 (List.mem_of_getElem? (i := 16) rfl)), (show Cond.static yJ7_fill_53178 ∈ lw_tbl from (mm3 (List.mem_of_getElem? (i := 156) rfl))), rfl, by decide +kernel, by decide +kernel⟩
theorem mTab_ok_9 : ∀ r ∈ mTab_9, mRecOk r := List.forall_mem_cons.mpr ⟨mo_216, List.forall_mem_cons.mpr ⟨mo_217, List.forall_mem_cons.mpr ⟨mo_218, List.forall_mem_cons.mpr ⟨mo_219, List.forall_mem_cons.mpr ⟨mo_220, List.forall_mem_cons.mpr ⟨mo_221, List.forall_mem_cons.mpr ⟨mo_222, List.forall_mem_cons.mpr ⟨mo_223, List.forall_mem_cons.mpr ⟨mo_224, List.forall_mem_cons.mpr ⟨mo_225, List.forall_mem_cons.mpr ⟨mo_226, List.forall_mem_cons.mpr ⟨mo_227, List.forall_mem_cons.mpr ⟨mo_228, List.forall_mem_cons.mpr ⟨mo_229, List.forall_mem_cons.mpr ⟨mo_230, List.forall_mem_cons.mpr ⟨mo_231, List.forall_mem_cons.mpr ⟨mo_232, List.forall_mem_cons.mpr ⟨mo_233, List.forall_mem_cons.mpr ⟨mo_234, List.forall_mem_cons.mpr ⟨mo_235, fun _ h => absurd h List.not_mem_nil⟩⟩⟩⟩⟩⟩⟩⟩⟩⟩⟩⟩⟩⟩⟩⟩⟩⟩⟩⟩
theorem mTab_ok : ∀ r ∈ mTab, mRecOk r := by
  show ∀ r ∈ mTab_0 ++ (mTab_1 ++ (mTab_2 ++ (mTab_3 ++ (mTab_4 ++ (mTab_5 ++ (mTab_6 ++ (mTab_7 ++ (mTab_8 ++ (mTab_9))))))))), mRecOk r
  exact List.forall_mem_append.mpr ⟨mTab_ok_0, List.forall_mem_append.mpr ⟨mTab_ok_1, List.forall_mem_append.mpr ⟨mTab_ok_2, List.forall_mem_append.mpr ⟨mTab_ok_3, List.forall_mem_append.mpr ⟨mTab_ok_4, List.forall_mem_append.mpr ⟨mTab_ok_5, List.forall_mem_append.mpr ⟨mTab_ok_6, List.forall_mem_append.mpr ⟨mTab_ok_7, List.forall_mem_append.mpr ⟨mTab_ok_8, mTab_ok_9⟩⟩⟩⟩⟩⟩⟩⟩⟩
def mLook {β : Type} (l : List (Nat × β)) (i : Nat) : Option β := match l with
  | [] => none
  | q :: r => if q.1 = i then some q.2 else mLook r i
theorem mLook_mem {β : Type} {l : List (Nat × β)} {i : Nat} {v : β} (h : mLook l i = some v) : (i, v) ∈ l := by
  induction l with
  | nil => cases h
  | cons q r ih =>
    unfold mLook at h
    split at h
    · rename_i hq
      subst hq
      cases h
      exact List.mem_cons_self
    · exact List.mem_cons_of_mem _ (ih h)
def mCalT (o : Nat) : List (Nat × Nat) := match o with
  | 0 => [(18, 235), (33, 1), (41, 8), (45, 60), (48, 10), (51, 7), (37, 2)]
  | 1 => [(26, 5)]
  | 2 => [(9, 8)]
  | 3 => [(29, 15), (33, 18), (44, 17), (41, 16), (37, 19)]
  | 4 => [(34, 22), (42, 55), (38, 23)]
  | 6 => [(28, 28), (40, 32), (32, 29), (36, 7), (50, 33), (53, 10)]
  | 7 => [(23, 234)]
  | 8 => [(26, 47), (34, 48), (42, 49), (45, 51), (53, 54), (56, 50), (38, 53), (59, 55), (30, 52), (49, 56)]
  | 9 => [(22, 8), (26, 60), (29, 7), (33, 63)]
  | 10 => [(91, 26), (95, 27), (99, 110), (103, 39), (106, 38), (113, 114), (383, 42), (121, 6), (126, 58), (127, 59), (130, 115), (174, 25), (208, 57), (134, 116), (137, 117), (187, 29), (223, 60), (141, 4), (145, 118), (149, 44), (150, 45), (153, 46), (160, 20), (164, 111), (167, 120), (171, 119), (431, 21), (177, 112), (180, 124), (197, 31), (190, 123), (254, 122), (226, 10), (193, 121), (441, 7), (201, 125), (444, 33), (447, 34), (205, 126), (209, 128), (212, 129), (217, 130), (246, 233), (220, 131), (229, 30), (232, 0), (236, 3), (239, 133), (242, 132), (251, 232), (261, 134), (265, 35), (268, 36), (271, 135), (274, 136), (278, 127), (288, 9), (294, 28), (306, 61), (309, 62), (312, 24), (319, 32), (322, 63), (342, 12), (343, 13), (347, 11), (358, 40), (362, 41), (366, 113), (377, 37), (369, 43), (395, 14)]
  | 11 => [(107, 145), (111, 222), (93, 137), (121, 148), (124, 149), (134, 151), (104, 142), (100, 143), (137, 139), (192, 165), (185, 158), (161, 159), (167, 160), (170, 161), (173, 162), (176, 164), (157, 155), (182, 156), (164, 157), (188, 163), (214, 144), (217, 167), (208, 172), (204, 171), (198, 168), (201, 169), (227, 176), (234, 178), (220, 177), (223, 174), (211, 170), (237, 173), (240, 182), (245, 187), (248, 189), (252, 194), (257, 198), (260, 201), (265, 138), (312, 211), (294, 216), (290, 215), (300, 217), (306, 218), (309, 219), (317, 225), (320, 226), (328, 212), (331, 214)]
  | 12 => [(13, 64), (18, 65), (23, 66), (28, 67), (32, 68), (37, 69), (41, 70), (45, 71), (49, 72), (54, 73), (58, 74), (62, 75), (66, 76), (70, 77), (74, 78), (78, 79), (82, 80), (86, 81), (90, 82), (94, 83), (98, 84), (102, 85), (106, 86), (110, 87), (114, 88), (118, 89), (122, 90), (126, 91), (130, 92), (134, 93), (138, 94), (142, 95), (146, 96), (150, 97), (154, 98), (158, 99), (162, 100), (166, 101), (170, 102), (174, 103), (178, 104), (184, 105), (189, 106), (194, 107), (199, 108), (203, 109), (157, 140), (161, 141), (17, 146), (22, 147), (27, 150), (31, 152), (36, 153), (40, 154), (44, 166), (48, 175), (53, 179), (57, 180), (61, 181), (65, 183), (69, 184), (73, 185), (77, 186), (81, 188), (85, 190), (89, 191), (93, 192), (97, 193), (101, 195), (105, 196), (109, 197), (113, 199), (117, 200), (121, 202), (125, 203), (129, 204), (133, 205), (137, 206), (141, 207), (145, 208), (149, 209), (153, 210), (165, 213), (169, 220), (173, 221), (177, 223), (181, 224), (188, 227), (193, 228), (198, 229), (202, 230), (206, 231)]
  | _ => []
theorem ml_0_18 : ∃ r, mTab[235]? = some r ∧ Cond.methodLink (mOwn 0) 18 r.2.1 ∈ lw_tbl := ⟨(15, yJ7_fill_53178, cJ7_fill_53178, 4, none, true, 2), rfl, (mm3 (List.mem_of_getElem? (i := 155) rfl))⟩
theorem ml_0_33 : ∃ r, mTab[1]? = some r ∧ Cond.methodLink (mOwn 0) 33 r.2.1 ∈ lw_tbl := ⟨(0, yX0_typed, cX0_typed, 6, (some .int), true, 3), rfl, (mm3 (List.mem_of_getElem? (i := 158) rfl))⟩
theorem ml_0_41 : ∃ r, mTab[8]? = some r ∧ Cond.methodLink (mOwn 0) 41 r.2.1 ∈ lw_tbl := ⟨(2, yX2_part, cX2_part, 2, (some .int), true, 2), rfl, (mm3 (List.mem_of_getElem? (i := 161) rfl))⟩
theorem ml_0_45 : ∃ r, mTab[60]? = some r ∧ Cond.methodLink (mOwn 0) 45 r.2.1 ∈ lw_tbl := ⟨(9, yX9_hand, cX9_hand, 3, (some .int), false, 2), rfl, (mm3 (List.mem_of_getElem? (i := 162) rfl))⟩
theorem ml_0_48 : ∃ r, mTab[10]? = some r ∧ Cond.methodLink (mOwn 0) 48 r.2.1 ∈ lw_tbl := ⟨(2, yX2_nearer, cX2_nearer, 2, (some .int), true, 2), rfl, (mm3 (List.mem_of_getElem? (i := 163) rfl))⟩
theorem ml_0_51 : ∃ r, mTab[7]? = some r ∧ Cond.methodLink (mOwn 0) 51 r.2.1 ∈ lw_tbl := ⟨(2, yX2_code, cX2_code, 3, (some .int), true, 3), rfl, (mm3 (List.mem_of_getElem? (i := 164) rfl))⟩
theorem ml_0_37 : ∃ r, mTab[2]? = some r ∧ Cond.methodLink (mOwn 0) 37 r.2.1 ∈ lw_tbl := ⟨(0, yX0_wayLength, cX0_wayLength, 4, (some .int), false, 1), rfl, (mm3 (List.mem_of_getElem? (i := 165) rfl))⟩
theorem mCal_ok_0 : ∀ q ∈ mCalT 0, ∃ r, mTab[q.2]? = some r ∧ Cond.methodLink (mOwn 0) q.1 r.2.1 ∈ lw_tbl := List.forall_mem_cons.mpr ⟨ml_0_18, List.forall_mem_cons.mpr ⟨ml_0_33, List.forall_mem_cons.mpr ⟨ml_0_41, List.forall_mem_cons.mpr ⟨ml_0_45, List.forall_mem_cons.mpr ⟨ml_0_48, List.forall_mem_cons.mpr ⟨ml_0_51, List.forall_mem_cons.mpr ⟨ml_0_37, fun _ h => absurd h List.not_mem_nil⟩⟩⟩⟩⟩⟩⟩
theorem ml_1_26 : ∃ r, mTab[5]? = some r ∧ Cond.methodLink (mOwn 1) 26 r.2.1 ∈ lw_tbl := ⟨(1, yX1_dropOldest, cX1_dropOldest, 1, none, false, 0), rfl, (mm2 (List.mem_of_getElem? (i := 165) rfl))⟩
theorem mCal_ok_1 : ∀ q ∈ mCalT 1, ∃ r, mTab[q.2]? = some r ∧ Cond.methodLink (mOwn 1) q.1 r.2.1 ∈ lw_tbl := List.forall_mem_cons.mpr ⟨ml_1_26, fun _ h => absurd h List.not_mem_nil⟩
theorem ml_2_9 : ∃ r, mTab[8]? = some r ∧ Cond.methodLink (mOwn 2) 9 r.2.1 ∈ lw_tbl := ⟨(2, yX2_part, cX2_part, 2, (some .int), true, 2), rfl, (mm4 (List.mem_of_getElem? (i := 27) rfl))⟩
theorem mCal_ok_2 : ∀ q ∈ mCalT 2, ∃ r, mTab[q.2]? = some r ∧ Cond.methodLink (mOwn 2) q.1 r.2.1 ∈ lw_tbl := List.forall_mem_cons.mpr ⟨ml_2_9, fun _ h => absurd h List.not_mem_nil⟩
theorem ml_3_29 : ∃ r, mTab[15]? = some r ∧ Cond.methodLink (mOwn 3) 29 r.2.1 ∈ lw_tbl := ⟨(3, yX3_note, cX3_note, 2, none, false, 1), rfl, (mm4 (List.mem_of_getElem? (i := 106) rfl))⟩
theorem ml_3_33 : ∃ r, mTab[18]? = some r ∧ Cond.methodLink (mOwn 3) 33 r.2.1 ∈ lw_tbl := ⟨(3, yX3_runGhost, cX3_runGhost, 5, (some .int), false, 4), rfl, (mm4 (List.mem_of_getElem? (i := 110) rfl))⟩
theorem ml_3_44 : ∃ r, mTab[17]? = some r ∧ Cond.methodLink (mOwn 3) 44 r.2.1 ∈ lw_tbl := ⟨(3, yX3_own, cX3_own, 5, (some .int), false, 4), rfl, (mm4 (List.mem_of_getElem? (i := 114) rfl))⟩
theorem ml_3_41 : ∃ r, mTab[16]? = some r ∧ Cond.methodLink (mOwn 3) 41 r.2.1 ∈ lw_tbl := ⟨(3, yX3_perform, cX3_perform, 8, (some .int), false, 5), rfl, (mm4 (List.mem_of_getElem? (i := 118) rfl))⟩
theorem ml_3_37 : ∃ r, mTab[19]? = some r ∧ Cond.methodLink (mOwn 3) 37 r.2.1 ∈ lw_tbl := ⟨(3, yX3_runUnder, cX3_runUnder, 6, (some .int), false, 5), rfl, (mm4 (List.mem_of_getElem? (i := 119) rfl))⟩
theorem mCal_ok_3 : ∀ q ∈ mCalT 3, ∃ r, mTab[q.2]? = some r ∧ Cond.methodLink (mOwn 3) q.1 r.2.1 ∈ lw_tbl := List.forall_mem_cons.mpr ⟨ml_3_29, List.forall_mem_cons.mpr ⟨ml_3_33, List.forall_mem_cons.mpr ⟨ml_3_44, List.forall_mem_cons.mpr ⟨ml_3_41, List.forall_mem_cons.mpr ⟨ml_3_37, fun _ h => absurd h List.not_mem_nil⟩⟩⟩⟩⟩
theorem ml_4_34 : ∃ r, mTab[22]? = some r ∧ Cond.methodLink (mOwn 4) 34 r.2.1 ∈ lw_tbl := ⟨(4, yX4_operandsOf, cX4_operandsOf, 1, (some .int), true, 1), rfl, (mm3 (List.mem_of_getElem? (i := 25) rfl))⟩
theorem ml_4_42 : ∃ r, mTab[55]? = some r ∧ Cond.methodLink (mOwn 4) 42 r.2.1 ∈ lw_tbl := ⟨(8, yX8_isName, cX8_isName, 1, (some .boolean), true, 1), rfl, (mm3 (List.mem_of_getElem? (i := 28) rfl))⟩
theorem ml_4_38 : ∃ r, mTab[23]? = some r ∧ Cond.methodLink (mOwn 4) 38 r.2.1 ∈ lw_tbl := ⟨(4, yX4_valueOfStep, cX4_valueOfStep, 4, (some .int), false, 3), rfl, (mm3 (List.mem_of_getElem? (i := 29) rfl))⟩
theorem mCal_ok_4 : ∀ q ∈ mCalT 4, ∃ r, mTab[q.2]? = some r ∧ Cond.methodLink (mOwn 4) q.1 r.2.1 ∈ lw_tbl := List.forall_mem_cons.mpr ⟨ml_4_34, List.forall_mem_cons.mpr ⟨ml_4_42, List.forall_mem_cons.mpr ⟨ml_4_38, fun _ h => absurd h List.not_mem_nil⟩⟩⟩
theorem ml_6_28 : ∃ r, mTab[28]? = some r ∧ Cond.methodLink (mOwn 6) 28 r.2.1 ∈ lw_tbl := ⟨(6, yX6_setNew, cX6_setNew, 5, none, false, 4), rfl, (mm2 (List.mem_of_getElem? (i := 85) rfl))⟩
theorem ml_6_40 : ∃ r, mTab[32]? = some r ∧ Cond.methodLink (mOwn 6) 40 r.2.1 ∈ lw_tbl := ⟨(6, yX6_layBack, cX6_layBack, 2, none, false, 1), rfl, (mm3 (List.mem_of_getElem? (i := 55) rfl))⟩
theorem ml_6_32 : ∃ r, mTab[29]? = some r ∧ Cond.methodLink (mOwn 6) 32 r.2.1 ∈ lw_tbl := ⟨(6, yX6_pull, cX6_pull, 3, (some .int), false, 2), rfl, (mm3 (List.mem_of_getElem? (i := 149) rfl))⟩
theorem ml_6_36 : ∃ r, mTab[7]? = some r ∧ Cond.methodLink (mOwn 6) 36 r.2.1 ∈ lw_tbl := ⟨(2, yX2_code, cX2_code, 3, (some .int), true, 3), rfl, (mm3 (List.mem_of_getElem? (i := 150) rfl))⟩
theorem ml_6_50 : ∃ r, mTab[33]? = some r ∧ Cond.methodLink (mOwn 6) 50 r.2.1 ∈ lw_tbl := ⟨(6, yX6_markPulls, cX6_markPulls, 1, none, false, 0), rfl, (mm3 (List.mem_of_getElem? (i := 225) rfl))⟩
theorem ml_6_53 : ∃ r, mTab[10]? = some r ∧ Cond.methodLink (mOwn 6) 53 r.2.1 ∈ lw_tbl := ⟨(2, yX2_nearer, cX2_nearer, 2, (some .int), true, 2), rfl, (mm3 (List.mem_of_getElem? (i := 226) rfl))⟩
theorem mCal_ok_6 : ∀ q ∈ mCalT 6, ∃ r, mTab[q.2]? = some r ∧ Cond.methodLink (mOwn 6) q.1 r.2.1 ∈ lw_tbl := List.forall_mem_cons.mpr ⟨ml_6_28, List.forall_mem_cons.mpr ⟨ml_6_40, List.forall_mem_cons.mpr ⟨ml_6_32, List.forall_mem_cons.mpr ⟨ml_6_36, List.forall_mem_cons.mpr ⟨ml_6_50, List.forall_mem_cons.mpr ⟨ml_6_53, fun _ h => absurd h List.not_mem_nil⟩⟩⟩⟩⟩⟩
theorem ml_7_23 : ∃ r, mTab[234]? = some r ∧ Cond.methodLink (mOwn 7) 23 r.2.1 ∈ lw_tbl := ⟨(15, yJ7_fill_d0a16, cJ7_fill_d0a16, 5, none, true, 2), rfl, (mm4 (List.mem_of_getElem? (i := 143) rfl))⟩
theorem mCal_ok_7 : ∀ q ∈ mCalT 7, ∃ r, mTab[q.2]? = some r ∧ Cond.methodLink (mOwn 7) q.1 r.2.1 ∈ lw_tbl := List.forall_mem_cons.mpr ⟨ml_7_23, fun _ h => absurd h List.not_mem_nil⟩
theorem ml_8_26 : ∃ r, mTab[47]? = some r ∧ Cond.methodLink (mOwn 8) 26 r.2.1 ∈ lw_tbl := ⟨(8, yX8_readLine, cX8_readLine, 1, (some .boolean), false, 0), rfl, (mm2 (List.mem_of_getElem? (i := 200) rfl))⟩
theorem ml_8_34 : ∃ r, mTab[48]? = some r ∧ Cond.methodLink (mOwn 8) 34 r.2.1 ∈ lw_tbl := ⟨(8, yX8_readLevel, cX8_readLevel, 6, (some .boolean), false, 2), rfl, (mm2 (List.mem_of_getElem? (i := 204) rfl))⟩
theorem ml_8_42 : ∃ r, mTab[49]? = some r ∧ Cond.methodLink (mOwn 8) 42 r.2.1 ∈ lw_tbl := ⟨(8, yX8_readOperand, cX8_readOperand, 3, (some .boolean), false, 1), rfl, (mm2 (List.mem_of_getElem? (i := 208) rfl))⟩
theorem ml_8_45 : ∃ r, mTab[51]? = some r ∧ Cond.methodLink (mOwn 8) 45 r.2.1 ∈ lw_tbl := ⟨(8, yX8_next, cX8_next, 1, (some .int), false, 0), rfl, (mm2 (List.mem_of_getElem? (i := 212) rfl))⟩
theorem ml_8_53 : ∃ r, mTab[54]? = some r ∧ Cond.methodLink (mOwn 8) 53 r.2.1 ∈ lw_tbl := ⟨(8, yX8_isDigit, cX8_isDigit, 1, (some .boolean), true, 1), rfl, (mm2 (List.mem_of_getElem? (i := 216) rfl))⟩
theorem ml_8_56 : ∃ r, mTab[50]? = some r ∧ Cond.methodLink (mOwn 8) 56 r.2.1 ∈ lw_tbl := ⟨(8, yX8_readNumber, cX8_readNumber, 3, none, false, 0), rfl, (mm2 (List.mem_of_getElem? (i := 219) rfl))⟩
theorem ml_8_38 : ∃ r, mTab[53]? = some r ∧ Cond.methodLink (mOwn 8) 38 r.2.1 ∈ lw_tbl := ⟨(8, yX8_addStep, cX8_addStep, 2, none, false, 1), rfl, (mm2 (List.mem_of_getElem? (i := 223) rfl))⟩
theorem ml_8_59 : ∃ r, mTab[55]? = some r ∧ Cond.methodLink (mOwn 8) 59 r.2.1 ∈ lw_tbl := ⟨(8, yX8_isName, cX8_isName, 1, (some .boolean), true, 1), rfl, (mm2 (List.mem_of_getElem? (i := 227) rfl))⟩
theorem ml_8_30 : ∃ r, mTab[52]? = some r ∧ Cond.methodLink (mOwn 8) 30 r.2.1 ∈ lw_tbl := ⟨(8, yX8_takes, cX8_takes, 2, (some .boolean), false, 1), rfl, (mm2 (List.mem_of_getElem? (i := 230) rfl))⟩
theorem ml_8_49 : ∃ r, mTab[56]? = some r ∧ Cond.methodLink (mOwn 8) 49 r.2.1 ∈ lw_tbl := ⟨(8, yX8_levelOf, cX8_levelOf, 1, (some .int), true, 1), rfl, (mm2 (List.mem_of_getElem? (i := 234) rfl))⟩
theorem mCal_ok_8 : ∀ q ∈ mCalT 8, ∃ r, mTab[q.2]? = some r ∧ Cond.methodLink (mOwn 8) q.1 r.2.1 ∈ lw_tbl := List.forall_mem_cons.mpr ⟨ml_8_26, List.forall_mem_cons.mpr ⟨ml_8_34, List.forall_mem_cons.mpr ⟨ml_8_42, List.forall_mem_cons.mpr ⟨ml_8_45, List.forall_mem_cons.mpr ⟨ml_8_53, List.forall_mem_cons.mpr ⟨ml_8_56, List.forall_mem_cons.mpr ⟨ml_8_38, List.forall_mem_cons.mpr ⟨ml_8_59, List.forall_mem_cons.mpr ⟨ml_8_30, List.forall_mem_cons.mpr ⟨ml_8_49, fun _ h => absurd h List.not_mem_nil⟩⟩⟩⟩⟩⟩⟩⟩⟩⟩
theorem ml_9_22 : ∃ r, mTab[8]? = some r ∧ Cond.methodLink (mOwn 9) 22 r.2.1 ∈ lw_tbl := ⟨(2, yX2_part, cX2_part, 2, (some .int), true, 2), rfl, (mm2 (List.mem_of_getElem? (i := 127) rfl))⟩
theorem ml_9_26 : ∃ r, mTab[60]? = some r ∧ Cond.methodLink (mOwn 9) 26 r.2.1 ∈ lw_tbl := ⟨(9, yX9_hand, cX9_hand, 3, (some .int), false, 2), rfl, (mm4 (List.mem_of_getElem? (i := 41) rfl))⟩
theorem ml_9_29 : ∃ r, mTab[7]? = some r ∧ Cond.methodLink (mOwn 9) 29 r.2.1 ∈ lw_tbl := ⟨(2, yX2_code, cX2_code, 3, (some .int), true, 3), rfl, (mm4 (List.mem_of_getElem? (i := 42) rfl))⟩
theorem ml_9_33 : ∃ r, mTab[63]? = some r ∧ Cond.methodLink (mOwn 9) 33 r.2.1 ∈ lw_tbl := ⟨(9, yX9_layBack, cX9_layBack, 2, none, false, 1), rfl, (mm4 (List.mem_of_getElem? (i := 55) rfl))⟩
theorem mCal_ok_9 : ∀ q ∈ mCalT 9, ∃ r, mTab[q.2]? = some r ∧ Cond.methodLink (mOwn 9) q.1 r.2.1 ∈ lw_tbl := List.forall_mem_cons.mpr ⟨ml_9_22, List.forall_mem_cons.mpr ⟨ml_9_26, List.forall_mem_cons.mpr ⟨ml_9_29, List.forall_mem_cons.mpr ⟨ml_9_33, fun _ h => absurd h List.not_mem_nil⟩⟩⟩⟩
theorem ml_10_91 : ∃ r, mTab[26]? = some r ∧ Cond.methodLink (mOwn 10) 91 r.2.1 ∈ lw_tbl := ⟨(6, yX6_isFull, cX6_isFull, 1, (some .boolean), false, 0), rfl, (mm2 (List.mem_of_getElem? (i := 77) rfl))⟩
theorem ml_10_95 : ∃ r, mTab[27]? = some r ∧ Cond.methodLink (mOwn 10) 95 r.2.1 ∈ lw_tbl := ⟨(6, yX6_join, cX6_join, 4, (some .int), false, 3), rfl, (mm2 (List.mem_of_getElem? (i := 81) rfl))⟩
theorem ml_10_99 : ∃ r, mTab[110]? = some r ∧ Cond.methodLink (mOwn 10) 99 r.2.1 ∈ lw_tbl := ⟨(10, yX10_isShelf, cX10_isShelf, 1, (some .boolean), true, 1), rfl, (mm2 (List.mem_of_getElem? (i := 93) rfl))⟩
theorem ml_10_103 : ∃ r, mTab[39]? = some r ∧ Cond.methodLink (mOwn 10) 103 r.2.1 ∈ lw_tbl := ⟨(7, yX7_isEmpty, cX7_isEmpty, 1, (some .boolean), false, 0), rfl, (mm2 (List.mem_of_getElem? (i := 96) rfl))⟩
theorem ml_10_106 : ∃ r, mTab[38]? = some r ∧ Cond.methodLink (mOwn 10) 106 r.2.1 ∈ lw_tbl := ⟨(7, yX7_isRowOf, cX7_isRowOf, 2, (some .boolean), false, 1), rfl, (mm2 (List.mem_of_getElem? (i := 100) rfl))⟩
theorem ml_10_113 : ∃ r, mTab[114]? = some r ∧ Cond.methodLink (mOwn 10) 113 r.2.1 ∈ lw_tbl := ⟨(10, yX10_pullsStandAt, cX10_pullsStandAt, 3, (some .boolean), true, 2), rfl, (mm2 (List.mem_of_getElem? (i := 104) rfl))⟩
theorem ml_10_383 : ∃ r, mTab[42]? = some r ∧ Cond.methodLink (mOwn 10) 383 r.2.1 ∈ lw_tbl := ⟨(7, yX7_hasSpan, cX7_hasSpan, 3, (some .boolean), false, 2), rfl, (mm2 (List.mem_of_getElem? (i := 107) rfl))⟩
theorem ml_10_121 : ∃ r, mTab[6]? = some r ∧ Cond.methodLink (mOwn 10) 121 r.2.1 ∈ lw_tbl := ⟨(2, yX2_isCode, cX2_isCode, 1, (some .boolean), true, 1), rfl, (mm2 (List.mem_of_getElem? (i := 116) rfl))⟩
theorem ml_10_126 : ∃ r, mTab[58]? = some r ∧ Cond.methodLink (mOwn 10) 126 r.2.1 ∈ lw_tbl := ⟨(9, yX9_isFull, cX9_isFull, 1, (some .boolean), false, 0), rfl, (mm2 (List.mem_of_getElem? (i := 119) rfl))⟩
theorem ml_10_127 : ∃ r, mTab[59]? = some r ∧ Cond.methodLink (mOwn 10) 127 r.2.1 ∈ lw_tbl := ⟨(9, yX9_join, cX9_join, 3, (some .int), false, 1), rfl, (mm2 (List.mem_of_getElem? (i := 123) rfl))⟩
theorem ml_10_130 : ∃ r, mTab[115]? = some r ∧ Cond.methodLink (mOwn 10) 130 r.2.1 ∈ lw_tbl := ⟨(10, yX10_isNumberOf, cX10_isNumberOf, 3, (some .boolean), false, 2), rfl, (mm2 (List.mem_of_getElem? (i := 134) rfl))⟩
theorem ml_10_174 : ∃ r, mTab[25]? = some r ∧ Cond.methodLink (mOwn 10) 174 r.2.1 ∈ lw_tbl := ⟨(6, yX6_has, cX6_has, 2, (some .boolean), false, 1), rfl, (mm2 (List.mem_of_getElem? (i := 138) rfl))⟩
theorem ml_10_208 : ∃ r, mTab[57]? = some r ∧ Cond.methodLink (mOwn 10) 208 r.2.1 ∈ lw_tbl := ⟨(9, yX9_has, cX9_has, 2, (some .boolean), false, 1), rfl, (mm2 (List.mem_of_getElem? (i := 142) rfl))⟩
theorem ml_10_134 : ∃ r, mTab[116]? = some r ∧ Cond.methodLink (mOwn 10) 134 r.2.1 ∈ lw_tbl := ⟨(10, yX10_topOf, cX10_topOf, 1, (some .int), true, 1), rfl, (mm2 (List.mem_of_getElem? (i := 146) rfl))⟩
theorem ml_10_137 : ∃ r, mTab[117]? = some r ∧ Cond.methodLink (mOwn 10) 137 r.2.1 ∈ lw_tbl := ⟨(10, yX10_valueOf, cX10_valueOf, 3, (some .int), false, 2), rfl, (mm2 (List.mem_of_getElem? (i := 149) rfl))⟩
theorem ml_10_187 : ∃ r, mTab[29]? = some r ∧ Cond.methodLink (mOwn 10) 187 r.2.1 ∈ lw_tbl := ⟨(6, yX6_pull, cX6_pull, 3, (some .int), false, 2), rfl, (mm2 (List.mem_of_getElem? (i := 153) rfl))⟩
theorem ml_10_223 : ∃ r, mTab[60]? = some r ∧ Cond.methodLink (mOwn 10) 223 r.2.1 ∈ lw_tbl := ⟨(9, yX9_hand, cX9_hand, 3, (some .int), false, 2), rfl, (mm2 (List.mem_of_getElem? (i := 157) rfl))⟩
theorem ml_10_141 : ∃ r, mTab[4]? = some r ∧ Cond.methodLink (mOwn 10) 141 r.2.1 ∈ lw_tbl := ⟨(1, yX1_add, cX1_add, 5, none, false, 4), rfl, (mm2 (List.mem_of_getElem? (i := 161) rfl))⟩
theorem ml_10_145 : ∃ r, mTab[118]? = some r ∧ Cond.methodLink (mOwn 10) 145 r.2.1 ∈ lw_tbl := ⟨(10, yX10_setValue, cX10_setValue, 4, none, false, 3), rfl, (mm2 (List.mem_of_getElem? (i := 172) rfl))⟩
theorem ml_10_149 : ∃ r, mTab[44]? = some r ∧ Cond.methodLink (mOwn 10) 149 r.2.1 ∈ lw_tbl := ⟨(8, yX8_isFull, cX8_isFull, 1, (some .boolean), false, 0), rfl, (mm2 (List.mem_of_getElem? (i := 184) rfl))⟩
theorem ml_10_150 : ∃ r, mTab[45]? = some r ∧ Cond.methodLink (mOwn 10) 150 r.2.1 ∈ lw_tbl := ⟨(8, yX8_addByte, cX8_addByte, 2, (some .int), false, 1), rfl, (mm2 (List.mem_of_getElem? (i := 188) rfl))⟩
theorem ml_10_153 : ∃ r, mTab[46]? = some r ∧ Cond.methodLink (mOwn 10) 153 r.2.1 ∈ lw_tbl := ⟨(8, yX8_read, cX8_read, 2, (some .boolean), false, 0), rfl, (mm2 (List.mem_of_getElem? (i := 196) rfl))⟩
theorem ml_10_160 : ∃ r, mTab[20]? = some r ∧ Cond.methodLink (mOwn 10) 160 r.2.1 ∈ lw_tbl := ⟨(4, yX4_become, cX4_become, 2, none, false, 1), rfl, (mm2 (List.mem_of_getElem? (i := 237) rfl))⟩
theorem ml_10_164 : ∃ r, mTab[111]? = some r ∧ Cond.methodLink (mOwn 10) 164 r.2.1 ∈ lw_tbl := ⟨(10, yX10_isPair, cX10_isPair, 2, (some .boolean), false, 1), rfl, (mm3 (List.mem_of_getElem? (i := 6) rfl))⟩
theorem ml_10_167 : ∃ r, mTab[120]? = some r ∧ Cond.methodLink (mOwn 10) 167 r.2.1 ∈ lw_tbl := ⟨(10, yX10_shown, cX10_shown, 6, (some .int), false, 4), rfl, (mm3 (List.mem_of_getElem? (i := 10) rfl))⟩
theorem ml_10_171 : ∃ r, mTab[119]? = some r ∧ Cond.methodLink (mOwn 10) 171 r.2.1 ∈ lw_tbl := ⟨(10, yX10_gripOf, cX10_gripOf, 6, (some .int), false, 4), rfl, (mm3 (List.mem_of_getElem? (i := 14) rfl))⟩
theorem ml_10_431 : ∃ r, mTab[21]? = some r ∧ Cond.methodLink (mOwn 10) 431 r.2.1 ∈ lw_tbl := ⟨(4, yX4_value, cX4_value, 7, (some .int), false, 0), rfl, (mm3 (List.mem_of_getElem? (i := 21) rfl))⟩
theorem ml_10_177 : ∃ r, mTab[112]? = some r ∧ Cond.methodLink (mOwn 10) 177 r.2.1 ∈ lw_tbl := ⟨(10, yX10_rowRefusal, cX10_rowRefusal, 3, (some .int), false, 2), rfl, (mm3 (List.mem_of_getElem? (i := 43) rfl))⟩
theorem ml_10_180 : ∃ r, mTab[124]? = some r ∧ Cond.methodLink (mOwn 10) 180 r.2.1 ∈ lw_tbl := ⟨(10, yX10_thinkDay, cX10_thinkDay, 4, (some .int), false, 2), rfl, (mm3 (List.mem_of_getElem? (i := 47) rfl))⟩
theorem ml_10_197 : ∃ r, mTab[31]? = some r ∧ Cond.methodLink (mOwn 10) 197 r.2.1 ∈ lw_tbl := ⟨(6, yX6_copy, cX6_copy, 2, none, false, 1), rfl, (mm3 (List.mem_of_getElem? (i := 51) rfl))⟩
theorem ml_10_190 : ∃ r, mTab[123]? = some r ∧ Cond.methodLink (mOwn 10) 190 r.2.1 ∈ lw_tbl := ⟨(10, yX10_dayHas, cX10_dayHas, 3, (some .boolean), false, 2), rfl, (mm3 (List.mem_of_getElem? (i := 60) rfl))⟩
theorem ml_10_254 : ∃ r, mTab[122]? = some r ∧ Cond.methodLink (mOwn 10) 254 r.2.1 ∈ lw_tbl := ⟨(10, yX10_pass, cX10_pass, 6, none, false, 3), rfl, (mm3 (List.mem_of_getElem? (i := 64) rfl))⟩
theorem ml_10_226 : ∃ r, mTab[10]? = some r ∧ Cond.methodLink (mOwn 10) 226 r.2.1 ∈ lw_tbl := ⟨(2, yX2_nearer, cX2_nearer, 2, (some .int), true, 2), rfl, (mm3 (List.mem_of_getElem? (i := 68) rfl))⟩
theorem ml_10_193 : ∃ r, mTab[121]? = some r ∧ Cond.methodLink (mOwn 10) 193 r.2.1 ∈ lw_tbl := ⟨(10, yX10_shownCode, cX10_shownCode, 4, (some .int), false, 3), rfl, (mm3 (List.mem_of_getElem? (i := 75) rfl))⟩
theorem ml_10_441 : ∃ r, mTab[7]? = some r ∧ Cond.methodLink (mOwn 10) 441 r.2.1 ∈ lw_tbl := ⟨(2, yX2_code, cX2_code, 3, (some .int), true, 3), rfl, (mm3 (List.mem_of_getElem? (i := 79) rfl))⟩
theorem ml_10_201 : ∃ r, mTab[125]? = some r ∧ Cond.methodLink (mOwn 10) 201 r.2.1 ∈ lw_tbl := ⟨(10, yX10_playRound, cX10_playRound, 3, (some .boolean), false, 1), rfl, (mm3 (List.mem_of_getElem? (i := 86) rfl))⟩
theorem ml_10_444 : ∃ r, mTab[33]? = some r ∧ Cond.methodLink (mOwn 10) 444 r.2.1 ∈ lw_tbl := ⟨(6, yX6_markPulls, cX6_markPulls, 1, none, false, 0), rfl, (mm3 (List.mem_of_getElem? (i := 90) rfl))⟩
theorem ml_10_447 : ∃ r, mTab[34]? = some r ∧ Cond.methodLink (mOwn 10) 447 r.2.1 ∈ lw_tbl := ⟨(6, yX6_haveMoved, cX6_haveMoved, 2, (some .boolean), false, 0), rfl, (mm3 (List.mem_of_getElem? (i := 94) rfl))⟩
theorem ml_10_205 : ∃ r, mTab[126]? = some r ∧ Cond.methodLink (mOwn 10) 205 r.2.1 ∈ lw_tbl := ⟨(10, yX10_apart, cX10_apart, 6, (some .int), false, 3), rfl, (mm3 (List.mem_of_getElem? (i := 102) rfl))⟩
theorem ml_10_209 : ∃ r, mTab[128]? = some r ∧ Cond.methodLink (mOwn 10) 209 r.2.1 ∈ lw_tbl := ⟨(10, yX10_nearestMachine, cX10_nearestMachine, 4, (some .int), false, 1), rfl, (mm3 (List.mem_of_getElem? (i := 110) rfl))⟩
theorem ml_10_212 : ∃ r, mTab[129]? = some r ∧ Cond.methodLink (mOwn 10) 212 r.2.1 ∈ lw_tbl := ⟨(10, yX10_nearestWriter, cX10_nearestWriter, 4, (some .int), false, 1), rfl, (mm3 (List.mem_of_getElem? (i := 114) rfl))⟩
theorem ml_10_217 : ∃ r, mTab[130]? = some r ∧ Cond.methodLink (mOwn 10) 217 r.2.1 ∈ lw_tbl := ⟨(10, yX10_fillGivenRest, cX10_fillGivenRest, 4, none, false, 0), rfl, (mm3 (List.mem_of_getElem? (i := 122) rfl))⟩
theorem ml_10_246 : ∃ r, mTab[233]? = some r ∧ Cond.methodLink (mOwn 10) 246 r.2.1 ∈ lw_tbl := ⟨(13, yJ6_bitCount_0f7a4, cJ6_bitCount_0f7a4, 1, (some .int), true, 1), rfl, (mm3 (List.mem_of_getElem? (i := 126) rfl))⟩
theorem ml_10_220 : ∃ r, mTab[131]? = some r ∧ Cond.methodLink (mOwn 10) 220 r.2.1 ∈ lw_tbl := ⟨(10, yX10_givenTo, cX10_givenTo, 7, (some .int), false, 2), rfl, (mm3 (List.mem_of_getElem? (i := 132) rfl))⟩
theorem ml_10_229 : ∃ r, mTab[30]? = some r ∧ Cond.methodLink (mOwn 10) 229 r.2.1 ∈ lw_tbl := ⟨(6, yX6_pullCode, cX6_pullCode, 2, (some .int), false, 1), rfl, (mm3 (List.mem_of_getElem? (i := 145) rfl))⟩
theorem ml_10_232 : ∃ r, mTab[0]? = some r ∧ Cond.methodLink (mOwn 10) 232 r.2.1 ∈ lw_tbl := ⟨(0, yX0_fewest, cX0_fewest, 8, (some .int), false, 3), rfl, (mm3 (List.mem_of_getElem? (i := 151) rfl))⟩
theorem ml_10_236 : ∃ r, mTab[3]? = some r ∧ Cond.methodLink (mOwn 10) 236 r.2.1 ∈ lw_tbl := ⟨(0, yX0_writerOfStep, cX0_writerOfStep, 5, (some .int), false, 2), rfl, (mm3 (List.mem_of_getElem? (i := 169) rfl))⟩
theorem ml_10_239 : ∃ r, mTab[133]? = some r ∧ Cond.methodLink (mOwn 10) 239 r.2.1 ∈ lw_tbl := ⟨(10, yX10_writersFor, cX10_writersFor, 5, (some .int), false, 2), rfl, (mm3 (List.mem_of_getElem? (i := 177) rfl))⟩
theorem ml_10_242 : ∃ r, mTab[132]? = some r ∧ Cond.methodLink (mOwn 10) 242 r.2.1 ∈ lw_tbl := ⟨(10, yX10_fits, cX10_fits, 6, (some .boolean), false, 4), rfl, (mm3 (List.mem_of_getElem? (i := 181) rfl))⟩
theorem ml_10_251 : ∃ r, mTab[232]? = some r ∧ Cond.methodLink (mOwn 10) 251 r.2.1 ∈ lw_tbl := ⟨(13, yJ6_numberOfTrailingZeros_0f7a4, cJ6_numberOfTrailingZeros_0f7a4, 2, (some .int), true, 1), rfl, (mm3 (List.mem_of_getElem? (i := 193) rfl))⟩
theorem ml_10_261 : ∃ r, mTab[134]? = some r ∧ Cond.methodLink (mOwn 10) 261 r.2.1 ∈ lw_tbl := ⟨(10, yX10_firstWrong, cX10_firstWrong, 8, (some .int), false, 4), rfl, (mm3 (List.mem_of_getElem? (i := 205) rfl))⟩
theorem ml_10_265 : ∃ r, mTab[35]? = some r ∧ Cond.methodLink (mOwn 10) 265 r.2.1 ∈ lw_tbl := ⟨(6, yX6_passNight, cX6_passNight, 4, none, false, 0), rfl, (mm3 (List.mem_of_getElem? (i := 221) rfl))⟩
theorem ml_10_268 : ∃ r, mTab[36]? = some r ∧ Cond.methodLink (mOwn 10) 268 r.2.1 ∈ lw_tbl := ⟨(6, yX6_areAllAlike, cX6_areAllAlike, 2, (some .boolean), false, 0), rfl, (mm3 (List.mem_of_getElem? (i := 231) rfl))⟩
theorem ml_10_271 : ∃ r, mTab[135]? = some r ∧ Cond.methodLink (mOwn 10) 271 r.2.1 ∈ lw_tbl := ⟨(10, yX10_pence, cX10_pence, 4, (some .int), false, 1), rfl, (mm3 (List.mem_of_getElem? (i := 239) rfl))⟩
theorem ml_10_274 : ∃ r, mTab[136]? = some r ∧ Cond.methodLink (mOwn 10) 274 r.2.1 ∈ lw_tbl := ⟨(10, yX10_penceOf, cX10_penceOf, 4, (some .int), false, 1), rfl, (mm4 (List.mem_of_getElem? (i := 7) rfl))⟩
theorem ml_10_278 : ∃ r, mTab[127]? = some r ∧ Cond.methodLink (mOwn 10) 278 r.2.1 ∈ lw_tbl := ⟨(10, yX10_allApart, cX10_allApart, 5, (some .int), false, 1), rfl, (mm4 (List.mem_of_getElem? (i := 16) rfl))⟩
theorem ml_10_288 : ∃ r, mTab[9]? = some r ∧ Cond.methodLink (mOwn 10) 288 r.2.1 ∈ lw_tbl := ⟨(2, yX2_sum, cX2_sum, 1, (some .int), true, 1), rfl, (mm4 (List.mem_of_getElem? (i := 24) rfl))⟩
theorem ml_10_294 : ∃ r, mTab[28]? = some r ∧ Cond.methodLink (mOwn 10) 294 r.2.1 ∈ lw_tbl := ⟨(6, yX6_setNew, cX6_setNew, 5, none, false, 4), rfl, (mm4 (List.mem_of_getElem? (i := 32) rfl))⟩
theorem ml_10_306 : ∃ r, mTab[61]? = some r ∧ Cond.methodLink (mOwn 10) 306 r.2.1 ∈ lw_tbl := ⟨(9, yX9_handCode, cX9_handCode, 2, (some .int), false, 1), rfl, (mm4 (List.mem_of_getElem? (i := 37) rfl))⟩
theorem ml_10_309 : ∃ r, mTab[62]? = some r ∧ Cond.methodLink (mOwn 10) 309 r.2.1 ∈ lw_tbl := ⟨(9, yX9_copy, cX9_copy, 2, none, false, 1), rfl, (mm4 (List.mem_of_getElem? (i := 51) rfl))⟩
theorem ml_10_312 : ∃ r, mTab[24]? = some r ∧ Cond.methodLink (mOwn 10) 312 r.2.1 ∈ lw_tbl := ⟨(5, yX5_copy, cX5_copy, 2, none, false, 1), rfl, (mm4 (List.mem_of_getElem? (i := 60) rfl))⟩
theorem ml_10_319 : ∃ r, mTab[32]? = some r ∧ Cond.methodLink (mOwn 10) 319 r.2.1 ∈ lw_tbl := ⟨(6, yX6_layBack, cX6_layBack, 2, none, false, 1), rfl, (mm4 (List.mem_of_getElem? (i := 68) rfl))⟩
theorem ml_10_322 : ∃ r, mTab[63]? = some r ∧ Cond.methodLink (mOwn 10) 322 r.2.1 ∈ lw_tbl := ⟨(9, yX9_layBack, cX9_layBack, 2, none, false, 1), rfl, (mm4 (List.mem_of_getElem? (i := 69) rfl))⟩
theorem ml_10_342 : ∃ r, mTab[12]? = some r ∧ Cond.methodLink (mOwn 10) 342 r.2.1 ∈ lw_tbl := ⟨(3, yX3_isFull, cX3_isFull, 1, (some .boolean), false, 0), rfl, (mm4 (List.mem_of_getElem? (i := 82) rfl))⟩
theorem ml_10_343 : ∃ r, mTab[13]? = some r ∧ Cond.methodLink (mOwn 10) 343 r.2.1 ∈ lw_tbl := ⟨(3, yX3_join, cX3_join, 2, (some .int), false, 1), rfl, (mm4 (List.mem_of_getElem? (i := 86) rfl))⟩
theorem ml_10_347 : ∃ r, mTab[11]? = some r ∧ Cond.methodLink (mOwn 10) 347 r.2.1 ∈ lw_tbl := ⟨(3, yX3_has, cX3_has, 2, (some .boolean), false, 1), rfl, (mm4 (List.mem_of_getElem? (i := 94) rfl))⟩
theorem ml_10_358 : ∃ r, mTab[40]? = some r ∧ Cond.methodLink (mOwn 10) 358 r.2.1 ∈ lw_tbl := ⟨(7, yX7_holdGhost, cX7_holdGhost, 2, none, false, 1), rfl, (mm4 (List.mem_of_getElem? (i := 131) rfl))⟩
theorem ml_10_362 : ∃ r, mTab[41]? = some r ∧ Cond.methodLink (mOwn 10) 362 r.2.1 ∈ lw_tbl := ⟨(7, yX7_holdRow, cX7_holdRow, 3, none, false, 2), rfl, (mm4 (List.mem_of_getElem? (i := 139) rfl))⟩
theorem ml_10_366 : ∃ r, mTab[113]? = some r ∧ Cond.methodLink (mOwn 10) 366 r.2.1 ∈ lw_tbl := ⟨(10, yX10_cellRefusal, cX10_cellRefusal, 3, (some .int), false, 2), rfl, (mm4 (List.mem_of_getElem? (i := 150) rfl))⟩
theorem ml_10_377 : ∃ r, mTab[37]? = some r ∧ Cond.methodLink (mOwn 10) 377 r.2.1 ∈ lw_tbl := ⟨(7, yX7_isRow, cX7_isRow, 1, (some .boolean), false, 0), rfl, (mm4 (List.mem_of_getElem? (i := 154) rfl))⟩
theorem ml_10_369 : ∃ r, mTab[43]? = some r ∧ Cond.methodLink (mOwn 10) 369 r.2.1 ∈ lw_tbl := ⟨(7, yX7_lowest, cX7_lowest, 3, (some .long), false, 1), rfl, (mm4 (List.mem_of_getElem? (i := 158) rfl))⟩
theorem ml_10_395 : ∃ r, mTab[14]? = some r ∧ Cond.methodLink (mOwn 10) 395 r.2.1 ∈ lw_tbl := ⟨(3, yX3_isUnder, cX3_isUnder, 4, (some .boolean), true, 2), rfl, (mm4 (List.mem_of_getElem? (i := 176) rfl))⟩
theorem mCal_ok_10 : ∀ q ∈ mCalT 10, ∃ r, mTab[q.2]? = some r ∧ Cond.methodLink (mOwn 10) q.1 r.2.1 ∈ lw_tbl := List.forall_mem_cons.mpr ⟨ml_10_91, List.forall_mem_cons.mpr ⟨ml_10_95, List.forall_mem_cons.mpr ⟨ml_10_99, List.forall_mem_cons.mpr ⟨ml_10_103, List.forall_mem_cons.mpr ⟨ml_10_106, List.forall_mem_cons.mpr ⟨ml_10_113, List.forall_mem_cons.mpr ⟨ml_10_383, List.forall_mem_cons.mpr ⟨ml_10_121, List.forall_mem_cons.mpr ⟨ml_10_126, List.forall_mem_cons.mpr ⟨ml_10_127, List.forall_mem_cons.mpr ⟨ml_10_130, List.forall_mem_cons.mpr ⟨ml_10_174, List.forall_mem_cons.mpr ⟨ml_10_208, List.forall_mem_cons.mpr ⟨ml_10_134, List.forall_mem_cons.mpr ⟨ml_10_137, List.forall_mem_cons.mpr ⟨ml_10_187, List.forall_mem_cons.mpr ⟨ml_10_223, List.forall_mem_cons.mpr ⟨ml_10_141, List.forall_mem_cons.mpr ⟨ml_10_145, List.forall_mem_cons.mpr ⟨ml_10_149, List.forall_mem_cons.mpr ⟨ml_10_150, List.forall_mem_cons.mpr ⟨ml_10_153, List.forall_mem_cons.mpr ⟨ml_10_160, List.forall_mem_cons.mpr ⟨ml_10_164, List.forall_mem_cons.mpr ⟨ml_10_167, List.forall_mem_cons.mpr ⟨ml_10_171, List.forall_mem_cons.mpr ⟨ml_10_431, List.forall_mem_cons.mpr ⟨ml_10_177, List.forall_mem_cons.mpr ⟨ml_10_180, List.forall_mem_cons.mpr ⟨ml_10_197, List.forall_mem_cons.mpr ⟨ml_10_190, List.forall_mem_cons.mpr ⟨ml_10_254, List.forall_mem_cons.mpr ⟨ml_10_226, List.forall_mem_cons.mpr ⟨ml_10_193, List.forall_mem_cons.mpr ⟨ml_10_441, List.forall_mem_cons.mpr ⟨ml_10_201, List.forall_mem_cons.mpr ⟨ml_10_444, List.forall_mem_cons.mpr ⟨ml_10_447, List.forall_mem_cons.mpr ⟨ml_10_205, List.forall_mem_cons.mpr ⟨ml_10_209, List.forall_mem_cons.mpr ⟨ml_10_212, List.forall_mem_cons.mpr ⟨ml_10_217, List.forall_mem_cons.mpr ⟨ml_10_246, List.forall_mem_cons.mpr ⟨ml_10_220, List.forall_mem_cons.mpr ⟨ml_10_229, List.forall_mem_cons.mpr ⟨ml_10_232, List.forall_mem_cons.mpr ⟨ml_10_236, List.forall_mem_cons.mpr ⟨ml_10_239, List.forall_mem_cons.mpr ⟨ml_10_242, List.forall_mem_cons.mpr ⟨ml_10_251, List.forall_mem_cons.mpr ⟨ml_10_261, List.forall_mem_cons.mpr ⟨ml_10_265, List.forall_mem_cons.mpr ⟨ml_10_268, List.forall_mem_cons.mpr ⟨ml_10_271, List.forall_mem_cons.mpr ⟨ml_10_274, List.forall_mem_cons.mpr ⟨ml_10_278, List.forall_mem_cons.mpr ⟨ml_10_288, List.forall_mem_cons.mpr ⟨ml_10_294, List.forall_mem_cons.mpr ⟨ml_10_306, List.forall_mem_cons.mpr ⟨ml_10_309, List.forall_mem_cons.mpr ⟨ml_10_312, List.forall_mem_cons.mpr ⟨ml_10_319, List.forall_mem_cons.mpr ⟨ml_10_322, List.forall_mem_cons.mpr ⟨ml_10_342, List.forall_mem_cons.mpr ⟨ml_10_343, List.forall_mem_cons.mpr ⟨ml_10_347, List.forall_mem_cons.mpr ⟨ml_10_358, List.forall_mem_cons.mpr ⟨ml_10_362, List.forall_mem_cons.mpr ⟨ml_10_366, List.forall_mem_cons.mpr ⟨ml_10_377, List.forall_mem_cons.mpr ⟨ml_10_369, List.forall_mem_cons.mpr ⟨ml_10_395, fun _ h => absurd h List.not_mem_nil⟩⟩⟩⟩⟩⟩⟩⟩⟩⟩⟩⟩⟩⟩⟩⟩⟩⟩⟩⟩⟩⟩⟩⟩⟩⟩⟩⟩⟩⟩⟩⟩⟩⟩⟩⟩⟩⟩⟩⟩⟩⟩⟩⟩⟩⟩⟩⟩⟩⟩⟩⟩⟩⟩⟩⟩⟩⟩⟩⟩⟩⟩⟩⟩⟩⟩⟩⟩⟩⟩⟩⟩
theorem ml_11_107 : ∃ r, mTab[145]? = some r ∧ Cond.methodLink (mOwn 11) 107 r.2.1 ∈ lw_tbl := ⟨(11, yX11_addsMachine, cX11_addsMachine, 4, none, false, 3), rfl, (mm5 (List.mem_of_getElem? (i := 91) rfl))⟩
theorem ml_11_111 : ∃ r, mTab[222]? = some r ∧ Cond.methodLink (mOwn 11) 111 r.2.1 ∈ lw_tbl := ⟨(11, yX11_isShelf, cX11_isShelf, 1, (some .boolean), true, 1), rfl, (mm5 (List.mem_of_getElem? (i := 99) rfl))⟩
theorem ml_11_93 : ∃ r, mTab[137]? = some r ∧ Cond.methodLink (mOwn 11) 93 r.2.1 ∈ lw_tbl := ⟨(11, yX11_within, cX11_within, 6, (some .boolean), true, 3), rfl, (mm5 (List.mem_of_getElem? (i := 103) rfl))⟩
theorem ml_11_121 : ∃ r, mTab[148]? = some r ∧ Cond.methodLink (mOwn 11) 121 r.2.1 ∈ lw_tbl := ⟨(11, yX11_isCode, cX11_isCode, 2, (some .boolean), true, 1), rfl, (mm5 (List.mem_of_getElem? (i := 112) rfl))⟩
theorem ml_11_124 : ∃ r, mTab[149]? = some r ∧ Cond.methodLink (mOwn 11) 124 r.2.1 ∈ lw_tbl := ⟨(11, yX11_inCode, cX11_inCode, 2, (some .int), true, 2), rfl, (mm5 (List.mem_of_getElem? (i := 116) rfl))⟩
theorem ml_11_134 : ∃ r, mTab[151]? = some r ∧ Cond.methodLink (mOwn 11) 134 r.2.1 ∈ lw_tbl := ⟨(11, yX11_placeOf, cX11_placeOf, 3, (some .int), false, 2), rfl, (mm5 (List.mem_of_getElem? (i := 123) rfl))⟩
theorem ml_11_104 : ∃ r, mTab[142]? = some r ∧ Cond.methodLink (mOwn 11) 104 r.2.1 ∈ lw_tbl := ⟨(11, yX11_isMachine, cX11_isMachine, 3, (some .boolean), false, 1), rfl, (mm5 (List.mem_of_getElem? (i := 128) rfl))⟩
theorem ml_11_100 : ∃ r, mTab[143]? = some r ∧ Cond.methodLink (mOwn 11) 100 r.2.1 ∈ lw_tbl := ⟨(11, yX11_isWriter, cX11_isWriter, 3, (some .boolean), false, 1), rfl, (mm5 (List.mem_of_getElem? (i := 134) rfl))⟩
theorem ml_11_137 : ∃ r, mTab[139]? = some r ∧ Cond.methodLink (mOwn 11) 137 r.2.1 ∈ lw_tbl := ⟨(11, yX11_becomes, cX11_becomes, 5, (some .int), false, 2), rfl, (mm5 (List.mem_of_getElem? (i := 138) rfl))⟩
theorem ml_11_192 : ∃ r, mTab[165]? = some r ∧ Cond.methodLink (mOwn 11) 192 r.2.1 ∈ lw_tbl := ⟨(11, yX11_workOut, cX11_workOut, 8, (some .int), false, 2), rfl, (mm5 (List.mem_of_getElem? (i := 155) rfl))⟩
theorem ml_11_185 : ∃ r, mTab[158]? = some r ∧ Cond.methodLink (mOwn 11) 185 r.2.1 ∈ lw_tbl := ⟨(11, yX11_either, cX11_either, 3, (some .int), false, 0), rfl, (mm5 (List.mem_of_getElem? (i := 159) rfl))⟩
theorem ml_11_161 : ∃ r, mTab[159]? = some r ∧ Cond.methodLink (mOwn 11) 161 r.2.1 ∈ lw_tbl := ⟨(11, yX11_both, cX11_both, 3, (some .int), false, 0), rfl, (mm5 (List.mem_of_getElem? (i := 163) rfl))⟩
theorem ml_11_167 : ∃ r, mTab[160]? = some r ∧ Cond.methodLink (mOwn 11) 167 r.2.1 ∈ lw_tbl := ⟨(11, yX11_compared, cX11_compared, 4, (some .int), false, 0), rfl, (mm5 (List.mem_of_getElem? (i := 167) rfl))⟩
theorem ml_11_170 : ∃ r, mTab[161]? = some r ∧ Cond.methodLink (mOwn 11) 170 r.2.1 ∈ lw_tbl := ⟨(11, yX11_sums, cX11_sums, 4, (some .int), false, 0), rfl, (mm5 (List.mem_of_getElem? (i := 171) rfl))⟩
theorem ml_11_173 : ∃ r, mTab[162]? = some r ∧ Cond.methodLink (mOwn 11) 173 r.2.1 ∈ lw_tbl := ⟨(11, yX11_product, cX11_product, 4, (some .int), false, 0), rfl, (mm5 (List.mem_of_getElem? (i := 175) rfl))⟩
theorem ml_11_176 : ∃ r, mTab[164]? = some r ∧ Cond.methodLink (mOwn 11) 176 r.2.1 ∈ lw_tbl := ⟨(11, yX11_one, cX11_one, 5, (some .int), false, 0), rfl, (mm5 (List.mem_of_getElem? (i := 179) rfl))⟩
theorem ml_11_157 : ∃ r, mTab[155]? = some r ∧ Cond.methodLink (mOwn 11) 157 r.2.1 ∈ lw_tbl := ⟨(11, yX11_byteAt, cX11_byteAt, 1, (some .int), false, 0), rfl, (mm5 (List.mem_of_getElem? (i := 183) rfl))⟩
theorem ml_11_182 : ∃ r, mTab[156]? = some r ∧ Cond.methodLink (mOwn 11) 182 r.2.1 ∈ lw_tbl := ⟨(11, yX11_wrong, cX11_wrong, 1, (some .int), false, 0), rfl, (mm5 (List.mem_of_getElem? (i := 187) rfl))⟩
theorem ml_11_164 : ∃ r, mTab[157]? = some r ∧ Cond.methodLink (mOwn 11) 164 r.2.1 ∈ lw_tbl := ⟨(11, yX11_takes, cX11_takes, 2, (some .boolean), false, 1), rfl, (mm5 (List.mem_of_getElem? (i := 191) rfl))⟩
theorem ml_11_188 : ∃ r, mTab[163]? = some r ∧ Cond.methodLink (mOwn 11) 188 r.2.1 ∈ lw_tbl := ⟨(11, yX11_nameOf, cX11_nameOf, 1, (some .int), true, 1), rfl, (mm5 (List.mem_of_getElem? (i := 195) rfl))⟩
theorem ml_11_214 : ∃ r, mTab[144]? = some r ∧ Cond.methodLink (mOwn 11) 214 r.2.1 ∈ lw_tbl := ⟨(11, yX11_isWm, cX11_isWm, 2, (some .boolean), false, 1), rfl, (mm5 (List.mem_of_getElem? (i := 202) rfl))⟩
theorem ml_11_217 : ∃ r, mTab[167]? = some r ∧ Cond.methodLink (mOwn 11) 217 r.2.1 ∈ lw_tbl := ⟨(11, yX11_begins, cX11_begins, 2, none, false, 0), rfl, (mm5 (List.mem_of_getElem? (i := 206) rfl))⟩
theorem ml_11_208 : ∃ r, mTab[172]? = some r ∧ Cond.methodLink (mOwn 11) 208 r.2.1 ∈ lw_tbl := ⟨(11, yX11_showsOf, cX11_showsOf, 5, (some .int), false, 3), rfl, (mm5 (List.mem_of_getElem? (i := 210) rfl))⟩
theorem ml_11_204 : ∃ r, mTab[171]? = some r ∧ Cond.methodLink (mOwn 11) 204 r.2.1 ∈ lw_tbl := ⟨(11, yX11_gripOf, cX11_gripOf, 5, (some .int), false, 3), rfl, (mm5 (List.mem_of_getElem? (i := 214) rfl))⟩
theorem ml_11_198 : ∃ r, mTab[168]? = some r ∧ Cond.methodLink (mOwn 11) 198 r.2.1 ∈ lw_tbl := ⟨(11, yX11_handOf, cX11_handOf, 3, (some .int), false, 2), rfl, (mm5 (List.mem_of_getElem? (i := 218) rfl))⟩
theorem ml_11_201 : ∃ r, mTab[169]? = some r ∧ Cond.methodLink (mOwn 11) 201 r.2.1 ∈ lw_tbl := ⟨(11, yX11_apart, cX11_apart, 2, (some .int), true, 2), rfl, (mm5 (List.mem_of_getElem? (i := 222) rfl))⟩
theorem ml_11_227 : ∃ r, mTab[176]? = some r ∧ Cond.methodLink (mOwn 11) 227 r.2.1 ∈ lw_tbl := ⟨(11, yX11_rowIs, cX11_rowIs, 3, (some .int), false, 2), rfl, (mm5 (List.mem_of_getElem? (i := 229) rfl))⟩
theorem ml_11_234 : ∃ r, mTab[178]? = some r ∧ Cond.methodLink (mOwn 11) 234 r.2.1 ∈ lw_tbl := ⟨(11, yX11_typesDay, cX11_typesDay, 5, none, false, 2), rfl, (mm5 (List.mem_of_getElem? (i := 235) rfl))⟩
theorem ml_11_220 : ∃ r, mTab[177]? = some r ∧ Cond.methodLink (mOwn 11) 220 r.2.1 ∈ lw_tbl := ⟨(11, yX11_lettersIn, cX11_lettersIn, 3, (some .int), false, 1), rfl, (mm5 (List.mem_of_getElem? (i := 239) rfl))⟩
theorem ml_11_223 : ∃ r, mTab[174]? = some r ∧ Cond.methodLink (mOwn 11) 223 r.2.1 ∈ lw_tbl := ⟨(11, yX11_typesOn, cX11_typesOn, 4, none, false, 2), rfl, (mm6 (List.mem_of_getElem? (i := 3) rfl))⟩
theorem ml_11_211 : ∃ r, mTab[170]? = some r ∧ Cond.methodLink (mOwn 11) 211 r.2.1 ∈ lw_tbl := ⟨(11, yX11_nearer, cX11_nearer, 2, (some .int), true, 2), rfl, (mm6 (List.mem_of_getElem? (i := 7) rfl))⟩
theorem ml_11_237 : ∃ r, mTab[173]? = some r ∧ Cond.methodLink (mOwn 11) 237 r.2.1 ∈ lw_tbl := ⟨(11, yX11_codeOf, cX11_codeOf, 3, (some .int), false, 2), rfl, (mm6 (List.mem_of_getElem? (i := 14) rfl))⟩
theorem ml_11_240 : ∃ r, mTab[182]? = some r ∧ Cond.methodLink (mOwn 11) 240 r.2.1 ∈ lw_tbl := ⟨(11, yX11_farOf, cX11_farOf, 5, (some .int), false, 2), rfl, (mm6 (List.mem_of_getElem? (i := 26) rfl))⟩
theorem ml_11_245 : ∃ r, mTab[187]? = some r ∧ Cond.methodLink (mOwn 11) 245 r.2.1 ∈ lw_tbl := ⟨(11, yX11_codeBehind, cX11_codeBehind, 5, (some .int), false, 2), rfl, (mm6 (List.mem_of_getElem? (i := 47) rfl))⟩
theorem ml_11_248 : ∃ r, mTab[189]? = some r ∧ Cond.methodLink (mOwn 11) 248 r.2.1 ∈ lw_tbl := ⟨(11, yX11_isSheet, cX11_isSheet, 5, (some .boolean), false, 3), rfl, (mm6 (List.mem_of_getElem? (i := 55) rfl))⟩
theorem ml_11_252 : ∃ r, mTab[194]? = some r ∧ Cond.methodLink (mOwn 11) 252 r.2.1 ∈ lw_tbl := ⟨(11, yX11_firstFalse, cX11_firstFalse, 8, (some .int), false, 3), rfl, (mm6 (List.mem_of_getElem? (i := 75) rfl))⟩
theorem ml_11_257 : ∃ r, mTab[198]? = some r ∧ Cond.methodLink (mOwn 11) 257 r.2.1 ∈ lw_tbl := ⟨(11, yX11_sleeps, cX11_sleeps, 4, none, false, 0), rfl, (mm6 (List.mem_of_getElem? (i := 92) rfl))⟩
theorem ml_11_260 : ∃ r, mTab[201]? = some r ∧ Cond.methodLink (mOwn 11) 260 r.2.1 ∈ lw_tbl := ⟨(11, yX11_priceOf, cX11_priceOf, 5, (some .int), false, 1), rfl, (mm6 (List.mem_of_getElem? (i := 104) rfl))⟩
theorem ml_11_265 : ∃ r, mTab[138]? = some r ∧ Cond.methodLink (mOwn 11) 265 r.2.1 ∈ lw_tbl := ⟨(11, yX11_bitsOf, cX11_bitsOf, 3, (some .int), true, 1), rfl, (mm6 (List.mem_of_getElem? (i := 113) rfl))⟩
theorem ml_11_312 : ∃ r, mTab[211]? = some r ∧ Cond.methodLink (mOwn 11) 312 r.2.1 ∈ lw_tbl := ⟨(11, yX11_isBody, cX11_isBody, 2, (some .boolean), false, 1), rfl, (mm6 (List.mem_of_getElem? (i := 154) rfl))⟩
theorem ml_11_294 : ∃ r, mTab[216]? = some r ∧ Cond.methodLink (mOwn 11) 294 r.2.1 ∈ lw_tbl := ⟨(11, yX11_typesAs, cX11_typesAs, 3, (some .int), false, 2), rfl, (mm6 (List.mem_of_getElem? (i := 158) rfl))⟩
theorem ml_11_290 : ∃ r, mTab[215]? = some r ∧ Cond.methodLink (mOwn 11) 290 r.2.1 ∈ lw_tbl := ⟨(11, yX11_runs, cX11_runs, 2, none, false, 1), rfl, (mm6 (List.mem_of_getElem? (i := 162) rfl))⟩
theorem ml_11_300 : ∃ r, mTab[217]? = some r ∧ Cond.methodLink (mOwn 11) 300 r.2.1 ∈ lw_tbl := ⟨(11, yX11_sticksAs, cX11_sticksAs, 4, (some .int), false, 2), rfl, (mm6 (List.mem_of_getElem? (i := 166) rfl))⟩
theorem ml_11_306 : ∃ r, mTab[218]? = some r ∧ Cond.methodLink (mOwn 11) 306 r.2.1 ∈ lw_tbl := ⟨(11, yX11_ringsAs, cX11_ringsAs, 4, (some .int), false, 2), rfl, (mm6 (List.mem_of_getElem? (i := 170) rfl))⟩
theorem ml_11_309 : ∃ r, mTab[219]? = some r ∧ Cond.methodLink (mOwn 11) 309 r.2.1 ∈ lw_tbl := ⟨(11, yX11_tellsAs, cX11_tellsAs, 4, (some .int), false, 2), rfl, (mm6 (List.mem_of_getElem? (i := 174) rfl))⟩
theorem ml_11_317 : ∃ r, mTab[225]? = some r ∧ Cond.methodLink (mOwn 11) 317 r.2.1 ∈ lw_tbl := ⟨(11, yX11_refusal, cX11_refusal, 3, (some .int), false, 2), rfl, (mm6 (List.mem_of_getElem? (i := 194) rfl))⟩
theorem ml_11_320 : ∃ r, mTab[226]? = some r ∧ Cond.methodLink (mOwn 11) 320 r.2.1 ∈ lw_tbl := ⟨(11, yX11_asSort, cX11_asSort, 3, (some .long), true, 2), rfl, (mm6 (List.mem_of_getElem? (i := 198) rfl))⟩
theorem ml_11_328 : ∃ r, mTab[212]? = some r ∧ Cond.methodLink (mOwn 11) 328 r.2.1 ∈ lw_tbl := ⟨(11, yX11_kindOf, cX11_kindOf, 2, (some .int), false, 1), rfl, (mm6 (List.mem_of_getElem? (i := 214) rfl))⟩
theorem ml_11_331 : ∃ r, mTab[214]? = some r ∧ Cond.methodLink (mOwn 11) 331 r.2.1 ∈ lw_tbl := ⟨(11, yX11_above, cX11_above, 1, (some .int), true, 1), rfl, (mm6 (List.mem_of_getElem? (i := 218) rfl))⟩
theorem mCal_ok_11 : ∀ q ∈ mCalT 11, ∃ r, mTab[q.2]? = some r ∧ Cond.methodLink (mOwn 11) q.1 r.2.1 ∈ lw_tbl := List.forall_mem_cons.mpr ⟨ml_11_107, List.forall_mem_cons.mpr ⟨ml_11_111, List.forall_mem_cons.mpr ⟨ml_11_93, List.forall_mem_cons.mpr ⟨ml_11_121, List.forall_mem_cons.mpr ⟨ml_11_124, List.forall_mem_cons.mpr ⟨ml_11_134, List.forall_mem_cons.mpr ⟨ml_11_104, List.forall_mem_cons.mpr ⟨ml_11_100, List.forall_mem_cons.mpr ⟨ml_11_137, List.forall_mem_cons.mpr ⟨ml_11_192, List.forall_mem_cons.mpr ⟨ml_11_185, List.forall_mem_cons.mpr ⟨ml_11_161, List.forall_mem_cons.mpr ⟨ml_11_167, List.forall_mem_cons.mpr ⟨ml_11_170, List.forall_mem_cons.mpr ⟨ml_11_173, List.forall_mem_cons.mpr ⟨ml_11_176, List.forall_mem_cons.mpr ⟨ml_11_157, List.forall_mem_cons.mpr ⟨ml_11_182, List.forall_mem_cons.mpr ⟨ml_11_164, List.forall_mem_cons.mpr ⟨ml_11_188, List.forall_mem_cons.mpr ⟨ml_11_214, List.forall_mem_cons.mpr ⟨ml_11_217, List.forall_mem_cons.mpr ⟨ml_11_208, List.forall_mem_cons.mpr ⟨ml_11_204, List.forall_mem_cons.mpr ⟨ml_11_198, List.forall_mem_cons.mpr ⟨ml_11_201, List.forall_mem_cons.mpr ⟨ml_11_227, List.forall_mem_cons.mpr ⟨ml_11_234, List.forall_mem_cons.mpr ⟨ml_11_220, List.forall_mem_cons.mpr ⟨ml_11_223, List.forall_mem_cons.mpr ⟨ml_11_211, List.forall_mem_cons.mpr ⟨ml_11_237, List.forall_mem_cons.mpr ⟨ml_11_240, List.forall_mem_cons.mpr ⟨ml_11_245, List.forall_mem_cons.mpr ⟨ml_11_248, List.forall_mem_cons.mpr ⟨ml_11_252, List.forall_mem_cons.mpr ⟨ml_11_257, List.forall_mem_cons.mpr ⟨ml_11_260, List.forall_mem_cons.mpr ⟨ml_11_265, List.forall_mem_cons.mpr ⟨ml_11_312, List.forall_mem_cons.mpr ⟨ml_11_294, List.forall_mem_cons.mpr ⟨ml_11_290, List.forall_mem_cons.mpr ⟨ml_11_300, List.forall_mem_cons.mpr ⟨ml_11_306, List.forall_mem_cons.mpr ⟨ml_11_309, List.forall_mem_cons.mpr ⟨ml_11_317, List.forall_mem_cons.mpr ⟨ml_11_320, List.forall_mem_cons.mpr ⟨ml_11_328, List.forall_mem_cons.mpr ⟨ml_11_331, fun _ h => absurd h List.not_mem_nil⟩⟩⟩⟩⟩⟩⟩⟩⟩⟩⟩⟩⟩⟩⟩⟩⟩⟩⟩⟩⟩⟩⟩⟩⟩⟩⟩⟩⟩⟩⟩⟩⟩⟩⟩⟩⟩⟩⟩⟩⟩⟩⟩⟩⟩⟩⟩⟩⟩
theorem ml_12_13 : ∃ r, mTab[64]? = some r ∧ Cond.methodLink (mOwn 12) 13 r.2.1 ∈ lw_tbl := ⟨(10, yX10_machine, cX10_machine, 1, (some .int), false, 0), rfl, (mm2 (List.mem_of_getElem? (i := 73) rfl))⟩
theorem ml_12_18 : ∃ r, mTab[65]? = some r ∧ Cond.methodLink (mOwn 12) 18 r.2.1 ∈ lw_tbl := ⟨(10, yX10_machines, cX10_machines, 7, (some .int), false, 3), rfl, (mm2 (List.mem_of_getElem? (i := 89) rfl))⟩
theorem ml_12_23 : ∃ r, mTab[66]? = some r ∧ Cond.methodLink (mOwn 12) 23 r.2.1 ∈ lw_tbl := ⟨(10, yX10_writer, cX10_writer, 2, (some .int), false, 1), rfl, (mm2 (List.mem_of_getElem? (i := 112) rfl))⟩
theorem ml_12_28 : ∃ r, mTab[67]? = some r ∧ Cond.methodLink (mOwn 12) 28 r.2.1 ∈ lw_tbl := ⟨(10, yX10_mend, cX10_mend, 5, (some .int), false, 3), rfl, (mm2 (List.mem_of_getElem? (i := 130) rfl))⟩
theorem ml_12_32 : ∃ r, mTab[68]? = some r ∧ Cond.methodLink (mOwn 12) 32 r.2.1 ∈ lw_tbl := ⟨(10, yX10_of, cX10_of, 3, (some .int), false, 2), rfl, (mm2 (List.mem_of_getElem? (i := 176) rfl))⟩
theorem ml_12_37 : ∃ r, mTab[69]? = some r ∧ Cond.methodLink (mOwn 12) 37 r.2.1 ∈ lw_tbl := ⟨(10, yX10_feed, cX10_feed, 2, (some .int), false, 1), rfl, (mm2 (List.mem_of_getElem? (i := 180) rfl))⟩
theorem ml_12_41 : ∃ r, mTab[70]? = some r ∧ Cond.methodLink (mOwn 12) 41 r.2.1 ∈ lw_tbl := ⟨(10, yX10_law, cX10_law, 2, (some .int), false, 0), rfl, (mm2 (List.mem_of_getElem? (i := 192) rfl))⟩
theorem ml_12_45 : ∃ r, mTab[71]? = some r ∧ Cond.methodLink (mOwn 12) 45 r.2.1 ∈ lw_tbl := ⟨(10, yX10_shows, cX10_shows, 4, (some .int), false, 3), rfl, (mm3 (List.mem_of_getElem? (i := 2) rfl))⟩
theorem ml_12_49 : ∃ r, mTab[72]? = some r ∧ Cond.methodLink (mOwn 12) 49 r.2.1 ∈ lw_tbl := ⟨(10, yX10_later, cX10_later, 6, (some .int), false, 4), rfl, (mm3 (List.mem_of_getElem? (i := 39) rfl))⟩
theorem ml_12_54 : ∃ r, mTab[73]? = some r ∧ Cond.methodLink (mOwn 12) 54 r.2.1 ∈ lw_tbl := ⟨(10, yX10_letter, cX10_letter, 5, (some .int), false, 2), rfl, (mm3 (List.mem_of_getElem? (i := 71) rfl))⟩
theorem ml_12_58 : ∃ r, mTab[74]? = some r ∧ Cond.methodLink (mOwn 12) 58 r.2.1 ∈ lw_tbl := ⟨(10, yX10_still, cX10_still, 5, (some .int), false, 1), rfl, (mm3 (List.mem_of_getElem? (i := 82) rfl))⟩
theorem ml_12_62 : ∃ r, mTab[75]? = some r ∧ Cond.methodLink (mOwn 12) 62 r.2.1 ∈ lw_tbl := ⟨(10, yX10_far, cX10_far, 2, (some .int), false, 1), rfl, (mm3 (List.mem_of_getElem? (i := 98) rfl))⟩
theorem ml_12_66 : ∃ r, mTab[76]? = some r ∧ Cond.methodLink (mOwn 12) 66 r.2.1 ∈ lw_tbl := ⟨(10, yX10_nearest, cX10_nearest, 3, (some .int), false, 2), rfl, (mm3 (List.mem_of_getElem? (i := 106) rfl))⟩
theorem ml_12_70 : ∃ r, mTab[77]? = some r ∧ Cond.methodLink (mOwn 12) 70 r.2.1 ∈ lw_tbl := ⟨(10, yX10_given, cX10_given, 5, (some .int), false, 1), rfl, (mm3 (List.mem_of_getElem? (i := 118) rfl))⟩
theorem ml_12_74 : ∃ r, mTab[78]? = some r ∧ Cond.methodLink (mOwn 12) 74 r.2.1 ∈ lw_tbl := ⟨(10, yX10_teach, cX10_teach, 7, (some .int), false, 2), rfl, (mm3 (List.mem_of_getElem? (i := 137) rfl))⟩
theorem ml_12_78 : ∃ r, mTab[79]? = some r ∧ Cond.methodLink (mOwn 12) 78 r.2.1 ∈ lw_tbl := ⟨(10, yX10_bring, cX10_bring, 5, (some .int), false, 3), rfl, (mm3 (List.mem_of_getElem? (i := 141) rfl))⟩
theorem ml_12_82 : ∃ r, mTab[80]? = some r ∧ Cond.methodLink (mOwn 12) 82 r.2.1 ∈ lw_tbl := ⟨(10, yX10_whose, cX10_whose, 4, (some .int), false, 2), rfl, (mm3 (List.mem_of_getElem? (i := 173) rfl))⟩
theorem ml_12_86 : ∃ r, mTab[81]? = some r ∧ Cond.methodLink (mOwn 12) 86 r.2.1 ∈ lw_tbl := ⟨(10, yX10_where, cX10_where, 6, (some .int), false, 2), rfl, (mm3 (List.mem_of_getElem? (i := 185) rfl))⟩
theorem ml_12_90 : ∃ r, mTab[82]? = some r ∧ Cond.methodLink (mOwn 12) 90 r.2.1 ∈ lw_tbl := ⟨(10, yX10_pairs, cX10_pairs, 8, (some .int), false, 2), rfl, (mm3 (List.mem_of_getElem? (i := 189) rfl))⟩
theorem ml_12_94 : ∃ r, mTab[83]? = some r ∧ Cond.methodLink (mOwn 12) 94 r.2.1 ∈ lw_tbl := ⟨(10, yX10_between, cX10_between, 6, (some .int), false, 3), rfl, (mm3 (List.mem_of_getElem? (i := 197) rfl))⟩
theorem ml_12_98 : ∃ r, mTab[84]? = some r ∧ Cond.methodLink (mOwn 12) 98 r.2.1 ∈ lw_tbl := ⟨(10, yX10_judge, cX10_judge, 3, (some .int), false, 1), rfl, (mm3 (List.mem_of_getElem? (i := 201) rfl))⟩
theorem ml_12_102 : ∃ r, mTab[85]? = some r ∧ Cond.methodLink (mOwn 12) 102 r.2.1 ∈ lw_tbl := ⟨(10, yX10_falseOne, cX10_falseOne, 7, (some .int), false, 2), rfl, (mm3 (List.mem_of_getElem? (i := 209) rfl))⟩
theorem ml_12_106 : ∃ r, mTab[86]? = some r ∧ Cond.methodLink (mOwn 12) 106 r.2.1 ∈ lw_tbl := ⟨(10, yX10_ribbons, cX10_ribbons, 7, (some .int), false, 2), rfl, (mm3 (List.mem_of_getElem? (i := 213) rfl))⟩
theorem ml_12_110 : ∃ r, mTab[87]? = some r ∧ Cond.methodLink (mOwn 12) 110 r.2.1 ∈ lw_tbl := ⟨(10, yX10_morning, cX10_morning, 5, (some .int), false, 3), rfl, (mm3 (List.mem_of_getElem? (i := 217) rfl))⟩
theorem ml_12_114 : ∃ r, mTab[88]? = some r ∧ Cond.methodLink (mOwn 12) 114 r.2.1 ∈ lw_tbl := ⟨(10, yX10_alike, cX10_alike, 2, (some .int), false, 0), rfl, (mm3 (List.mem_of_getElem? (i := 227) rfl))⟩
theorem ml_12_118 : ∃ r, mTab[89]? = some r ∧ Cond.methodLink (mOwn 12) 118 r.2.1 ∈ lw_tbl := ⟨(10, yX10_price, cX10_price, 2, (some .int), false, 1), rfl, (mm3 (List.mem_of_getElem? (i := 235) rfl))⟩
theorem ml_12_122 : ∃ r, mTab[90]? = some r ∧ Cond.methodLink (mOwn 12) 122 r.2.1 ∈ lw_tbl := ⟨(10, yX10_buy, cX10_buy, 8, (some .int), false, 2), rfl, (mm4 (List.mem_of_getElem? (i := 3) rfl))⟩
theorem ml_12_126 : ∃ r, mTab[91]? = some r ∧ Cond.methodLink (mOwn 12) 126 r.2.1 ∈ lw_tbl := ⟨(10, yX10_drawn, cX10_drawn, 12, (some .int), false, 3), rfl, (mm4 (List.mem_of_getElem? (i := 11) rfl))⟩
theorem ml_12_130 : ∃ r, mTab[92]? = some r ∧ Cond.methodLink (mOwn 12) 130 r.2.1 ∈ lw_tbl := ⟨(10, yX10_types, cX10_types, 3, (some .int), false, 1), rfl, (mm4 (List.mem_of_getElem? (i := 20) rfl))⟩
theorem ml_12_134 : ∃ r, mTab[93]? = some r ∧ Cond.methodLink (mOwn 12) 134 r.2.1 ∈ lw_tbl := ⟨(10, yX10_clean, cX10_clean, 3, (some .int), false, 1), rfl, (mm4 (List.mem_of_getElem? (i := 28) rfl))⟩
theorem ml_12_138 : ∃ r, mTab[94]? = some r ∧ Cond.methodLink (mOwn 12) 138 r.2.1 ∈ lw_tbl := ⟨(10, yX10_learn, cX10_learn, 5, (some .int), false, 1), rfl, (mm4 (List.mem_of_getElem? (i := 33) rfl))⟩
theorem ml_12_142 : ∃ r, mTab[95]? = some r ∧ Cond.methodLink (mOwn 12) 142 r.2.1 ∈ lw_tbl := ⟨(10, yX10_led, cX10_led, 2, (some .int), false, 1), rfl, (mm4 (List.mem_of_getElem? (i := 43) rfl))⟩
theorem ml_12_146 : ∃ r, mTab[96]? = some r ∧ Cond.methodLink (mOwn 12) 146 r.2.1 ∈ lw_tbl := ⟨(10, yX10_image, cX10_image, 1, (some .int), false, 0), rfl, (mm4 (List.mem_of_getElem? (i := 47) rfl))⟩
theorem ml_12_150 : ∃ r, mTab[97]? = some r ∧ Cond.methodLink (mOwn 12) 150 r.2.1 ∈ lw_tbl := ⟨(10, yX10_back, cX10_back, 1, (some .int), false, 0), rfl, (mm4 (List.mem_of_getElem? (i := 64) rfl))⟩
theorem ml_12_154 : ∃ r, mTab[98]? = some r ∧ Cond.methodLink (mOwn 12) 154 r.2.1 ∈ lw_tbl := ⟨(10, yX10_undo, cX10_undo, 2, (some .int), false, 0), rfl, (mm4 (List.mem_of_getElem? (i := 70) rfl))⟩
theorem ml_12_158 : ∃ r, mTab[99]? = some r ∧ Cond.methodLink (mOwn 12) 158 r.2.1 ∈ lw_tbl := ⟨(10, yX10_redo, cX10_redo, 2, (some .int), false, 0), rfl, (mm4 (List.mem_of_getElem? (i := 74) rfl))⟩
theorem ml_12_162 : ∃ r, mTab[100]? = some r ∧ Cond.methodLink (mOwn 12) 162 r.2.1 ∈ lw_tbl := ⟨(10, yX10_body, cX10_body, 2, (some .int), false, 1), rfl, (mm4 (List.mem_of_getElem? (i := 78) rfl))⟩
theorem ml_12_166 : ∃ r, mTab[101]? = some r ∧ Cond.methodLink (mOwn 12) 166 r.2.1 ∈ lw_tbl := ⟨(10, yX10_act, cX10_act, 4, (some .int), false, 3), rfl, (mm4 (List.mem_of_getElem? (i := 90) rfl))⟩
theorem ml_12_170 : ∃ r, mTab[102]? = some r ∧ Cond.methodLink (mOwn 12) 170 r.2.1 ∈ lw_tbl := ⟨(10, yX10_trace, cX10_trace, 2, (some .int), false, 1), rfl, (mm4 (List.mem_of_getElem? (i := 123) rfl))⟩
theorem ml_12_174 : ∃ r, mTab[103]? = some r ∧ Cond.methodLink (mOwn 12) 174 r.2.1 ∈ lw_tbl := ⟨(10, yX10_keep, cX10_keep, 3, (some .int), false, 2), rfl, (mm4 (List.mem_of_getElem? (i := 127) rfl))⟩
theorem ml_12_178 : ∃ r, mTab[104]? = some r ∧ Cond.methodLink (mOwn 12) 178 r.2.1 ∈ lw_tbl := ⟨(10, yX10_row, cX10_row, 4, (some .int), false, 3), rfl, (mm4 (List.mem_of_getElem? (i := 135) rfl))⟩
theorem ml_12_184 : ∃ r, mTab[105]? = some r ∧ Cond.methodLink (mOwn 12) 184 r.2.1 ∈ lw_tbl := ⟨(10, yX10_put, cX10_put, 6, (some .int), false, 3), rfl, (mm4 (List.mem_of_getElem? (i := 146) rfl))⟩
theorem ml_12_189 : ∃ r, mTab[106]? = some r ∧ Cond.methodLink (mOwn 12) 189 r.2.1 ∈ lw_tbl := ⟨(10, yX10_element, cX10_element, 3, (some .long), false, 2), rfl, (mm4 (List.mem_of_getElem? (i := 162) rfl))⟩
theorem ml_12_194 : ∃ r, mTab[107]? = some r ∧ Cond.methodLink (mOwn 12) 194 r.2.1 ∈ lw_tbl := ⟨(10, yX10_shift, cX10_shift, 8, (some .int), false, 5), rfl, (mm4 (List.mem_of_getElem? (i := 167) rfl))⟩
theorem ml_12_199 : ∃ r, mTab[108]? = some r ∧ Cond.methodLink (mOwn 12) 199 r.2.1 ∈ lw_tbl := ⟨(10, yX10_taken, cX10_taken, 4, (some .int), false, 2), rfl, (mm4 (List.mem_of_getElem? (i := 172) rfl))⟩
theorem ml_12_203 : ∃ r, mTab[109]? = some r ∧ Cond.methodLink (mOwn 12) 203 r.2.1 ∈ lw_tbl := ⟨(10, yX10_count, cX10_count, 2, (some .int), false, 1), rfl, (mm4 (List.mem_of_getElem? (i := 179) rfl))⟩
theorem ml_12_157 : ∃ r, mTab[140]? = some r ∧ Cond.methodLink (mOwn 12) 157 r.2.1 ∈ lw_tbl := ⟨(11, yX11_undo, cX11_undo, 1, (some .int), false, 0), rfl, (mm5 (List.mem_of_getElem? (i := 79) rfl))⟩
theorem ml_12_161 : ∃ r, mTab[141]? = some r ∧ Cond.methodLink (mOwn 12) 161 r.2.1 ∈ lw_tbl := ⟨(11, yX11_redo, cX11_redo, 1, (some .int), false, 0), rfl, (mm5 (List.mem_of_getElem? (i := 83) rfl))⟩
theorem ml_12_17 : ∃ r, mTab[146]? = some r ∧ Cond.methodLink (mOwn 12) 17 r.2.1 ∈ lw_tbl := ⟨(11, yX11_machine, cX11_machine, 1, (some .int), false, 0), rfl, (mm5 (List.mem_of_getElem? (i := 87) rfl))⟩
theorem ml_12_22 : ∃ r, mTab[147]? = some r ∧ Cond.methodLink (mOwn 12) 22 r.2.1 ∈ lw_tbl := ⟨(11, yX11_machines, cX11_machines, 7, (some .int), false, 3), rfl, (mm5 (List.mem_of_getElem? (i := 95) rfl))⟩
theorem ml_12_27 : ∃ r, mTab[150]? = some r ∧ Cond.methodLink (mOwn 12) 27 r.2.1 ∈ lw_tbl := ⟨(11, yX11_writer, cX11_writer, 3, (some .int), false, 1), rfl, (mm5 (List.mem_of_getElem? (i := 108) rfl))⟩
theorem ml_12_31 : ∃ r, mTab[152]? = some r ∧ Cond.methodLink (mOwn 12) 31 r.2.1 ∈ lw_tbl := ⟨(11, yX11_mend, cX11_mend, 6, (some .int), false, 3), rfl, (mm5 (List.mem_of_getElem? (i := 119) rfl))⟩
theorem ml_12_36 : ∃ r, mTab[153]? = some r ∧ Cond.methodLink (mOwn 12) 36 r.2.1 ∈ lw_tbl := ⟨(11, yX11_of, cX11_of, 4, (some .int), false, 2), rfl, (mm5 (List.mem_of_getElem? (i := 142) rfl))⟩
theorem ml_12_40 : ∃ r, mTab[154]? = some r ∧ Cond.methodLink (mOwn 12) 40 r.2.1 ∈ lw_tbl := ⟨(11, yX11_feed, cX11_feed, 2, (some .int), false, 1), rfl, (mm5 (List.mem_of_getElem? (i := 146) rfl))⟩
theorem ml_12_44 : ∃ r, mTab[166]? = some r ∧ Cond.methodLink (mOwn 12) 44 r.2.1 ∈ lw_tbl := ⟨(11, yX11_law, cX11_law, 4, (some .int), false, 0), rfl, (mm5 (List.mem_of_getElem? (i := 151) rfl))⟩
theorem ml_12_48 : ∃ r, mTab[175]? = some r ∧ Cond.methodLink (mOwn 12) 48 r.2.1 ∈ lw_tbl := ⟨(11, yX11_shows, cX11_shows, 4, (some .int), false, 3), rfl, (mm5 (List.mem_of_getElem? (i := 198) rfl))⟩
theorem ml_12_53 : ∃ r, mTab[179]? = some r ∧ Cond.methodLink (mOwn 12) 53 r.2.1 ∈ lw_tbl := ⟨(11, yX11_later, cX11_later, 5, (some .int), false, 4), rfl, (mm5 (List.mem_of_getElem? (i := 225) rfl))⟩
theorem ml_12_57 : ∃ r, mTab[180]? = some r ∧ Cond.methodLink (mOwn 12) 57 r.2.1 ∈ lw_tbl := ⟨(11, yX11_letter, cX11_letter, 4, (some .int), false, 2), rfl, (mm6 (List.mem_of_getElem? (i := 10) rfl))⟩
theorem ml_12_61 : ∃ r, mTab[181]? = some r ∧ Cond.methodLink (mOwn 12) 61 r.2.1 ∈ lw_tbl := ⟨(11, yX11_still, cX11_still, 5, (some .int), false, 1), rfl, (mm6 (List.mem_of_getElem? (i := 18) rfl))⟩
theorem ml_12_65 : ∃ r, mTab[183]? = some r ∧ Cond.methodLink (mOwn 12) 65 r.2.1 ∈ lw_tbl := ⟨(11, yX11_far, cX11_far, 2, (some .int), false, 1), rfl, (mm6 (List.mem_of_getElem? (i := 22) rfl))⟩
theorem ml_12_69 : ∃ r, mTab[184]? = some r ∧ Cond.methodLink (mOwn 12) 69 r.2.1 ∈ lw_tbl := ⟨(11, yX11_nearest, cX11_nearest, 7, (some .int), false, 2), rfl, (mm6 (List.mem_of_getElem? (i := 30) rfl))⟩
theorem ml_12_73 : ∃ r, mTab[185]? = some r ∧ Cond.methodLink (mOwn 12) 73 r.2.1 ∈ lw_tbl := ⟨(11, yX11_given, cX11_given, 8, (some .int), false, 1), rfl, (mm6 (List.mem_of_getElem? (i := 34) rfl))⟩
theorem ml_12_77 : ∃ r, mTab[186]? = some r ∧ Cond.methodLink (mOwn 12) 77 r.2.1 ∈ lw_tbl := ⟨(11, yX11_teach, cX11_teach, 5, (some .int), false, 2), rfl, (mm6 (List.mem_of_getElem? (i := 39) rfl))⟩
theorem ml_12_81 : ∃ r, mTab[188]? = some r ∧ Cond.methodLink (mOwn 12) 81 r.2.1 ∈ lw_tbl := ⟨(11, yX11_bring, cX11_bring, 9, (some .int), false, 3), rfl, (mm6 (List.mem_of_getElem? (i := 43) rfl))⟩
theorem ml_12_85 : ∃ r, mTab[190]? = some r ∧ Cond.methodLink (mOwn 12) 85 r.2.1 ∈ lw_tbl := ⟨(11, yX11_whose, cX11_whose, 5, (some .int), false, 2), rfl, (mm6 (List.mem_of_getElem? (i := 51) rfl))⟩
theorem ml_12_89 : ∃ r, mTab[191]? = some r ∧ Cond.methodLink (mOwn 12) 89 r.2.1 ∈ lw_tbl := ⟨(11, yX11_where, cX11_where, 5, (some .int), false, 2), rfl, (mm6 (List.mem_of_getElem? (i := 59) rfl))⟩
theorem ml_12_93 : ∃ r, mTab[192]? = some r ∧ Cond.methodLink (mOwn 12) 93 r.2.1 ∈ lw_tbl := ⟨(11, yX11_pairs, cX11_pairs, 9, (some .int), false, 2), rfl, (mm6 (List.mem_of_getElem? (i := 63) rfl))⟩
theorem ml_12_97 : ∃ r, mTab[193]? = some r ∧ Cond.methodLink (mOwn 12) 97 r.2.1 ∈ lw_tbl := ⟨(11, yX11_between, cX11_between, 5, (some .int), false, 3), rfl, (mm6 (List.mem_of_getElem? (i := 67) rfl))⟩
theorem ml_12_101 : ∃ r, mTab[195]? = some r ∧ Cond.methodLink (mOwn 12) 101 r.2.1 ∈ lw_tbl := ⟨(11, yX11_judge, cX11_judge, 2, (some .int), false, 1), rfl, (mm6 (List.mem_of_getElem? (i := 71) rfl))⟩
theorem ml_12_105 : ∃ r, mTab[196]? = some r ∧ Cond.methodLink (mOwn 12) 105 r.2.1 ∈ lw_tbl := ⟨(11, yX11_falseOne, cX11_falseOne, 5, (some .int), false, 2), rfl, (mm6 (List.mem_of_getElem? (i := 79) rfl))⟩
theorem ml_12_109 : ∃ r, mTab[197]? = some r ∧ Cond.methodLink (mOwn 12) 109 r.2.1 ∈ lw_tbl := ⟨(11, yX11_ribbons, cX11_ribbons, 6, (some .int), false, 2), rfl, (mm6 (List.mem_of_getElem? (i := 83) rfl))⟩
theorem ml_12_113 : ∃ r, mTab[199]? = some r ∧ Cond.methodLink (mOwn 12) 113 r.2.1 ∈ lw_tbl := ⟨(11, yX11_morning, cX11_morning, 5, (some .int), false, 3), rfl, (mm6 (List.mem_of_getElem? (i := 87) rfl))⟩
theorem ml_12_117 : ∃ r, mTab[200]? = some r ∧ Cond.methodLink (mOwn 12) 117 r.2.1 ∈ lw_tbl := ⟨(11, yX11_alike, cX11_alike, 4, (some .int), false, 0), rfl, (mm6 (List.mem_of_getElem? (i := 96) rfl))⟩
theorem ml_12_121 : ∃ r, mTab[202]? = some r ∧ Cond.methodLink (mOwn 12) 121 r.2.1 ∈ lw_tbl := ⟨(11, yX11_price, cX11_price, 2, (some .int), false, 1), rfl, (mm6 (List.mem_of_getElem? (i := 100) rfl))⟩
theorem ml_12_125 : ∃ r, mTab[203]? = some r ∧ Cond.methodLink (mOwn 12) 125 r.2.1 ∈ lw_tbl := ⟨(11, yX11_buy, cX11_buy, 8, (some .int), false, 2), rfl, (mm6 (List.mem_of_getElem? (i := 108) rfl))⟩
theorem ml_12_129 : ∃ r, mTab[204]? = some r ∧ Cond.methodLink (mOwn 12) 129 r.2.1 ∈ lw_tbl := ⟨(11, yX11_drawn, cX11_drawn, 10, (some .int), false, 3), rfl, (mm6 (List.mem_of_getElem? (i := 116) rfl))⟩
theorem ml_12_133 : ∃ r, mTab[205]? = some r ∧ Cond.methodLink (mOwn 12) 133 r.2.1 ∈ lw_tbl := ⟨(11, yX11_types, cX11_types, 5, (some .int), false, 1), rfl, (mm6 (List.mem_of_getElem? (i := 121) rfl))⟩
theorem ml_12_137 : ∃ r, mTab[206]? = some r ∧ Cond.methodLink (mOwn 12) 137 r.2.1 ∈ lw_tbl := ⟨(11, yX11_clean, cX11_clean, 4, (some .int), false, 1), rfl, (mm6 (List.mem_of_getElem? (i := 125) rfl))⟩
theorem ml_12_141 : ∃ r, mTab[207]? = some r ∧ Cond.methodLink (mOwn 12) 141 r.2.1 ∈ lw_tbl := ⟨(11, yX11_learn, cX11_learn, 5, (some .int), false, 1), rfl, (mm6 (List.mem_of_getElem? (i := 129) rfl))⟩
theorem ml_12_145 : ∃ r, mTab[208]? = some r ∧ Cond.methodLink (mOwn 12) 145 r.2.1 ∈ lw_tbl := ⟨(11, yX11_led, cX11_led, 2, (some .int), false, 1), rfl, (mm6 (List.mem_of_getElem? (i := 133) rfl))⟩
theorem ml_12_149 : ∃ r, mTab[209]? = some r ∧ Cond.methodLink (mOwn 12) 149 r.2.1 ∈ lw_tbl := ⟨(11, yX11_image, cX11_image, 2, (some .int), false, 0), rfl, (mm6 (List.mem_of_getElem? (i := 137) rfl))⟩
theorem ml_12_153 : ∃ r, mTab[210]? = some r ∧ Cond.methodLink (mOwn 12) 153 r.2.1 ∈ lw_tbl := ⟨(11, yX11_back, cX11_back, 2, (some .int), false, 0), rfl, (mm6 (List.mem_of_getElem? (i := 141) rfl))⟩
theorem ml_12_165 : ∃ r, mTab[213]? = some r ∧ Cond.methodLink (mOwn 12) 165 r.2.1 ∈ lw_tbl := ⟨(11, yX11_body, cX11_body, 2, (some .int), false, 1), rfl, (mm6 (List.mem_of_getElem? (i := 145) rfl))⟩
theorem ml_12_169 : ∃ r, mTab[220]? = some r ∧ Cond.methodLink (mOwn 12) 169 r.2.1 ∈ lw_tbl := ⟨(11, yX11_act, cX11_act, 4, (some .int), false, 3), rfl, (mm6 (List.mem_of_getElem? (i := 150) rfl))⟩
theorem ml_12_173 : ∃ r, mTab[221]? = some r ∧ Cond.methodLink (mOwn 12) 173 r.2.1 ∈ lw_tbl := ⟨(11, yX11_trace, cX11_trace, 2, (some .int), false, 1), rfl, (mm6 (List.mem_of_getElem? (i := 178) rfl))⟩
theorem ml_12_177 : ∃ r, mTab[223]? = some r ∧ Cond.methodLink (mOwn 12) 177 r.2.1 ∈ lw_tbl := ⟨(11, yX11_keep, cX11_keep, 3, (some .int), false, 2), rfl, (mm6 (List.mem_of_getElem? (i := 182) rfl))⟩
theorem ml_12_181 : ∃ r, mTab[224]? = some r ∧ Cond.methodLink (mOwn 12) 181 r.2.1 ∈ lw_tbl := ⟨(11, yX11_row, cX11_row, 5, (some .int), false, 3), rfl, (mm6 (List.mem_of_getElem? (i := 186) rfl))⟩
theorem ml_12_188 : ∃ r, mTab[227]? = some r ∧ Cond.methodLink (mOwn 12) 188 r.2.1 ∈ lw_tbl := ⟨(11, yX11_put, cX11_put, 6, (some .int), false, 3), rfl, (mm6 (List.mem_of_getElem? (i := 190) rfl))⟩
theorem ml_12_193 : ∃ r, mTab[228]? = some r ∧ Cond.methodLink (mOwn 12) 193 r.2.1 ∈ lw_tbl := ⟨(11, yX11_element, cX11_element, 3, (some .long), false, 2), rfl, (mm6 (List.mem_of_getElem? (i := 201) rfl))⟩
theorem ml_12_198 : ∃ r, mTab[229]? = some r ∧ Cond.methodLink (mOwn 12) 198 r.2.1 ∈ lw_tbl := ⟨(11, yX11_shift, cX11_shift, 7, (some .int), false, 5), rfl, (mm6 (List.mem_of_getElem? (i := 206) rfl))⟩
theorem ml_12_202 : ∃ r, mTab[230]? = some r ∧ Cond.methodLink (mOwn 12) 202 r.2.1 ∈ lw_tbl := ⟨(11, yX11_taken, cX11_taken, 4, (some .int), false, 2), rfl, (mm6 (List.mem_of_getElem? (i := 210) rfl))⟩
theorem ml_12_206 : ∃ r, mTab[231]? = some r ∧ Cond.methodLink (mOwn 12) 206 r.2.1 ∈ lw_tbl := ⟨(11, yX11_count, cX11_count, 2, (some .int), false, 1), rfl, (mm6 (List.mem_of_getElem? (i := 221) rfl))⟩
theorem mCal_ok_12 : ∀ q ∈ mCalT 12, ∃ r, mTab[q.2]? = some r ∧ Cond.methodLink (mOwn 12) q.1 r.2.1 ∈ lw_tbl := List.forall_mem_cons.mpr ⟨ml_12_13, List.forall_mem_cons.mpr ⟨ml_12_18, List.forall_mem_cons.mpr ⟨ml_12_23, List.forall_mem_cons.mpr ⟨ml_12_28, List.forall_mem_cons.mpr ⟨ml_12_32, List.forall_mem_cons.mpr ⟨ml_12_37, List.forall_mem_cons.mpr ⟨ml_12_41, List.forall_mem_cons.mpr ⟨ml_12_45, List.forall_mem_cons.mpr ⟨ml_12_49, List.forall_mem_cons.mpr ⟨ml_12_54, List.forall_mem_cons.mpr ⟨ml_12_58, List.forall_mem_cons.mpr ⟨ml_12_62, List.forall_mem_cons.mpr ⟨ml_12_66, List.forall_mem_cons.mpr ⟨ml_12_70, List.forall_mem_cons.mpr ⟨ml_12_74, List.forall_mem_cons.mpr ⟨ml_12_78, List.forall_mem_cons.mpr ⟨ml_12_82, List.forall_mem_cons.mpr ⟨ml_12_86, List.forall_mem_cons.mpr ⟨ml_12_90, List.forall_mem_cons.mpr ⟨ml_12_94, List.forall_mem_cons.mpr ⟨ml_12_98, List.forall_mem_cons.mpr ⟨ml_12_102, List.forall_mem_cons.mpr ⟨ml_12_106, List.forall_mem_cons.mpr ⟨ml_12_110, List.forall_mem_cons.mpr ⟨ml_12_114, List.forall_mem_cons.mpr ⟨ml_12_118, List.forall_mem_cons.mpr ⟨ml_12_122, List.forall_mem_cons.mpr ⟨ml_12_126, List.forall_mem_cons.mpr ⟨ml_12_130, List.forall_mem_cons.mpr ⟨ml_12_134, List.forall_mem_cons.mpr ⟨ml_12_138, List.forall_mem_cons.mpr ⟨ml_12_142, List.forall_mem_cons.mpr ⟨ml_12_146, List.forall_mem_cons.mpr ⟨ml_12_150, List.forall_mem_cons.mpr ⟨ml_12_154, List.forall_mem_cons.mpr ⟨ml_12_158, List.forall_mem_cons.mpr ⟨ml_12_162, List.forall_mem_cons.mpr ⟨ml_12_166, List.forall_mem_cons.mpr ⟨ml_12_170, List.forall_mem_cons.mpr ⟨ml_12_174, List.forall_mem_cons.mpr ⟨ml_12_178, List.forall_mem_cons.mpr ⟨ml_12_184, List.forall_mem_cons.mpr ⟨ml_12_189, List.forall_mem_cons.mpr ⟨ml_12_194, List.forall_mem_cons.mpr ⟨ml_12_199, List.forall_mem_cons.mpr ⟨ml_12_203, List.forall_mem_cons.mpr ⟨ml_12_157, List.forall_mem_cons.mpr ⟨ml_12_161, List.forall_mem_cons.mpr ⟨ml_12_17, List.forall_mem_cons.mpr ⟨ml_12_22, List.forall_mem_cons.mpr ⟨ml_12_27, List.forall_mem_cons.mpr ⟨ml_12_31, List.forall_mem_cons.mpr ⟨ml_12_36, List.forall_mem_cons.mpr ⟨ml_12_40, List.forall_mem_cons.mpr ⟨ml_12_44, List.forall_mem_cons.mpr ⟨ml_12_48, List.forall_mem_cons.mpr ⟨ml_12_53, List.forall_mem_cons.mpr ⟨ml_12_57, List.forall_mem_cons.mpr ⟨ml_12_61, List.forall_mem_cons.mpr ⟨ml_12_65, List.forall_mem_cons.mpr ⟨ml_12_69, List.forall_mem_cons.mpr ⟨ml_12_73, List.forall_mem_cons.mpr ⟨ml_12_77, List.forall_mem_cons.mpr ⟨ml_12_81, List.forall_mem_cons.mpr ⟨ml_12_85, List.forall_mem_cons.mpr ⟨ml_12_89, List.forall_mem_cons.mpr ⟨ml_12_93, List.forall_mem_cons.mpr ⟨ml_12_97, List.forall_mem_cons.mpr ⟨ml_12_101, List.forall_mem_cons.mpr ⟨ml_12_105, List.forall_mem_cons.mpr ⟨ml_12_109, List.forall_mem_cons.mpr ⟨ml_12_113, List.forall_mem_cons.mpr ⟨ml_12_117, List.forall_mem_cons.mpr ⟨ml_12_121, List.forall_mem_cons.mpr ⟨ml_12_125, List.forall_mem_cons.mpr ⟨ml_12_129, List.forall_mem_cons.mpr ⟨ml_12_133, List.forall_mem_cons.mpr ⟨ml_12_137, List.forall_mem_cons.mpr ⟨ml_12_141, List.forall_mem_cons.mpr ⟨ml_12_145, List.forall_mem_cons.mpr ⟨ml_12_149, List.forall_mem_cons.mpr ⟨ml_12_153, List.forall_mem_cons.mpr ⟨ml_12_165, List.forall_mem_cons.mpr ⟨ml_12_169, List.forall_mem_cons.mpr ⟨ml_12_173, List.forall_mem_cons.mpr ⟨ml_12_177, List.forall_mem_cons.mpr ⟨ml_12_181, List.forall_mem_cons.mpr ⟨ml_12_188, List.forall_mem_cons.mpr ⟨ml_12_193, List.forall_mem_cons.mpr ⟨ml_12_198, List.forall_mem_cons.mpr ⟨ml_12_202, List.forall_mem_cons.mpr ⟨ml_12_206, fun _ h => absurd h List.not_mem_nil⟩⟩⟩⟩⟩⟩⟩⟩⟩⟩⟩⟩⟩⟩⟩⟩⟩⟩⟩⟩⟩⟩⟩⟩⟩⟩⟩⟩⟩⟩⟩⟩⟩⟩⟩⟩⟩⟩⟩⟩⟩⟩⟩⟩⟩⟩⟩⟩⟩⟩⟩⟩⟩⟩⟩⟩⟩⟩⟩⟩⟩⟩⟩⟩⟩⟩⟩⟩⟩⟩⟩⟩⟩⟩⟩⟩⟩⟩⟩⟩⟩⟩⟩⟩⟩⟩⟩⟩⟩⟩⟩⟩
theorem mCal_ok {o i j : Nat} (h : mLook (mCalT o) i = some j) : ∃ r, mTab[j]? = some r ∧ Cond.methodLink (mOwn o) i r.2.1 ∈ lw_tbl := by
  have h := mLook_mem h
  match o, h with
  | 0, h => exact mCal_ok_0 _ h
  | 1, h => exact mCal_ok_1 _ h
  | 2, h => exact mCal_ok_2 _ h
  | 3, h => exact mCal_ok_3 _ h
  | 4, h => exact mCal_ok_4 _ h
  | 5, h => exact absurd h List.not_mem_nil
  | 6, h => exact mCal_ok_6 _ h
  | 7, h => exact mCal_ok_7 _ h
  | 8, h => exact mCal_ok_8 _ h
  | 9, h => exact mCal_ok_9 _ h
  | 10, h => exact mCal_ok_10 _ h
  | 11, h => exact mCal_ok_11 _ h
  | 12, h => exact mCal_ok_12 _ h
  | 13, h => exact absurd h List.not_mem_nil
  | 14, h => exact absurd h List.not_mem_nil
  | 15, h => exact absurd h List.not_mem_nil
  | _ + 16, h => exact absurd h List.not_mem_nil
def mFldT (o : Nat) : List (Nat × Nat × Nat) := match o with
  | 0 => [(28, 8, 2), (9, 0, 0), (15, 0, 1), (24, 0, 2)]
  | 1 => [(9, 1, 0), (13, 1, 1), (16, 1, 2), (19, 1, 3), (22, 1, 4), (29, 1, 5)]
  | 3 => [(9, 2, 0), (13, 2, 1), (16, 2, 2), (23, 2, 3)]
  | 4 => [(18, 7, 2), (19, 7, 3), (9, 3, 0), (29, 3, 1), (30, 3, 2), (15, 3, 3), (46, 3, 4), (49, 3, 5), (52, 3, 6), (55, 3, 7), (58, 3, 8), (61, 3, 9)]
  | 5 => [(15, 4, 0), (18, 4, 1), (21, 4, 2), (24, 4, 3), (9, 4, 4)]
  | 6 => [(11, 5, 0), (15, 5, 1), (18, 5, 2), (25, 5, 3), (21, 5, 4)]
  | 7 => [(9, 6, 0), (13, 6, 1), (20, 6, 2), (17, 6, 3)]
  | 8 => [(9, 7, 0), (16, 7, 1), (13, 7, 2), (23, 7, 3), (20, 7, 4)]
  | 9 => [(11, 8, 0), (15, 8, 1), (18, 8, 2)]
  | 10 => [(404, 5, 0), (184, 5, 2), (216, 5, 3), (258, 5, 4), (300, 8, 0), (401, 8, 1), (215, 8, 2), (156, 7, 1), (157, 7, 4), (428, 3, 2), (407, 3, 4), (410, 3, 5), (413, 3, 6), (421, 3, 7), (424, 3, 8), (425, 3, 9), (327, 1, 0), (330, 1, 1), (333, 1, 2), (339, 1, 3), (324, 1, 4), (336, 1, 5), (348, 2, 0), (355, 2, 1), (398, 2, 2), (344, 2, 3), (282, 4, 0), (297, 4, 1), (303, 4, 2), (285, 4, 3), (291, 4, 4), (117, 6, 0), (380, 6, 1), (109, 6, 2), (392, 6, 3), (10, 9, 0), (16, 9, 1), (22, 9, 2), (29, 9, 3), (36, 9, 4), (42, 9, 5), (49, 9, 6), (56, 9, 7), (63, 9, 8), (70, 9, 9), (74, 9, 10), (78, 9, 11), (81, 9, 12), (84, 9, 13), (87, 9, 14), (315, 9, 15)]
  | 11 => [(9, 10, 0), (13, 10, 1), (16, 10, 2), (19, 10, 3), (87, 10, 4), (84, 10, 5), (90, 10, 6), (97, 10, 7), (22, 10, 8), (142, 10, 9), (25, 10, 10), (81, 10, 11), (151, 10, 12), (145, 10, 13), (148, 10, 14), (154, 10, 15), (179, 10, 16), (28, 10, 17), (31, 10, 18), (34, 10, 19), (195, 10, 20), (37, 10, 21), (40, 10, 22), (43, 10, 23), (46, 10, 24), (49, 10, 25), (53, 10, 26), (269, 10, 27), (273, 10, 28), (276, 10, 29), (279, 10, 30), (56, 10, 31), (59, 10, 32), (282, 10, 33), (62, 10, 34), (65, 10, 35), (287, 10, 36), (303, 10, 37), (297, 10, 38), (68, 10, 39), (71, 10, 40), (74, 10, 41), (78, 10, 42)]
  | _ => []
def mFldOk (o : Nat) (q : Nat × Nat × Nat) : Prop := ∃ r : vw_C, vwCl[q.2.1]? = some r ∧ q.2.2 < r.2.2 ∧ Cond.fieldLink (mOwn o) q.1 (r.2.1 q.2.2).1 (r.2.1 q.2.2).2.1 (r.2.1 q.2.2).2.2.1 ∈ lw_tbl
theorem mf_0_28 : mFldOk 0 (28, 8, 2) := ⟨(RX9, TX9, 3), rfl, by decide, (mm1 (List.mem_of_getElem? (i := 63) rfl))⟩
theorem mf_0_9 : mFldOk 0 (9, 0, 0) := ⟨(RX0, TX0, 3), rfl, by decide, (mm1 (List.mem_of_getElem? (i := 231) rfl))⟩
theorem mf_0_15 : mFldOk 0 (15, 0, 1) := ⟨(RX0, TX0, 3), rfl, by decide, (mm1 (List.mem_of_getElem? (i := 232) rfl))⟩
theorem mf_0_24 : mFldOk 0 (24, 0, 2) := ⟨(RX0, TX0, 3), rfl, by decide, (mm1 (List.mem_of_getElem? (i := 233) rfl))⟩
theorem mFld_ok_0 : ∀ q ∈ mFldT 0, mFldOk 0 q := List.forall_mem_cons.mpr ⟨mf_0_28, List.forall_mem_cons.mpr ⟨mf_0_9, List.forall_mem_cons.mpr ⟨mf_0_15, List.forall_mem_cons.mpr ⟨mf_0_24, fun _ h => absurd h List.not_mem_nil⟩⟩⟩⟩
theorem mf_1_9 : mFldOk 1 (9, 1, 0) := ⟨(RX1, TX1, 6), rfl, by decide, (mm1 (List.mem_of_getElem? (i := 150) rfl))⟩
theorem mf_1_13 : mFldOk 1 (13, 1, 1) := ⟨(RX1, TX1, 6), rfl, by decide, (mm1 (List.mem_of_getElem? (i := 152) rfl))⟩
theorem mf_1_16 : mFldOk 1 (16, 1, 2) := ⟨(RX1, TX1, 6), rfl, by decide, (mm1 (List.mem_of_getElem? (i := 154) rfl))⟩
theorem mf_1_19 : mFldOk 1 (19, 1, 3) := ⟨(RX1, TX1, 6), rfl, by decide, (mm1 (List.mem_of_getElem? (i := 156) rfl))⟩
theorem mf_1_22 : mFldOk 1 (22, 1, 4) := ⟨(RX1, TX1, 6), rfl, by decide, (mm1 (List.mem_of_getElem? (i := 158) rfl))⟩
theorem mf_1_29 : mFldOk 1 (29, 1, 5) := ⟨(RX1, TX1, 6), rfl, by decide, (mm1 (List.mem_of_getElem? (i := 160) rfl))⟩
theorem mFld_ok_1 : ∀ q ∈ mFldT 1, mFldOk 1 q := List.forall_mem_cons.mpr ⟨mf_1_9, List.forall_mem_cons.mpr ⟨mf_1_13, List.forall_mem_cons.mpr ⟨mf_1_16, List.forall_mem_cons.mpr ⟨mf_1_19, List.forall_mem_cons.mpr ⟨mf_1_22, List.forall_mem_cons.mpr ⟨mf_1_29, fun _ h => absurd h List.not_mem_nil⟩⟩⟩⟩⟩⟩
theorem mf_3_9 : mFldOk 3 (9, 2, 0) := ⟨(RX3, TX3, 4), rfl, by decide, (mm1 (List.mem_of_getElem? (i := 181) rfl))⟩
theorem mf_3_13 : mFldOk 3 (13, 2, 1) := ⟨(RX3, TX3, 4), rfl, by decide, (mm1 (List.mem_of_getElem? (i := 183) rfl))⟩
theorem mf_3_16 : mFldOk 3 (16, 2, 2) := ⟨(RX3, TX3, 4), rfl, by decide, (mm1 (List.mem_of_getElem? (i := 185) rfl))⟩
theorem mf_3_23 : mFldOk 3 (23, 2, 3) := ⟨(RX3, TX3, 4), rfl, by decide, (mm1 (List.mem_of_getElem? (i := 187) rfl))⟩
theorem mFld_ok_3 : ∀ q ∈ mFldT 3, mFldOk 3 q := List.forall_mem_cons.mpr ⟨mf_3_9, List.forall_mem_cons.mpr ⟨mf_3_13, List.forall_mem_cons.mpr ⟨mf_3_16, List.forall_mem_cons.mpr ⟨mf_3_23, fun _ h => absurd h List.not_mem_nil⟩⟩⟩⟩
theorem mf_4_18 : mFldOk 4 (18, 7, 2) := ⟨(RX8, TX8, 5), rfl, by decide, (mm1 (List.mem_of_getElem? (i := 82) rfl))⟩
theorem mf_4_19 : mFldOk 4 (19, 7, 3) := ⟨(RX8, TX8, 5), rfl, by decide, (mm1 (List.mem_of_getElem? (i := 83) rfl))⟩
theorem mf_4_9 : mFldOk 4 (9, 3, 0) := ⟨(RX4, TX4, 10), rfl, by decide, (mm1 (List.mem_of_getElem? (i := 104) rfl))⟩
theorem mf_4_29 : mFldOk 4 (29, 3, 1) := ⟨(RX4, TX4, 10), rfl, by decide, (mm1 (List.mem_of_getElem? (i := 105) rfl))⟩
theorem mf_4_30 : mFldOk 4 (30, 3, 2) := ⟨(RX4, TX4, 10), rfl, by decide, (mm1 (List.mem_of_getElem? (i := 106) rfl))⟩
theorem mf_4_15 : mFldOk 4 (15, 3, 3) := ⟨(RX4, TX4, 10), rfl, by decide, (mm1 (List.mem_of_getElem? (i := 108) rfl))⟩
theorem mf_4_46 : mFldOk 4 (46, 3, 4) := ⟨(RX4, TX4, 10), rfl, by decide, (mm1 (List.mem_of_getElem? (i := 109) rfl))⟩
theorem mf_4_49 : mFldOk 4 (49, 3, 5) := ⟨(RX4, TX4, 10), rfl, by decide, (mm1 (List.mem_of_getElem? (i := 111) rfl))⟩
theorem mf_4_52 : mFldOk 4 (52, 3, 6) := ⟨(RX4, TX4, 10), rfl, by decide, (mm1 (List.mem_of_getElem? (i := 113) rfl))⟩
theorem mf_4_55 : mFldOk 4 (55, 3, 7) := ⟨(RX4, TX4, 10), rfl, by decide, (mm1 (List.mem_of_getElem? (i := 115) rfl))⟩
theorem mf_4_58 : mFldOk 4 (58, 3, 8) := ⟨(RX4, TX4, 10), rfl, by decide, (mm1 (List.mem_of_getElem? (i := 117) rfl))⟩
theorem mf_4_61 : mFldOk 4 (61, 3, 9) := ⟨(RX4, TX4, 10), rfl, by decide, (mm1 (List.mem_of_getElem? (i := 119) rfl))⟩
theorem mFld_ok_4 : ∀ q ∈ mFldT 4, mFldOk 4 q := List.forall_mem_cons.mpr ⟨mf_4_18, List.forall_mem_cons.mpr ⟨mf_4_19, List.forall_mem_cons.mpr ⟨mf_4_9, List.forall_mem_cons.mpr ⟨mf_4_29, List.forall_mem_cons.mpr ⟨mf_4_30, List.forall_mem_cons.mpr ⟨mf_4_15, List.forall_mem_cons.mpr ⟨mf_4_46, List.forall_mem_cons.mpr ⟨mf_4_49, List.forall_mem_cons.mpr ⟨mf_4_52, List.forall_mem_cons.mpr ⟨mf_4_55, List.forall_mem_cons.mpr ⟨mf_4_58, List.forall_mem_cons.mpr ⟨mf_4_61, fun _ h => absurd h List.not_mem_nil⟩⟩⟩⟩⟩⟩⟩⟩⟩⟩⟩⟩
theorem mf_5_15 : mFldOk 5 (15, 4, 0) := ⟨(RX5, TX5, 5), rfl, by decide, (mm1 (List.mem_of_getElem? (i := 204) rfl))⟩
theorem mf_5_18 : mFldOk 5 (18, 4, 1) := ⟨(RX5, TX5, 5), rfl, by decide, (mm1 (List.mem_of_getElem? (i := 206) rfl))⟩
theorem mf_5_21 : mFldOk 5 (21, 4, 2) := ⟨(RX5, TX5, 5), rfl, by decide, (mm1 (List.mem_of_getElem? (i := 208) rfl))⟩
theorem mf_5_24 : mFldOk 5 (24, 4, 3) := ⟨(RX5, TX5, 5), rfl, by decide, (mm1 (List.mem_of_getElem? (i := 210) rfl))⟩
theorem mf_5_9 : mFldOk 5 (9, 4, 4) := ⟨(RX5, TX5, 5), rfl, by decide, (mm1 (List.mem_of_getElem? (i := 212) rfl))⟩
theorem mFld_ok_5 : ∀ q ∈ mFldT 5, mFldOk 5 q := List.forall_mem_cons.mpr ⟨mf_5_15, List.forall_mem_cons.mpr ⟨mf_5_18, List.forall_mem_cons.mpr ⟨mf_5_21, List.forall_mem_cons.mpr ⟨mf_5_24, List.forall_mem_cons.mpr ⟨mf_5_9, fun _ h => absurd h List.not_mem_nil⟩⟩⟩⟩⟩
theorem mf_6_11 : mFldOk 6 (11, 5, 0) := ⟨(RX6, TX6, 5), rfl, by decide, (mm1 (List.mem_of_getElem? (i := 31) rfl))⟩
theorem mf_6_15 : mFldOk 6 (15, 5, 1) := ⟨(RX6, TX6, 5), rfl, by decide, (mm1 (List.mem_of_getElem? (i := 33) rfl))⟩
theorem mf_6_18 : mFldOk 6 (18, 5, 2) := ⟨(RX6, TX6, 5), rfl, by decide, (mm1 (List.mem_of_getElem? (i := 34) rfl))⟩
theorem mf_6_25 : mFldOk 6 (25, 5, 3) := ⟨(RX6, TX6, 5), rfl, by decide, (mm1 (List.mem_of_getElem? (i := 36) rfl))⟩
theorem mf_6_21 : mFldOk 6 (21, 5, 4) := ⟨(RX6, TX6, 5), rfl, by decide, (mm1 (List.mem_of_getElem? (i := 38) rfl))⟩
theorem mFld_ok_6 : ∀ q ∈ mFldT 6, mFldOk 6 q := List.forall_mem_cons.mpr ⟨mf_6_11, List.forall_mem_cons.mpr ⟨mf_6_15, List.forall_mem_cons.mpr ⟨mf_6_18, List.forall_mem_cons.mpr ⟨mf_6_25, List.forall_mem_cons.mpr ⟨mf_6_21, fun _ h => absurd h List.not_mem_nil⟩⟩⟩⟩⟩
theorem mf_7_9 : mFldOk 7 (9, 6, 0) := ⟨(RX7, TX7, 4), rfl, by decide, (mm2 (List.mem_of_getElem? (i := 6) rfl))⟩
theorem mf_7_13 : mFldOk 7 (13, 6, 1) := ⟨(RX7, TX7, 4), rfl, by decide, (mm2 (List.mem_of_getElem? (i := 8) rfl))⟩
theorem mf_7_20 : mFldOk 7 (20, 6, 2) := ⟨(RX7, TX7, 4), rfl, by decide, (mm2 (List.mem_of_getElem? (i := 11) rfl))⟩
theorem mf_7_17 : mFldOk 7 (17, 6, 3) := ⟨(RX7, TX7, 4), rfl, by decide, (mm2 (List.mem_of_getElem? (i := 12) rfl))⟩
theorem mFld_ok_7 : ∀ q ∈ mFldT 7, mFldOk 7 q := List.forall_mem_cons.mpr ⟨mf_7_9, List.forall_mem_cons.mpr ⟨mf_7_13, List.forall_mem_cons.mpr ⟨mf_7_20, List.forall_mem_cons.mpr ⟨mf_7_17, fun _ h => absurd h List.not_mem_nil⟩⟩⟩⟩
theorem mf_8_9 : mFldOk 8 (9, 7, 0) := ⟨(RX8, TX8, 5), rfl, by decide, (mm1 (List.mem_of_getElem? (i := 78) rfl))⟩
theorem mf_8_16 : mFldOk 8 (16, 7, 1) := ⟨(RX8, TX8, 5), rfl, by decide, (mm1 (List.mem_of_getElem? (i := 79) rfl))⟩
theorem mf_8_13 : mFldOk 8 (13, 7, 2) := ⟨(RX8, TX8, 5), rfl, by decide, (mm1 (List.mem_of_getElem? (i := 81) rfl))⟩
theorem mf_8_23 : mFldOk 8 (23, 7, 3) := ⟨(RX8, TX8, 5), rfl, by decide, (mm1 (List.mem_of_getElem? (i := 84) rfl))⟩
theorem mf_8_20 : mFldOk 8 (20, 7, 4) := ⟨(RX8, TX8, 5), rfl, by decide, (mm1 (List.mem_of_getElem? (i := 85) rfl))⟩
theorem mFld_ok_8 : ∀ q ∈ mFldT 8, mFldOk 8 q := List.forall_mem_cons.mpr ⟨mf_8_9, List.forall_mem_cons.mpr ⟨mf_8_16, List.forall_mem_cons.mpr ⟨mf_8_13, List.forall_mem_cons.mpr ⟨mf_8_23, List.forall_mem_cons.mpr ⟨mf_8_20, fun _ h => absurd h List.not_mem_nil⟩⟩⟩⟩⟩
theorem mf_9_11 : mFldOk 9 (11, 8, 0) := ⟨(RX9, TX9, 3), rfl, by decide, (mm1 (List.mem_of_getElem? (i := 58) rfl))⟩
theorem mf_9_15 : mFldOk 9 (15, 8, 1) := ⟨(RX9, TX9, 3), rfl, by decide, (mm1 (List.mem_of_getElem? (i := 60) rfl))⟩
theorem mf_9_18 : mFldOk 9 (18, 8, 2) := ⟨(RX9, TX9, 3), rfl, by decide, (mm1 (List.mem_of_getElem? (i := 62) rfl))⟩
theorem mFld_ok_9 : ∀ q ∈ mFldT 9, mFldOk 9 q := List.forall_mem_cons.mpr ⟨mf_9_11, List.forall_mem_cons.mpr ⟨mf_9_15, List.forall_mem_cons.mpr ⟨mf_9_18, fun _ h => absurd h List.not_mem_nil⟩⟩⟩
theorem mf_10_404 : mFldOk 10 (404, 5, 0) := ⟨(RX6, TX6, 5), rfl, by decide, (mm1 (List.mem_of_getElem? (i := 32) rfl))⟩
theorem mf_10_184 : mFldOk 10 (184, 5, 2) := ⟨(RX6, TX6, 5), rfl, by decide, (mm1 (List.mem_of_getElem? (i := 35) rfl))⟩
theorem mf_10_216 : mFldOk 10 (216, 5, 3) := ⟨(RX6, TX6, 5), rfl, by decide, (mm1 (List.mem_of_getElem? (i := 37) rfl))⟩
theorem mf_10_258 : mFldOk 10 (258, 5, 4) := ⟨(RX6, TX6, 5), rfl, by decide, (mm1 (List.mem_of_getElem? (i := 39) rfl))⟩
theorem mf_10_300 : mFldOk 10 (300, 8, 0) := ⟨(RX9, TX9, 3), rfl, by decide, (mm1 (List.mem_of_getElem? (i := 59) rfl))⟩
theorem mf_10_401 : mFldOk 10 (401, 8, 1) := ⟨(RX9, TX9, 3), rfl, by decide, (mm1 (List.mem_of_getElem? (i := 61) rfl))⟩
theorem mf_10_215 : mFldOk 10 (215, 8, 2) := ⟨(RX9, TX9, 3), rfl, by decide, (mm1 (List.mem_of_getElem? (i := 64) rfl))⟩
theorem mf_10_156 : mFldOk 10 (156, 7, 1) := ⟨(RX8, TX8, 5), rfl, by decide, (mm1 (List.mem_of_getElem? (i := 80) rfl))⟩
theorem mf_10_157 : mFldOk 10 (157, 7, 4) := ⟨(RX8, TX8, 5), rfl, by decide, (mm1 (List.mem_of_getElem? (i := 86) rfl))⟩
theorem mf_10_428 : mFldOk 10 (428, 3, 2) := ⟨(RX4, TX4, 10), rfl, by decide, (mm1 (List.mem_of_getElem? (i := 107) rfl))⟩
theorem mf_10_407 : mFldOk 10 (407, 3, 4) := ⟨(RX4, TX4, 10), rfl, by decide, (mm1 (List.mem_of_getElem? (i := 110) rfl))⟩
theorem mf_10_410 : mFldOk 10 (410, 3, 5) := ⟨(RX4, TX4, 10), rfl, by decide, (mm1 (List.mem_of_getElem? (i := 112) rfl))⟩
theorem mf_10_413 : mFldOk 10 (413, 3, 6) := ⟨(RX4, TX4, 10), rfl, by decide, (mm1 (List.mem_of_getElem? (i := 114) rfl))⟩
theorem mf_10_421 : mFldOk 10 (421, 3, 7) := ⟨(RX4, TX4, 10), rfl, by decide, (mm1 (List.mem_of_getElem? (i := 116) rfl))⟩
theorem mf_10_424 : mFldOk 10 (424, 3, 8) := ⟨(RX4, TX4, 10), rfl, by decide, (mm1 (List.mem_of_getElem? (i := 118) rfl))⟩
theorem mf_10_425 : mFldOk 10 (425, 3, 9) := ⟨(RX4, TX4, 10), rfl, by decide, (mm1 (List.mem_of_getElem? (i := 120) rfl))⟩
theorem mf_10_327 : mFldOk 10 (327, 1, 0) := ⟨(RX1, TX1, 6), rfl, by decide, (mm1 (List.mem_of_getElem? (i := 151) rfl))⟩
theorem mf_10_330 : mFldOk 10 (330, 1, 1) := ⟨(RX1, TX1, 6), rfl, by decide, (mm1 (List.mem_of_getElem? (i := 153) rfl))⟩
theorem mf_10_333 : mFldOk 10 (333, 1, 2) := ⟨(RX1, TX1, 6), rfl, by decide, (mm1 (List.mem_of_getElem? (i := 155) rfl))⟩
theorem mf_10_339 : mFldOk 10 (339, 1, 3) := ⟨(RX1, TX1, 6), rfl, by decide, (mm1 (List.mem_of_getElem? (i := 157) rfl))⟩
theorem mf_10_324 : mFldOk 10 (324, 1, 4) := ⟨(RX1, TX1, 6), rfl, by decide, (mm1 (List.mem_of_getElem? (i := 159) rfl))⟩
theorem mf_10_336 : mFldOk 10 (336, 1, 5) := ⟨(RX1, TX1, 6), rfl, by decide, (mm1 (List.mem_of_getElem? (i := 161) rfl))⟩
theorem mf_10_348 : mFldOk 10 (348, 2, 0) := ⟨(RX3, TX3, 4), rfl, by decide, (mm1 (List.mem_of_getElem? (i := 182) rfl))⟩
theorem mf_10_355 : mFldOk 10 (355, 2, 1) := ⟨(RX3, TX3, 4), rfl, by decide, (mm1 (List.mem_of_getElem? (i := 184) rfl))⟩
theorem mf_10_398 : mFldOk 10 (398, 2, 2) := ⟨(RX3, TX3, 4), rfl, by decide, (mm1 (List.mem_of_getElem? (i := 186) rfl))⟩
theorem mf_10_344 : mFldOk 10 (344, 2, 3) := ⟨(RX3, TX3, 4), rfl, by decide, (mm1 (List.mem_of_getElem? (i := 188) rfl))⟩
theorem mf_10_282 : mFldOk 10 (282, 4, 0) := ⟨(RX5, TX5, 5), rfl, by decide, (mm1 (List.mem_of_getElem? (i := 205) rfl))⟩
theorem mf_10_297 : mFldOk 10 (297, 4, 1) := ⟨(RX5, TX5, 5), rfl, by decide, (mm1 (List.mem_of_getElem? (i := 207) rfl))⟩
theorem mf_10_303 : mFldOk 10 (303, 4, 2) := ⟨(RX5, TX5, 5), rfl, by decide, (mm1 (List.mem_of_getElem? (i := 209) rfl))⟩
theorem mf_10_285 : mFldOk 10 (285, 4, 3) := ⟨(RX5, TX5, 5), rfl, by decide, (mm1 (List.mem_of_getElem? (i := 211) rfl))⟩
theorem mf_10_291 : mFldOk 10 (291, 4, 4) := ⟨(RX5, TX5, 5), rfl, by decide, (mm1 (List.mem_of_getElem? (i := 213) rfl))⟩
theorem mf_10_117 : mFldOk 10 (117, 6, 0) := ⟨(RX7, TX7, 4), rfl, by decide, (mm2 (List.mem_of_getElem? (i := 7) rfl))⟩
theorem mf_10_380 : mFldOk 10 (380, 6, 1) := ⟨(RX7, TX7, 4), rfl, by decide, (mm2 (List.mem_of_getElem? (i := 9) rfl))⟩
theorem mf_10_109 : mFldOk 10 (109, 6, 2) := ⟨(RX7, TX7, 4), rfl, by decide, (mm2 (List.mem_of_getElem? (i := 10) rfl))⟩
theorem mf_10_392 : mFldOk 10 (392, 6, 3) := ⟨(RX7, TX7, 4), rfl, by decide, (mm2 (List.mem_of_getElem? (i := 13) rfl))⟩
theorem mf_10_10 : mFldOk 10 (10, 9, 0) := ⟨(RX10, TX10, 16), rfl, by decide, (mm2 (List.mem_of_getElem? (i := 24) rfl))⟩
theorem mf_10_16 : mFldOk 10 (16, 9, 1) := ⟨(RX10, TX10, 16), rfl, by decide, (mm2 (List.mem_of_getElem? (i := 25) rfl))⟩
theorem mf_10_22 : mFldOk 10 (22, 9, 2) := ⟨(RX10, TX10, 16), rfl, by decide, (mm2 (List.mem_of_getElem? (i := 26) rfl))⟩
theorem mf_10_29 : mFldOk 10 (29, 9, 3) := ⟨(RX10, TX10, 16), rfl, by decide, (mm2 (List.mem_of_getElem? (i := 27) rfl))⟩
theorem mf_10_36 : mFldOk 10 (36, 9, 4) := ⟨(RX10, TX10, 16), rfl, by decide, (mm2 (List.mem_of_getElem? (i := 28) rfl))⟩
theorem mf_10_42 : mFldOk 10 (42, 9, 5) := ⟨(RX10, TX10, 16), rfl, by decide, (mm2 (List.mem_of_getElem? (i := 29) rfl))⟩
theorem mf_10_49 : mFldOk 10 (49, 9, 6) := ⟨(RX10, TX10, 16), rfl, by decide, (mm2 (List.mem_of_getElem? (i := 30) rfl))⟩
theorem mf_10_56 : mFldOk 10 (56, 9, 7) := ⟨(RX10, TX10, 16), rfl, by decide, (mm2 (List.mem_of_getElem? (i := 31) rfl))⟩
theorem mf_10_63 : mFldOk 10 (63, 9, 8) := ⟨(RX10, TX10, 16), rfl, by decide, (mm2 (List.mem_of_getElem? (i := 32) rfl))⟩
theorem mf_10_70 : mFldOk 10 (70, 9, 9) := ⟨(RX10, TX10, 16), rfl, by decide, (mm2 (List.mem_of_getElem? (i := 33) rfl))⟩
theorem mf_10_74 : mFldOk 10 (74, 9, 10) := ⟨(RX10, TX10, 16), rfl, by decide, (mm2 (List.mem_of_getElem? (i := 34) rfl))⟩
theorem mf_10_78 : mFldOk 10 (78, 9, 11) := ⟨(RX10, TX10, 16), rfl, by decide, (mm2 (List.mem_of_getElem? (i := 35) rfl))⟩
theorem mf_10_81 : mFldOk 10 (81, 9, 12) := ⟨(RX10, TX10, 16), rfl, by decide, (mm2 (List.mem_of_getElem? (i := 36) rfl))⟩
theorem mf_10_84 : mFldOk 10 (84, 9, 13) := ⟨(RX10, TX10, 16), rfl, by decide, (mm2 (List.mem_of_getElem? (i := 37) rfl))⟩
theorem mf_10_87 : mFldOk 10 (87, 9, 14) := ⟨(RX10, TX10, 16), rfl, by decide, (mm2 (List.mem_of_getElem? (i := 38) rfl))⟩
theorem mf_10_315 : mFldOk 10 (315, 9, 15) := ⟨(RX10, TX10, 16), rfl, by decide, (mm2 (List.mem_of_getElem? (i := 39) rfl))⟩
theorem mFld_ok_10 : ∀ q ∈ mFldT 10, mFldOk 10 q := List.forall_mem_cons.mpr ⟨mf_10_404, List.forall_mem_cons.mpr ⟨mf_10_184, List.forall_mem_cons.mpr ⟨mf_10_216, List.forall_mem_cons.mpr ⟨mf_10_258, List.forall_mem_cons.mpr ⟨mf_10_300, List.forall_mem_cons.mpr ⟨mf_10_401, List.forall_mem_cons.mpr ⟨mf_10_215, List.forall_mem_cons.mpr ⟨mf_10_156, List.forall_mem_cons.mpr ⟨mf_10_157, List.forall_mem_cons.mpr ⟨mf_10_428, List.forall_mem_cons.mpr ⟨mf_10_407, List.forall_mem_cons.mpr ⟨mf_10_410, List.forall_mem_cons.mpr ⟨mf_10_413, List.forall_mem_cons.mpr ⟨mf_10_421, List.forall_mem_cons.mpr ⟨mf_10_424, List.forall_mem_cons.mpr ⟨mf_10_425, List.forall_mem_cons.mpr ⟨mf_10_327, List.forall_mem_cons.mpr ⟨mf_10_330, List.forall_mem_cons.mpr ⟨mf_10_333, List.forall_mem_cons.mpr ⟨mf_10_339, List.forall_mem_cons.mpr ⟨mf_10_324, List.forall_mem_cons.mpr ⟨mf_10_336, List.forall_mem_cons.mpr ⟨mf_10_348, List.forall_mem_cons.mpr ⟨mf_10_355, List.forall_mem_cons.mpr ⟨mf_10_398, List.forall_mem_cons.mpr ⟨mf_10_344, List.forall_mem_cons.mpr ⟨mf_10_282, List.forall_mem_cons.mpr ⟨mf_10_297, List.forall_mem_cons.mpr ⟨mf_10_303, List.forall_mem_cons.mpr ⟨mf_10_285, List.forall_mem_cons.mpr ⟨mf_10_291, List.forall_mem_cons.mpr ⟨mf_10_117, List.forall_mem_cons.mpr ⟨mf_10_380, List.forall_mem_cons.mpr ⟨mf_10_109, List.forall_mem_cons.mpr ⟨mf_10_392, List.forall_mem_cons.mpr ⟨mf_10_10, List.forall_mem_cons.mpr ⟨mf_10_16, List.forall_mem_cons.mpr ⟨mf_10_22, List.forall_mem_cons.mpr ⟨mf_10_29, List.forall_mem_cons.mpr ⟨mf_10_36, List.forall_mem_cons.mpr ⟨mf_10_42, List.forall_mem_cons.mpr ⟨mf_10_49, List.forall_mem_cons.mpr ⟨mf_10_56, List.forall_mem_cons.mpr ⟨mf_10_63, List.forall_mem_cons.mpr ⟨mf_10_70, List.forall_mem_cons.mpr ⟨mf_10_74, List.forall_mem_cons.mpr ⟨mf_10_78, List.forall_mem_cons.mpr ⟨mf_10_81, List.forall_mem_cons.mpr ⟨mf_10_84, List.forall_mem_cons.mpr ⟨mf_10_87, List.forall_mem_cons.mpr ⟨mf_10_315, fun _ h => absurd h List.not_mem_nil⟩⟩⟩⟩⟩⟩⟩⟩⟩⟩⟩⟩⟩⟩⟩⟩⟩⟩⟩⟩⟩⟩⟩⟩⟩⟩⟩⟩⟩⟩⟩⟩⟩⟩⟩⟩⟩⟩⟩⟩⟩⟩⟩⟩⟩⟩⟩⟩⟩⟩⟩
theorem mf_11_9 : mFldOk 11 (9, 10, 0) := ⟨(RX11, TX11, 43), rfl, by decide, (mm4 (List.mem_of_getElem? (i := 189) rfl))⟩
theorem mf_11_13 : mFldOk 11 (13, 10, 1) := ⟨(RX11, TX11, 43), rfl, by decide, (mm4 (List.mem_of_getElem? (i := 190) rfl))⟩
theorem mf_11_16 : mFldOk 11 (16, 10, 2) := ⟨(RX11, TX11, 43), rfl, by decide, (mm4 (List.mem_of_getElem? (i := 191) rfl))⟩
theorem mf_11_19 : mFldOk 11 (19, 10, 3) := ⟨(RX11, TX11, 43), rfl, by decide, (mm4 (List.mem_of_getElem? (i := 192) rfl))⟩
theorem mf_11_87 : mFldOk 11 (87, 10, 4) := ⟨(RX11, TX11, 43), rfl, by decide, (mm4 (List.mem_of_getElem? (i := 193) rfl))⟩
theorem mf_11_84 : mFldOk 11 (84, 10, 5) := ⟨(RX11, TX11, 43), rfl, by decide, (mm4 (List.mem_of_getElem? (i := 194) rfl))⟩
theorem mf_11_90 : mFldOk 11 (90, 10, 6) := ⟨(RX11, TX11, 43), rfl, by decide, (mm4 (List.mem_of_getElem? (i := 195) rfl))⟩
theorem mf_11_97 : mFldOk 11 (97, 10, 7) := ⟨(RX11, TX11, 43), rfl, by decide, (mm4 (List.mem_of_getElem? (i := 196) rfl))⟩
theorem mf_11_22 : mFldOk 11 (22, 10, 8) := ⟨(RX11, TX11, 43), rfl, by decide, (mm4 (List.mem_of_getElem? (i := 197) rfl))⟩
theorem mf_11_142 : mFldOk 11 (142, 10, 9) := ⟨(RX11, TX11, 43), rfl, by decide, (mm4 (List.mem_of_getElem? (i := 198) rfl))⟩
theorem mf_11_25 : mFldOk 11 (25, 10, 10) := ⟨(RX11, TX11, 43), rfl, by decide, (mm4 (List.mem_of_getElem? (i := 199) rfl))⟩
theorem mf_11_81 : mFldOk 11 (81, 10, 11) := ⟨(RX11, TX11, 43), rfl, by decide, (mm4 (List.mem_of_getElem? (i := 200) rfl))⟩
theorem mf_11_151 : mFldOk 11 (151, 10, 12) := ⟨(RX11, TX11, 43), rfl, by decide, (mm4 (List.mem_of_getElem? (i := 201) rfl))⟩
theorem mf_11_145 : mFldOk 11 (145, 10, 13) := ⟨(RX11, TX11, 43), rfl, by decide, (mm4 (List.mem_of_getElem? (i := 202) rfl))⟩
theorem mf_11_148 : mFldOk 11 (148, 10, 14) := ⟨(RX11, TX11, 43), rfl, by decide, (mm4 (List.mem_of_getElem? (i := 203) rfl))⟩
theorem mf_11_154 : mFldOk 11 (154, 10, 15) := ⟨(RX11, TX11, 43), rfl, by decide, (mm4 (List.mem_of_getElem? (i := 204) rfl))⟩
theorem mf_11_179 : mFldOk 11 (179, 10, 16) := ⟨(RX11, TX11, 43), rfl, by decide, (mm4 (List.mem_of_getElem? (i := 205) rfl))⟩
theorem mf_11_28 : mFldOk 11 (28, 10, 17) := ⟨(RX11, TX11, 43), rfl, by decide, (mm4 (List.mem_of_getElem? (i := 206) rfl))⟩
theorem mf_11_31 : mFldOk 11 (31, 10, 18) := ⟨(RX11, TX11, 43), rfl, by decide, (mm4 (List.mem_of_getElem? (i := 207) rfl))⟩
theorem mf_11_34 : mFldOk 11 (34, 10, 19) := ⟨(RX11, TX11, 43), rfl, by decide, (mm4 (List.mem_of_getElem? (i := 208) rfl))⟩
theorem mf_11_195 : mFldOk 11 (195, 10, 20) := ⟨(RX11, TX11, 43), rfl, by decide, (mm4 (List.mem_of_getElem? (i := 209) rfl))⟩
theorem mf_11_37 : mFldOk 11 (37, 10, 21) := ⟨(RX11, TX11, 43), rfl, by decide, (mm4 (List.mem_of_getElem? (i := 210) rfl))⟩
theorem mf_11_40 : mFldOk 11 (40, 10, 22) := ⟨(RX11, TX11, 43), rfl, by decide, (mm4 (List.mem_of_getElem? (i := 211) rfl))⟩
theorem mf_11_43 : mFldOk 11 (43, 10, 23) := ⟨(RX11, TX11, 43), rfl, by decide, (mm4 (List.mem_of_getElem? (i := 212) rfl))⟩
theorem mf_11_46 : mFldOk 11 (46, 10, 24) := ⟨(RX11, TX11, 43), rfl, by decide, (mm4 (List.mem_of_getElem? (i := 213) rfl))⟩
theorem mf_11_49 : mFldOk 11 (49, 10, 25) := ⟨(RX11, TX11, 43), rfl, by decide, (mm4 (List.mem_of_getElem? (i := 214) rfl))⟩
theorem mf_11_53 : mFldOk 11 (53, 10, 26) := ⟨(RX11, TX11, 43), rfl, by decide, (mm4 (List.mem_of_getElem? (i := 215) rfl))⟩
theorem mf_11_269 : mFldOk 11 (269, 10, 27) := ⟨(RX11, TX11, 43), rfl, by decide, (mm4 (List.mem_of_getElem? (i := 216) rfl))⟩
theorem mf_11_273 : mFldOk 11 (273, 10, 28) := ⟨(RX11, TX11, 43), rfl, by decide, (mm4 (List.mem_of_getElem? (i := 217) rfl))⟩
theorem mf_11_276 : mFldOk 11 (276, 10, 29) := ⟨(RX11, TX11, 43), rfl, by decide, (mm4 (List.mem_of_getElem? (i := 218) rfl))⟩
theorem mf_11_279 : mFldOk 11 (279, 10, 30) := ⟨(RX11, TX11, 43), rfl, by decide, (mm4 (List.mem_of_getElem? (i := 219) rfl))⟩
theorem mf_11_56 : mFldOk 11 (56, 10, 31) := ⟨(RX11, TX11, 43), rfl, by decide, (mm4 (List.mem_of_getElem? (i := 220) rfl))⟩
theorem mf_11_59 : mFldOk 11 (59, 10, 32) := ⟨(RX11, TX11, 43), rfl, by decide, (mm4 (List.mem_of_getElem? (i := 221) rfl))⟩
theorem mf_11_282 : mFldOk 11 (282, 10, 33) := ⟨(RX11, TX11, 43), rfl, by decide, (mm4 (List.mem_of_getElem? (i := 222) rfl))⟩
theorem mf_11_62 : mFldOk 11 (62, 10, 34) := ⟨(RX11, TX11, 43), rfl, by decide, (mm4 (List.mem_of_getElem? (i := 223) rfl))⟩
theorem mf_11_65 : mFldOk 11 (65, 10, 35) := ⟨(RX11, TX11, 43), rfl, by decide, (mm4 (List.mem_of_getElem? (i := 224) rfl))⟩
theorem mf_11_287 : mFldOk 11 (287, 10, 36) := ⟨(RX11, TX11, 43), rfl, by decide, (mm4 (List.mem_of_getElem? (i := 225) rfl))⟩
theorem mf_11_303 : mFldOk 11 (303, 10, 37) := ⟨(RX11, TX11, 43), rfl, by decide, (mm4 (List.mem_of_getElem? (i := 226) rfl))⟩
theorem mf_11_297 : mFldOk 11 (297, 10, 38) := ⟨(RX11, TX11, 43), rfl, by decide, (mm4 (List.mem_of_getElem? (i := 227) rfl))⟩
theorem mf_11_68 : mFldOk 11 (68, 10, 39) := ⟨(RX11, TX11, 43), rfl, by decide, (mm4 (List.mem_of_getElem? (i := 228) rfl))⟩
theorem mf_11_71 : mFldOk 11 (71, 10, 40) := ⟨(RX11, TX11, 43), rfl, by decide, (mm4 (List.mem_of_getElem? (i := 229) rfl))⟩
theorem mf_11_74 : mFldOk 11 (74, 10, 41) := ⟨(RX11, TX11, 43), rfl, by decide, (mm4 (List.mem_of_getElem? (i := 230) rfl))⟩
theorem mf_11_78 : mFldOk 11 (78, 10, 42) := ⟨(RX11, TX11, 43), rfl, by decide, (mm4 (List.mem_of_getElem? (i := 231) rfl))⟩
theorem mFld_ok_11 : ∀ q ∈ mFldT 11, mFldOk 11 q := List.forall_mem_cons.mpr ⟨mf_11_9, List.forall_mem_cons.mpr ⟨mf_11_13, List.forall_mem_cons.mpr ⟨mf_11_16, List.forall_mem_cons.mpr ⟨mf_11_19, List.forall_mem_cons.mpr ⟨mf_11_87, List.forall_mem_cons.mpr ⟨mf_11_84, List.forall_mem_cons.mpr ⟨mf_11_90, List.forall_mem_cons.mpr ⟨mf_11_97, List.forall_mem_cons.mpr ⟨mf_11_22, List.forall_mem_cons.mpr ⟨mf_11_142, List.forall_mem_cons.mpr ⟨mf_11_25, List.forall_mem_cons.mpr ⟨mf_11_81, List.forall_mem_cons.mpr ⟨mf_11_151, List.forall_mem_cons.mpr ⟨mf_11_145, List.forall_mem_cons.mpr ⟨mf_11_148, List.forall_mem_cons.mpr ⟨mf_11_154, List.forall_mem_cons.mpr ⟨mf_11_179, List.forall_mem_cons.mpr ⟨mf_11_28, List.forall_mem_cons.mpr ⟨mf_11_31, List.forall_mem_cons.mpr ⟨mf_11_34, List.forall_mem_cons.mpr ⟨mf_11_195, List.forall_mem_cons.mpr ⟨mf_11_37, List.forall_mem_cons.mpr ⟨mf_11_40, List.forall_mem_cons.mpr ⟨mf_11_43, List.forall_mem_cons.mpr ⟨mf_11_46, List.forall_mem_cons.mpr ⟨mf_11_49, List.forall_mem_cons.mpr ⟨mf_11_53, List.forall_mem_cons.mpr ⟨mf_11_269, List.forall_mem_cons.mpr ⟨mf_11_273, List.forall_mem_cons.mpr ⟨mf_11_276, List.forall_mem_cons.mpr ⟨mf_11_279, List.forall_mem_cons.mpr ⟨mf_11_56, List.forall_mem_cons.mpr ⟨mf_11_59, List.forall_mem_cons.mpr ⟨mf_11_282, List.forall_mem_cons.mpr ⟨mf_11_62, List.forall_mem_cons.mpr ⟨mf_11_65, List.forall_mem_cons.mpr ⟨mf_11_287, List.forall_mem_cons.mpr ⟨mf_11_303, List.forall_mem_cons.mpr ⟨mf_11_297, List.forall_mem_cons.mpr ⟨mf_11_68, List.forall_mem_cons.mpr ⟨mf_11_71, List.forall_mem_cons.mpr ⟨mf_11_74, List.forall_mem_cons.mpr ⟨mf_11_78, fun _ h => absurd h List.not_mem_nil⟩⟩⟩⟩⟩⟩⟩⟩⟩⟩⟩⟩⟩⟩⟩⟩⟩⟩⟩⟩⟩⟩⟩⟩⟩⟩⟩⟩⟩⟩⟩⟩⟩⟩⟩⟩⟩⟩⟩⟩⟩⟩⟩
theorem mFld_ok {o i : Nat} {v : Nat × Nat} (h : mLook (mFldT o) i = some v) : mFldOk o (i, v) := by
  have h := mLook_mem h
  match o, h with
  | 0, h => exact mFld_ok_0 _ h
  | 1, h => exact mFld_ok_1 _ h
  | 2, h => exact absurd h List.not_mem_nil
  | 3, h => exact mFld_ok_3 _ h
  | 4, h => exact mFld_ok_4 _ h
  | 5, h => exact mFld_ok_5 _ h
  | 6, h => exact mFld_ok_6 _ h
  | 7, h => exact mFld_ok_7 _ h
  | 8, h => exact mFld_ok_8 _ h
  | 9, h => exact mFld_ok_9 _ h
  | 10, h => exact mFld_ok_10 _ h
  | 11, h => exact mFld_ok_11 _ h
  | 12, h => exact absurd h List.not_mem_nil
  | 13, h => exact absurd h List.not_mem_nil
  | 14, h => exact absurd h List.not_mem_nil
  | 15, h => exact absurd h List.not_mem_nil
  | _ + 16, h => exact absurd h List.not_mem_nil
theorem mlay_0_0 : u_lay RX0 TX0 0 ∈ lw_tbl := (mm1 (List.mem_of_getElem? (i := 234) rfl))
theorem mlay_0_1 : u_lay RX0 TX0 1 ∈ lw_tbl := (mm1 (List.mem_of_getElem? (i := 236) rfl))
theorem mlay_0_2 : u_lay RX0 TX0 2 ∈ lw_tbl := (mm1 (List.mem_of_getElem? (i := 238) rfl))
theorem mIn_0 : ∀ w ∈ u_ws RX0 TX0 3, w ∈ lw_tbl := by
  show ∀ w ∈ [u_lay RX0 TX0 0, u_lay RX0 TX0 1, u_lay RX0 TX0 2], w ∈ lw_tbl
  exact List.forall_mem_cons.mpr ⟨mlay_0_0, List.forall_mem_cons.mpr ⟨mlay_0_1, List.forall_mem_cons.mpr ⟨mlay_0_2, fun _ h => absurd h List.not_mem_nil⟩⟩⟩
theorem mlay_1_0 : u_lay RX1 TX1 0 ∈ lw_tbl := (mm1 (List.mem_of_getElem? (i := 162) rfl))
theorem mlay_1_1 : u_lay RX1 TX1 1 ∈ lw_tbl := (mm1 (List.mem_of_getElem? (i := 164) rfl))
theorem mlay_1_2 : u_lay RX1 TX1 2 ∈ lw_tbl := (mm1 (List.mem_of_getElem? (i := 166) rfl))
theorem mlay_1_3 : u_lay RX1 TX1 3 ∈ lw_tbl := (mm1 (List.mem_of_getElem? (i := 168) rfl))
theorem mlay_1_4 : u_lay RX1 TX1 4 ∈ lw_tbl := (mm1 (List.mem_of_getElem? (i := 170) rfl))
theorem mlay_1_5 : u_lay RX1 TX1 5 ∈ lw_tbl := (mm1 (List.mem_of_getElem? (i := 172) rfl))
theorem mIn_1 : ∀ w ∈ u_ws RX1 TX1 6, w ∈ lw_tbl := by
  show ∀ w ∈ [u_lay RX1 TX1 0, u_lay RX1 TX1 1, u_lay RX1 TX1 2, u_lay RX1 TX1 3, u_lay RX1 TX1 4, u_lay RX1 TX1 5], w ∈ lw_tbl
  exact List.forall_mem_cons.mpr ⟨mlay_1_0, List.forall_mem_cons.mpr ⟨mlay_1_1, List.forall_mem_cons.mpr ⟨mlay_1_2, List.forall_mem_cons.mpr ⟨mlay_1_3, List.forall_mem_cons.mpr ⟨mlay_1_4, List.forall_mem_cons.mpr ⟨mlay_1_5, fun _ h => absurd h List.not_mem_nil⟩⟩⟩⟩⟩⟩
theorem mlay_2_0 : u_lay RX3 TX3 0 ∈ lw_tbl := (mm1 (List.mem_of_getElem? (i := 189) rfl))
theorem mlay_2_1 : u_lay RX3 TX3 1 ∈ lw_tbl := (mm1 (List.mem_of_getElem? (i := 191) rfl))
theorem mlay_2_2 : u_lay RX3 TX3 2 ∈ lw_tbl := (mm1 (List.mem_of_getElem? (i := 193) rfl))
theorem mlay_2_3 : u_lay RX3 TX3 3 ∈ lw_tbl := (mm1 (List.mem_of_getElem? (i := 195) rfl))
theorem mIn_2 : ∀ w ∈ u_ws RX3 TX3 4, w ∈ lw_tbl := by
  show ∀ w ∈ [u_lay RX3 TX3 0, u_lay RX3 TX3 1, u_lay RX3 TX3 2, u_lay RX3 TX3 3], w ∈ lw_tbl
  exact List.forall_mem_cons.mpr ⟨mlay_2_0, List.forall_mem_cons.mpr ⟨mlay_2_1, List.forall_mem_cons.mpr ⟨mlay_2_2, List.forall_mem_cons.mpr ⟨mlay_2_3, fun _ h => absurd h List.not_mem_nil⟩⟩⟩⟩
theorem mlay_3_0 : u_lay RX4 TX4 0 ∈ lw_tbl := (mm1 (List.mem_of_getElem? (i := 121) rfl))
theorem mlay_3_1 : u_lay RX4 TX4 1 ∈ lw_tbl := (mm1 (List.mem_of_getElem? (i := 123) rfl))
theorem mlay_3_2 : u_lay RX4 TX4 2 ∈ lw_tbl := (mm1 (List.mem_of_getElem? (i := 125) rfl))
theorem mlay_3_3 : u_lay RX4 TX4 3 ∈ lw_tbl := (mm1 (List.mem_of_getElem? (i := 127) rfl))
theorem mlay_3_4 : u_lay RX4 TX4 4 ∈ lw_tbl := (mm1 (List.mem_of_getElem? (i := 129) rfl))
theorem mlay_3_5 : u_lay RX4 TX4 5 ∈ lw_tbl := (mm1 (List.mem_of_getElem? (i := 131) rfl))
theorem mlay_3_6 : u_lay RX4 TX4 6 ∈ lw_tbl := (mm1 (List.mem_of_getElem? (i := 133) rfl))
theorem mlay_3_7 : u_lay RX4 TX4 7 ∈ lw_tbl := (mm1 (List.mem_of_getElem? (i := 135) rfl))
theorem mlay_3_8 : u_lay RX4 TX4 8 ∈ lw_tbl := (mm1 (List.mem_of_getElem? (i := 137) rfl))
theorem mlay_3_9 : u_lay RX4 TX4 9 ∈ lw_tbl := (mm1 (List.mem_of_getElem? (i := 139) rfl))
theorem mIn_3 : ∀ w ∈ u_ws RX4 TX4 10, w ∈ lw_tbl := by
  show ∀ w ∈ [u_lay RX4 TX4 0, u_lay RX4 TX4 1, u_lay RX4 TX4 2, u_lay RX4 TX4 3, u_lay RX4 TX4 4, u_lay RX4 TX4 5, u_lay RX4 TX4 6, u_lay RX4 TX4 7, u_lay RX4 TX4 8, u_lay RX4 TX4 9], w ∈ lw_tbl
  exact List.forall_mem_cons.mpr ⟨mlay_3_0, List.forall_mem_cons.mpr ⟨mlay_3_1, List.forall_mem_cons.mpr ⟨mlay_3_2, List.forall_mem_cons.mpr ⟨mlay_3_3, List.forall_mem_cons.mpr ⟨mlay_3_4, List.forall_mem_cons.mpr ⟨mlay_3_5, List.forall_mem_cons.mpr ⟨mlay_3_6, List.forall_mem_cons.mpr ⟨mlay_3_7, List.forall_mem_cons.mpr ⟨mlay_3_8, List.forall_mem_cons.mpr ⟨mlay_3_9, fun _ h => absurd h List.not_mem_nil⟩⟩⟩⟩⟩⟩⟩⟩⟩⟩
theorem mlay_4_0 : u_lay RX5 TX5 0 ∈ lw_tbl := (mm1 (List.mem_of_getElem? (i := 214) rfl))
theorem mlay_4_1 : u_lay RX5 TX5 1 ∈ lw_tbl := (mm1 (List.mem_of_getElem? (i := 216) rfl))
theorem mlay_4_2 : u_lay RX5 TX5 2 ∈ lw_tbl := (mm1 (List.mem_of_getElem? (i := 218) rfl))
theorem mlay_4_3 : u_lay RX5 TX5 3 ∈ lw_tbl := (mm1 (List.mem_of_getElem? (i := 220) rfl))
theorem mlay_4_4 : u_lay RX5 TX5 4 ∈ lw_tbl := (mm1 (List.mem_of_getElem? (i := 222) rfl))
theorem mIn_4 : ∀ w ∈ u_ws RX5 TX5 5, w ∈ lw_tbl := by
  show ∀ w ∈ [u_lay RX5 TX5 0, u_lay RX5 TX5 1, u_lay RX5 TX5 2, u_lay RX5 TX5 3, u_lay RX5 TX5 4], w ∈ lw_tbl
  exact List.forall_mem_cons.mpr ⟨mlay_4_0, List.forall_mem_cons.mpr ⟨mlay_4_1, List.forall_mem_cons.mpr ⟨mlay_4_2, List.forall_mem_cons.mpr ⟨mlay_4_3, List.forall_mem_cons.mpr ⟨mlay_4_4, fun _ h => absurd h List.not_mem_nil⟩⟩⟩⟩⟩
theorem mlay_5_0 : u_lay RX6 TX6 0 ∈ lw_tbl := (mm1 (List.mem_of_getElem? (i := 40) rfl))
theorem mlay_5_1 : u_lay RX6 TX6 1 ∈ lw_tbl := (mm1 (List.mem_of_getElem? (i := 42) rfl))
theorem mlay_5_2 : u_lay RX6 TX6 2 ∈ lw_tbl := (mm1 (List.mem_of_getElem? (i := 44) rfl))
theorem mlay_5_3 : u_lay RX6 TX6 3 ∈ lw_tbl := (mm1 (List.mem_of_getElem? (i := 46) rfl))
theorem mlay_5_4 : u_lay RX6 TX6 4 ∈ lw_tbl := (mm1 (List.mem_of_getElem? (i := 48) rfl))
theorem mIn_5 : ∀ w ∈ u_ws RX6 TX6 5, w ∈ lw_tbl := by
  show ∀ w ∈ [u_lay RX6 TX6 0, u_lay RX6 TX6 1, u_lay RX6 TX6 2, u_lay RX6 TX6 3, u_lay RX6 TX6 4], w ∈ lw_tbl
  exact List.forall_mem_cons.mpr ⟨mlay_5_0, List.forall_mem_cons.mpr ⟨mlay_5_1, List.forall_mem_cons.mpr ⟨mlay_5_2, List.forall_mem_cons.mpr ⟨mlay_5_3, List.forall_mem_cons.mpr ⟨mlay_5_4, fun _ h => absurd h List.not_mem_nil⟩⟩⟩⟩⟩
theorem mlay_6_0 : u_lay RX7 TX7 0 ∈ lw_tbl := (mm2 (List.mem_of_getElem? (i := 14) rfl))
theorem mlay_6_1 : u_lay RX7 TX7 1 ∈ lw_tbl := (mm2 (List.mem_of_getElem? (i := 16) rfl))
theorem mlay_6_2 : u_lay RX7 TX7 2 ∈ lw_tbl := (mm2 (List.mem_of_getElem? (i := 18) rfl))
theorem mlay_6_3 : u_lay RX7 TX7 3 ∈ lw_tbl := (mm2 (List.mem_of_getElem? (i := 20) rfl))
theorem mIn_6 : ∀ w ∈ u_ws RX7 TX7 4, w ∈ lw_tbl := by
  show ∀ w ∈ [u_lay RX7 TX7 0, u_lay RX7 TX7 1, u_lay RX7 TX7 2, u_lay RX7 TX7 3], w ∈ lw_tbl
  exact List.forall_mem_cons.mpr ⟨mlay_6_0, List.forall_mem_cons.mpr ⟨mlay_6_1, List.forall_mem_cons.mpr ⟨mlay_6_2, List.forall_mem_cons.mpr ⟨mlay_6_3, fun _ h => absurd h List.not_mem_nil⟩⟩⟩⟩
theorem mlay_7_0 : u_lay RX8 TX8 0 ∈ lw_tbl := (mm1 (List.mem_of_getElem? (i := 87) rfl))
theorem mlay_7_1 : u_lay RX8 TX8 1 ∈ lw_tbl := (mm1 (List.mem_of_getElem? (i := 89) rfl))
theorem mlay_7_2 : u_lay RX8 TX8 2 ∈ lw_tbl := (mm1 (List.mem_of_getElem? (i := 91) rfl))
theorem mlay_7_3 : u_lay RX8 TX8 3 ∈ lw_tbl := (mm1 (List.mem_of_getElem? (i := 93) rfl))
theorem mlay_7_4 : u_lay RX8 TX8 4 ∈ lw_tbl := (mm1 (List.mem_of_getElem? (i := 95) rfl))
theorem mIn_7 : ∀ w ∈ u_ws RX8 TX8 5, w ∈ lw_tbl := by
  show ∀ w ∈ [u_lay RX8 TX8 0, u_lay RX8 TX8 1, u_lay RX8 TX8 2, u_lay RX8 TX8 3, u_lay RX8 TX8 4], w ∈ lw_tbl
  exact List.forall_mem_cons.mpr ⟨mlay_7_0, List.forall_mem_cons.mpr ⟨mlay_7_1, List.forall_mem_cons.mpr ⟨mlay_7_2, List.forall_mem_cons.mpr ⟨mlay_7_3, List.forall_mem_cons.mpr ⟨mlay_7_4, fun _ h => absurd h List.not_mem_nil⟩⟩⟩⟩⟩
theorem mlay_8_0 : u_lay RX9 TX9 0 ∈ lw_tbl := (mm1 (List.mem_of_getElem? (i := 65) rfl))
theorem mlay_8_1 : u_lay RX9 TX9 1 ∈ lw_tbl := (mm1 (List.mem_of_getElem? (i := 67) rfl))
theorem mlay_8_2 : u_lay RX9 TX9 2 ∈ lw_tbl := (mm1 (List.mem_of_getElem? (i := 69) rfl))
theorem mIn_8 : ∀ w ∈ u_ws RX9 TX9 3, w ∈ lw_tbl := by
  show ∀ w ∈ [u_lay RX9 TX9 0, u_lay RX9 TX9 1, u_lay RX9 TX9 2], w ∈ lw_tbl
  exact List.forall_mem_cons.mpr ⟨mlay_8_0, List.forall_mem_cons.mpr ⟨mlay_8_1, List.forall_mem_cons.mpr ⟨mlay_8_2, fun _ h => absurd h List.not_mem_nil⟩⟩⟩
theorem mlay_9_0 : u_lay RX10 TX10 0 ∈ lw_tbl := (mm2 (List.mem_of_getElem? (i := 40) rfl))
theorem mlay_9_1 : u_lay RX10 TX10 1 ∈ lw_tbl := (mm2 (List.mem_of_getElem? (i := 42) rfl))
theorem mlay_9_2 : u_lay RX10 TX10 2 ∈ lw_tbl := (mm2 (List.mem_of_getElem? (i := 44) rfl))
theorem mlay_9_3 : u_lay RX10 TX10 3 ∈ lw_tbl := (mm2 (List.mem_of_getElem? (i := 46) rfl))
theorem mlay_9_4 : u_lay RX10 TX10 4 ∈ lw_tbl := (mm2 (List.mem_of_getElem? (i := 48) rfl))
theorem mlay_9_5 : u_lay RX10 TX10 5 ∈ lw_tbl := (mm2 (List.mem_of_getElem? (i := 50) rfl))
theorem mlay_9_6 : u_lay RX10 TX10 6 ∈ lw_tbl := (mm2 (List.mem_of_getElem? (i := 52) rfl))
theorem mlay_9_7 : u_lay RX10 TX10 7 ∈ lw_tbl := (mm2 (List.mem_of_getElem? (i := 54) rfl))
theorem mlay_9_8 : u_lay RX10 TX10 8 ∈ lw_tbl := (mm2 (List.mem_of_getElem? (i := 56) rfl))
theorem mlay_9_9 : u_lay RX10 TX10 9 ∈ lw_tbl := (mm2 (List.mem_of_getElem? (i := 58) rfl))
theorem mlay_9_10 : u_lay RX10 TX10 10 ∈ lw_tbl := (mm2 (List.mem_of_getElem? (i := 60) rfl))
theorem mlay_9_11 : u_lay RX10 TX10 11 ∈ lw_tbl := (mm2 (List.mem_of_getElem? (i := 62) rfl))
theorem mlay_9_12 : u_lay RX10 TX10 12 ∈ lw_tbl := (mm2 (List.mem_of_getElem? (i := 64) rfl))
theorem mlay_9_13 : u_lay RX10 TX10 13 ∈ lw_tbl := (mm2 (List.mem_of_getElem? (i := 66) rfl))
theorem mlay_9_14 : u_lay RX10 TX10 14 ∈ lw_tbl := (mm2 (List.mem_of_getElem? (i := 68) rfl))
theorem mlay_9_15 : u_lay RX10 TX10 15 ∈ lw_tbl := (mm2 (List.mem_of_getElem? (i := 70) rfl))
theorem mIn_9 : ∀ w ∈ u_ws RX10 TX10 16, w ∈ lw_tbl := by
  show ∀ w ∈ [u_lay RX10 TX10 0, u_lay RX10 TX10 1, u_lay RX10 TX10 2, u_lay RX10 TX10 3, u_lay RX10 TX10 4, u_lay RX10 TX10 5, u_lay RX10 TX10 6, u_lay RX10 TX10 7, u_lay RX10 TX10 8, u_lay RX10 TX10 9, u_lay RX10 TX10 10, u_lay RX10 TX10 11, u_lay RX10 TX10 12, u_lay RX10 TX10 13, u_lay RX10 TX10 14, u_lay RX10 TX10 15], w ∈ lw_tbl
  exact List.forall_mem_cons.mpr ⟨mlay_9_0, List.forall_mem_cons.mpr ⟨mlay_9_1, List.forall_mem_cons.mpr ⟨mlay_9_2, List.forall_mem_cons.mpr ⟨mlay_9_3, List.forall_mem_cons.mpr ⟨mlay_9_4, List.forall_mem_cons.mpr ⟨mlay_9_5, List.forall_mem_cons.mpr ⟨mlay_9_6, List.forall_mem_cons.mpr ⟨mlay_9_7, List.forall_mem_cons.mpr ⟨mlay_9_8, List.forall_mem_cons.mpr ⟨mlay_9_9, List.forall_mem_cons.mpr ⟨mlay_9_10, List.forall_mem_cons.mpr ⟨mlay_9_11, List.forall_mem_cons.mpr ⟨mlay_9_12, List.forall_mem_cons.mpr ⟨mlay_9_13, List.forall_mem_cons.mpr ⟨mlay_9_14, List.forall_mem_cons.mpr ⟨mlay_9_15, fun _ h => absurd h List.not_mem_nil⟩⟩⟩⟩⟩⟩⟩⟩⟩⟩⟩⟩⟩⟩⟩⟩
theorem mlay_10_0 : u_lay RX11 TX11 0 ∈ lw_tbl := (mm4 (List.mem_of_getElem? (i := 232) rfl))
theorem mlay_10_1 : u_lay RX11 TX11 1 ∈ lw_tbl := (mm4 (List.mem_of_getElem? (i := 234) rfl))
theorem mlay_10_2 : u_lay RX11 TX11 2 ∈ lw_tbl := (mm4 (List.mem_of_getElem? (i := 236) rfl))
theorem mlay_10_3 : u_lay RX11 TX11 3 ∈ lw_tbl := (mm4 (List.mem_of_getElem? (i := 238) rfl))
theorem mlay_10_4 : u_lay RX11 TX11 4 ∈ lw_tbl := (mm5 (List.mem_of_getElem? (i := 0) rfl))
theorem mlay_10_5 : u_lay RX11 TX11 5 ∈ lw_tbl := (mm5 (List.mem_of_getElem? (i := 2) rfl))
theorem mlay_10_6 : u_lay RX11 TX11 6 ∈ lw_tbl := (mm5 (List.mem_of_getElem? (i := 4) rfl))
theorem mlay_10_7 : u_lay RX11 TX11 7 ∈ lw_tbl := (mm5 (List.mem_of_getElem? (i := 6) rfl))
theorem mlay_10_8 : u_lay RX11 TX11 8 ∈ lw_tbl := (mm5 (List.mem_of_getElem? (i := 8) rfl))
theorem mlay_10_9 : u_lay RX11 TX11 9 ∈ lw_tbl := (mm5 (List.mem_of_getElem? (i := 10) rfl))
theorem mlay_10_10 : u_lay RX11 TX11 10 ∈ lw_tbl := (mm5 (List.mem_of_getElem? (i := 12) rfl))
theorem mlay_10_11 : u_lay RX11 TX11 11 ∈ lw_tbl := (mm5 (List.mem_of_getElem? (i := 14) rfl))
theorem mlay_10_12 : u_lay RX11 TX11 12 ∈ lw_tbl := (mm5 (List.mem_of_getElem? (i := 16) rfl))
theorem mlay_10_13 : u_lay RX11 TX11 13 ∈ lw_tbl := (mm5 (List.mem_of_getElem? (i := 18) rfl))
theorem mlay_10_14 : u_lay RX11 TX11 14 ∈ lw_tbl := (mm5 (List.mem_of_getElem? (i := 20) rfl))
theorem mlay_10_15 : u_lay RX11 TX11 15 ∈ lw_tbl := (mm5 (List.mem_of_getElem? (i := 22) rfl))
theorem mlay_10_16 : u_lay RX11 TX11 16 ∈ lw_tbl := (mm5 (List.mem_of_getElem? (i := 24) rfl))
theorem mlay_10_17 : u_lay RX11 TX11 17 ∈ lw_tbl := (mm5 (List.mem_of_getElem? (i := 26) rfl))
theorem mlay_10_18 : u_lay RX11 TX11 18 ∈ lw_tbl := (mm5 (List.mem_of_getElem? (i := 28) rfl))
theorem mlay_10_19 : u_lay RX11 TX11 19 ∈ lw_tbl := (mm5 (List.mem_of_getElem? (i := 30) rfl))
theorem mlay_10_20 : u_lay RX11 TX11 20 ∈ lw_tbl := (mm5 (List.mem_of_getElem? (i := 32) rfl))
theorem mlay_10_21 : u_lay RX11 TX11 21 ∈ lw_tbl := (mm5 (List.mem_of_getElem? (i := 34) rfl))
theorem mlay_10_22 : u_lay RX11 TX11 22 ∈ lw_tbl := (mm5 (List.mem_of_getElem? (i := 36) rfl))
theorem mlay_10_23 : u_lay RX11 TX11 23 ∈ lw_tbl := (mm5 (List.mem_of_getElem? (i := 38) rfl))
theorem mlay_10_24 : u_lay RX11 TX11 24 ∈ lw_tbl := (mm5 (List.mem_of_getElem? (i := 40) rfl))
theorem mlay_10_25 : u_lay RX11 TX11 25 ∈ lw_tbl := (mm5 (List.mem_of_getElem? (i := 42) rfl))
theorem mlay_10_26 : u_lay RX11 TX11 26 ∈ lw_tbl := (mm5 (List.mem_of_getElem? (i := 44) rfl))
theorem mlay_10_27 : u_lay RX11 TX11 27 ∈ lw_tbl := (mm5 (List.mem_of_getElem? (i := 46) rfl))
theorem mlay_10_28 : u_lay RX11 TX11 28 ∈ lw_tbl := (mm5 (List.mem_of_getElem? (i := 48) rfl))
theorem mlay_10_29 : u_lay RX11 TX11 29 ∈ lw_tbl := (mm5 (List.mem_of_getElem? (i := 50) rfl))
theorem mlay_10_30 : u_lay RX11 TX11 30 ∈ lw_tbl := (mm5 (List.mem_of_getElem? (i := 52) rfl))
theorem mlay_10_31 : u_lay RX11 TX11 31 ∈ lw_tbl := (mm5 (List.mem_of_getElem? (i := 54) rfl))
theorem mlay_10_32 : u_lay RX11 TX11 32 ∈ lw_tbl := (mm5 (List.mem_of_getElem? (i := 56) rfl))
theorem mlay_10_33 : u_lay RX11 TX11 33 ∈ lw_tbl := (mm5 (List.mem_of_getElem? (i := 58) rfl))
theorem mlay_10_34 : u_lay RX11 TX11 34 ∈ lw_tbl := (mm5 (List.mem_of_getElem? (i := 60) rfl))
theorem mlay_10_35 : u_lay RX11 TX11 35 ∈ lw_tbl := (mm5 (List.mem_of_getElem? (i := 62) rfl))
theorem mlay_10_36 : u_lay RX11 TX11 36 ∈ lw_tbl := (mm5 (List.mem_of_getElem? (i := 64) rfl))
theorem mlay_10_37 : u_lay RX11 TX11 37 ∈ lw_tbl := (mm5 (List.mem_of_getElem? (i := 66) rfl))
theorem mlay_10_38 : u_lay RX11 TX11 38 ∈ lw_tbl := (mm5 (List.mem_of_getElem? (i := 68) rfl))
theorem mlay_10_39 : u_lay RX11 TX11 39 ∈ lw_tbl := (mm5 (List.mem_of_getElem? (i := 70) rfl))
theorem mlay_10_40 : u_lay RX11 TX11 40 ∈ lw_tbl := (mm5 (List.mem_of_getElem? (i := 72) rfl))
theorem mlay_10_41 : u_lay RX11 TX11 41 ∈ lw_tbl := (mm5 (List.mem_of_getElem? (i := 74) rfl))
theorem mlay_10_42 : u_lay RX11 TX11 42 ∈ lw_tbl := (mm5 (List.mem_of_getElem? (i := 76) rfl))
theorem mIn_10 : ∀ w ∈ u_ws RX11 TX11 43, w ∈ lw_tbl := by
  show ∀ w ∈ [u_lay RX11 TX11 0, u_lay RX11 TX11 1, u_lay RX11 TX11 2, u_lay RX11 TX11 3, u_lay RX11 TX11 4, u_lay RX11 TX11 5, u_lay RX11 TX11 6, u_lay RX11 TX11 7, u_lay RX11 TX11 8, u_lay RX11 TX11 9, u_lay RX11 TX11 10, u_lay RX11 TX11 11, u_lay RX11 TX11 12, u_lay RX11 TX11 13, u_lay RX11 TX11 14, u_lay RX11 TX11 15, u_lay RX11 TX11 16, u_lay RX11 TX11 17, u_lay RX11 TX11 18, u_lay RX11 TX11 19, u_lay RX11 TX11 20, u_lay RX11 TX11 21, u_lay RX11 TX11 22, u_lay RX11 TX11 23, u_lay RX11 TX11 24, u_lay RX11 TX11 25, u_lay RX11 TX11 26, u_lay RX11 TX11 27, u_lay RX11 TX11 28, u_lay RX11 TX11 29, u_lay RX11 TX11 30, u_lay RX11 TX11 31, u_lay RX11 TX11 32, u_lay RX11 TX11 33, u_lay RX11 TX11 34, u_lay RX11 TX11 35, u_lay RX11 TX11 36, u_lay RX11 TX11 37, u_lay RX11 TX11 38, u_lay RX11 TX11 39, u_lay RX11 TX11 40, u_lay RX11 TX11 41, u_lay RX11 TX11 42], w ∈ lw_tbl
  exact List.forall_mem_cons.mpr ⟨mlay_10_0, List.forall_mem_cons.mpr ⟨mlay_10_1, List.forall_mem_cons.mpr ⟨mlay_10_2, List.forall_mem_cons.mpr ⟨mlay_10_3, List.forall_mem_cons.mpr ⟨mlay_10_4, List.forall_mem_cons.mpr ⟨mlay_10_5, List.forall_mem_cons.mpr ⟨mlay_10_6, List.forall_mem_cons.mpr ⟨mlay_10_7, List.forall_mem_cons.mpr ⟨mlay_10_8, List.forall_mem_cons.mpr ⟨mlay_10_9, List.forall_mem_cons.mpr ⟨mlay_10_10, List.forall_mem_cons.mpr ⟨mlay_10_11, List.forall_mem_cons.mpr ⟨mlay_10_12, List.forall_mem_cons.mpr ⟨mlay_10_13, List.forall_mem_cons.mpr ⟨mlay_10_14, List.forall_mem_cons.mpr ⟨mlay_10_15, List.forall_mem_cons.mpr ⟨mlay_10_16, List.forall_mem_cons.mpr ⟨mlay_10_17, List.forall_mem_cons.mpr ⟨mlay_10_18, List.forall_mem_cons.mpr ⟨mlay_10_19, List.forall_mem_cons.mpr ⟨mlay_10_20, List.forall_mem_cons.mpr ⟨mlay_10_21, List.forall_mem_cons.mpr ⟨mlay_10_22, List.forall_mem_cons.mpr ⟨mlay_10_23, List.forall_mem_cons.mpr ⟨mlay_10_24, List.forall_mem_cons.mpr ⟨mlay_10_25, List.forall_mem_cons.mpr ⟨mlay_10_26, List.forall_mem_cons.mpr ⟨mlay_10_27, List.forall_mem_cons.mpr ⟨mlay_10_28, List.forall_mem_cons.mpr ⟨mlay_10_29, List.forall_mem_cons.mpr ⟨mlay_10_30, List.forall_mem_cons.mpr ⟨mlay_10_31, List.forall_mem_cons.mpr ⟨mlay_10_32, List.forall_mem_cons.mpr ⟨mlay_10_33, List.forall_mem_cons.mpr ⟨mlay_10_34, List.forall_mem_cons.mpr ⟨mlay_10_35, List.forall_mem_cons.mpr ⟨mlay_10_36, List.forall_mem_cons.mpr ⟨mlay_10_37, List.forall_mem_cons.mpr ⟨mlay_10_38, List.forall_mem_cons.mpr ⟨mlay_10_39, List.forall_mem_cons.mpr ⟨mlay_10_40, List.forall_mem_cons.mpr ⟨mlay_10_41, List.forall_mem_cons.mpr ⟨mlay_10_42, fun _ h => absurd h List.not_mem_nil⟩⟩⟩⟩⟩⟩⟩⟩⟩⟩⟩⟩⟩⟩⟩⟩⟩⟩⟩⟩⟩⟩⟩⟩⟩⟩⟩⟩⟩⟩⟩⟩⟩⟩⟩⟩⟩⟩⟩⟩⟩⟩⟩
/-- of every class of the worlds: its words, its fields' types and names -/
theorem mCls_ok {ci : Nat} {r : vw_C} (h : vwCl[ci]? = some r) : (∀ w ∈ u_ws r.1 r.2.1 r.2.2, w ∈ lw_tbl) ∧ ∃ ty0 : Nat → FieldType, (∀ k, k < r.2.2 → parseFieldDescriptor (r.2.1 k).2.2.1 = some (ty0 k)) ∧ ∀ a, a < r.2.2 → ∀ b, b < r.2.2 → a ≠ b → (r.2.1 a).2.1 ≠ (r.2.1 b).2.1 := by
  match ci, h with
  | 0, h => cases h; exact ⟨mIn_0, tyX0, tyX0_ok, nmX0⟩
  | 1, h => cases h; exact ⟨mIn_1, tyX1, tyX1_ok, nmX1⟩
  | 2, h => cases h; exact ⟨mIn_2, tyX3, tyX3_ok, nmX3⟩
  | 3, h => cases h; exact ⟨mIn_3, tyX4, tyX4_ok, nmX4⟩
  | 4, h => cases h; exact ⟨mIn_4, tyX5, tyX5_ok, nmX5⟩
  | 5, h => cases h; exact ⟨mIn_5, tyX6, tyX6_ok, nmX6⟩
  | 6, h => cases h; exact ⟨mIn_6, tyX7, tyX7_ok, nmX7⟩
  | 7, h => cases h; exact ⟨mIn_7, tyX8, tyX8_ok, nmX8⟩
  | 8, h => cases h; exact ⟨mIn_8, tyX9, tyX9_ok, nmX9⟩
  | 9, h => cases h; exact ⟨mIn_9, tyX10, tyX10_ok, nmX10⟩
  | 10, h => cases h; exact ⟨mIn_10, tyX11, tyX11_ok, nmX11⟩
  | _ + 11, h => simp [vwCl] at h
def mCstT (o : Nat) : List (Nat × Int32) := match o with
  | 10 => [(450, (2147483647 : Int32)), (277, (1103515245 : Int32))]
  | 11 => [(268, (1103515245 : Int32))]
  | 13 => [(265, (1431655765 : Int32)), (266, (858993459 : Int32)), (267, (252645135 : Int32)), (264, (65536 : Int32))]
  | _ => []
theorem mCst_ok_10 : ∀ q ∈ mCstT 10, Cond.constant (mOwn 10) q.1 q.2 ∈ lw_tbl := List.forall_mem_cons.mpr ⟨(mm3 (List.mem_of_getElem? (i := 136) rfl)), List.forall_mem_cons.mpr ⟨(mm4 (List.mem_of_getElem? (i := 15) rfl)), fun _ h => absurd h List.not_mem_nil⟩⟩
theorem mCst_ok_11 : ∀ q ∈ mCstT 11, Cond.constant (mOwn 11) q.1 q.2 ∈ lw_tbl := List.forall_mem_cons.mpr ⟨(mm6 (List.mem_of_getElem? (i := 120) rfl)), fun _ h => absurd h List.not_mem_nil⟩
theorem mCst_ok_13 : ∀ q ∈ mCstT 13, Cond.constant (mOwn 13) q.1 q.2 ∈ lw_tbl := List.forall_mem_cons.mpr ⟨(mm3 (List.mem_of_getElem? (i := 129) rfl)), List.forall_mem_cons.mpr ⟨(mm3 (List.mem_of_getElem? (i := 130) rfl)), List.forall_mem_cons.mpr ⟨(mm3 (List.mem_of_getElem? (i := 131) rfl)), List.forall_mem_cons.mpr ⟨(mm3 (List.mem_of_getElem? (i := 196) rfl)), fun _ h => absurd h List.not_mem_nil⟩⟩⟩⟩
theorem mCst_ok {o i : Nat} {v : Int32} (h : mLook (mCstT o) i = some v) : Cond.constant (mOwn o) i v ∈ lw_tbl := by
  have h := mLook_mem h
  match o, h with
  | 0, h => exact absurd h List.not_mem_nil
  | 1, h => exact absurd h List.not_mem_nil
  | 2, h => exact absurd h List.not_mem_nil
  | 3, h => exact absurd h List.not_mem_nil
  | 4, h => exact absurd h List.not_mem_nil
  | 5, h => exact absurd h List.not_mem_nil
  | 6, h => exact absurd h List.not_mem_nil
  | 7, h => exact absurd h List.not_mem_nil
  | 8, h => exact absurd h List.not_mem_nil
  | 9, h => exact absurd h List.not_mem_nil
  | 10, h => exact mCst_ok_10 _ h
  | 11, h => exact mCst_ok_11 _ h
  | 12, h => exact absurd h List.not_mem_nil
  | 13, h => exact mCst_ok_13 _ h
  | 14, h => exact absurd h List.not_mem_nil
  | 15, h => exact absurd h List.not_mem_nil
  | _ + 16, h => exact absurd h List.not_mem_nil
def mCslT (o : Nat) : List (Nat × Int64) := match o with
  | 10 => [(399, (12 : Int64)), (375, (-9223372036854775808 : Int64))]
  | 11 => [(315, (5 : Int64)), (115, (8 : Int64)), (117, (12 : Int64)), (119, (2196 : Int64)), (128, (2 : Int64)), (130, (4 : Int64)), (132, (6 : Int64)), (140, (255 : Int64)), (230, (30 : Int64)), (232, (3 : Int64)), (243, (-1 : Int64)), (255, (60 : Int64)), (263, (999 : Int64)), (285, (7 : Int64)), (326, (-9223372036854775808 : Int64))]
  | 12 => [(182, (4294967295 : Int64))]
  | _ => []
theorem mCsl_ok_10 : ∀ q ∈ mCslT 10, Cond.constantLong (mOwn 10) q.1 q.2 ∈ lw_tbl := List.forall_mem_cons.mpr ⟨(mm2 (List.mem_of_getElem? (i := 111) rfl)), List.forall_mem_cons.mpr ⟨(mm4 (List.mem_of_getElem? (i := 166) rfl)), fun _ h => absurd h List.not_mem_nil⟩⟩
theorem mCsl_ok_11 : ∀ q ∈ mCslT 11, Cond.constantLong (mOwn 11) q.1 q.2 ∈ lw_tbl := List.forall_mem_cons.mpr ⟨(mm5 (List.mem_of_getElem? (i := 102) rfl)), List.forall_mem_cons.mpr ⟨(mm5 (List.mem_of_getElem? (i := 106) rfl)), List.forall_mem_cons.mpr ⟨(mm5 (List.mem_of_getElem? (i := 107) rfl)), List.forall_mem_cons.mpr ⟨(mm5 (List.mem_of_getElem? (i := 115) rfl)), List.forall_mem_cons.mpr ⟨(mm5 (List.mem_of_getElem? (i := 127) rfl)), List.forall_mem_cons.mpr ⟨(mm5 (List.mem_of_getElem? (i := 132) rfl)), List.forall_mem_cons.mpr ⟨(mm5 (List.mem_of_getElem? (i := 133) rfl)), List.forall_mem_cons.mpr ⟨(mm5 (List.mem_of_getElem? (i := 150) rfl)), List.forall_mem_cons.mpr ⟨(mm5 (List.mem_of_getElem? (i := 233) rfl)), List.forall_mem_cons.mpr ⟨(mm5 (List.mem_of_getElem? (i := 234) rfl)), List.forall_mem_cons.mpr ⟨(mm6 (List.mem_of_getElem? (i := 38) rfl)), List.forall_mem_cons.mpr ⟨(mm6 (List.mem_of_getElem? (i := 91) rfl)), List.forall_mem_cons.mpr ⟨(mm6 (List.mem_of_getElem? (i := 112) rfl)), List.forall_mem_cons.mpr ⟨(mm6 (List.mem_of_getElem? (i := 149) rfl)), List.forall_mem_cons.mpr ⟨(mm6 (List.mem_of_getElem? (i := 205) rfl)), fun _ h => absurd h List.not_mem_nil⟩⟩⟩⟩⟩⟩⟩⟩⟩⟩⟩⟩⟩⟩⟩
theorem mCsl_ok_12 : ∀ q ∈ mCslT 12, Cond.constantLong (mOwn 12) q.1 q.2 ∈ lw_tbl := List.forall_mem_cons.mpr ⟨(mm6 (List.mem_of_getElem? (i := 225) rfl)), fun _ h => absurd h List.not_mem_nil⟩
theorem mCsl_ok {o i : Nat} {v : Int64} (h : mLook (mCslT o) i = some v) : Cond.constantLong (mOwn o) i v ∈ lw_tbl := by
  have h := mLook_mem h
  match o, h with
  | 0, h => exact absurd h List.not_mem_nil
  | 1, h => exact absurd h List.not_mem_nil
  | 2, h => exact absurd h List.not_mem_nil
  | 3, h => exact absurd h List.not_mem_nil
  | 4, h => exact absurd h List.not_mem_nil
  | 5, h => exact absurd h List.not_mem_nil
  | 6, h => exact absurd h List.not_mem_nil
  | 7, h => exact absurd h List.not_mem_nil
  | 8, h => exact absurd h List.not_mem_nil
  | 9, h => exact absurd h List.not_mem_nil
  | 10, h => exact mCsl_ok_10 _ h
  | 11, h => exact mCsl_ok_11 _ h
  | 12, h => exact mCsl_ok_12 _ h
  | 13, h => exact absurd h List.not_mem_nil
  | 14, h => exact absurd h List.not_mem_nil
  | 15, h => exact absurd h List.not_mem_nil
  | _ + 16, h => exact absurd h List.not_mem_nil
def mMthT (o : Nat) : List (Nat × Nat) := match o with
  | 10 => [(416, 0), (435, 2), (438, 1)]
  | _ => []
def mMthN (k : Nat) : MethodName := match k with
  | 0 => Lib.Math.abs.name
  | 1 => Lib.Math.max.name
  | _ => Lib.Math.min.name
theorem mMth_ok_10 : ∀ q ∈ mMthT 10, Cond.methodLink (mOwn 10) q.1 (mMthN q.2) ∈ lw_tbl := List.forall_mem_cons.mpr ⟨(mm3 (List.mem_of_getElem? (i := 18) rfl)), List.forall_mem_cons.mpr ⟨(mm3 (List.mem_of_getElem? (i := 33) rfl)), List.forall_mem_cons.mpr ⟨(mm3 (List.mem_of_getElem? (i := 36) rfl)), fun _ h => absurd h List.not_mem_nil⟩⟩⟩
theorem mMth_ok {o i v : Nat} (h : mLook (mMthT o) i = some v) : Cond.methodLink (mOwn o) i (mMthN v) ∈ lw_tbl := by
  have h := mLook_mem h
  match o, h with
  | 0, h => exact absurd h List.not_mem_nil
  | 1, h => exact absurd h List.not_mem_nil
  | 2, h => exact absurd h List.not_mem_nil
  | 3, h => exact absurd h List.not_mem_nil
  | 4, h => exact absurd h List.not_mem_nil
  | 5, h => exact absurd h List.not_mem_nil
  | 6, h => exact absurd h List.not_mem_nil
  | 7, h => exact absurd h List.not_mem_nil
  | 8, h => exact absurd h List.not_mem_nil
  | 9, h => exact absurd h List.not_mem_nil
  | 10, h => exact mMth_ok_10 _ h
  | 11, h => exact absurd h List.not_mem_nil
  | 12, h => exact absurd h List.not_mem_nil
  | 13, h => exact absurd h List.not_mem_nil
  | 14, h => exact absurd h List.not_mem_nil
  | 15, h => exact absurd h List.not_mem_nil
  | _ + 16, h => exact absurd h List.not_mem_nil
theorem mMth_s_abs : Cond.static Lib.Math.abs.name ∈ lw_tbl := (mm3 (List.mem_of_getElem? (i := 19) rfl))
theorem mMth_c_abs : Cond.code Lib.Math.abs.name Lib.Math.abs.code 1 (some .int) ∈ lw_tbl := (mm3 (List.mem_of_getElem? (i := 20) rfl))
theorem mMth_s_max : Cond.static Lib.Math.max.name ∈ lw_tbl := (mm3 (List.mem_of_getElem? (i := 37) rfl))
theorem mMth_c_max : Cond.code Lib.Math.max.name Lib.Math.max.code 2 (some .int) ∈ lw_tbl := (mm3 (List.mem_of_getElem? (i := 38) rfl))
theorem mMth_s_min : Cond.static Lib.Math.min.name ∈ lw_tbl := (mm3 (List.mem_of_getElem? (i := 34) rfl))
theorem mMth_c_min : Cond.code Lib.Math.min.name Lib.Math.min.code 2 (some .int) ∈ lw_tbl := (mm3 (List.mem_of_getElem? (i := 35) rfl))
theorem mMth_i : Cond.initialized "java/lang/Math" ∈ lw_tbl := (mm1 (List.mem_of_getElem? (i := 14) rfl))
def mAcpT : List (Nat × Nat) := [(1, 32), (4, 23), (6, 44), (9, 37), (10, 386)]
theorem mAcp_ok : ∀ q ∈ mAcpT, Cond.methodLink (mOwn q.1) q.2 arraycopyName ∈ lw_tbl := List.forall_mem_cons.mpr ⟨(mm2 (List.mem_of_getElem? (i := 169) rfl)), List.forall_mem_cons.mpr ⟨(mm3 (List.mem_of_getElem? (i := 1) rfl)), List.forall_mem_cons.mpr ⟨(mm3 (List.mem_of_getElem? (i := 59) rfl)), List.forall_mem_cons.mpr ⟨(mm4 (List.mem_of_getElem? (i := 59) rfl)), List.forall_mem_cons.mpr ⟨(mm4 (List.mem_of_getElem? (i := 171) rfl)), fun _ h => absurd h List.not_mem_nil⟩⟩⟩⟩⟩
theorem mAcp_n : Cond.native arraycopyName ∈ lw_tbl := (mm2 (List.mem_of_getElem? (i := 171) rfl))
theorem mAcp_s : Cond.static arraycopyName ∈ lw_tbl := (mm2 (List.mem_of_getElem? (i := 170) rfl))
theorem mAcp_i : Cond.initialized "java/lang/System" ∈ lw_tbl := (mm1 (List.mem_of_getElem? (i := 13) rfl))
theorem mSt_OWN : Cond.fieldLink (mOwn 3) 26 "TypewritersKnow$Ghosts" "OWN" "[I" ∈ lw_tbl := (mm4 (List.mem_of_getElem? (i := 102) rfl))
theorem mSt_ABOVE : Cond.fieldLink (mOwn 3) 20 "TypewritersKnow$Ghosts" "ABOVE" "[I" ∈ lw_tbl := (mm4 (List.mem_of_getElem? (i := 104) rfl))
theorem mNest : Cond.methodLinkNest RX10 351 yX3_perform RX10 ∈ lw_tbl := (mm4 (List.mem_of_getElem? (i := 98) rfl))
end
section
-- A small machine over a heap that is a list of cells: its own logic (mEv, mC), to which all methods are brought; the next part proves that the machine of the Statement follows it
/-- a cell: an array, or an object by the number of its class; a reference is a place in the list -/
abbrev mE : Type := vp_A ⊕ (Nat × List Value)
abbrev mLv : Type := List (Nat × Value)
abbrev mPo : Type := Option Value → List mE → Prop
def mPut (lv : mLv) (i : Nat) (v : Value) : mLv := (i, v) :: lv.filter (fun q => !(q.1 == i) && !(q.1 + 1 == i && q.2.category == 2))
def mPut2 (lv : mLv) (i : Nat) (v : Value) : mLv := (i, v) :: lv.filter (fun q => !(q.1 == i) && (!(q.1 == i + 1) && !(q.1 + 1 == i && q.2.category == 2)))
def mI (f : Int32 → Int32 → Int32) (stk : List Value) (K : List Value → Prop) : Prop := ∃ x y r, stk = .int y :: .int x :: r ∧ K (.int (f x y) :: r)
def mJ (f : Int64 → Int64 → Int64) (stk : List Value) (K : List Value → Prop) : Prop := ∃ x y r, stk = .long y :: .long x :: r ∧ K (.long (f x y) :: r)
def mCmp (c : ClassFile.Cond) (x y : Int32) : Prop := match c with
  | .eq => x = y
  | .ne => ¬ x = y
  | .lt => x < y
  | .ge => y ≤ x
  | .gt => y < x
  | .le => x ≤ y
/-- arrays that nobody writes: the script, and those of static fields -/
abbrev mRo : Type := Nat → Option (Nat × (Nat → Int32))
def mStat (o i : Nat) : Option Nat := if o = 3 ∧ i = 26 then some 1001 else if o = 3 ∧ i = 20 then some 1002 else none
/-- which value a method may answer with -/
def mRetOk (ret : Option FieldType) (x : Int32) : Prop := match ret with
  | some .int => True
  | some .boolean => x = 0 ∨ x = 1
  | _ => False
/-- the words of the operand stack below a call -/
def mSum (r : List Value) : Nat := (r.map fun v => v.category).sum
/-- one instruction, by what must hold behind it -/
def mStp (ρ : mRo) (C : Nat → List Value → List mE → mPo → Prop) (o nL : Nat) (ret : Option FieldType) (i : Instr) (len pc : Nat) (lv : mLv) (stk : List Value) (h : List mE) (K : Nat → mLv → List Value → List mE → Prop) (P : mPo) : Prop := match i with
  | .aload_n k => len = 1 ∧ ∃ q, ((k : Nat), Value.ref q) ∈ lv ∧ K (pc + 1) lv (.ref q :: stk) h
  | .aload k => len = 2 ∧ ∃ q, (k, Value.ref q) ∈ lv ∧ K (pc + 2) lv (.ref q :: stk) h
  | .iload_n k => len = 1 ∧ ∃ x, ((k : Nat), Value.int x) ∈ lv ∧ K (pc + 1) lv (.int x :: stk) h
  | .iload k => len = 2 ∧ ∃ x, (k, Value.int x) ∈ lv ∧ K (pc + 2) lv (.int x :: stk) h
  | .lload_n k => len = 1 ∧ ∃ x, ((k : Nat), Value.long x) ∈ lv ∧ K (pc + 1) lv (.long x :: stk) h
  | .lload k => len = 2 ∧ ∃ x, (k, Value.long x) ∈ lv ∧ K (pc + 2) lv (.long x :: stk) h
  | .istore_n k => len = 1 ∧ (k : Nat) < nL ∧ ∃ x r, stk = .int x :: r ∧ K (pc + 1) (mPut lv k (.int x)) r h
  | .istore k => len = 2 ∧ k < nL ∧ ∃ x r, stk = .int x :: r ∧ K (pc + 2) (mPut lv k (.int x)) r h
  | .astore_n k => len = 1 ∧ (k : Nat) < nL ∧ ∃ x r, stk = .ref x :: r ∧ K (pc + 1) (mPut lv k (.ref x)) r h
  | .astore k => len = 2 ∧ k < nL ∧ ∃ x r, stk = .ref x :: r ∧ K (pc + 2) (mPut lv k (.ref x)) r h
  | .lstore_n k => len = 1 ∧ (k : Nat) + 1 < nL ∧ ∃ x r, stk = .long x :: r ∧ K (pc + 1) (mPut2 lv k (.long x)) r h
  | .lstore k => len = 2 ∧ k + 1 < nL ∧ ∃ x r, stk = .long x :: r ∧ K (pc + 2) (mPut2 lv k (.long x)) r h
  | .iinc k n => len = 3 ∧ ∃ x, (k, Value.int x) ∈ lv ∧ K (pc + 3) (mPut lv k (.int (x + Int32.ofInt n))) stk h
  | .iconst n => len = 1 ∧ K (pc + 1) lv (.int (Int32.ofInt n) :: stk) h
  | .bipush n => len = 2 ∧ K (pc + 2) lv (.int ((Int8.ofInt n).toInt32) :: stk) h
  | .sipush n => len = 3 ∧ K (pc + 3) lv (.int ((Int16.ofInt n).toInt32) :: stk) h
  | .lconst n => len = 1 ∧ K (pc + 1) lv (.long (Int64.ofNat (n : Nat)) :: stk) h
  | .ldc n => len = 2 ∧ ∃ v, mLook (mCstT o) n = some v ∧ K (pc + 2) lv (.int v :: stk) h
  | .ldc_w n => len = 3 ∧ ∃ v, mLook (mCstT o) n = some v ∧ K (pc + 3) lv (.int v :: stk) h
  | .ldc2_w n => len = 3 ∧ ∃ v, mLook (mCslT o) n = some v ∧ K (pc + 3) lv (.long v :: stk) h
  | .iadd => len = 1 ∧ mI (· + ·) stk (fun s => K (pc + 1) lv s h)
  | .isub => len = 1 ∧ mI (· - ·) stk (fun s => K (pc + 1) lv s h)
  | .imul => len = 1 ∧ mI (· * ·) stk (fun s => K (pc + 1) lv s h)
  | .iand => len = 1 ∧ mI (· &&& ·) stk (fun s => K (pc + 1) lv s h)
  | .ior => len = 1 ∧ mI (· ||| ·) stk (fun s => K (pc + 1) lv s h)
  | .ixor => len = 1 ∧ mI (· ^^^ ·) stk (fun s => K (pc + 1) lv s h)
  | .ishl => len = 1 ∧ mI (fun x y => x <<< (y &&& 31)) stk (fun s => K (pc + 1) lv s h)
  | .ishr => len = 1 ∧ mI (fun x y => x >>> (y &&& 31)) stk (fun s => K (pc + 1) lv s h)
  | .iushr => len = 1 ∧ mI (fun x y => (x.toUInt32 >>> (y.toUInt32 &&& Int32.toUInt32 31)).toInt32) stk (fun s => K (pc + 1) lv s h)
  | .idiv => len = 1 ∧ ∃ x y r, stk = .int y :: .int x :: r ∧ ¬ y = 0 ∧ K (pc + 1) lv (.int (x / y) :: r) h
  | .irem => len = 1 ∧ ∃ x y r, stk = .int y :: .int x :: r ∧ ¬ y = 0 ∧ K (pc + 1) lv (.int (x - x / y * y) :: r) h
  | .ineg => len = 1 ∧ ∃ x r, stk = .int x :: r ∧ K (pc + 1) lv (.int (-x) :: r) h
  | .land => len = 1 ∧ mJ (· &&& ·) stk (fun s => K (pc + 1) lv s h)
  | .lor => len = 1 ∧ mJ (· ||| ·) stk (fun s => K (pc + 1) lv s h)
  | .lshl => len = 1 ∧ ∃ x y r, stk = .int y :: .long x :: r ∧ K (pc + 1) lv (.long (x <<< (y.toInt64 &&& 63)) :: r) h
  | .lcmp => len = 1 ∧ ∃ x y r, stk = .long y :: .long x :: r ∧ K (pc + 1) lv (.int (lg_cmp x y) :: r) h
  | .i2l => len = 1 ∧ ∃ x r, stk = .int x :: r ∧ K (pc + 1) lv (.long x.toInt64 :: r) h
  | .l2i => len = 1 ∧ ∃ x r, stk = .long x :: r ∧ K (pc + 1) lv (.int x.toInt32 :: r) h
  | .i2b => len = 1 ∧ ∃ x r, stk = .int x :: r ∧ K (pc + 1) lv (.int x.toInt8.toInt32 :: r) h
  | .i2s => len = 1 ∧ ∃ x r, stk = .int x :: r ∧ K (pc + 1) lv (.int x.toInt16.toInt32 :: r) h
  | .dup => len = 1 ∧ ∃ v r, stk = v :: r ∧ v.category = 1 ∧ K (pc + 1) lv (v :: v :: r) h
  | .pop => len = 1 ∧ ∃ v r, stk = v :: r ∧ v.category = 1 ∧ K (pc + 1) lv r h
  | .dup2 => len = 1 ∧ ∃ v w r, stk = v :: w :: r ∧ v.category = 1 ∧ w.category = 1 ∧ K (pc + 1) lv (v :: w :: v :: w :: r) h
  | .goto off => len = 3 ∧ ∃ tgt : Nat, (pc : Int) + off = (tgt : Int) ∧ K tgt lv stk h
  | .ifCond c off => len = 3 ∧ ∃ (x : Int32) (r : List Value) (tgt : Nat), stk = .int x :: r ∧ (pc : Int) + off = (tgt : Int) ∧ (mCmp c x 0 → K tgt lv r h) ∧ (¬ mCmp c x 0 → K (pc + 3) lv r h)
  | .if_icmp c off => len = 3 ∧ ∃ (x y : Int32) (r : List Value) (tgt : Nat), stk = .int y :: .int x :: r ∧ (pc : Int) + off = (tgt : Int) ∧ (mCmp c x y → K tgt lv r h) ∧ (¬ mCmp c x y → K (pc + 3) lv r h)
  | .tableswitch dflt lo hi offs => ∃ (x : Int32) (r : List Value), stk = .int x :: r ∧ ((x.toInt < lo ∨ hi < x.toInt) → ∃ tgt : Nat, (pc : Int) + dflt = (tgt : Int) ∧ K tgt lv r h) ∧ (¬ x.toInt < lo → ¬ hi < x.toInt → ∃ (off : Int) (tgt : Nat), offs[(x.toInt - lo).toNat]? = some off ∧ (pc : Int) + off = (tgt : Int) ∧ K tgt lv r h)
  | .lookupswitch dflt ps => (ps.toList.zip (ps.toList.drop 1)).all (fun (a, next) => a.1 < next.1) = true ∧ ∃ (x : Int32) (r : List Value) (tgt : Nat), stk = .int x :: r ∧ (pc : Int) + Op.lookupswitch.offset ps.toList dflt x.toInt = (tgt : Int) ∧ K tgt lv r h
  | .getfield n => len = 3 ∧ ∃ q r ci k fs v, stk = .ref q :: r ∧ mLook (mFldT o) n = some (ci, k) ∧ h[q]? = some (.inr (ci, fs)) ∧ fs[k]? = some v ∧ K (pc + 3) lv (v :: r) h
  | .putfield n => len = 3 ∧ ∃ (x : Int32) (q : Nat) (r : List Value) (ci k : Nat) (fs : List Value) (cC : vw_C), stk = .int x :: .ref q :: r ∧ mLook (mFldT o) n = some (ci, k) ∧ vwCl[ci]? = some cC ∧ (cC.2.1 k).2.2.2 = false ∧ ((cC.2.1 k).2.2.1 = "I" ∨ ((cC.2.1 k).2.2.1 = "Z" ∧ (x = 0 ∨ x = 1))) ∧ h[q]? = some (.inr (ci, fs)) ∧ k < fs.length ∧ K (pc + 3) lv r (h.set q (.inr (ci, fs.set k (.int x))))
  | .getstatic n => len = 3 ∧ ∃ q, mStat o n = some q ∧ K (pc + 3) lv (.ref q :: stk) h
  | .iaload => len = 1 ∧ ∃ (i : Int32) (q : Nat) (r : List Value) (n : Nat) (f : Nat → Int32), stk = .int i :: .ref q :: r ∧ (h[q]? = some (.inl (n, .inl f)) ∨ ρ q = some (n, f)) ∧ vp_in i n ∧ K (pc + 1) lv (.int (f i.toNatClampNeg) :: r) h
  | .laload => len = 1 ∧ ∃ (i : Int32) (q : Nat) (r : List Value) (n : Nat) (f : Nat → Int64), stk = .int i :: .ref q :: r ∧ h[q]? = some (.inl (n, .inr (.inl f))) ∧ vp_in i n ∧ K (pc + 1) lv (.long (f i.toNatClampNeg) :: r) h
  | .aaload => len = 1 ∧ ∃ (i : Int32) (q : Nat) (r : List Value) (n : Nat) (f : Nat → Option Nat) (b : Nat), stk = .int i :: .ref q :: r ∧ h[q]? = some (.inl (n, .inr (.inr (.inr (.inr f))))) ∧ vp_in i n ∧ f i.toNatClampNeg = some b ∧ K (pc + 1) lv (.ref b :: r) h
  | .iastore => len = 1 ∧ ∃ (x i : Int32) (q : Nat) (r : List Value) (n : Nat) (f : Nat → Int32), stk = .int x :: .int i :: .ref q :: r ∧ h[q]? = some (.inl (n, .inl f)) ∧ vp_in i n ∧ K (pc + 1) lv r (h.set q (.inl (n, .inl (upd f i.toNatClampNeg x))))
  | .lastore => len = 1 ∧ ∃ (x : Int64) (i : Int32) (q : Nat) (r : List Value) (n : Nat) (f : Nat → Int64), stk = .long x :: .int i :: .ref q :: r ∧ h[q]? = some (.inl (n, .inr (.inl f))) ∧ vp_in i n ∧ K (pc + 1) lv r (h.set q (.inl (n, .inr (.inl (vp_updL f i.toNatClampNeg x)))))
  | .arraylength => len = 1 ∧ ∃ (q : Nat) (r : List Value) (n : Nat), stk = .ref q :: r ∧ ((∃ f, h[q]? = some (.inl (n, .inl f))) ∨ (∃ f, h[q]? = some (.inl (n, .inr (.inl f)))) ∨ ∃ f, ρ q = some (n, f)) ∧ K (pc + 1) lv (.int (Int32.ofNat n) :: r) h
  | .invokevirtual n => len = 3 ∧ ∃ (j : Nat) (y : mRec) (as : List Value) (q : Nat) (r : List Value) (ci : Nat) (fs : List Value) (cC : vw_C), (mLook (mCalT o) n = some j ∨ (o = 10 ∧ n = 351 ∧ j = 16)) ∧ mTab[j]? = some y ∧ y.2.2.2.2.2.1 = false ∧ as.length = y.2.2.2.2.2.2 ∧ stk = as.reverse ++ .ref q :: r ∧ mSum r ≤ 8 ∧ h[q]? = some (.inr (ci, fs)) ∧ vwCl[ci]? = some cC ∧ cC.1 = y.2.1.cls ∧ C j (.ref q :: as) h (fun v h' => K (pc + 3) lv (v.toList ++ r) h')
  | .invokestatic n => len = 3 ∧ ((∃ (j : Nat) (y : mRec) (as r : List Value), mLook (mCalT o) n = some j ∧ mTab[j]? = some y ∧ y.2.2.2.2.2.1 = true ∧ as.length = y.2.2.2.2.2.2 ∧ stk = as.reverse ++ r ∧ mSum r ≤ 8 ∧ C j as h (fun v h' => K (pc + 3) lv (v.toList ++ r) h')) ∨
      (∃ k, mLook (mMthT o) n = some k ∧ ((k = 0 ∧ ∃ x r, stk = .int x :: r ∧ mSum r ≤ 8 ∧ K (pc + 3) lv (.int (if 0 ≤ x then x else 0 - x) :: r) h) ∨ (k = 1 ∧ ∃ x y r, stk = .int y :: .int x :: r ∧ mSum r ≤ 8 ∧ K (pc + 3) lv (.int (if x < y then y else x) :: r) h) ∨ (k = 2 ∧ ∃ x y r, stk = .int y :: .int x :: r ∧ mSum r ≤ 8 ∧ K (pc + 3) lv (.int (if y < x then y else x) :: r) h))) ∨
      ((o, n) ∈ mAcpT ∧ ∃ (c dp sp : Int32) (q0 q1 n0 n1 : Nat) (r : List Value), stk = .int c :: .int dp :: .ref q1 :: .int sp :: .ref q0 :: r ∧ mSum r ≤ 8 ∧ ¬ sp < 0 ∧ ¬ dp < 0 ∧ ¬ c < 0 ∧ sp.toNatClampNeg + c.toNatClampNeg ≤ n0 ∧ dp.toNatClampNeg + c.toNatClampNeg ≤ n1 ∧
        ((∃ f g, h[q0]? = some (.inl (n0, .inl f)) ∧ h[q1]? = some (.inl (n1, .inl g)) ∧ K (pc + 3) lv r (h.set q1 (.inl (n1, .inl (va_cpy f g sp.toNatClampNeg dp.toNatClampNeg c.toNatClampNeg))))) ∨
         (∃ f g, h[q0]? = some (.inl (n0, .inr (.inl f))) ∧ h[q1]? = some (.inl (n1, .inr (.inl g))) ∧ K (pc + 3) lv r (h.set q1 (.inl (n1, .inr (.inl (va_cpy f g sp.toNatClampNeg dp.toNatClampNeg c.toNatClampNeg)))))))))
  | .ireturn => len = 1 ∧ ∃ x, stk = [.int x] ∧ mRetOk ret x ∧ P (some (.int x)) h
  | .lreturn => len = 1 ∧ ∃ x, stk = [.long x] ∧ ret = some .long ∧ P (some (.long x)) h
  | .return_ => len = 1 ∧ stk = [] ∧ ret = none ∧ P none h
  | _ => False
/-- the run from a place on, with fuel -/
def mEv (ρ : mRo) (C : Nat → List Value → List mE → mPo → Prop) (o nL : Nat) (cc : ByteArray) (ret : Option FieldType) (P : mPo) : Nat → Nat → mLv → List Value → List mE → Prop
  | 0, _, _, _, _ => False
  | n + 1, pc, lv0, stk, h => ∃ lv i len, (∀ q ∈ lv, q ∈ lv0) ∧ decode cc pc = .ok (i, len) ∧ mStp ρ C o nL ret i len pc lv stk h (fun pc lv stk h => mEv ρ C o nL cc ret P n pc lv stk h) P
/-- a call, by depth -/
def mC (ρ : mRo) : Nat → Nat → List Value → List mE → mPo → Prop
  | 0, _, _, _, _ => False
  | d + 1, j, as, h, P => ∃ y, mTab[j]? = some y ∧ (lg_sl as).length ≤ y.2.2.2.1 ∧ y.2.2.2.1 ≤ 20 ∧ ∃ n, mEv ρ (mC ρ d) y.1 y.2.2.2.1 y.2.2.1 y.2.2.2.2.1 P n 0 (lv_args 0 as) [] h
end
section
-- the machine of the Statement follows the small one: cells, locals, and each instruction
def mv (a : Nat → Nat) (v : Value) : Value := match v with
  | .ref q => .ref (a q)
  | w => w
theorem mv_cat (a : Nat → Nat) (v : Value) : (mv a v).category = v.category := by cases v <;> rfl
def me (cy : Nat → ClassId) (a : Nat → Nat) (x : mE) : va_E := match x with
  | .inl (n, .inl f) => .inl (cy 0, n, .inl f)
  | .inl (n, .inr (.inl f)) => .inl (cy 1, n, .inr (.inl f))
  | .inl (n, .inr (.inr (.inl f))) => .inl (cy 3, n, .inr (.inr (.inl f)))
  | .inl (n, .inr (.inr (.inr (.inl f)))) => .inl (cy 3, n, .inr (.inr (.inr (.inl f))))
  | .inl (n, .inr (.inr (.inr (.inr f)))) => .inl (cy 2, n, .inr (.inr (.inr (.inr (fun i => (f i).map a)))))
  | .inr (ci, fs) => .inr (ci, fs.map (mv a))
def mw (cy : Nat → ClassId) (a : Nat → Nat) (h : List mE) : va_W := h.mapIdx (fun q x => (a q, me cy a x))
theorem mw_at {cy : Nat → ClassId} {a : Nat → Nat} {h : List mE} {q : Nat} {x : mE} (hq : h[q]? = some x) : (mw cy a h)[q]? = some (a q, me cy a x) := by
  unfold mw
  rw [List.getElem?_mapIdx, hq]
  rfl
theorem mw_of {cy : Nat → ClassId} {a : Nat → Nat} {h : List mE} {q : Nat} {e : Nat × va_E} (hq : (mw cy a h)[q]? = some e) : q < h.length ∧ e.1 = a q := by
  unfold mw at hq
  rw [List.getElem?_mapIdx] at hq
  cases hx : h[q]? with
  | none => rw [hx] at hq; cases hq
  | some x =>
    rw [hx] at hq
    cases hq
    exact ⟨(List.getElem?_eq_some_iff.mp hx).1, rfl⟩
theorem mw_set (cy : Nat → ClassId) (a : Nat → Nat) (h : List mE) (q : Nat) (x : mE) : (mw cy a h).set q (a q, me cy a x) = mw cy a (h.set q x) := by
  apply List.ext_getElem?
  intro i
  unfold mw
  rw [List.getElem?_mapIdx, List.getElem?_set, List.getElem?_set, List.getElem?_mapIdx, List.length_mapIdx]
  by_cases hi : q = i
  · subst hi
    by_cases hl : q < h.length
    · simp [hl]
    · simp [hl]
  · simp [hi]
/-- the cells are apart, and of a kind -/
def mInj (A : Nat → Prop) (a : Nat → Nat) (n : Nat) : Prop := (∀ i j, i < n → j < n → a i = a j → i = j) ∧ ∀ i, i < n → A (a i)
theorem mInj.D {A : Nat → Prop} {a : Nat → Nat} {n : Nat} {cy : Nat → ClassId} {h : List mE} (hi : mInj A a n) (hn : h.length = n) : va_D A (mw cy a h) := by
  refine ⟨fun i j p q hp hq e => ?_, fun k q hq => ?_⟩
  · obtain ⟨h1, h2⟩ := mw_of hp
    obtain ⟨h3, h4⟩ := mw_of hq
    exact hi.1 i j (by omega) (by omega) (by rw [← h2, ← h4, e])
  · obtain ⟨h1, h2⟩ := mw_of hq
    rw [h2]
    exact hi.2 k (by omega)
def mTy (cy : Nat → ClassId) : List (ClassId × FieldType) := [(cy 0, .int), (cy 1, .long), (cy 2, .object "TypewritersKnow$Shelf")]
/-- locals -/
def ml (a : Nat → Nat) (lv : mLv) : List (Nat × Value) := lv.map (fun q => (q.1, mv a q.2))
theorem ml_mem {a : Nat → Nat} {lv : mLv} {ls : Array Slot} {nL i : Nat} {v : Value} (hl : lv_has ls nL (ml a lv)) (h : (i, v) ∈ lv) : ls[i]? = some (.val (mv a v)) := hl.2.2 (i, mv a v) (List.mem_map.mpr ⟨(i, v), h, rfl⟩)
theorem ml_put {a : Nat → Nat} {lv : mLv} {i : Nat} {v : Value} : (i, mv a v) :: (ml a lv).filter (fun q => !(q.1 == i) && !(q.1 + 1 == i && q.2.category == 2)) = ml a (mPut lv i v) := by
  unfold ml mPut
  rw [List.map_cons, List.filter_map]
  congr 2
  apply List.filter_congr
  intro x _
  simp [Function.comp, mv_cat]
theorem ml_put2 {a : Nat → Nat} {lv : mLv} {i : Nat} {v : Value} : (i, mv a v) :: (ml a lv).filter (fun q => !(q.1 == i) && (!(q.1 == i + 1) && !(q.1 + 1 == i && q.2.category == 2))) = ml a (mPut2 lv i v) := by
  unfold ml mPut2
  rw [List.map_cons, List.filter_map]
  congr 2
  apply List.filter_congr
  intro x _
  simp [Function.comp, mv_cat]
theorem ml_args (a : Nat → Nat) (vs : List Value) : ∀ i, lv_args i (vs.map (mv a)) = ml a (lv_args i vs) := by
  induction vs with
  | nil => intro i; rfl
  | cons v vs ih =>
    intro i
    simp only [List.map_cons, lv_args, mv_cat]
    rw [ih]
    rfl
theorem lg_sl_mv (a : Nat → Nat) (vs : List Value) : (lg_sl (vs.map (mv a))).length = (lg_sl vs).length := by
  induction vs with
  | nil => rfl
  | cons v vs ih =>
    unfold lg_sl at ih ⊢
    simp only [List.map_cons, List.flatMap_cons, List.length_append, ih, mv_cat]
    split <;> rfl
theorem mSum_mv (a : Nat → Nat) (r : List Value) : ((r.map (mv a)).map fun v => v.category).sum = mSum r := by
  unfold mSum
  rw [List.map_map]
  congr 1
  apply List.map_congr_left
  intro v _
  exact mv_cat a v
def gt : List Cond := lw_tbl.filter goodWord
theorem gt_of {w : Cond} (h : w ∈ lw_tbl) (hg : goodWord w = true) : w ∈ gt := List.mem_filter.mpr ⟨h, hg⟩
theorem gt_good : GoodIn gt gt := fun w h => ⟨h, good_of_word (List.mem_filter.mp h).2⟩
theorem gt_lay {C : String} {T : u_T} {N : Nat} (h : ∀ w ∈ u_ws C T N, w ∈ lw_tbl) : ∀ w ∈ u_ws C T N, w ∈ gt := by
  intro w hw
  refine gt_of (h w hw) ?_
  obtain ⟨k, -, rfl⟩ := List.mem_map.mp hw
  unfold u_lay
  split <;> rfl
def mWs (y : mRec) : List Cond := Cond.code y.2.1 y.2.2.1 y.2.2.2.1 y.2.2.2.2.1 :: gt
theorem mWs_good {y : mRec} (hy : mRecOk y) : GoodIn gt (mWs y) := by
  intro w hw
  rcases List.mem_cons.mp hw with rfl | h
  · exact ⟨gt_of hy.1 rfl, Or.inl rfl⟩
  · exact gt_good w h
end
section
-- one instruction of the small machine is one of the Statement's
def mRm (d : Nat) : Room := { frames := d, cells := 0, slots := 0, locals := 40 * d + 40 }
def mA (a : Nat → Nat) (n sz : Nat) : Nat → Prop := fun q => (∃ k, k < n ∧ q = a k) ∨ sz ≤ q
/-- what is read and never written: arrays outside, two static fields, the one link to a nest mate -/
def mRoOk (ρ : mRo) (a : Nat → Nat) (A : Nat → Prop) (U : State) : Prop :=
  (∀ q n f, ρ q = some (n, f) → va_X (a q) n f U U.heap ∧ a q < U.heap.size ∧ ¬ A (a q)) ∧ va_Z "TypewritersKnow$Ghosts" "OWN" "[I" (.ref (a 1001)) A U U.heap ∧ va_Z "TypewritersKnow$Ghosts" "ABOVE" "[I" (.ref (a 1002)) A U U.heap ∧ va_Nw (.methodLinkNest RX10 351 yX3_perform RX10) U
theorem mRoOk.to {ρ : mRo} {a : Nat → Nat} {A B : Nat → Prop} {s U : State} {locs : List Loc} (h : mRoOk ρ a A s) (hS : va_S A s.heap U.heap locs) (hAB : ∀ q, q < s.heap.size → B q → A q) (hW : s.WarmedH U.vm) : mRoOk ρ a B U := by
  obtain ⟨h1, h2, h3, h4⟩ := h
  have z : ∀ {n : String} {v : Value}, va_Z "TypewritersKnow$Ghosts" n "[I" v A s s.heap → va_Z "TypewritersKnow$Ghosts" n "[I" v B U U.heap := by
    intro n v hz
    obtain ⟨cf, kf, fi, f, b, cell, g1, g2, g3, g4, g5, g6, g7, g8⟩ := va_Z.moved hW.alike (va_Z.kept hz hS.2.1)
    obtain ⟨cf', kf', fi', f', b', cell', q1, q2, q3, q4, q5, q6, q7, q8⟩ := hz
    by_cases hb : b < s.heap.size
    · exact ⟨cf, kf, fi, f, b, cell, g1, g2, g3, g4, g5, g6, g7, fun q => g8 (hAB b hb q)⟩
    · exfalso
      obtain ⟨k', hi', he⟩ := State.fieldFound?_setVm hW.alike q1
      have ek : kf = k' := congrArg (fun z => z.2.1) (Option.some.inj (g1.symm.trans hi'))
      have e2 : kf.statics = some b' := by rw [ek, he]; exact q4
      have e3 : b = b' := Option.some.inj (g4.symm.trans e2)
      exact hb (by rw [e3]; exact (Array.getElem?_eq_some_iff.mp q5).1)
  refine ⟨fun q n f hq => ?_, z h2, z h3, h4.warmM hW⟩
  obtain ⟨g1, g2, g3⟩ := h1 q n f hq
  exact ⟨va_X.moved hW.alike (g1.kept (hS.2.1 _ g2 g3)), Nat.lt_of_lt_of_le g2 hS.1, fun z => g3 (hAB _ g2 z)⟩
def mPre (D : va_G) (cy : Nat → ClassId) (a : Nat → Nat) (ρ : mRo) (n : Nat) (as : List Value) (h : List mE) (sz : Nat) : Array Value → State → Prop :=
  va_Pc (as.map (mv a)) (fun U => U.heap.size = sz ∧ h.length = n ∧ va_P D vwCl (mw cy a h) U.heap ∧ va_K D vwCl (mTy cy) U ∧ (∀ i j, i < n → j < n → a i = a j → i = j) ∧ mRoOk ρ a (mA a n sz) U)
def mPost (D : va_G) (cy : Nat → ClassId) (a : Nat → Nat) (n sz : Nat) (P : mPo) : Array Value → State → Outcome → State → Prop := fun _ st oc t =>
  (∃ r h', oc = .returned (r.map (mv a)) ∧ h'.length = n ∧ P r h' ∧ va_P D vwCl (mw cy a h') t.heap) ∧ va_F (mA a n sz) st t
theorem mPre_blind {D : va_G} {cy : Nat → ClassId} {a : Nat → Nat} {ρ : mRo} {n : Nat} {as : List Value} {h : List mE} {sz : Nat} : FrameBlind (mPre D cy a ρ n as h sz) := by
  intro v U g mk q
  obtain ⟨q0, q1, q2, q3, q4, q5, q6, q7, q8, q9⟩ := q
  refine ⟨q0, q1, q2, q3, va_K.moved (u := U) (U := U.calling g mk v) (Vm.Alike.refl U.vm) q4, q5, ?_, ?_, ?_, ?_⟩
  · intro q n f hq
    obtain ⟨g1, g2, g3⟩ := q6 q n f hq
    exact ⟨va_X.moved (u := U) (U := U.calling g mk v) (Vm.Alike.refl U.vm) g1, g2, g3⟩
  · exact va_Z.moved (u := U) (U := U.calling g mk v) (Vm.Alike.refl U.vm) q7
  · exact va_Z.moved (u := U) (U := U.calling g mk v) (Vm.Alike.refl U.vm) q8
  · exact va_Nw.same rfl (u := U) (U := U.calling g mk v) rfl q9
/-- every call of the small machine has its contract -/
def mCallOk (l : Launch) (D : va_G) (cy : Nat → ClassId) (a : Nat → Nat) (ρ : mRo) (n d : Nat) (C : Nat → List Value → List mE → mPo → Prop) : Prop :=
  ∀ j as h P, C j as h P → ∃ y, mTab[j]? = some y ∧ y.2.2.2.1 ≤ 20 ∧ ∀ sz, Met l y.2.1 (mWs y) (mRm d) (mPre D cy a ρ n as h sz) (mPost D cy a n sz P) 0 0 (mA a n sz)
section MST
variable {p : Program} {l : Launch} {e : Env} {R : Room} {s : State} {m : MethodId} {args : Array Value} {below : List Frame} {meth : Method} {c : Code} {H : Heap} {locs : List Loc} {cells slots : Nat} {Q : State → Prop}
variable {D : va_G} {cy : Nat → ClassId} {a : Nat → Nat} {ρ : mRo} {n d o nL : Nat} {A : Nat → Prop} {cc : ByteArray} {ls : Array Slot} {pc : Nat} {lv : mLv}
/-- behind a call -/
theorem m_call {P : mPo} {av : Array Value} {g0 rest : List Value} (hr : va_Run p l e R s m args below meth c H locs cells slots 0 0 (F0 m pc ls g0) (rest.map (mv a)) (mPost D cy a n H.size P av) (mA a n H.size)) (hS : va_S A s.heap H locs) (hA : ∀ q, mA a n H.size q → A q)
    (kk : ∀ (r : Option Value) (h' : List mE) (H1 : Heap) (locs1 : List Loc), P r h' → h'.length = n → va_P D vwCl (mw cy a h') H1 → va_S A s.heap H1 locs1 → W p l e R s m args below meth c H1 locs1 cells slots Q (F0 m (pc + 3) ls ((r.toList ++ rest).map (mv a)))) : W p l e R s m args below meth c H locs cells slots Q (F0 m pc ls g0) := by
  intro T hT X
  obtain ⟨v, st₀, t, T', L, h0, X', hL, e1, e2, ⟨⟨r, h', hv, hn, hp, hb⟩, hz, hk⟩, st⟩ := hr T hT X
  cases hv
  rw [h0] at hz hk
  obtain ⟨t2, a1, b1⟩ := kk r h' T'.heap (locs ++ L) hp hn (by rw [e1]; exact hb)
    ⟨Nat.le_trans hS.1 (by rw [e1]; exact hz), fun q h1 h2 => by rw [e1, hk q (Nat.lt_of_lt_of_le h1 hS.1) (fun z => h2 (hA q z))]; exact hS.2.1 q h1 h2, fun q hq => by
      rcases List.mem_append.mp hq with h | h
      · exact hS.2.2 q h
      · exact hA _ (hL q h)⟩ T' rfl X'
  refine ⟨t2, st t2 ?_, b1⟩
  have e3 : (r.map (mv a)).toList ++ rest.map (mv a) = (r.toList ++ rest).map (mv a) := by cases r <;> simp
  rw [e3]
  exact a1
end MST
end
section
section MST2
variable {p : Program} {l : Launch} {e : Env} {R : Room} {s : State} {m : MethodId} {args : Array Value} {below : List Frame} {meth : Method} {c : Code} {cells slots : Nat} {Q : State → Prop}
variable {D : va_G} {cy : Nat → ClassId} {a : Nat → Nat} {ρ : mRo} {n d o nL : Nat} {A : Nat → Prop} {cc : ByteArray} {ret : Option FieldType} {C : Nat → List Value → List mE → mPo → Prop} {P : mPo}
/-- what is wanted of the machine behind a place -/
def mGo (p : Program) (l : Launch) (e : Env) (R : Room) (s : State) (m : MethodId) (args : Array Value) (below : List Frame) (meth : Method) (c : Code) (cells slots : Nat) (Q : State → Prop) (D : va_G) (cy : Nat → ClassId) (a : Nat → Nat) (n nL : Nat) (A : Nat → Prop) (pc : Nat) (lv : mLv) (stk : List Value) (h : List mE) : Prop :=
  ∀ (H : Heap) (locs : List Loc) (ls : Array Slot), h.length = n → va_P D vwCl (mw cy a h) H → va_S A s.heap H locs → lv_has ls nL (ml a lv) → W p l e R s m args below meth c H locs cells slots Q (F0 m pc ls (stk.map (mv a)))
/-- what a method's end is: the three returns -/
def mEndOk (p : Program) (l : Launch) (e : Env) (R : Room) (s : State) (m : MethodId) (args : Array Value) (below : List Frame) (meth : Method) (c : Code) (cells slots : Nat) (Q : State → Prop) (D : va_G) (cy : Nat → ClassId) (a : Nat → Nat) (n : Nat) (A : Nat → Prop) (cc : ByteArray) (ret : Option FieldType) (P : mPo) : Prop :=
  (∀ (pc : Nat) (x : Int32) (h : List mE) (H : Heap) (locs : List Loc) (ls : Array Slot), decode cc pc = .ok (.ireturn, 1) → mRetOk ret x → P (some (.int x)) h → h.length = n → va_P D vwCl (mw cy a h) H → va_S A s.heap H locs → W p l e R s m args below meth c H locs cells slots Q (F0 m pc ls [.int x])) ∧
  (∀ (pc : Nat) (x : Int64) (h : List mE) (H : Heap) (locs : List Loc) (ls : Array Slot), decode cc pc = .ok (.lreturn, 1) → ret = some .long → P (some (.long x)) h → h.length = n → va_P D vwCl (mw cy a h) H → va_S A s.heap H locs → W p l e R s m args below meth c H locs cells slots Q (F0 m pc ls [.long x])) ∧
  (∀ (pc : Nat) (h : List mE) (H : Heap) (locs : List Loc) (ls : Array Slot), decode cc pc = .ok (.return_, 1) → ret = none → P none h → h.length = n → va_P D vwCl (mw cy a h) H → va_S A s.heap H locs → W p l e R s m args below meth c H locs cells slots Q (F0 m pc ls []))
set_option maxHeartbeats 8000000 in
set_option maxRecDepth 100000 in
theorem m_step (hx : p.tables.exec = Jvm.exec) (hb : c.code = cc) (hml : c.maxLocals = nL) (hown : s.vm.findClass (mOwn o) = some m.cls) (hts : ∀ w ∈ gt, w.before args s = true) (hK : va_K D vwCl (mTy cy) s) (hi : mInj A a n) (hAa : ∀ q, s.heap.size ≤ q → A q) (hro : mRoOk ρ a A s)
    (hRf : d + 1 ≤ R.frames) (hRl : 40 * d + 80 ≤ R.locals) (hRc : cells ≤ R.cells ∧ slots ≤ R.slots) (hC : mCallOk l D cy a ρ n d C) (hE : mEndOk p l e R s m args below meth c cells slots Q D cy a n A cc ret P) {K : Nat → mLv → List Value → List mE → Prop}
    (hk : ∀ pc lv stk h, K pc lv stk h → mGo p l e R s m args below meth c cells slots Q D cy a n nL A pc lv stk h) {i : Instr} {len pc : Nat} {lv : mLv} {stk : List Value} {h : List mE} (hd : decode cc pc = .ok (i, len)) (hs : mStp ρ C o nL ret i len pc lv stk h K P) :
    mGo p l e R s m args below meth c cells slots Q D cy a n nL A pc lv stk h := by
  intro H locs ls hn hP hS hl
  have hD : va_D A (mw cy a h) := hi.D hn
  cases i
  case aload_n k => obtain ⟨rfl, q, h1, h2⟩ := hs; exact lv_aload_n hx hb hd rfl (ml_mem hl h1) (hk _ _ _ _ h2 H locs ls hn hP hS hl)
  case aload k => obtain ⟨rfl, q, h1, h2⟩ := hs; exact lv_aload hx hb hd (ml_mem hl h1) (hk _ _ _ _ h2 H locs ls hn hP hS hl)
  case iload_n k => obtain ⟨rfl, q, h1, h2⟩ := hs; exact lv_iload_n hx hb hd rfl (ml_mem hl h1) (hk _ _ _ _ h2 H locs ls hn hP hS hl)
  case iload k => obtain ⟨rfl, q, h1, h2⟩ := hs; exact lv_iload hx hb hd (ml_mem hl h1) (hk _ _ _ _ h2 H locs ls hn hP hS hl)
  case lload_n k => obtain ⟨rfl, q, h1, h2⟩ := hs; exact lv_lload_n hx hb hd rfl (ml_mem hl h1) (hk _ _ _ _ h2 H locs ls hn hP hS hl)
  case lload k => obtain ⟨rfl, q, h1, h2⟩ := hs; exact lv_lload hx hb hd (ml_mem hl h1) (hk _ _ _ _ h2 H locs ls hn hP hS hl)
  case istore_n k => obtain ⟨rfl, h0, x, r, rfl, h2⟩ := hs; exact lv_istore_n hx hb hd rfl hl h0 (ml_put (v := .int x)) (fun ls hl => hk _ _ _ _ h2 H locs ls hn hP hS hl)
  case istore k => obtain ⟨rfl, h0, x, r, rfl, h2⟩ := hs; exact lv_istore hx hb hd hl h0 (ml_put (v := .int x)) (fun ls hl => hk _ _ _ _ h2 H locs ls hn hP hS hl)
  case astore_n k => obtain ⟨rfl, h0, x, r, rfl, h2⟩ := hs; exact lv_astore_n hx hb hd rfl hl h0 (ml_put (v := .ref x)) (fun ls hl => hk _ _ _ _ h2 H locs ls hn hP hS hl)
  case astore k => obtain ⟨rfl, h0, x, r, rfl, h2⟩ := hs; exact lv_astore hx hb hd hl h0 (ml_put (v := .ref x)) (fun ls hl => hk _ _ _ _ h2 H locs ls hn hP hS hl)
  case lstore_n k => obtain ⟨rfl, h0, x, r, rfl, h2⟩ := hs; exact lv_lstore_n hx hb hd rfl hl h0 (ml_put2 (v := .long x)) (fun ls hl => hk _ _ _ _ h2 H locs ls hn hP hS hl)
  case lstore k => obtain ⟨rfl, h0, x, r, rfl, h2⟩ := hs; exact lv_lstore hx hb hd hl h0 (ml_put2 (v := .long x)) (fun ls hl => hk _ _ _ _ h2 H locs ls hn hP hS hl)
  case iinc k z =>
    obtain ⟨rfl, x, h1, h2⟩ := hs
    have h3 : (k, Value.int x) ∈ ml a lv := List.mem_map.mpr ⟨(k, .int x), h1, rfl⟩
    obtain ⟨k0, hk0⟩ := List.getElem?_of_mem h3
    have h4 : k < nL := by
      have := lv_lt (ml_mem hl h1)
      rw [hl.1] at this
      exact this
    exact lv_iinc hx hb hd hl hk0 rfl h4 (ml_put (v := .int (x + Int32.ofInt z))) (fun ls hl => hk _ _ _ _ h2 H locs ls hn hP hS hl)
  case iconst z => obtain ⟨rfl, h2⟩ := hs; exact lv_iconst hx hb hd rfl (hk _ _ _ _ h2 H locs ls hn hP hS hl)
  case bipush z => obtain ⟨rfl, h2⟩ := hs; exact lv_bipush hx hb hd rfl (hk _ _ _ _ h2 H locs ls hn hP hS hl)
  case sipush z => obtain ⟨rfl, h2⟩ := hs; exact lv_sipush hx hb hd rfl (hk _ _ _ _ h2 H locs ls hn hP hS hl)
  case lconst z => obtain ⟨rfl, h2⟩ := hs; exact lv_lconst hx hb hd rfl (hk _ _ _ _ h2 H locs ls hn hP hS hl)
  case ldc z => obtain ⟨rfl, v, h1, h2⟩ := hs; exact lv_ldc hx hb hown (hts _ (gt_of (mCst_ok h1) rfl)) hd (hk _ _ _ _ h2 H locs ls hn hP hS hl)
  case ldc_w z => obtain ⟨rfl, v, h1, h2⟩ := hs; exact lv_ldcw hx hb hown (hts _ (gt_of (mCst_ok h1) rfl)) hd (hk _ _ _ _ h2 H locs ls hn hP hS hl)
  case ldc2_w z => obtain ⟨rfl, v, h1, h2⟩ := hs; exact lv_ldc2 hx hb hown (hts _ (gt_of (mCsl_ok h1) rfl)) hd (hk _ _ _ _ h2 H locs ls hn hP hS hl)
  case iadd => obtain ⟨rfl, x, y, r, rfl, h2⟩ := hs; exact lv_iadd hx hb hd (hk _ _ _ _ h2 H locs ls hn hP hS hl)
  case isub => obtain ⟨rfl, x, y, r, rfl, h2⟩ := hs; exact lv_isub hx hb hd (hk _ _ _ _ h2 H locs ls hn hP hS hl)
  case imul => obtain ⟨rfl, x, y, r, rfl, h2⟩ := hs; exact lv_imul hx hb hd (hk _ _ _ _ h2 H locs ls hn hP hS hl)
  case iand => obtain ⟨rfl, x, y, r, rfl, h2⟩ := hs; exact lv_iand hx hb hd (hk _ _ _ _ h2 H locs ls hn hP hS hl)
  case ior => obtain ⟨rfl, x, y, r, rfl, h2⟩ := hs; exact lv_ior hx hb hd (hk _ _ _ _ h2 H locs ls hn hP hS hl)
  case ixor => obtain ⟨rfl, x, y, r, rfl, h2⟩ := hs; exact lv_ixor hx hb hd (hk _ _ _ _ h2 H locs ls hn hP hS hl)
  case ishl => obtain ⟨rfl, x, y, r, rfl, h2⟩ := hs; exact lv_ishl hx hb hd (hk _ _ _ _ h2 H locs ls hn hP hS hl)
  case ishr => obtain ⟨rfl, x, y, r, rfl, h2⟩ := hs; exact lv_ishr hx hb hd (hk _ _ _ _ h2 H locs ls hn hP hS hl)
  case iushr => obtain ⟨rfl, x, y, r, rfl, h2⟩ := hs; exact lv_iushr hx hb hd rfl (hk _ _ _ _ h2 H locs ls hn hP hS hl)
  case idiv => obtain ⟨rfl, x, y, r, rfl, h1, h2⟩ := hs; exact lv_idiv hx hb hd h1 (hk _ _ _ _ h2 H locs ls hn hP hS hl)
  case irem => obtain ⟨rfl, x, y, r, rfl, h1, h2⟩ := hs; exact lv_irem hx hb hd h1 (hk _ _ _ _ h2 H locs ls hn hP hS hl)
  case ineg => obtain ⟨rfl, x, r, rfl, h2⟩ := hs; exact lv_ineg hx hb hd (hk _ _ _ _ h2 H locs ls hn hP hS hl)
  case land => obtain ⟨rfl, x, y, r, rfl, h2⟩ := hs; exact lv_land hx hb hd (hk _ _ _ _ h2 H locs ls hn hP hS hl)
  case lor => obtain ⟨rfl, x, y, r, rfl, h2⟩ := hs; exact lv_lor hx hb hd (hk _ _ _ _ h2 H locs ls hn hP hS hl)
  case lshl => obtain ⟨rfl, x, y, r, rfl, h2⟩ := hs; exact lv_lshl hx hb hd rfl (hk _ _ _ _ h2 H locs ls hn hP hS hl)
  case lcmp => obtain ⟨rfl, x, y, r, rfl, h2⟩ := hs; exact W.lcmp hx hb hd (hk _ _ _ _ h2 H locs ls hn hP hS hl)
  case i2l => obtain ⟨rfl, x, r, rfl, h2⟩ := hs; exact lv_i2l hx hb hd rfl (hk _ _ _ _ h2 H locs ls hn hP hS hl)
  case l2i => obtain ⟨rfl, x, r, rfl, h2⟩ := hs; exact lv_l2i hx hb hd rfl (hk _ _ _ _ h2 H locs ls hn hP hS hl)
  case i2b => obtain ⟨rfl, x, r, rfl, h2⟩ := hs; exact lv_i2b hx hb hd rfl (hk _ _ _ _ h2 H locs ls hn hP hS hl)
  case i2s => obtain ⟨rfl, x, r, rfl, h2⟩ := hs; exact lv_i2s hx hb hd rfl (hk _ _ _ _ h2 H locs ls hn hP hS hl)
  case dup => obtain ⟨rfl, v, r, rfl, h1, h2⟩ := hs; exact lv_dup hx hb hd (by rw [mv_cat]; exact h1) (hk _ _ _ _ h2 H locs ls hn hP hS hl)
  case pop => obtain ⟨rfl, v, r, rfl, h1, h2⟩ := hs; exact lv_pop hx hb hd (by rw [mv_cat]; exact h1) (hk _ _ _ _ h2 H locs ls hn hP hS hl)
  case dup2 => obtain ⟨rfl, v, w, r, rfl, h1, h1', h2⟩ := hs; exact lv_dup2_11 hx hb hd (by rw [mv_cat]; exact h1) (by rw [mv_cat]; exact h1') (hk _ _ _ _ h2 H locs ls hn hP hS hl)
  case goto off => obtain ⟨rfl, tgt, h1, h2⟩ := hs; exact lv_goto hx hb hd h1 (hk _ _ _ _ h2 H locs ls hn hP hS hl)
  case ifCond cnd off =>
    obtain ⟨rfl, x, r, tgt, rfl, h1, h2, h3⟩ := hs
    cases cnd
    · exact lv_if_eq hx hb hd h1 (fun g => hk _ _ _ _ (h2 g) H locs ls hn hP hS hl) (fun g => hk _ _ _ _ (h3 g) H locs ls hn hP hS hl)
    · exact lv_if_ne hx hb hd h1 (fun g => hk _ _ _ _ (h2 g) H locs ls hn hP hS hl) (fun g => hk _ _ _ _ (h3 (fun z => z g)) H locs ls hn hP hS hl)
    · exact lv_if_lt hx hb hd h1 (fun g => hk _ _ _ _ (h2 g) H locs ls hn hP hS hl) (fun g => hk _ _ _ _ (h3 g) H locs ls hn hP hS hl)
    · exact lv_if_ge hx hb hd h1 (fun g => hk _ _ _ _ (h2 g) H locs ls hn hP hS hl) (fun g => hk _ _ _ _ (h3 g) H locs ls hn hP hS hl)
    · exact lv_if_gt hx hb hd h1 (fun g => hk _ _ _ _ (h2 g) H locs ls hn hP hS hl) (fun g => hk _ _ _ _ (h3 g) H locs ls hn hP hS hl)
    · exact lv_if_le hx hb hd h1 (fun g => hk _ _ _ _ (h2 g) H locs ls hn hP hS hl) (fun g => hk _ _ _ _ (h3 g) H locs ls hn hP hS hl)
  case if_icmp cnd off =>
    obtain ⟨rfl, x, y, r, tgt, rfl, h1, h2, h3⟩ := hs
    cases cnd
    · exact lv_icmp_eq hx hb hd h1 (fun g => hk _ _ _ _ (h2 g) H locs ls hn hP hS hl) (fun g => hk _ _ _ _ (h3 g) H locs ls hn hP hS hl)
    · exact lv_icmp_ne hx hb hd h1 (fun g => hk _ _ _ _ (h2 g) H locs ls hn hP hS hl) (fun g => hk _ _ _ _ (h3 (fun z => z g)) H locs ls hn hP hS hl)
    · exact lv_icmp_lt hx hb hd h1 (fun g => hk _ _ _ _ (h2 g) H locs ls hn hP hS hl) (fun g => hk _ _ _ _ (h3 g) H locs ls hn hP hS hl)
    · exact lv_icmp_ge hx hb hd h1 (fun g => hk _ _ _ _ (h2 g) H locs ls hn hP hS hl) (fun g => hk _ _ _ _ (h3 g) H locs ls hn hP hS hl)
    · exact lv_icmp_gt hx hb hd h1 (fun g => hk _ _ _ _ (h2 g) H locs ls hn hP hS hl) (fun g => hk _ _ _ _ (h3 g) H locs ls hn hP hS hl)
    · exact lv_icmp_le hx hb hd h1 (fun g => hk _ _ _ _ (h2 g) H locs ls hn hP hS hl) (fun g => hk _ _ _ _ (h3 g) H locs ls hn hP hS hl)
  case tableswitch dflt lo hi' offs =>
    obtain ⟨x, r, rfl, h1, h2⟩ := hs
    by_cases hlo : x.toInt < lo
    · obtain ⟨tgt, h3, h4⟩ := h1 (Or.inl hlo)
      exact lv_tableOut hx hb hd (Or.inl hlo) h3 (hk _ _ _ _ h4 H locs ls hn hP hS hl)
    · by_cases hhi : hi' < x.toInt
      · obtain ⟨tgt, h3, h4⟩ := h1 (Or.inr hhi)
        exact lv_tableOut hx hb hd (Or.inr hhi) h3 (hk _ _ _ _ h4 H locs ls hn hP hS hl)
      · obtain ⟨off, tgt, h3, h4, h5⟩ := h2 hlo hhi
        exact lv_tableIn hx hb hd hlo hhi h3 h4 (hk _ _ _ _ h5 H locs ls hn hP hS hl)
  case lookupswitch dflt ps =>
    obtain ⟨h0, x, r, tgt, rfl, h1, h2⟩ := hs
    exact lv_lookup hx hb hd h0 rfl h1 (hk _ _ _ _ h2 H locs ls hn hP hS hl)
  case getfield z =>
    obtain ⟨rfl, q, r, ci, k, fs, v, rfl, h1, h2, h3, h4⟩ := hs
    obtain ⟨C0, g1, g2, g3⟩ := mFld_ok h1
    obtain ⟨c1, ty0, c2, c3⟩ := mCls_ok g1
    exact va_get hx hb hts (gt_lay c1) hown hK hP q (mw_at h2) g1 k g2 (hts _ (gt_of g3 rfl)) (fun _ h9 => h9) (v := mv a v) (by rw [List.getElem?_map, h3]; rfl) hd (hk _ _ _ _ h4 H locs ls hn hP hS hl)
  case putfield z =>
    obtain ⟨rfl, x, q, r, ci, k, fs, C1, rfl, h1, hC1, hfin, hty, h2, h3, h4⟩ := hs
    obtain ⟨C0, g1, g2, g3⟩ := mFld_ok h1
    obtain ⟨c1, ty0, c2, c3⟩ := mCls_ok g1
    have e0 : C1 = C0 := Option.some.inj (hC1.symm.trans g1)
    subst e0
    have e1 : (mw cy a h).set q (a q, .inr (ci, (fs.map (mv a)).set k (.int x))) = mw cy a (h.set q (.inr (ci, fs.set k (.int x)))) := by
      rw [← mw_set]
      congr 3
      show _ = (ci, (fs.set k (.int x)).map (mv a))
      rw [List.map_set]
      rfl
    have kk : ∀ (H1 : Heap) (locs1 : List Loc), va_P D vwCl ((mw cy a h).set q (a q, .inr (ci, (fs.map (mv a)).set k (.int x)))) H1 → va_D A ((mw cy a h).set q (a q, .inr (ci, (fs.map (mv a)).set k (.int x)))) → va_S A s.heap H1 locs1 → W p l e R s m args below meth c H1 locs1 cells slots Q (F0 m (pc + 3) ls (r.map (mv a))) := by
      intro H1 locs1 g4 _ g6
      rw [e1] at g4
      exact hk _ _ _ _ h4 H1 locs1 ls (by rw [List.length_set]; exact hn) g4 g6 hl
    have hbo : (x = 0 ∨ x = 1) → narrow .boolean (.int x) = .int x ∧ fits .boolean (.int x) = true := by
      intro hz
      rcases hz with hz | hz <;> rw [hz] <;> decide +kernel
    rcases hty with hty | ⟨hty, hx01⟩
    · exact va_put (ty := .int) hx hb hts (gt_lay c1) ty0 c2 c3 hown hK hP hD hS q (mw_at h2) g1 k g2 (hts _ (gt_of g3 rfl)) (fun _ h9 => h9) hfin (by rw [hty]; decide +kernel) rfl rfl (by rw [List.length_map]; exact h3) hd kk
    · exact va_put (ty := .boolean) hx hb hts (gt_lay c1) ty0 c2 c3 hown hK hP hD hS q (mw_at h2) g1 k g2 (hts _ (gt_of g3 rfl)) (fun _ h9 => h9) hfin (by rw [hty]; decide +kernel) (hbo hx01).1 (hbo hx01).2 (by rw [List.length_map]; exact h3) hd kk
  case getstatic z =>
    obtain ⟨rfl, q, h1, h2⟩ := hs
    unfold mStat at h1
    split at h1
    · rename_i ho
      obtain ⟨rfl, rfl⟩ := ho
      cases h1
      exact va_gets hx hb hro.2.1 hS hown (hts _ (gt_of mSt_OWN rfl)) (fun _ h9 => h9) hd (hk _ _ _ _ h2 H locs ls hn hP hS hl)
    · split at h1
      · rename_i ho
        obtain ⟨rfl, rfl⟩ := ho
        cases h1
        exact va_gets hx hb hro.2.2.1 hS hown (hts _ (gt_of mSt_ABOVE rfl)) (fun _ h9 => h9) hd (hk _ _ _ _ h2 H locs ls hn hP hS hl)
      · cases h1
  case iaload =>
    obtain ⟨rfl, ix, q, r, k, f, rfl, h1, h2, h3⟩ := hs
    rcases h1 with h1 | h1
    · exact va_iald hx hb hK hP q 0 (mw_at h1) rfl h2 hd (hk _ _ _ _ h3 H locs ls hn hP hS hl)
    · obtain ⟨g1, g2, g3⟩ := hro.1 q k f h1
      exact va_sld hx hb g1 g2 g3 hS h2 hd (hk _ _ _ _ h3 H locs ls hn hP hS hl)
  case laload => obtain ⟨rfl, ix, q, r, k, f, rfl, h1, h2, h3⟩ := hs; exact va_lald hx hb hK hP q 1 (mw_at h1) rfl h2 hd (hk _ _ _ _ h3 H locs ls hn hP hS hl)
  case aaload =>
    obtain ⟨rfl, ix, q, r, k, f, b, rfl, h1, h2, h4, h3⟩ := hs
    refine va_aldq (C := "TypewritersKnow$Shelf") hx hb hK hP q 2 (mw_at h1) rfl h2 hd ?_
    rw [h4]
    exact hk _ _ _ _ h3 H locs ls hn hP hS hl
  case iastore =>
    obtain ⟨rfl, x, ix, q, r, k, f, rfl, h1, h2, h3⟩ := hs
    refine va_iast hx hb hK hP hD hS q 0 (mw_at h1) rfl h2 hd (fun H1 locs1 g4 _ g6 => ?_)
    rw [show (mw cy a h).set q (a q, .inl (cy 0, k, .inl (upd f ix.toNatClampNeg x))) = mw cy a (h.set q (.inl (k, .inl (upd f ix.toNatClampNeg x)))) from mw_set cy a h q (.inl (k, .inl (upd f ix.toNatClampNeg x)))] at g4
    exact hk _ _ _ _ h3 H1 locs1 ls (by rw [List.length_set]; exact hn) g4 g6 hl
  case lastore =>
    obtain ⟨rfl, x, ix, q, r, k, f, rfl, h1, h2, h3⟩ := hs
    refine va_last hx hb hK hP hD hS q 1 (mw_at h1) rfl h2 hd (fun H1 locs1 g4 _ g6 => ?_)
    rw [show (mw cy a h).set q (a q, .inl (cy 1, k, .inr (.inl (vp_updL f ix.toNatClampNeg x)))) = mw cy a (h.set q (.inl (k, .inr (.inl (vp_updL f ix.toNatClampNeg x))))) from mw_set cy a h q (.inl (k, .inr (.inl (vp_updL f ix.toNatClampNeg x))))] at g4
    exact hk _ _ _ _ h3 H1 locs1 ls (by rw [List.length_set]; exact hn) g4 g6 hl
  case arraylength =>
    obtain ⟨rfl, q, r, k, rfl, h1, h3⟩ := hs
    rcases h1 with ⟨f, h1⟩ | ⟨f, h1⟩ | ⟨f, h1⟩
    · exact va_alen hx hb hK hP q 0 (mw_at h1) rfl rfl hd (hk _ _ _ _ h3 H locs ls hn hP hS hl)
    · exact va_alen hx hb hK hP q 1 (mw_at h1) rfl rfl hd (hk _ _ _ _ h3 H locs ls hn hP hS hl)
    · obtain ⟨g1, g2, g3⟩ := hro.1 q k f h1
      exact va_slen hx hb g1 g2 g3 hS hd (hk _ _ _ _ h3 H locs ls hn hP hS hl)
  case ireturn => obtain ⟨rfl, x, rfl, h1, h2⟩ := hs; exact hE.1 pc x h H locs ls hd h1 h2 hn hP hS
  case lreturn => obtain ⟨rfl, x, rfl, h1, h2⟩ := hs; exact hE.2.1 pc x h H locs ls hd h1 h2 hn hP hS
  case return_ => obtain ⟨rfl, rfl, h1, h2⟩ := hs; exact hE.2.2 pc h H locs ls hd h1 h2 hn hP hS
  case invokevirtual z =>
    obtain ⟨rfl, j, y, as, q, r, ci, fs, C0, hj, hy, hst, hlen, rfl, hsum, hq, hci, hcn, hcall⟩ := hs
    obtain ⟨y', hy', hmax, hM⟩ := hC _ _ _ _ hcall
    have ey : y' = y := Option.some.inj (hy'.symm.trans hy)
    subst ey
    have hok := mTab_ok y' (List.mem_of_getElem? hy)
    obtain ⟨o1, o2, o3, o4, o5, o6⟩ := hok
    rw [if_neg (by rw [hst]; decide)] at o3
    have hAq : ∀ q, mA a n H.size q → A q := fun q hq => by
      rcases hq with ⟨k, hk1, rfl⟩ | hq
      · exact hi.2 k hk1
      · exact hAa q (Nat.le_trans hS.1 hq)
    have hrv := va_recv hK hP hci (mw_at hq)
    rw [hcn] at hrv
    have hpre : PreV s H y'.2.1.cls (a q) (mPre D cy a ρ n (.ref q :: as) h H.size) (as.map (mv a)) := ⟨mPre_blind, hrv, fun U hU hW => ⟨rfl, by rw [hU], hn, by rw [hU]; exact hP, va_K.moved hW.alike hK, hi.1, hro.to (by rw [hU]; exact hS) (fun q _ hq => hAq q hq) hW⟩⟩
    have hstk : (as.reverse ++ Value.ref q :: r).map (mv a) = (as.map (mv a)).reverse ++ Value.ref (a q) :: r.map (mv a) := by
      rw [List.map_append, List.map_reverse]
      rfl
    have hroom : 8 + (y'.2.2.2.1 + 11) + (mRm d).locals ≤ R.locals := by
      show 8 + (y'.2.2.2.1 + 11) + (40 * d + 40) ≤ R.locals
      omega
    rw [hstk]
    rcases hj with hj | ⟨rfl, rfl, rfl⟩
    · obtain ⟨y2, hy2, hl2⟩ := mCal_ok hj
      have ey : y2 = y' := Option.some.inj (hy2.symm.trans hy)
      subst ey
      refine m_call (va_runV (As := as.map (mv a)) (rest := r.map (mv a)) ⟨hx, hb, hml, hown, hts⟩ (hM H.size) ⟨callB_of y2.2.2.2.2.2.2 hts (mWs_good (mTab_ok y2 (List.mem_of_getElem? hy))) rfl rfl rfl (hts _ (gt_of o2 rfl)) (hts _ (gt_of hl2 rfl)) o6 ⟨hRf, hroom⟩, hts _ (gt_of o3.1 rfl), hts _ (gt_of o3.2 rfl)⟩ hpre rfl (by rw [List.length_map]; exact hlen) hl.1 rfl (lv_room (by rw [mSum_mv]; exact hsum)) hd ⟨hRc.1, hRc.2⟩) hS hAq (fun v h' H1 locs1 hp hn hP hS => hk _ _ _ _ hp H1 locs1 ls hn hP hS hl)
    · have ey : y' = (3, yX3_perform, cX3_perform, 8, (some .int), false, 5) := Option.some.inj (hy.symm.trans (rfl : mTab[16]? = some (3, yX3_perform, cX3_perform, 8, (some .int), false, 5)))
      subst ey
      refine m_call (va_runVN (As := as.map (mv a)) (rest := r.map (mv a)) ⟨hx, hb, hml, hown, hts⟩ (hM H.size) ⟨va_cnB 5 hts (mWs_good (mTab_ok _ (List.mem_of_getElem? hy))) rfl rfl rfl hro.2.2.2 (hts _ (gt_of o2 rfl)) o6 ⟨hRf, hroom⟩, hts _ (gt_of o3.1 rfl), hts _ (gt_of o3.2 rfl)⟩ hpre rfl (by rw [List.length_map]; exact hlen) hl.1 rfl (lv_room (by rw [mSum_mv]; exact hsum)) hd ⟨hRc.1, hRc.2⟩) hS hAq (fun v h' H1 locs1 hp hn hP hS => hk _ _ _ _ hp H1 locs1 ls hn hP hS hl)
  case invokestatic z =>
    obtain ⟨rfl, hs⟩ := hs
    have hml2 : c.maxLocals = ls.size := by rw [hml, hl.1]
    rcases hs with ⟨j, y, as, r, hj, hy, hst, hlen, rfl, hsum, hcall⟩ | ⟨k, hk1, hs⟩ | ⟨hac, cnt, dp, sp, q0, q1, n0, n1, r, rfl, hsum, h1, h2, h3, h4, h5, hs⟩
    · obtain ⟨y', hy', hmax, hM⟩ := hC _ _ _ _ hcall
      have ey : y' = y := Option.some.inj (hy'.symm.trans hy)
      subst ey
      obtain ⟨o1, o2, o3, o4, o5, o6⟩ := mTab_ok y' (List.mem_of_getElem? hy)
      rw [if_pos hst] at o3
      have hAq : ∀ q, mA a n H.size q → A q := fun q hq => by
        rcases hq with ⟨k, hk1, rfl⟩ | hq
        · exact hi.2 k hk1
        · exact hAa q (Nat.le_trans hS.1 hq)
      have hpre : PreS s H (mPre D cy a ρ n as h H.size) (as.map (mv a)) := ⟨mPre_blind, fun U hU hW => ⟨rfl, by rw [hU], hn, by rw [hU]; exact hP, va_K.moved hW.alike hK, hi.1, hro.to (by rw [hU]; exact hS) (fun q _ hq => hAq q hq) hW⟩⟩
      have hstk : (as.reverse ++ r).map (mv a) = (as.map (mv a)).reverse ++ r.map (mv a) := by
        rw [List.map_append, List.map_reverse]
      have hroom : 8 + (y'.2.2.2.1 + 11) + (mRm d).locals ≤ R.locals := by
        show 8 + (y'.2.2.2.1 + 11) + (40 * d + 40) ≤ R.locals
        omega
      rw [hstk]
      obtain ⟨y2, hy2, hl2⟩ := mCal_ok hj
      have ey : y2 = y' := Option.some.inj (hy2.symm.trans hy)
      subst ey
      refine m_call (va_runS (As := as.map (mv a)) (rest := r.map (mv a)) ⟨hx, hb, hml, hown, hts⟩ (hM H.size) ⟨callB_of y2.2.2.2.2.2.2 hts (mWs_good (mTab_ok y2 (List.mem_of_getElem? hy))) rfl rfl rfl (hts _ (gt_of o2 rfl)) (hts _ (gt_of hl2 rfl)) o6 ⟨hRf, hroom⟩, hts _ (gt_of o3 rfl)⟩ hpre rfl (by rw [List.length_map]; exact hlen) hl.1 rfl (lv_room (by rw [mSum_mv]; exact hsum)) hd ⟨hRc.1, hRc.2⟩) hS hAq (fun v h' H1 locs1 hp hn hP hS => hk _ _ _ _ hp H1 locs1 ls hn hP hS hl)
    · have hfr : 1 ≤ R.frames := by omega
      rcases hs with ⟨rfl, x, r, rfl, hsum, h2⟩ | ⟨rfl, x, y, r, rfl, hsum, h2⟩ | ⟨rfl, x, y, r, rfl, hsum, h2⟩
      · exact va_mabs hx hb hml2 hown (hts _ (gt_of (mMth_ok hk1) rfl)) (hts _ (gt_of mMth_s_abs rfl)) (hts _ (gt_of mMth_i rfl)) (hts _ (gt_of mMth_c_abs rfl)) hfr (by rw [mSum_mv]; omega) hRc.1 hRc.2 hd (hk _ _ _ _ h2 H locs ls hn hP hS hl)
      · exact va_mmax hx hb hml2 hown (hts _ (gt_of (mMth_ok hk1) rfl)) (hts _ (gt_of mMth_s_max rfl)) (hts _ (gt_of mMth_i rfl)) (hts _ (gt_of mMth_c_max rfl)) hfr (by rw [mSum_mv]; omega) hRc.1 hRc.2 hd (hk _ _ _ _ h2 H locs ls hn hP hS hl)
      · exact va_mmin hx hb hml2 hown (hts _ (gt_of (mMth_ok hk1) rfl)) (hts _ (gt_of mMth_s_min rfl)) (hts _ (gt_of mMth_i rfl)) (hts _ (gt_of mMth_c_min rfl)) hfr (by rw [mSum_mv]; omega) hRc.1 hRc.2 hd (hk _ _ _ _ h2 H locs ls hn hP hS hl)
    · have hfr : 1 ≤ R.frames := by omega
      have hnw : nativeFrameWords "java/lang/System" "arraycopy" 5 ≤ 40 := by decide +kernel
      have hlk := hts _ (gt_of (mAcp_ok _ hac) rfl)
      rcases hs with ⟨f, g, g0, g1, h6⟩ | ⟨f, g, g0, g1, h6⟩
      · refine va_copyi hx hb hml2 hown hlk (hts _ (gt_of mAcp_n rfl)) (hts _ (gt_of mAcp_s rfl)) (hts _ (gt_of mAcp_i rfl)) hK hP hD hS q0 q1 0 0 (mw_at g0) (mw_at g1) rfl rfl rfl h1 h2 h3 h4 h5 (fun _ _ => rfl) hfr (by rw [mSum_mv]; omega) hd (fun H1 locs1 g4 _ g6 => ?_)
        rw [show (mw cy a h).set q1 (a q1, .inl (cy 0, n1, .inl (va_cpy f g sp.toNatClampNeg dp.toNatClampNeg cnt.toNatClampNeg))) = mw cy a (h.set q1 (.inl (n1, .inl (va_cpy f g sp.toNatClampNeg dp.toNatClampNeg cnt.toNatClampNeg)))) from mw_set cy a h q1 (.inl (n1, .inl (va_cpy f g sp.toNatClampNeg dp.toNatClampNeg cnt.toNatClampNeg)))] at g4
        exact hk _ _ _ _ h6 H1 locs1 ls (by rw [List.length_set]; exact hn) g4 g6 hl
      · refine va_copyl hx hb hml2 hown hlk (hts _ (gt_of mAcp_n rfl)) (hts _ (gt_of mAcp_s rfl)) (hts _ (gt_of mAcp_i rfl)) hK hP hD hS q0 q1 1 1 (mw_at g0) (mw_at g1) rfl rfl rfl h1 h2 h3 h4 h5 (fun _ _ => rfl) hfr (by rw [mSum_mv]; omega) hd (fun H1 locs1 g4 _ g6 => ?_)
        rw [show (mw cy a h).set q1 (a q1, .inl (cy 1, n1, .inr (.inl (va_cpy f g sp.toNatClampNeg dp.toNatClampNeg cnt.toNatClampNeg)))) = mw cy a (h.set q1 (.inl (n1, .inr (.inl (va_cpy f g sp.toNatClampNeg dp.toNatClampNeg cnt.toNatClampNeg))))) from mw_set cy a h q1 (.inl (n1, .inr (.inl (va_cpy f g sp.toNatClampNeg dp.toNatClampNeg cnt.toNatClampNeg))))] at g4
        exact hk _ _ _ _ h6 H1 locs1 ls (by rw [List.length_set]; exact hn) g4 g6 hl
  all_goals exact False.elim hs
end MST2
end
section
section MST3
variable {p : Program} {l : Launch} {e : Env} {R : Room} {s : State} {m : MethodId} {args : Array Value} {below : List Frame} {meth : Method} {c : Code} {cells slots : Nat} {Q : State → Prop}
variable {D : va_G} {cy : Nat → ClassId} {a : Nat → Nat} {ρ : mRo} {n d o nL : Nat} {A : Nat → Prop} {cc : ByteArray} {ret : Option FieldType} {C : Nat → List Value → List mE → mPo → Prop} {P : mPo}
/-- a run of the small machine is one of the Statement's -/
theorem m_run (hx : p.tables.exec = Jvm.exec) (hb : c.code = cc) (hml : c.maxLocals = nL) (hown : s.vm.findClass (mOwn o) = some m.cls) (hts : ∀ w ∈ gt, w.before args s = true) (hK : va_K D vwCl (mTy cy) s) (hi : mInj A a n) (hAa : ∀ q, s.heap.size ≤ q → A q) (hro : mRoOk ρ a A s)
    (hRf : d + 1 ≤ R.frames) (hRl : 40 * d + 80 ≤ R.locals) (hRc : cells ≤ R.cells ∧ slots ≤ R.slots) (hC : mCallOk l D cy a ρ n d C) (hE : mEndOk p l e R s m args below meth c cells slots Q D cy a n A cc ret P) :
    ∀ (k pc : Nat) (lv : mLv) (stk : List Value) (h : List mE), mEv ρ C o nL cc ret P k pc lv stk h → mGo p l e R s m args below meth c cells slots Q D cy a n nL A pc lv stk h := by
  intro k
  induction k with
  | zero => intro pc lv stk h hev; exact False.elim hev
  | succ k ih =>
    intro pc lv stk h hev
    obtain ⟨lv', i, len, hsub, hd, hs⟩ := hev
    intro H locs ls hn hP hS hl
    refine m_step hx hb hml hown hts hK hi hAa hro hRf hRl hRc hC hE ih hd hs H locs ls hn hP hS ⟨hl.1, hl.2.1, fun q hq => ?_⟩
    obtain ⟨q', hq', rfl⟩ := List.mem_map.mp hq
    exact hl.2.2 _ (List.mem_map.mpr ⟨q', hsub q' hq', rfl⟩)
end MST3
set_option maxHeartbeats 4000000 in
/-- every call of the small machine is a contract of the Statement's -/
theorem m_met (l : Launch) (D : va_G) (cy : Nat → ClassId) (a : Nat → Nat) (ρ : mRo) (n : Nat) : ∀ d, mCallOk l D cy a ρ n d (mC ρ d) := by
  intro d
  induction d with
  | zero => intro j as h P hc; exact False.elim hc
  | succ d ih =>
    intro j as h P hc
    obtain ⟨y, hy, hlg, hmax, k, hev⟩ := hc
    refine ⟨y, hy, hmax, fun sz => ?_⟩
    have hok := mTab_ok y (List.mem_of_getElem? hy)
    obtain ⟨o1, o2, o3, o4, o5, o6⟩ := id hok
    refine Met.ofW (cc := y.2.2.1) (maxL := y.2.2.2.1) (ret := y.2.2.2.2.1) o5 rfl ?_
    intro p e s m args below meth c s₁ B hml hv
    obtain ⟨rfl, hsz, hn, hP, hK, hinj, hro⟩ := hv
    have hx := B.exec
    have hb := B.bytes
    have hr := B.returns
    have hts0 := atoms_spec (ws := mWs y) B.pre
    have hts : ∀ w ∈ gt, w.before (as.map (mv a)).toArray s = true := fun w hw => hts0 w (List.mem_cons_of_mem _ hw)
    have hown : s.vm.findClass (mOwn y.1) = some m.cls := by rw [← o4]; exact findClass_of_methodNamed B.named
    have hlocks := B.notSynchronized
    subst hsz
    have hl := lv_entry (as.map (mv a)) (n := y.2.2.2.1) (by rw [lg_sl_mv]; exact hlg)
    rw [ml_args] at hl
    rw [lg_entry_eq]
    generalize (lg_sl (as.map (mv a)) ++ List.replicate (y.2.2.2.1 - (lg_sl (as.map (mv a))).length) Slot.unset).toArray = ls at hl ⊢
    have hi : mInj (mA a n s.heap.size) a n := ⟨hinj, fun i hi => Or.inl ⟨i, hi, rfl⟩⟩
    have hE : mEndOk p l e (headSpec (mWs y) (mRm (d + 1))).room s m (as.map (mv a)).toArray below meth c 0 0 (MQ below (mPost D cy a n s.heap.size P) (as.map (mv a)).toArray s 0 0 (mA a n s.heap.size)) D cy a n (mA a n s.heap.size) y.2.2.1 y.2.2.2.2.1 P := by
      refine ⟨?_, ?_, ?_⟩
      · intro pc x h H locs ls hd hro hPx hn hP hS
        have hq : ∀ t : State, t.heap = H → s.WarmedH t.vm → mPost D cy a n s.heap.size P (as.map (mv a)).toArray s (.returned (some (.int x))) t := fun t ht _ => ⟨⟨some (.int x), h, rfl, hn, hPx, by rw [ht]; exact hP⟩, hS.F ht⟩
        cases hret : y.2.2.2.2.1 with
        | none => rw [hret] at hro; exact False.elim hro
        | some ty =>
          rw [hret] at hro hr
          cases ty
          case int => exact W.iret hx hb hr hq hS.2.2 hd
          case boolean =>
            refine W.zret hx hb hr ?_ hq hS.2.2 hd
            rcases hro with hz | hz <;> rw [hz] <;> decide +kernel
          all_goals exact False.elim hro
      · intro pc x h H locs ls hd hro hPx hn hP hS
        rw [hro] at hr
        exact W.lret hx hb hr (fun t ht _ => ⟨⟨some (.long x), h, rfl, hn, hPx, by rw [ht]; exact hP⟩, hS.F ht⟩) hS.2.2 hd
      · intro pc h H locs ls hd hro hPx hn hP hS
        rw [hro] at hr
        exact W.vret hx hb hr (fun t ht _ => ⟨⟨none, h, rfl, hn, hPx, by rw [ht]; exact hP⟩, hS.F ht⟩) hS.2.2 hd
    exact m_run hx hb hml hown hts hK hi (fun q hq => Or.inr hq) hro (d := d) (Nat.le_refl _) (by show 40 * d + 80 ≤ 40 * (d + 1) + 40; omega) ⟨Nat.zero_le _, Nat.zero_le _⟩ ih hE k 0 _ _ h hev s.heap [] ls hn hP va_S.rf hl
end
section
-- the heap as a picture of numbers: ints, rows of ints, rows of longs, by their names (numbers)
abbrev mS : Type := (Nat → Int32) × (Nat → Nat → Int32) × (Nat → Nat → Int64)
def gI (s : mS) (k : Nat) : Int32 := s.1 k
def gA (s : mS) (k i : Nat) : Int32 := s.2.1 k i
def gL (s : mS) (k i : Nat) : Int64 := s.2.2 k i
def pI (s : mS) (k : Nat) (v : Int32) : mS := (va_up s.1 k v, s.2)
def wA (s : mS) (k : Nat) (g : Nat → Int32) : mS := (s.1, va_up s.2.1 k g, s.2.2)
def wL (s : mS) (k : Nat) (g : Nat → Int64) : mS := (s.1, s.2.1, va_up s.2.2 k g)
def pA (s : mS) (k i : Nat) (v : Int32) : mS := wA s k (upd (s.2.1 k) i v)
def pL (s : mS) (k i : Nat) (v : Int64) : mS := wL s k (vp_updL (s.2.2 k) i v)
/-- a cell's plan: an object (its class's number; each field a place or the number of an int), a row of ints, of longs (length, number), a row of places -/
abbrev mLE : Type := (Nat × List (Nat ⊕ Nat)) ⊕ ((Nat × Nat) ⊕ ((Nat × Nat) ⊕ List Nat))
def mFv (s : mS) (x : Nat ⊕ Nat) : Value := match x with
  | .inl j => .ref j
  | .inr k => .int (s.1 k)
def mCell (s : mS) (x : mLE) : mE := match x with
  | .inl (ci, fs) => .inr (ci, fs.map (mFv s))
  | .inr (.inl (n, k)) => .inl (n, .inl (s.2.1 k))
  | .inr (.inr (.inl (n, k))) => .inl (n, .inr (.inl (s.2.2 k)))
  | .inr (.inr (.inr js)) => .inl (js.length, .inr (.inr (.inr (.inr (fun i => js[i]?)))))
/-- a heap that pictures a state by a plan -/
def mView (L : Nat → Option mLE) (V : mS → List mE) : Prop :=
  (∀ q x s, L q = some x → (V s)[q]? = some (mCell s x)) ∧
  (∀ q ci fs (k id : Nat) s (v : Int32), L q = some (.inl (ci, fs)) → fs[k]? = some (.inr id) → (V s).set q (.inr (ci, (fs.map (mFv s)).set k (.int v))) = V (pI s id v)) ∧
  (∀ q n id s g, L q = some (.inr (.inl (n, id))) → (V s).set q (.inl (n, .inl g)) = V (wA s id g)) ∧
  (∀ q n id s g, L q = some (.inr (.inr (.inl (n, id)))) → (V s).set q (.inl (n, .inr (.inl g))) = V (wL s id g))
def bnd {α β : Type} (x : α) (k : α → β) : β := k x
def bO {α β : Type} (o : Option α) (k : α → Option β) : Option β := match o with
  | none => none
  | some x => k x
def bP {α β : Type} (o : Option (α × mS)) (k : α → mS → Option β) : Option β := match o with
  | none => none
  | some (x, s) => k x s
def ldA {β : Type} (s : mS) (id n : Nat) (i : Int32) (k : Int32 → Option β) : Option β := if i < 0 ∨ n ≤ i.toNatClampNeg then none else k (gA s id i.toNatClampNeg)
def ldR {β : Type} (f : Nat → Int32) (n : Nat) (i : Int32) (k : Int32 → Option β) : Option β := if i < 0 ∨ n ≤ i.toNatClampNeg then none else k (f i.toNatClampNeg)
def ldL {β : Type} (s : mS) (id n : Nat) (i : Int32) (k : Int64 → Option β) : Option β := if i < 0 ∨ n ≤ i.toNatClampNeg then none else k (gL s id i.toNatClampNeg)
def stA {β : Type} (s : mS) (id n : Nat) (i x : Int32) (k : mS → Option β) : Option β := if i < 0 ∨ n ≤ i.toNatClampNeg then none else k (pA s id i.toNatClampNeg x)
def stL {β : Type} (s : mS) (id n : Nat) (i : Int32) (x : Int64) (k : mS → Option β) : Option β := if i < 0 ∨ n ≤ i.toNatClampNeg then none else k (pL s id i.toNatClampNeg x)
def ldS {β : Type} (n : Nat) (i : Int32) (k : Nat → Option β) : Option β := if i < 0 ∨ n ≤ i.toNatClampNeg then none else k i.toNatClampNeg
def cpA {β : Type} (s : mS) (id0 n0 id1 n1 : Nat) (sp dp c : Int32) (k : mS → Option β) : Option β := if sp < 0 ∨ dp < 0 ∨ c < 0 ∨ n0 < sp.toNatClampNeg + c.toNatClampNeg ∨ n1 < dp.toNatClampNeg + c.toNatClampNeg then none else k (wA s id1 (va_cpy (s.2.1 id0) (s.2.1 id1) sp.toNatClampNeg dp.toNatClampNeg c.toNatClampNeg))
def cpL {β : Type} (s : mS) (id0 n0 id1 n1 : Nat) (sp dp c : Int32) (k : mS → Option β) : Option β := if sp < 0 ∨ dp < 0 ∨ c < 0 ∨ n0 < sp.toNatClampNeg + c.toNatClampNeg ∨ n1 < dp.toNatClampNeg + c.toNatClampNeg then none else k (wL s id1 (va_cpy (s.2.2 id0) (s.2.2 id1) sp.toNatClampNeg dp.toNatClampNeg c.toNatClampNeg))
def dvI {β : Type} (x y : Int32) (k : Int32 → Option β) : Option β := if y = 0 then none else k (x / y)
def rmI {β : Type} (x y : Int32) (k : Int32 → Option β) : Option β := if y = 0 then none else k (x - x / y * y)
/-- a boolean answer -/
def rB {β : Type} (x : Int32) (k : Option β) : Option β := if x = 0 ∨ x = 1 then k else none
/-- the fuel of a loop -/
def mFu : Nat := 6000
/-- some run of the small machine -/
def mG (ρ : mRo) (C : Nat → List Value → List mE → mPo → Prop) (o nL : Nat) (cc : ByteArray) (ret : Option FieldType) (P : mPo) (pc : Nat) (lv : mLv) (stk : List Value) (h : List mE) : Prop := ∃ n, mEv ρ C o nL cc ret P n pc lv stk h
section ROW
variable {ρ : mRo} {C : Nat → List Value → List mE → mPo → Prop} {o nL : Nat} {cc : ByteArray} {ret : Option FieldType} {P : mPo} {pc : Nat} {lv lv' : mLv} {r : List Value} {h : List mE} {β : Type} {res : β} {L : Nat → Option mLE} {V : mS → List mE} {s : mS}
theorem e_pick (ks : List Nat) (hl : lv_pick lv ks = lv') (k : mG ρ C o nL cc ret P pc lv' r h) : mG ρ C o nL cc ret P pc lv r h := by
  obtain ⟨n, k⟩ := k
  cases n with
  | zero => exact False.elim k
  | succ n =>
    obtain ⟨lv2, i, len, h1, h2, h3⟩ := k
    refine ⟨n + 1, lv2, i, len, fun q hq => ?_, h2, h3⟩
    have h4 := h1 q hq
    rw [← hl] at h4
    obtain ⟨i, -, h5⟩ := List.mem_filterMap.mp h4
    exact List.mem_of_getElem? h5
theorem e_iload_n (p : Nat) {k : Fin 4} {i : Nat} {x : Int32} (hd : decode cc pc = .ok (.iload_n k, 1)) (hi : (k : Nat) = i) (hp : lv[p]? = some (i, .int x)) (kk : mG ρ C o nL cc ret P (pc + 1) lv (.int x :: r) h) : mG ρ C o nL cc ret P pc lv r h := by
  obtain ⟨n, kk⟩ := kk
  subst hi
  exact ⟨n + 1, lv, _, _, fun _ z => z, hd, rfl, x, List.mem_of_getElem? hp, kk⟩
theorem e_iload (p : Nat) {i : Nat} {x : Int32} (hd : decode cc pc = .ok (.iload i, 2)) (hp : lv[p]? = some (i, .int x)) (kk : mG ρ C o nL cc ret P (pc + 2) lv (.int x :: r) h) : mG ρ C o nL cc ret P pc lv r h := by
  obtain ⟨n, kk⟩ := kk
  exact ⟨n + 1, lv, _, _, fun _ z => z, hd, rfl, x, List.mem_of_getElem? hp, kk⟩
theorem e_lload_n (p : Nat) {k : Fin 4} {i : Nat} {x : Int64} (hd : decode cc pc = .ok (.lload_n k, 1)) (hi : (k : Nat) = i) (hp : lv[p]? = some (i, .long x)) (kk : mG ρ C o nL cc ret P (pc + 1) lv (.long x :: r) h) : mG ρ C o nL cc ret P pc lv r h := by
  obtain ⟨n, kk⟩ := kk
  subst hi
  exact ⟨n + 1, lv, _, _, fun _ z => z, hd, rfl, x, List.mem_of_getElem? hp, kk⟩
theorem e_lload (p : Nat) {i : Nat} {x : Int64} (hd : decode cc pc = .ok (.lload i, 2)) (hp : lv[p]? = some (i, .long x)) (kk : mG ρ C o nL cc ret P (pc + 2) lv (.long x :: r) h) : mG ρ C o nL cc ret P pc lv r h := by
  obtain ⟨n, kk⟩ := kk
  exact ⟨n + 1, lv, _, _, fun _ z => z, hd, rfl, x, List.mem_of_getElem? hp, kk⟩
theorem e_aload_n (p : Nat) {k : Fin 4} {i : Nat} {x : Nat} (hd : decode cc pc = .ok (.aload_n k, 1)) (hi : (k : Nat) = i) (hp : lv[p]? = some (i, .ref x)) (kk : mG ρ C o nL cc ret P (pc + 1) lv (.ref x :: r) h) : mG ρ C o nL cc ret P pc lv r h := by
  obtain ⟨n, kk⟩ := kk
  subst hi
  exact ⟨n + 1, lv, _, _, fun _ z => z, hd, rfl, x, List.mem_of_getElem? hp, kk⟩
theorem e_aload (p : Nat) {i : Nat} {x : Nat} (hd : decode cc pc = .ok (.aload i, 2)) (hp : lv[p]? = some (i, .ref x)) (kk : mG ρ C o nL cc ret P (pc + 2) lv (.ref x :: r) h) : mG ρ C o nL cc ret P pc lv r h := by
  obtain ⟨n, kk⟩ := kk
  exact ⟨n + 1, lv, _, _, fun _ z => z, hd, rfl, x, List.mem_of_getElem? hp, kk⟩
theorem e_istore_n {k : Fin 4} {i : Nat} {x : Int32} {kf : Int32 → Option β} (hd : decode cc pc = .ok (.istore_n k, 1)) (hi : (k : Nat) = i) (hn : i < nL) (hf : bnd x kf = some res) (kk : ∀ y, kf y = some res → mG ρ C o nL cc ret P (pc + 1) (mPut lv i (.int y)) r h) : mG ρ C o nL cc ret P pc lv (.int x :: r) h := by
  obtain ⟨n, kk⟩ := kk x hf
  subst hi
  exact ⟨n + 1, lv, _, _, fun _ z => z, hd, rfl, hn, x, r, rfl, kk⟩
theorem e_istore {i : Nat} {x : Int32} {kf : Int32 → Option β} (hd : decode cc pc = .ok (.istore i, 2)) (hn : i < nL) (hf : bnd x kf = some res) (kk : ∀ y, kf y = some res → mG ρ C o nL cc ret P (pc + 2) (mPut lv i (.int y)) r h) : mG ρ C o nL cc ret P pc lv (.int x :: r) h := by
  obtain ⟨n, kk⟩ := kk x hf
  exact ⟨n + 1, lv, _, _, fun _ z => z, hd, rfl, hn, x, r, rfl, kk⟩
theorem e_lstore_n {k : Fin 4} {i : Nat} {x : Int64} {kf : Int64 → Option β} (hd : decode cc pc = .ok (.lstore_n k, 1)) (hi : (k : Nat) = i) (hn : i + 1 < nL) (hf : bnd x kf = some res) (kk : ∀ y, kf y = some res → mG ρ C o nL cc ret P (pc + 1) (mPut2 lv i (.long y)) r h) : mG ρ C o nL cc ret P pc lv (.long x :: r) h := by
  obtain ⟨n, kk⟩ := kk x hf
  subst hi
  exact ⟨n + 1, lv, _, _, fun _ z => z, hd, rfl, hn, x, r, rfl, kk⟩
theorem e_lstore {i : Nat} {x : Int64} {kf : Int64 → Option β} (hd : decode cc pc = .ok (.lstore i, 2)) (hn : i + 1 < nL) (hf : bnd x kf = some res) (kk : ∀ y, kf y = some res → mG ρ C o nL cc ret P (pc + 2) (mPut2 lv i (.long y)) r h) : mG ρ C o nL cc ret P pc lv (.long x :: r) h := by
  obtain ⟨n, kk⟩ := kk x hf
  exact ⟨n + 1, lv, _, _, fun _ z => z, hd, rfl, hn, x, r, rfl, kk⟩
theorem e_astore_n {k : Fin 4} {i : Nat} {x : Nat} (hd : decode cc pc = .ok (.astore_n k, 1)) (hi : (k : Nat) = i) (hn : i < nL) (kk : mG ρ C o nL cc ret P (pc + 1) (mPut lv i (.ref x)) r h) : mG ρ C o nL cc ret P pc lv (.ref x :: r) h := by
  obtain ⟨n, kk⟩ := kk
  subst hi
  exact ⟨n + 1, lv, _, _, fun _ z => z, hd, rfl, hn, x, r, rfl, kk⟩
theorem e_astore {i : Nat} {x : Nat} (hd : decode cc pc = .ok (.astore i, 2)) (hn : i < nL) (kk : mG ρ C o nL cc ret P (pc + 2) (mPut lv i (.ref x)) r h) : mG ρ C o nL cc ret P pc lv (.ref x :: r) h := by
  obtain ⟨n, kk⟩ := kk
  exact ⟨n + 1, lv, _, _, fun _ z => z, hd, rfl, hn, x, r, rfl, kk⟩
theorem e_iinc (p : Nat) {i : Nat} {x : Int32} {z : Int} {w : Int32} {kf : Int32 → Option β} (hd : decode cc pc = .ok (.iinc i z, 3)) (hz : Int32.ofInt z = w) (hp : lv[p]? = some (i, .int x)) (hf : bnd (x + w) kf = some res) (kk : ∀ y, kf y = some res → mG ρ C o nL cc ret P (pc + 3) (mPut lv i (.int y)) r h) : mG ρ C o nL cc ret P pc lv r h := by
  obtain ⟨n, kk⟩ := kk (x + w) hf
  subst hz
  exact ⟨n + 1, lv, _, _, fun _ z => z, hd, rfl, x, List.mem_of_getElem? hp, kk⟩
theorem e_iconst {z : Int} {w : Int32} (hd : decode cc pc = .ok (.iconst z, 1)) (hz : Int32.ofInt z = w) (kk : mG ρ C o nL cc ret P (pc + 1) lv (.int w :: r) h) : mG ρ C o nL cc ret P pc lv r h := by
  obtain ⟨n, kk⟩ := kk
  subst hz
  exact ⟨n + 1, lv, _, _, fun _ z => z, hd, rfl, kk⟩
theorem e_bipush {z : Int} {w : Int32} (hd : decode cc pc = .ok (.bipush z, 2)) (hz : (Int8.ofInt z).toInt32 = w) (kk : mG ρ C o nL cc ret P (pc + 2) lv (.int w :: r) h) : mG ρ C o nL cc ret P pc lv r h := by
  obtain ⟨n, kk⟩ := kk
  subst hz
  exact ⟨n + 1, lv, _, _, fun _ z => z, hd, rfl, kk⟩
theorem e_sipush {z : Int} {w : Int32} (hd : decode cc pc = .ok (.sipush z, 3)) (hz : (Int16.ofInt z).toInt32 = w) (kk : mG ρ C o nL cc ret P (pc + 3) lv (.int w :: r) h) : mG ρ C o nL cc ret P pc lv r h := by
  obtain ⟨n, kk⟩ := kk
  subst hz
  exact ⟨n + 1, lv, _, _, fun _ z => z, hd, rfl, kk⟩
theorem e_lconst {z : Fin 2} {w : Int64} (hd : decode cc pc = .ok (.lconst z, 1)) (hz : Int64.ofNat (z : Nat) = w) (kk : mG ρ C o nL cc ret P (pc + 1) lv (.long w :: r) h) : mG ρ C o nL cc ret P pc lv r h := by
  obtain ⟨n, kk⟩ := kk
  subst hz
  exact ⟨n + 1, lv, _, _, fun _ z => z, hd, rfl, kk⟩
theorem e_ldc {z : Nat} {w : Int32} (hd : decode cc pc = .ok (.ldc z, 2)) (hz : mLook (mCstT o) z = some w) (kk : mG ρ C o nL cc ret P (pc + 2) lv (.int w :: r) h) : mG ρ C o nL cc ret P pc lv r h := by
  obtain ⟨n, kk⟩ := kk
  exact ⟨n + 1, lv, _, _, fun _ z => z, hd, rfl, w, hz, kk⟩
theorem e_ldc_w {z : Nat} {w : Int32} (hd : decode cc pc = .ok (.ldc_w z, 3)) (hz : mLook (mCstT o) z = some w) (kk : mG ρ C o nL cc ret P (pc + 3) lv (.int w :: r) h) : mG ρ C o nL cc ret P pc lv r h := by
  obtain ⟨n, kk⟩ := kk
  exact ⟨n + 1, lv, _, _, fun _ z => z, hd, rfl, w, hz, kk⟩
theorem e_ldc2_w {z : Nat} {w : Int64} (hd : decode cc pc = .ok (.ldc2_w z, 3)) (hz : mLook (mCslT o) z = some w) (kk : mG ρ C o nL cc ret P (pc + 3) lv (.long w :: r) h) : mG ρ C o nL cc ret P pc lv r h := by
  obtain ⟨n, kk⟩ := kk
  exact ⟨n + 1, lv, _, _, fun _ z => z, hd, rfl, w, hz, kk⟩
theorem e_iadd {x y : Int32} (hd : decode cc pc = .ok (.iadd, 1)) (kk : mG ρ C o nL cc ret P (pc + 1) lv (.int (x + y) :: r) h) : mG ρ C o nL cc ret P pc lv (.int y :: .int x :: r) h := by
  obtain ⟨n, kk⟩ := kk
  exact ⟨n + 1, lv, _, _, fun _ z => z, hd, rfl, x, y, r, rfl, kk⟩
theorem e_isub {x y : Int32} (hd : decode cc pc = .ok (.isub, 1)) (kk : mG ρ C o nL cc ret P (pc + 1) lv (.int (x - y) :: r) h) : mG ρ C o nL cc ret P pc lv (.int y :: .int x :: r) h := by
  obtain ⟨n, kk⟩ := kk
  exact ⟨n + 1, lv, _, _, fun _ z => z, hd, rfl, x, y, r, rfl, kk⟩
theorem e_imul {x y : Int32} (hd : decode cc pc = .ok (.imul, 1)) (kk : mG ρ C o nL cc ret P (pc + 1) lv (.int (x * y) :: r) h) : mG ρ C o nL cc ret P pc lv (.int y :: .int x :: r) h := by
  obtain ⟨n, kk⟩ := kk
  exact ⟨n + 1, lv, _, _, fun _ z => z, hd, rfl, x, y, r, rfl, kk⟩
theorem e_iand {x y : Int32} (hd : decode cc pc = .ok (.iand, 1)) (kk : mG ρ C o nL cc ret P (pc + 1) lv (.int (x &&& y) :: r) h) : mG ρ C o nL cc ret P pc lv (.int y :: .int x :: r) h := by
  obtain ⟨n, kk⟩ := kk
  exact ⟨n + 1, lv, _, _, fun _ z => z, hd, rfl, x, y, r, rfl, kk⟩
theorem e_ior {x y : Int32} (hd : decode cc pc = .ok (.ior, 1)) (kk : mG ρ C o nL cc ret P (pc + 1) lv (.int (x ||| y) :: r) h) : mG ρ C o nL cc ret P pc lv (.int y :: .int x :: r) h := by
  obtain ⟨n, kk⟩ := kk
  exact ⟨n + 1, lv, _, _, fun _ z => z, hd, rfl, x, y, r, rfl, kk⟩
theorem e_ixor {x y : Int32} (hd : decode cc pc = .ok (.ixor, 1)) (kk : mG ρ C o nL cc ret P (pc + 1) lv (.int (x ^^^ y) :: r) h) : mG ρ C o nL cc ret P pc lv (.int y :: .int x :: r) h := by
  obtain ⟨n, kk⟩ := kk
  exact ⟨n + 1, lv, _, _, fun _ z => z, hd, rfl, x, y, r, rfl, kk⟩
theorem e_ishl {x y : Int32} (hd : decode cc pc = .ok (.ishl, 1)) (kk : mG ρ C o nL cc ret P (pc + 1) lv (.int (x <<< (y &&& 31)) :: r) h) : mG ρ C o nL cc ret P pc lv (.int y :: .int x :: r) h := by
  obtain ⟨n, kk⟩ := kk
  exact ⟨n + 1, lv, _, _, fun _ z => z, hd, rfl, x, y, r, rfl, kk⟩
theorem e_ishr {x y : Int32} (hd : decode cc pc = .ok (.ishr, 1)) (kk : mG ρ C o nL cc ret P (pc + 1) lv (.int (x >>> (y &&& 31)) :: r) h) : mG ρ C o nL cc ret P pc lv (.int y :: .int x :: r) h := by
  obtain ⟨n, kk⟩ := kk
  exact ⟨n + 1, lv, _, _, fun _ z => z, hd, rfl, x, y, r, rfl, kk⟩
theorem e_iushr {x y : Int32} (hd : decode cc pc = .ok (.iushr, 1)) (kk : mG ρ C o nL cc ret P (pc + 1) lv (.int ((x.toUInt32 >>> (y.toUInt32 &&& Int32.toUInt32 31)).toInt32) :: r) h) : mG ρ C o nL cc ret P pc lv (.int y :: .int x :: r) h := by
  obtain ⟨n, kk⟩ := kk
  exact ⟨n + 1, lv, _, _, fun _ z => z, hd, rfl, x, y, r, rfl, kk⟩
theorem e_land {x y : Int64} (hd : decode cc pc = .ok (.land, 1)) (kk : mG ρ C o nL cc ret P (pc + 1) lv (.long (x &&& y) :: r) h) : mG ρ C o nL cc ret P pc lv (.long y :: .long x :: r) h := by
  obtain ⟨n, kk⟩ := kk
  exact ⟨n + 1, lv, _, _, fun _ z => z, hd, rfl, x, y, r, rfl, kk⟩
theorem e_lor {x y : Int64} (hd : decode cc pc = .ok (.lor, 1)) (kk : mG ρ C o nL cc ret P (pc + 1) lv (.long (x ||| y) :: r) h) : mG ρ C o nL cc ret P pc lv (.long y :: .long x :: r) h := by
  obtain ⟨n, kk⟩ := kk
  exact ⟨n + 1, lv, _, _, fun _ z => z, hd, rfl, x, y, r, rfl, kk⟩
theorem e_lshl {x : Int64} {y : Int32} (hd : decode cc pc = .ok (.lshl, 1)) (kk : mG ρ C o nL cc ret P (pc + 1) lv (.long (x <<< (y.toInt64 &&& 63)) :: r) h) : mG ρ C o nL cc ret P pc lv (.int y :: .long x :: r) h := by
  obtain ⟨n, kk⟩ := kk
  exact ⟨n + 1, lv, _, _, fun _ z => z, hd, rfl, x, y, r, rfl, kk⟩
theorem e_lcmp {x y : Int64} (hd : decode cc pc = .ok (.lcmp, 1)) (kk : mG ρ C o nL cc ret P (pc + 1) lv (.int (lg_cmp x y) :: r) h) : mG ρ C o nL cc ret P pc lv (.long y :: .long x :: r) h := by
  obtain ⟨n, kk⟩ := kk
  exact ⟨n + 1, lv, _, _, fun _ z => z, hd, rfl, x, y, r, rfl, kk⟩
theorem e_idiv {x y : Int32} (hd : decode cc pc = .ok (.idiv, 1)) (h0 : ¬ y = 0) (kk : mG ρ C o nL cc ret P (pc + 1) lv (.int (x / y) :: r) h) : mG ρ C o nL cc ret P pc lv (.int y :: .int x :: r) h := by
  obtain ⟨n, kk⟩ := kk
  exact ⟨n + 1, lv, _, _, fun _ z => z, hd, rfl, x, y, r, rfl, h0, kk⟩
theorem e_irem {x y : Int32} (hd : decode cc pc = .ok (.irem, 1)) (h0 : ¬ y = 0) (kk : mG ρ C o nL cc ret P (pc + 1) lv (.int (x - x / y * y) :: r) h) : mG ρ C o nL cc ret P pc lv (.int y :: .int x :: r) h := by
  obtain ⟨n, kk⟩ := kk
  exact ⟨n + 1, lv, _, _, fun _ z => z, hd, rfl, x, y, r, rfl, h0, kk⟩
theorem e_idivb {x y : Int32} {kf : Int32 → Option β} (hd : decode cc pc = .ok (.idiv, 1)) (hf : dvI x y kf = some res) (kk : ∀ z, kf z = some res → mG ρ C o nL cc ret P (pc + 1) lv (.int z :: r) h) : mG ρ C o nL cc ret P pc lv (.int y :: .int x :: r) h := by
  unfold dvI at hf
  split at hf
  · cases hf
  · rename_i h0
    exact e_idiv hd h0 (kk _ hf)
theorem e_iremb {x y : Int32} {kf : Int32 → Option β} (hd : decode cc pc = .ok (.irem, 1)) (hf : rmI x y kf = some res) (kk : ∀ z, kf z = some res → mG ρ C o nL cc ret P (pc + 1) lv (.int z :: r) h) : mG ρ C o nL cc ret P pc lv (.int y :: .int x :: r) h := by
  unfold rmI at hf
  split at hf
  · cases hf
  · rename_i h0
    exact e_irem hd h0 (kk _ hf)
theorem e_ineg {x : Int32} (hd : decode cc pc = .ok (.ineg, 1)) (kk : mG ρ C o nL cc ret P (pc + 1) lv (.int (-x) :: r) h) : mG ρ C o nL cc ret P pc lv (.int x :: r) h := by
  obtain ⟨n, kk⟩ := kk
  exact ⟨n + 1, lv, _, _, fun _ z => z, hd, rfl, x, r, rfl, kk⟩
theorem e_i2l {x : Int32} (hd : decode cc pc = .ok (.i2l, 1)) (kk : mG ρ C o nL cc ret P (pc + 1) lv (.long (x.toInt64) :: r) h) : mG ρ C o nL cc ret P pc lv (.int x :: r) h := by
  obtain ⟨n, kk⟩ := kk
  exact ⟨n + 1, lv, _, _, fun _ z => z, hd, rfl, x, r, rfl, kk⟩
theorem e_l2i {x : Int64} (hd : decode cc pc = .ok (.l2i, 1)) (kk : mG ρ C o nL cc ret P (pc + 1) lv (.int (x.toInt32) :: r) h) : mG ρ C o nL cc ret P pc lv (.long x :: r) h := by
  obtain ⟨n, kk⟩ := kk
  exact ⟨n + 1, lv, _, _, fun _ z => z, hd, rfl, x, r, rfl, kk⟩
theorem e_i2b {x : Int32} (hd : decode cc pc = .ok (.i2b, 1)) (kk : mG ρ C o nL cc ret P (pc + 1) lv (.int (x.toInt8.toInt32) :: r) h) : mG ρ C o nL cc ret P pc lv (.int x :: r) h := by
  obtain ⟨n, kk⟩ := kk
  exact ⟨n + 1, lv, _, _, fun _ z => z, hd, rfl, x, r, rfl, kk⟩
theorem e_i2s {x : Int32} (hd : decode cc pc = .ok (.i2s, 1)) (kk : mG ρ C o nL cc ret P (pc + 1) lv (.int (x.toInt16.toInt32) :: r) h) : mG ρ C o nL cc ret P pc lv (.int x :: r) h := by
  obtain ⟨n, kk⟩ := kk
  exact ⟨n + 1, lv, _, _, fun _ z => z, hd, rfl, x, r, rfl, kk⟩
theorem e_dup {v : Value} (hd : decode cc pc = .ok (.dup, 1)) (hc : v.category = 1) (kk : mG ρ C o nL cc ret P (pc + 1) lv (v :: v :: r) h) : mG ρ C o nL cc ret P pc lv (v :: r) h := by
  obtain ⟨n, kk⟩ := kk
  exact ⟨n + 1, lv, _, _, fun _ z => z, hd, rfl, v, r, rfl, hc, kk⟩
theorem e_pop {v : Value} (hd : decode cc pc = .ok (.pop, 1)) (hc : v.category = 1) (kk : mG ρ C o nL cc ret P (pc + 1) lv r h) : mG ρ C o nL cc ret P pc lv (v :: r) h := by
  obtain ⟨n, kk⟩ := kk
  exact ⟨n + 1, lv, _, _, fun _ z => z, hd, rfl, v, r, rfl, hc, kk⟩
theorem e_dup2 {v w : Value} (hd : decode cc pc = .ok (.dup2, 1)) (hc : v.category = 1) (hc2 : w.category = 1) (kk : mG ρ C o nL cc ret P (pc + 1) lv (v :: w :: v :: w :: r) h) : mG ρ C o nL cc ret P pc lv (v :: w :: r) h := by
  obtain ⟨n, kk⟩ := kk
  exact ⟨n + 1, lv, _, _, fun _ z => z, hd, rfl, v, w, r, rfl, hc, hc2, kk⟩
theorem e_goto {off : Int} (tgt : Nat) (hd : decode cc pc = .ok (.goto off, 3)) (ht : (pc : Int) + off = (tgt : Int)) (kk : mG ρ C o nL cc ret P tgt lv r h) : mG ρ C o nL cc ret P pc lv r h := by
  obtain ⟨n, kk⟩ := kk
  exact ⟨n + 1, lv, _, _, fun _ z => z, hd, rfl, tgt, ht, kk⟩
theorem e_if_eq {x : Int32} {off : Int} (tgt : Nat) {fa fb : Option β} (hd : decode cc pc = .ok (.ifCond .eq off, 3)) (ht : (pc : Int) + off = (tgt : Int)) (hf : (if x = 0 then fa else fb) = some res) (k1 : fa = some res → mG ρ C o nL cc ret P tgt lv r h) (k2 : fb = some res → mG ρ C o nL cc ret P (pc + 3) lv r h) : mG ρ C o nL cc ret P pc lv (.int x :: r) h := by
  by_cases hc : x = 0
  · rw [if_pos hc] at hf
    obtain ⟨n, kk⟩ := k1 hf
    exact ⟨n + 1, lv, _, _, fun _ z => z, hd, rfl, x, r, tgt, rfl, ht, fun _ => kk, fun z => absurd hc z⟩
  · rw [if_neg hc] at hf
    obtain ⟨n, kk⟩ := k2 hf
    exact ⟨n + 1, lv, _, _, fun _ z => z, hd, rfl, x, r, tgt, rfl, ht, fun z => absurd z hc, fun _ => kk⟩
theorem e_if_ne {x : Int32} {off : Int} (tgt : Nat) {fa fb : Option β} (hd : decode cc pc = .ok (.ifCond .ne off, 3)) (ht : (pc : Int) + off = (tgt : Int)) (hf : (if x = 0 then fb else fa) = some res) (k1 : fa = some res → mG ρ C o nL cc ret P tgt lv r h) (k2 : fb = some res → mG ρ C o nL cc ret P (pc + 3) lv r h) : mG ρ C o nL cc ret P pc lv (.int x :: r) h := by
  by_cases hc : x = 0
  · rw [if_pos hc] at hf
    obtain ⟨n, kk⟩ := k2 hf
    exact ⟨n + 1, lv, _, _, fun _ z => z, hd, rfl, x, r, tgt, rfl, ht, fun z => absurd hc z, fun _ => kk⟩
  · rw [if_neg hc] at hf
    obtain ⟨n, kk⟩ := k1 hf
    exact ⟨n + 1, lv, _, _, fun _ z => z, hd, rfl, x, r, tgt, rfl, ht, fun _ => kk, fun z => absurd hc z⟩
theorem e_if_lt {x : Int32} {off : Int} (tgt : Nat) {fa fb : Option β} (hd : decode cc pc = .ok (.ifCond .lt off, 3)) (ht : (pc : Int) + off = (tgt : Int)) (hf : (if x < 0 then fa else fb) = some res) (k1 : fa = some res → mG ρ C o nL cc ret P tgt lv r h) (k2 : fb = some res → mG ρ C o nL cc ret P (pc + 3) lv r h) : mG ρ C o nL cc ret P pc lv (.int x :: r) h := by
  by_cases hc : x < 0
  · rw [if_pos hc] at hf
    obtain ⟨n, kk⟩ := k1 hf
    exact ⟨n + 1, lv, _, _, fun _ z => z, hd, rfl, x, r, tgt, rfl, ht, fun _ => kk, fun z => absurd hc z⟩
  · rw [if_neg hc] at hf
    obtain ⟨n, kk⟩ := k2 hf
    exact ⟨n + 1, lv, _, _, fun _ z => z, hd, rfl, x, r, tgt, rfl, ht, fun z => absurd z hc, fun _ => kk⟩
theorem e_if_ge {x : Int32} {off : Int} (tgt : Nat) {fa fb : Option β} (hd : decode cc pc = .ok (.ifCond .ge off, 3)) (ht : (pc : Int) + off = (tgt : Int)) (hf : (if 0 ≤ x then fa else fb) = some res) (k1 : fa = some res → mG ρ C o nL cc ret P tgt lv r h) (k2 : fb = some res → mG ρ C o nL cc ret P (pc + 3) lv r h) : mG ρ C o nL cc ret P pc lv (.int x :: r) h := by
  by_cases hc : 0 ≤ x
  · rw [if_pos hc] at hf
    obtain ⟨n, kk⟩ := k1 hf
    exact ⟨n + 1, lv, _, _, fun _ z => z, hd, rfl, x, r, tgt, rfl, ht, fun _ => kk, fun z => absurd hc z⟩
  · rw [if_neg hc] at hf
    obtain ⟨n, kk⟩ := k2 hf
    exact ⟨n + 1, lv, _, _, fun _ z => z, hd, rfl, x, r, tgt, rfl, ht, fun z => absurd z hc, fun _ => kk⟩
theorem e_if_gt {x : Int32} {off : Int} (tgt : Nat) {fa fb : Option β} (hd : decode cc pc = .ok (.ifCond .gt off, 3)) (ht : (pc : Int) + off = (tgt : Int)) (hf : (if 0 < x then fa else fb) = some res) (k1 : fa = some res → mG ρ C o nL cc ret P tgt lv r h) (k2 : fb = some res → mG ρ C o nL cc ret P (pc + 3) lv r h) : mG ρ C o nL cc ret P pc lv (.int x :: r) h := by
  by_cases hc : 0 < x
  · rw [if_pos hc] at hf
    obtain ⟨n, kk⟩ := k1 hf
    exact ⟨n + 1, lv, _, _, fun _ z => z, hd, rfl, x, r, tgt, rfl, ht, fun _ => kk, fun z => absurd hc z⟩
  · rw [if_neg hc] at hf
    obtain ⟨n, kk⟩ := k2 hf
    exact ⟨n + 1, lv, _, _, fun _ z => z, hd, rfl, x, r, tgt, rfl, ht, fun z => absurd z hc, fun _ => kk⟩
theorem e_if_le {x : Int32} {off : Int} (tgt : Nat) {fa fb : Option β} (hd : decode cc pc = .ok (.ifCond .le off, 3)) (ht : (pc : Int) + off = (tgt : Int)) (hf : (if x ≤ 0 then fa else fb) = some res) (k1 : fa = some res → mG ρ C o nL cc ret P tgt lv r h) (k2 : fb = some res → mG ρ C o nL cc ret P (pc + 3) lv r h) : mG ρ C o nL cc ret P pc lv (.int x :: r) h := by
  by_cases hc : x ≤ 0
  · rw [if_pos hc] at hf
    obtain ⟨n, kk⟩ := k1 hf
    exact ⟨n + 1, lv, _, _, fun _ z => z, hd, rfl, x, r, tgt, rfl, ht, fun _ => kk, fun z => absurd hc z⟩
  · rw [if_neg hc] at hf
    obtain ⟨n, kk⟩ := k2 hf
    exact ⟨n + 1, lv, _, _, fun _ z => z, hd, rfl, x, r, tgt, rfl, ht, fun z => absurd z hc, fun _ => kk⟩
theorem e_icmp_eq {x y : Int32} {off : Int} (tgt : Nat) {fa fb : Option β} (hd : decode cc pc = .ok (.if_icmp .eq off, 3)) (ht : (pc : Int) + off = (tgt : Int)) (hf : (if x = y then fa else fb) = some res) (k1 : fa = some res → mG ρ C o nL cc ret P tgt lv r h) (k2 : fb = some res → mG ρ C o nL cc ret P (pc + 3) lv r h) : mG ρ C o nL cc ret P pc lv (.int y :: .int x :: r) h := by
  by_cases hc : x = y
  · rw [if_pos hc] at hf
    obtain ⟨n, kk⟩ := k1 hf
    exact ⟨n + 1, lv, _, _, fun _ z => z, hd, rfl, x, y, r, tgt, rfl, ht, fun _ => kk, fun z => absurd hc z⟩
  · rw [if_neg hc] at hf
    obtain ⟨n, kk⟩ := k2 hf
    exact ⟨n + 1, lv, _, _, fun _ z => z, hd, rfl, x, y, r, tgt, rfl, ht, fun z => absurd z hc, fun _ => kk⟩
theorem e_icmp_ne {x y : Int32} {off : Int} (tgt : Nat) {fa fb : Option β} (hd : decode cc pc = .ok (.if_icmp .ne off, 3)) (ht : (pc : Int) + off = (tgt : Int)) (hf : (if x = y then fb else fa) = some res) (k1 : fa = some res → mG ρ C o nL cc ret P tgt lv r h) (k2 : fb = some res → mG ρ C o nL cc ret P (pc + 3) lv r h) : mG ρ C o nL cc ret P pc lv (.int y :: .int x :: r) h := by
  by_cases hc : x = y
  · rw [if_pos hc] at hf
    obtain ⟨n, kk⟩ := k2 hf
    exact ⟨n + 1, lv, _, _, fun _ z => z, hd, rfl, x, y, r, tgt, rfl, ht, fun z => absurd hc z, fun _ => kk⟩
  · rw [if_neg hc] at hf
    obtain ⟨n, kk⟩ := k1 hf
    exact ⟨n + 1, lv, _, _, fun _ z => z, hd, rfl, x, y, r, tgt, rfl, ht, fun _ => kk, fun z => absurd hc z⟩
theorem e_icmp_lt {x y : Int32} {off : Int} (tgt : Nat) {fa fb : Option β} (hd : decode cc pc = .ok (.if_icmp .lt off, 3)) (ht : (pc : Int) + off = (tgt : Int)) (hf : (if x < y then fa else fb) = some res) (k1 : fa = some res → mG ρ C o nL cc ret P tgt lv r h) (k2 : fb = some res → mG ρ C o nL cc ret P (pc + 3) lv r h) : mG ρ C o nL cc ret P pc lv (.int y :: .int x :: r) h := by
  by_cases hc : x < y
  · rw [if_pos hc] at hf
    obtain ⟨n, kk⟩ := k1 hf
    exact ⟨n + 1, lv, _, _, fun _ z => z, hd, rfl, x, y, r, tgt, rfl, ht, fun _ => kk, fun z => absurd hc z⟩
  · rw [if_neg hc] at hf
    obtain ⟨n, kk⟩ := k2 hf
    exact ⟨n + 1, lv, _, _, fun _ z => z, hd, rfl, x, y, r, tgt, rfl, ht, fun z => absurd z hc, fun _ => kk⟩
theorem e_icmp_ge {x y : Int32} {off : Int} (tgt : Nat) {fa fb : Option β} (hd : decode cc pc = .ok (.if_icmp .ge off, 3)) (ht : (pc : Int) + off = (tgt : Int)) (hf : (if y ≤ x then fa else fb) = some res) (k1 : fa = some res → mG ρ C o nL cc ret P tgt lv r h) (k2 : fb = some res → mG ρ C o nL cc ret P (pc + 3) lv r h) : mG ρ C o nL cc ret P pc lv (.int y :: .int x :: r) h := by
  by_cases hc : y ≤ x
  · rw [if_pos hc] at hf
    obtain ⟨n, kk⟩ := k1 hf
    exact ⟨n + 1, lv, _, _, fun _ z => z, hd, rfl, x, y, r, tgt, rfl, ht, fun _ => kk, fun z => absurd hc z⟩
  · rw [if_neg hc] at hf
    obtain ⟨n, kk⟩ := k2 hf
    exact ⟨n + 1, lv, _, _, fun _ z => z, hd, rfl, x, y, r, tgt, rfl, ht, fun z => absurd z hc, fun _ => kk⟩
theorem e_icmp_gt {x y : Int32} {off : Int} (tgt : Nat) {fa fb : Option β} (hd : decode cc pc = .ok (.if_icmp .gt off, 3)) (ht : (pc : Int) + off = (tgt : Int)) (hf : (if y < x then fa else fb) = some res) (k1 : fa = some res → mG ρ C o nL cc ret P tgt lv r h) (k2 : fb = some res → mG ρ C o nL cc ret P (pc + 3) lv r h) : mG ρ C o nL cc ret P pc lv (.int y :: .int x :: r) h := by
  by_cases hc : y < x
  · rw [if_pos hc] at hf
    obtain ⟨n, kk⟩ := k1 hf
    exact ⟨n + 1, lv, _, _, fun _ z => z, hd, rfl, x, y, r, tgt, rfl, ht, fun _ => kk, fun z => absurd hc z⟩
  · rw [if_neg hc] at hf
    obtain ⟨n, kk⟩ := k2 hf
    exact ⟨n + 1, lv, _, _, fun _ z => z, hd, rfl, x, y, r, tgt, rfl, ht, fun z => absurd z hc, fun _ => kk⟩
theorem e_icmp_le {x y : Int32} {off : Int} (tgt : Nat) {fa fb : Option β} (hd : decode cc pc = .ok (.if_icmp .le off, 3)) (ht : (pc : Int) + off = (tgt : Int)) (hf : (if x ≤ y then fa else fb) = some res) (k1 : fa = some res → mG ρ C o nL cc ret P tgt lv r h) (k2 : fb = some res → mG ρ C o nL cc ret P (pc + 3) lv r h) : mG ρ C o nL cc ret P pc lv (.int y :: .int x :: r) h := by
  by_cases hc : x ≤ y
  · rw [if_pos hc] at hf
    obtain ⟨n, kk⟩ := k1 hf
    exact ⟨n + 1, lv, _, _, fun _ z => z, hd, rfl, x, y, r, tgt, rfl, ht, fun _ => kk, fun z => absurd hc z⟩
  · rw [if_neg hc] at hf
    obtain ⟨n, kk⟩ := k2 hf
    exact ⟨n + 1, lv, _, _, fun _ z => z, hd, rfl, x, y, r, tgt, rfl, ht, fun z => absurd z hc, fun _ => kk⟩
theorem e_geti (hV : mView L V) {z q ci k id : Nat} {fs : List (Nat ⊕ Nat)} (hd : decode cc pc = .ok (.getfield z, 3)) (hz : mLook (mFldT o) z = some (ci, k)) (hq : L q = some (.inl (ci, fs))) (hk : fs[k]? = some (.inr id)) (kk : mG ρ C o nL cc ret P (pc + 3) lv (.int (gI s id) :: r) (V s)) : mG ρ C o nL cc ret P pc lv (.ref q :: r) (V s) := by
  obtain ⟨n, kk⟩ := kk
  exact ⟨n + 1, lv, _, _, fun _ z => z, hd, rfl, q, r, ci, k, _, .int (gI s id), rfl, hz, hV.1 q _ s hq, by rw [List.getElem?_map, hk]; rfl, kk⟩
theorem e_getr (hV : mView L V) {z q ci k j : Nat} {fs : List (Nat ⊕ Nat)} (hd : decode cc pc = .ok (.getfield z, 3)) (hz : mLook (mFldT o) z = some (ci, k)) (hq : L q = some (.inl (ci, fs))) (hk : fs[k]? = some (.inl j)) (kk : mG ρ C o nL cc ret P (pc + 3) lv (.ref j :: r) (V s)) : mG ρ C o nL cc ret P pc lv (.ref q :: r) (V s) := by
  obtain ⟨n, kk⟩ := kk
  exact ⟨n + 1, lv, _, _, fun _ z => z, hd, rfl, q, r, ci, k, _, .ref j, rfl, hz, hV.1 q _ s hq, by rw [List.getElem?_map, hk]; rfl, kk⟩
theorem e_puti (hV : mView L V) {z q ci k id : Nat} {x : Int32} {fs : List (Nat ⊕ Nat)} {cC : vw_C} {kf : mS → Option β} (hd : decode cc pc = .ok (.putfield z, 3)) (hz : mLook (mFldT o) z = some (ci, k)) (hc : vwCl[ci]? = some cC) (hfin : (cC.2.1 k).2.2.2 = false) (hty : (cC.2.1 k).2.2.1 = "I" ∨ ((cC.2.1 k).2.2.1 = "Z" ∧ (x = 0 ∨ x = 1))) (hq : L q = some (.inl (ci, fs))) (hk : fs[k]? = some (.inr id)) (hf : bnd (pI s id x) kf = some res) (kk : ∀ s', kf s' = some res → mG ρ C o nL cc ret P (pc + 3) lv r (V s')) : mG ρ C o nL cc ret P pc lv (.int x :: .ref q :: r) (V s) := by
  obtain ⟨n, kk⟩ := kk _ hf
  refine ⟨n + 1, lv, _, _, fun _ z => z, hd, rfl, x, q, r, ci, k, fs.map (mFv s), cC, rfl, hz, hc, hfin, hty, hV.1 q _ s hq, ?_, ?_⟩
  · rw [List.length_map]
    exact (List.getElem?_eq_some_iff.mp hk).1
  · rw [hV.2.1 q ci fs k id s x hq hk]
    exact kk
theorem e_iald (hV : mView L V) {q n id : Nat} {i : Int32} {kf : Int32 → Option β} (hd : decode cc pc = .ok (.iaload, 1)) (hq : L q = some (.inr (.inl (n, id)))) (hf : ldA s id n i kf = some res) (kk : ∀ v, kf v = some res → mG ρ C o nL cc ret P (pc + 1) lv (.int v :: r) (V s)) : mG ρ C o nL cc ret P pc lv (.int i :: .ref q :: r) (V s) := by
  unfold ldA at hf
  split at hf
  · cases hf
  · rename_i hin
    obtain ⟨n', kk⟩ := kk _ hf
    exact ⟨n' + 1, lv, _, _, fun _ z => z, hd, rfl, i, q, r, n, _, rfl, Or.inl (hV.1 q _ s hq), hin, kk⟩
theorem e_rald {q n : Nat} {f : Nat → Int32} {i : Int32} {kf : Int32 → Option β} (hd : decode cc pc = .ok (.iaload, 1)) (hq : ρ q = some (n, f)) (hf : ldR f n i kf = some res) (kk : ∀ v, kf v = some res → mG ρ C o nL cc ret P (pc + 1) lv (.int v :: r) h) : mG ρ C o nL cc ret P pc lv (.int i :: .ref q :: r) h := by
  unfold ldR at hf
  split at hf
  · cases hf
  · rename_i hin
    obtain ⟨n', kk⟩ := kk _ hf
    exact ⟨n' + 1, lv, _, _, fun _ z => z, hd, rfl, i, q, r, n, _, rfl, Or.inr hq, hin, kk⟩
theorem e_lald (hV : mView L V) {q n id : Nat} {i : Int32} {kf : Int64 → Option β} (hd : decode cc pc = .ok (.laload, 1)) (hq : L q = some (.inr (.inr (.inl (n, id))))) (hf : ldL s id n i kf = some res) (kk : ∀ v, kf v = some res → mG ρ C o nL cc ret P (pc + 1) lv (.long v :: r) (V s)) : mG ρ C o nL cc ret P pc lv (.int i :: .ref q :: r) (V s) := by
  unfold ldL at hf
  split at hf
  · cases hf
  · rename_i hin
    obtain ⟨n', kk⟩ := kk _ hf
    exact ⟨n' + 1, lv, _, _, fun _ z => z, hd, rfl, i, q, r, n, _, rfl, hV.1 q _ s hq, hin, kk⟩
theorem e_iast (hV : mView L V) {q n id : Nat} {i x : Int32} {kf : mS → Option β} (hd : decode cc pc = .ok (.iastore, 1)) (hq : L q = some (.inr (.inl (n, id)))) (hf : stA s id n i x kf = some res) (kk : ∀ s', kf s' = some res → mG ρ C o nL cc ret P (pc + 1) lv r (V s')) : mG ρ C o nL cc ret P pc lv (.int x :: .int i :: .ref q :: r) (V s) := by
  unfold stA at hf
  split at hf
  · cases hf
  · rename_i hin
    obtain ⟨n', kk⟩ := kk _ hf
    refine ⟨n' + 1, lv, _, _, fun _ z => z, hd, rfl, x, i, q, r, n, _, rfl, hV.1 q _ s hq, hin, ?_⟩
    rw [hV.2.2.1 q n id s _ hq]
    exact kk
theorem e_last (hV : mView L V) {q n id : Nat} {i : Int32} {x : Int64} {kf : mS → Option β} (hd : decode cc pc = .ok (.lastore, 1)) (hq : L q = some (.inr (.inr (.inl (n, id))))) (hf : stL s id n i x kf = some res) (kk : ∀ s', kf s' = some res → mG ρ C o nL cc ret P (pc + 1) lv r (V s')) : mG ρ C o nL cc ret P pc lv (.long x :: .int i :: .ref q :: r) (V s) := by
  unfold stL at hf
  split at hf
  · cases hf
  · rename_i hin
    obtain ⟨n', kk⟩ := kk _ hf
    refine ⟨n' + 1, lv, _, _, fun _ z => z, hd, rfl, x, i, q, r, n, _, rfl, hV.1 q _ s hq, hin, ?_⟩
    rw [hV.2.2.2 q n id s _ hq]
    exact kk
theorem e_aald (hV : mView L V) {q n : Nat} {js : List Nat} {pl : Nat → Nat} {i : Int32} {kf : Nat → Option β} (hd : decode cc pc = .ok (.aaload, 1)) (hq : L q = some (.inr (.inr (.inr js)))) (hn : js.length = n) (hj : ∀ j, j < n → js[j]? = some (pl j)) (hf : ldS n i kf = some res) (kk : ∀ j, j < n → kf j = some res → mG ρ C o nL cc ret P (pc + 1) lv (.ref (pl j) :: r) (V s)) : mG ρ C o nL cc ret P pc lv (.int i :: .ref q :: r) (V s) := by
  unfold ldS at hf
  split at hf
  · cases hf
  · rename_i hin
    subst hn
    have hlt : i.toNatClampNeg < js.length := Nat.not_le.mp fun z => hin (Or.inr z)
    obtain ⟨n', kk⟩ := kk _ hlt hf
    exact ⟨n' + 1, lv, _, _, fun _ z => z, hd, rfl, i, q, r, js.length, _, pl i.toNatClampNeg, rfl, hV.1 q _ s hq, hin, hj _ hlt, kk⟩
theorem e_alenI (hV : mView L V) {q n id : Nat} {w : Int32} (hd : decode cc pc = .ok (.arraylength, 1)) (hq : L q = some (.inr (.inl (n, id)))) (hw : Int32.ofNat n = w) (kk : mG ρ C o nL cc ret P (pc + 1) lv (.int w :: r) (V s)) : mG ρ C o nL cc ret P pc lv (.ref q :: r) (V s) := by
  obtain ⟨n', kk⟩ := kk
  subst hw
  exact ⟨n' + 1, lv, _, _, fun _ z => z, hd, rfl, q, r, n, rfl, Or.inl ⟨_, hV.1 q _ s hq⟩, kk⟩
theorem e_alenJ (hV : mView L V) {q n id : Nat} {w : Int32} (hd : decode cc pc = .ok (.arraylength, 1)) (hq : L q = some (.inr (.inr (.inl (n, id))))) (hw : Int32.ofNat n = w) (kk : mG ρ C o nL cc ret P (pc + 1) lv (.int w :: r) (V s)) : mG ρ C o nL cc ret P pc lv (.ref q :: r) (V s) := by
  obtain ⟨n', kk⟩ := kk
  subst hw
  exact ⟨n' + 1, lv, _, _, fun _ z => z, hd, rfl, q, r, n, rfl, Or.inr (Or.inl ⟨_, hV.1 q _ s hq⟩), kk⟩
theorem e_gets {z q : Nat} (hd : decode cc pc = .ok (.getstatic z, 3)) (hz : mStat o z = some q) (kk : mG ρ C o nL cc ret P (pc + 3) lv (.ref q :: r) h) : mG ρ C o nL cc ret P pc lv r h := by
  obtain ⟨n', kk⟩ := kk
  exact ⟨n' + 1, lv, _, _, fun _ z => z, hd, rfl, q, hz, kk⟩
theorem e_iret {x : Int32} (hd : decode cc pc = .ok (.ireturn, 1)) (hx : mRetOk ret x) (hP : P (some (.int x)) h) : mG ρ C o nL cc ret P pc lv [.int x] h := ⟨1, lv, _, _, fun _ z => z, hd, rfl, x, rfl, hx, hP⟩
theorem e_lret {x : Int64} (hd : decode cc pc = .ok (.lreturn, 1)) (hx : ret = some .long) (hP : P (some (.long x)) h) : mG ρ C o nL cc ret P pc lv [.long x] h := ⟨1, lv, _, _, fun _ z => z, hd, rfl, x, rfl, hx, hP⟩
theorem e_ret (hd : decode cc pc = .ok (.return_, 1)) (hx : ret = none) (hP : P none h) : mG ρ C o nL cc ret P pc lv [] h := ⟨1, lv, _, _, fun _ z => z, hd, rfl, rfl, hx, hP⟩
theorem e_abs {x : Int32} {z : Nat} (hd : decode cc pc = .ok (.invokestatic z, 3)) (hz : mLook (mMthT o) z = some 0) (hs : mSum r ≤ 8) (kk : mG ρ C o nL cc ret P (pc + 3) lv (.int (if 0 ≤ x then x else 0 - x) :: r) h) : mG ρ C o nL cc ret P pc lv (.int x :: r) h := by
  obtain ⟨n', kk⟩ := kk
  exact ⟨n' + 1, lv, _, _, fun _ z => z, hd, rfl, Or.inr (Or.inl ⟨0, hz, Or.inl ⟨rfl, x, r, rfl, hs, kk⟩⟩)⟩
theorem e_max {x y : Int32} {z : Nat} (hd : decode cc pc = .ok (.invokestatic z, 3)) (hz : mLook (mMthT o) z = some 1) (hs : mSum r ≤ 8) (kk : mG ρ C o nL cc ret P (pc + 3) lv (.int (if x < y then y else x) :: r) h) : mG ρ C o nL cc ret P pc lv (.int y :: .int x :: r) h := by
  obtain ⟨n', kk⟩ := kk
  exact ⟨n' + 1, lv, _, _, fun _ z => z, hd, rfl, Or.inr (Or.inl ⟨1, hz, Or.inr (Or.inl ⟨rfl, x, y, r, rfl, hs, kk⟩)⟩)⟩
theorem e_min {x y : Int32} {z : Nat} (hd : decode cc pc = .ok (.invokestatic z, 3)) (hz : mLook (mMthT o) z = some 2) (hs : mSum r ≤ 8) (kk : mG ρ C o nL cc ret P (pc + 3) lv (.int (if y < x then y else x) :: r) h) : mG ρ C o nL cc ret P pc lv (.int y :: .int x :: r) h := by
  obtain ⟨n', kk⟩ := kk
  exact ⟨n' + 1, lv, _, _, fun _ z => z, hd, rfl, Or.inr (Or.inl ⟨2, hz, Or.inr (Or.inr ⟨rfl, x, y, r, rfl, hs, kk⟩)⟩)⟩
theorem e_cpA (hV : mView L V) {z q0 q1 n0 n1 id0 id1 : Nat} {c dp sp : Int32} {kf : mS → Option β} (hd : decode cc pc = .ok (.invokestatic z, 3)) (hz : (o, z) ∈ mAcpT) (hs : mSum r ≤ 8) (hq0 : L q0 = some (.inr (.inl (n0, id0)))) (hq1 : L q1 = some (.inr (.inl (n1, id1)))) (hf : cpA s id0 n0 id1 n1 sp dp c kf = some res) (kk : ∀ s', kf s' = some res → mG ρ C o nL cc ret P (pc + 3) lv r (V s')) : mG ρ C o nL cc ret P pc lv (.int c :: .int dp :: .ref q1 :: .int sp :: .ref q0 :: r) (V s) := by
  unfold cpA at hf
  split at hf
  · cases hf
  · rename_i hin
    obtain ⟨n', kk⟩ := kk _ hf
    refine ⟨n' + 1, lv, _, _, fun _ z => z, hd, rfl, Or.inr (Or.inr ⟨hz, c, dp, sp, q0, q1, n0, n1, r, rfl, hs, fun g => hin (Or.inl g), fun g => hin (Or.inr (Or.inl g)), fun g => hin (Or.inr (Or.inr (Or.inl g))), Nat.not_lt.mp fun g => hin (Or.inr (Or.inr (Or.inr (Or.inl g)))), Nat.not_lt.mp fun g => hin (Or.inr (Or.inr (Or.inr (Or.inr g)))), Or.inl ⟨_, _, hV.1 q0 _ s hq0, hV.1 q1 _ s hq1, ?_⟩⟩)⟩
    rw [hV.2.2.1 q1 n1 id1 s _ hq1]
    exact kk
theorem e_cpL (hV : mView L V) {z q0 q1 n0 n1 id0 id1 : Nat} {c dp sp : Int32} {kf : mS → Option β} (hd : decode cc pc = .ok (.invokestatic z, 3)) (hz : (o, z) ∈ mAcpT) (hs : mSum r ≤ 8) (hq0 : L q0 = some (.inr (.inr (.inl (n0, id0))))) (hq1 : L q1 = some (.inr (.inr (.inl (n1, id1))))) (hf : cpL s id0 n0 id1 n1 sp dp c kf = some res) (kk : ∀ s', kf s' = some res → mG ρ C o nL cc ret P (pc + 3) lv r (V s')) : mG ρ C o nL cc ret P pc lv (.int c :: .int dp :: .ref q1 :: .int sp :: .ref q0 :: r) (V s) := by
  unfold cpL at hf
  split at hf
  · cases hf
  · rename_i hin
    obtain ⟨n', kk⟩ := kk _ hf
    refine ⟨n' + 1, lv, _, _, fun _ z => z, hd, rfl, Or.inr (Or.inr ⟨hz, c, dp, sp, q0, q1, n0, n1, r, rfl, hs, fun g => hin (Or.inl g), fun g => hin (Or.inr (Or.inl g)), fun g => hin (Or.inr (Or.inr (Or.inl g))), Nat.not_lt.mp fun g => hin (Or.inr (Or.inr (Or.inr (Or.inl g)))), Nat.not_lt.mp fun g => hin (Or.inr (Or.inr (Or.inr (Or.inr g)))), Or.inr ⟨_, _, hV.1 q0 _ s hq0, hV.1 q1 _ s hq1, ?_⟩⟩)⟩
    rw [hV.2.2.2 q1 n1 id1 s _ hq1]
    exact kk
end ROW
section ROWC
variable {ρ : mRo} {d o nL : Nat} {cc : ByteArray} {ret : Option FieldType} {P : mPo} {pc : Nat} {lv lv' : mLv} {r as : List Value} {h : List mE} {β : Type} {res : β} {L : Nat → Option mLE} {V : mS → List mE} {s : mS}
/-- a method of the small machine: from these arguments and heap, to this post -/
theorem e_callV (hV : mView L V) {z j q ci : Nat} {y : mRec} {fs : List (Nat ⊕ Nat)} {cC : vw_C} {stk : List Value} (hd : decode cc pc = .ok (.invokevirtual z, 3)) (hz : mLook (mCalT o) z = some j ∨ (o = 10 ∧ z = 351 ∧ j = 16)) (hy : mTab[j]? = some y) (hst : y.2.2.2.2.2.1 = false) (hn : as.length = y.2.2.2.2.2.2) (hstk : stk = as.reverse ++ .ref q :: r) (hs : mSum r ≤ 8) (hq : L q = some (.inl (ci, fs))) (hc : vwCl[ci]? = some cC) (hcn : cC.1 = y.2.1.cls) {v : Option Value} {s' : mS} (hC : ∀ Q : mPo, Q v (V s') → mC ρ d j (.ref q :: as) (V s) Q) (kk : mG ρ (mC ρ d) o nL cc ret P (pc + 3) lv (v.toList ++ r) (V s')) : mG ρ (mC ρ d) o nL cc ret P pc lv stk (V s) := by
  obtain ⟨n', kk⟩ := kk
  exact ⟨n' + 1, lv, _, _, fun _ z => z, hd, rfl, j, y, as, q, r, ci, _, cC, hz, hy, hst, hn, hstk, hs, hV.1 q _ s hq, hc, hcn, hC _ kk⟩
theorem e_callS {z j : Nat} {y : mRec} {stk : List Value} (hd : decode cc pc = .ok (.invokestatic z, 3)) (hz : mLook (mCalT o) z = some j) (hy : mTab[j]? = some y) (hst : y.2.2.2.2.2.1 = true) (hn : as.length = y.2.2.2.2.2.2) (hstk : stk = as.reverse ++ r) (hs : mSum r ≤ 8) {v : Option Value} {s' : mS} (hC : ∀ Q : mPo, Q v (V s') → mC ρ d j as (V s) Q) (kk : mG ρ (mC ρ d) o nL cc ret P (pc + 3) lv (v.toList ++ r) (V s')) : mG ρ (mC ρ d) o nL cc ret P pc lv stk (V s) := by
  obtain ⟨n', kk⟩ := kk
  exact ⟨n' + 1, lv, _, _, fun _ z => z, hd, rfl, Or.inl ⟨j, y, as, r, hz, hy, hst, hn, hstk, hs, hC _ kk⟩⟩
end ROWC
end
section
-- the plan of the heap, by program (wip/gen/plan.py): places q.., ints i.., rows a.., l..
abbrev qT : Nat := 0
abbrev iT_imageKept : Nat := 52
abbrev qT_givenRest : Nat := 51
abbrev aT_givenRest : Nat := 25
abbrev qT_prices : Nat := 52
abbrev aT_prices : Nat := 26
abbrev qT_shelves : Nat := 33
abbrev qM (k : Nat) : Nat := 1 + 4 * k
abbrev iM_size (k : Nat) : Nat := 0 + 2 * k
abbrev iM_ribbon (k : Nat) : Nat := 1 + 2 * k
abbrev qM_pulls (k : Nat) : Nat := 2 + 4 * k
abbrev aM_pulls (k : Nat) : Nat := 0 + 3 * k
abbrev qM_marks (k : Nat) : Nat := 3 + 4 * k
abbrev aM_marks (k : Nat) : Nat := 1 + 3 * k
abbrev qM_ages (k : Nat) : Nat := 4 + 4 * k
abbrev aM_ages (k : Nat) : Nat := 2 + 3 * k
abbrev qW (k : Nat) : Nat := 13 + 3 * k
abbrev iW_size (k : Nat) : Nat := 6 + 1 * k
abbrev qW_hands (k : Nat) : Nat := 14 + 3 * k
abbrev aW_hands (k : Nat) : Nat := 9 + 2 * k
abbrev qW_touches (k : Nat) : Nat := 15 + 3 * k
abbrev aW_touches (k : Nat) : Nat := 10 + 2 * k
abbrev qG (k : Nat) : Nat := 19 + 1 * k
abbrev iG_letters (k : Nat) : Nat := 8 + 5 * k
abbrev iG_cleanings (k : Nat) : Nat := 9 + 5 * k
abbrev iG_learnings (k : Nat) : Nat := 10 + 5 * k
abbrev iG_showed (k : Nat) : Nat := 11 + 5 * k
abbrev iG_latest (k : Nat) : Nat := 12 + 5 * k
abbrev qS (k : Nat) : Nat := 21 + 2 * k
abbrev iS_sort (k : Nat) : Nat := 18 + 3 * k
abbrev iS_size (k : Nat) : Nat := 19 + 3 * k
abbrev iS_ghost (k : Nat) : Nat := 20 + 3 * k
abbrev qS_cells (k : Nat) : Nat := 22 + 2 * k
abbrev lS_cells (k : Nat) : Nat := 0 + 1 * k
abbrev qP : Nat := 34
abbrev iP_size : Nat := 36
abbrev iP_stepsSize : Nat := 37
abbrev iP_at : Nat := 38
abbrev qP_bytes : Nat := 35
abbrev aP_bytes : Nat := 13
abbrev qP_steps : Nat := 36
abbrev aP_steps : Nat := 14
abbrev qL : Nat := 37
abbrev iL_stepsSize : Nat := 39
abbrev iL_told : Nat := 40
abbrev iL_age : Nat := 41
abbrev iL_touch : Nat := 42
abbrev iL_habit : Nat := 43
abbrev iL_unlike : Nat := 44
abbrev iL_ribbon : Nat := 45
abbrev iL_machine : Nat := 46
abbrev qL_steps : Nat := 38
abbrev aL_steps : Nat := 15
abbrev qL_stack : Nat := 39
abbrev aL_stack : Nat := 16
abbrev qH : Nat := 40
abbrev iH_done : Nat := 47
abbrev iH_kept : Nat := 48
abbrev qH_numbers : Nat := 41
abbrev aH_numbers : Nat := 17
abbrev qH_whats : Nat := 42
abbrev aH_whats : Nat := 18
abbrev qH_olds : Nat := 43
abbrev aH_olds : Nat := 19
abbrev qH_news : Nat := 44
abbrev aH_news : Nat := 20
abbrev qU : Nat := 45
abbrev iU_size : Nat := 49
abbrev iU_ran : Nat := 50
abbrev qU_kinds : Nat := 46
abbrev aU_kinds : Nat := 21
abbrev qU_traced : Nat := 47
abbrev aU_traced : Nat := 22
abbrev qB : Nat := 48
abbrev iB_goal : Nat := 51
abbrev qB_ways : Nat := 49
abbrev aB_ways : Nat := 23
abbrev qB_queue : Nat := 50
abbrev aB_queue : Nat := 24
def LCl : List mLE := [.inl (9, [.inl (qM 0), .inl (qM 1), .inl (qW 0), .inl qP, .inl qL, .inl qT_shelves, .inl qH, .inl qU, .inl (qG 0), .inl qB, .inl qT_givenRest, .inl qT_prices, .inl (qM 2), .inl (qW 1), .inl (qG 1), .inr iT_imageKept]), .inl (5, [.inl 2, .inl 3, .inl 4, .inr 0, .inr 1]), .inr (.inl (24, 0)), .inr (.inl (24, 1)), .inr (.inl (8, 2)), .inl (5, [.inl 6, .inl 7, .inl 8, .inr 2, .inr 3]), .inr (.inl (24, 3)), .inr (.inl (24, 4)), .inr (.inl (8, 5)), .inl (5, [.inl 10, .inl 11, .inl 12, .inr 4, .inr 5]), .inr (.inl (24, 6)), .inr (.inl (24, 7)), .inr (.inl (8, 8)), .inl (8, [.inl 14, .inl 15, .inr 6]), .inr (.inl (24, 9)), .inr (.inl (8, 10)), .inl (8, [.inl 17, .inl 18, .inr 7]), .inr (.inl (24, 11)), .inr (.inl (8, 12)), .inl (4, [.inr 8, .inr 9, .inr 10, .inr 11, .inr 12]), .inl (4, [.inr 13, .inr 14, .inr 15, .inr 16, .inr 17]), .inl (6, [.inl 22, .inr 18, .inr 19, .inr 20]), .inr (.inr (.inl (60, 0))), .inl (6, [.inl 24, .inr 21, .inr 22, .inr 23]), .inr (.inr (.inl (60, 1))), .inl (6, [.inl 26, .inr 24, .inr 25, .inr 26]), .inr (.inr (.inl (60, 2))), .inl (6, [.inl 28, .inr 27, .inr 28, .inr 29]), .inr (.inr (.inl (60, 3))), .inl (6, [.inl 30, .inr 30, .inr 31, .inr 32]), .inr (.inr (.inl (60, 4))), .inl (6, [.inl 32, .inr 33, .inr 34, .inr 35]), .inr (.inr (.inl (60, 5))), .inr (.inr (.inr [21, 23, 25, 27, 29, 31])), .inl (7, [.inl 35, .inr 36, .inl 36, .inr 37, .inr 38]), .inr (.inl (120, 13)), .inr (.inl (121, 14)), .inl (3, [.inl 38, .inr 39, .inr 40, .inl 39, .inr 41, .inr 42, .inr 43, .inr 44, .inr 45, .inr 46]), .inr (.inl (121, 15)), .inr (.inl (64, 16)), .inl (1, [.inl 41, .inl 42, .inl 43, .inl 44, .inr 47, .inr 48]), .inr (.inl (40, 17)), .inr (.inl (40, 18)), .inr (.inl (40, 19)), .inr (.inl (40, 20)), .inl (2, [.inl 46, .inl 47, .inr 49, .inr 50]), .inr (.inl (50, 21)), .inr (.inl (24, 22)), .inl (0, [.inl 49, .inl 50, .inr 51]), .inr (.inl (2197, 23)), .inr (.inl (2197, 24)), .inr (.inl (256, 25)), .inr (.inl (8, 26))]
def LC (q : Nat) : Option mLE := LCl[q]?
theorem lc_T : LC qT = some (.inl (9, [.inl (qM 0), .inl (qM 1), .inl (qW 0), .inl qP, .inl qL, .inl qT_shelves, .inl qH, .inl qU, .inl (qG 0), .inl qB, .inl qT_givenRest, .inl qT_prices, .inl (qM 2), .inl (qW 1), .inl (qG 1), .inr iT_imageKept])) := rfl
theorem lc_T_shelves : LC qT_shelves = some (.inr (.inr (.inr [qS 0, qS 1, qS 2, qS 3, qS 4, qS 5]))) := rfl
theorem lc_T_shelves_at : ∀ j, j < 6 → ([qS 0, qS 1, qS 2, qS 3, qS 4, qS 5] : List Nat)[j]? = some (qS j) := by decide
theorem lc_T_givenRest : LC qT_givenRest = some (.inr (.inl (256, aT_givenRest))) := rfl
theorem lc_T_prices : LC qT_prices = some (.inr (.inl (8, aT_prices))) := rfl
theorem lc_M {k : Nat} (hk : k < 3) : LC (qM k) = some (.inl (5, [.inl (qM_pulls k), .inl (qM_marks k), .inl (qM_ages k), .inr (iM_size k), .inr (iM_ribbon k)])) := by
  match k, hk with
  | 0, _ => rfl
  | 1, _ => rfl
  | 2, _ => rfl
  | n + 3, hk => omega
theorem lc_M_pulls {k : Nat} (hk : k < 3) : LC (qM_pulls k) = some (.inr (.inl (24, (aM_pulls k)))) := by
  match k, hk with
  | 0, _ => rfl
  | 1, _ => rfl
  | 2, _ => rfl
  | n + 3, hk => omega
theorem lc_M_marks {k : Nat} (hk : k < 3) : LC (qM_marks k) = some (.inr (.inl (24, (aM_marks k)))) := by
  match k, hk with
  | 0, _ => rfl
  | 1, _ => rfl
  | 2, _ => rfl
  | n + 3, hk => omega
theorem lc_M_ages {k : Nat} (hk : k < 3) : LC (qM_ages k) = some (.inr (.inl (8, (aM_ages k)))) := by
  match k, hk with
  | 0, _ => rfl
  | 1, _ => rfl
  | 2, _ => rfl
  | n + 3, hk => omega
theorem lc_W {k : Nat} (hk : k < 2) : LC (qW k) = some (.inl (8, [.inl (qW_hands k), .inl (qW_touches k), .inr (iW_size k)])) := by
  match k, hk with
  | 0, _ => rfl
  | 1, _ => rfl
  | n + 2, hk => omega
theorem lc_W_hands {k : Nat} (hk : k < 2) : LC (qW_hands k) = some (.inr (.inl (24, (aW_hands k)))) := by
  match k, hk with
  | 0, _ => rfl
  | 1, _ => rfl
  | n + 2, hk => omega
theorem lc_W_touches {k : Nat} (hk : k < 2) : LC (qW_touches k) = some (.inr (.inl (8, (aW_touches k)))) := by
  match k, hk with
  | 0, _ => rfl
  | 1, _ => rfl
  | n + 2, hk => omega
theorem lc_G {k : Nat} (hk : k < 2) : LC (qG k) = some (.inl (4, [.inr (iG_letters k), .inr (iG_cleanings k), .inr (iG_learnings k), .inr (iG_showed k), .inr (iG_latest k)])) := by
  match k, hk with
  | 0, _ => rfl
  | 1, _ => rfl
  | n + 2, hk => omega
theorem lc_S {k : Nat} (hk : k < 6) : LC (qS k) = some (.inl (6, [.inl (qS_cells k), .inr (iS_sort k), .inr (iS_size k), .inr (iS_ghost k)])) := by
  match k, hk with
  | 0, _ => rfl
  | 1, _ => rfl
  | 2, _ => rfl
  | 3, _ => rfl
  | 4, _ => rfl
  | 5, _ => rfl
  | n + 6, hk => omega
theorem lc_S_cells {k : Nat} (hk : k < 6) : LC (qS_cells k) = some (.inr (.inr (.inl (60, (lS_cells k))))) := by
  match k, hk with
  | 0, _ => rfl
  | 1, _ => rfl
  | 2, _ => rfl
  | 3, _ => rfl
  | 4, _ => rfl
  | 5, _ => rfl
  | n + 6, hk => omega
theorem lc_P : LC qP = some (.inl (7, [.inl qP_bytes, .inr iP_size, .inl qP_steps, .inr iP_stepsSize, .inr iP_at])) := rfl
theorem lc_P_bytes : LC qP_bytes = some (.inr (.inl (120, aP_bytes))) := rfl
theorem lc_P_steps : LC qP_steps = some (.inr (.inl (121, aP_steps))) := rfl
theorem lc_L : LC qL = some (.inl (3, [.inl qL_steps, .inr iL_stepsSize, .inr iL_told, .inl qL_stack, .inr iL_age, .inr iL_touch, .inr iL_habit, .inr iL_unlike, .inr iL_ribbon, .inr iL_machine])) := rfl
theorem lc_L_steps : LC qL_steps = some (.inr (.inl (121, aL_steps))) := rfl
theorem lc_L_stack : LC qL_stack = some (.inr (.inl (64, aL_stack))) := rfl
theorem lc_H : LC qH = some (.inl (1, [.inl qH_numbers, .inl qH_whats, .inl qH_olds, .inl qH_news, .inr iH_done, .inr iH_kept])) := rfl
theorem lc_H_numbers : LC qH_numbers = some (.inr (.inl (40, aH_numbers))) := rfl
theorem lc_H_whats : LC qH_whats = some (.inr (.inl (40, aH_whats))) := rfl
theorem lc_H_olds : LC qH_olds = some (.inr (.inl (40, aH_olds))) := rfl
theorem lc_H_news : LC qH_news = some (.inr (.inl (40, aH_news))) := rfl
theorem lc_U : LC qU = some (.inl (2, [.inl qU_kinds, .inl qU_traced, .inr iU_size, .inr iU_ran])) := rfl
theorem lc_U_kinds : LC qU_kinds = some (.inr (.inl (50, aU_kinds))) := rfl
theorem lc_U_traced : LC qU_traced = some (.inr (.inl (24, aU_traced))) := rfl
theorem lc_B : LC qB = some (.inl (0, [.inl qB_ways, .inl qB_queue, .inr iB_goal])) := rfl
theorem lc_B_ways : LC qB_ways = some (.inr (.inl (2197, aB_ways))) := rfl
theorem lc_B_queue : LC qB_queue = some (.inr (.inl (2197, aB_queue))) := rfl
abbrev qX : Nat := 53
abbrev qX_may : Nat := 54
abbrev aX_may : Nat := 0
abbrev qX_changeAt : Nat := 55
abbrev aX_changeAt : Nat := 1
abbrev qX_changeWas : Nat := 56
abbrev aX_changeWas : Nat := 2
abbrev qX_changeIs : Nat := 57
abbrev aX_changeIs : Nat := 3
abbrev iX_keptMany : Nat := 0
abbrev iX_done : Nat := 1
abbrev iX_machines : Nat := 2
abbrev iX_writers : Nat := 3
abbrev qX_tape : Nat := 58
abbrev aX_tape : Nat := 4
abbrev iX_tapeMany : Nat := 4
abbrev qX_text : Nat := 59
abbrev aX_text : Nat := 5
abbrev iX_textMany : Nat := 5
abbrev iX_base : Nat := 6
abbrev iX_at : Nat := 7
abbrev iX_ends : Nat := 8
abbrev iX_fault : Nat := 9
abbrev iX_opened : Nat := 10
abbrev qX_names : Nat := 60
abbrev aX_names : Nat := 6
abbrev qX_pull : Nat := 61
abbrev aX_pull : Nat := 7
abbrev qX_age : Nat := 62
abbrev aX_age : Nat := 8
abbrev iX_ribbon : Nat := 11
abbrev qX_hadPull : Nat := 63
abbrev aX_hadPull : Nat := 9
abbrev qX_restFar : Nat := 64
abbrev aX_restFar : Nat := 10
abbrev qX_restGets : Nat := 65
abbrev aX_restGets : Nat := 11
abbrev qX_lettersTo : Nat := 66
abbrev aX_lettersTo : Nat := 12
abbrev iX_latest : Nat := 12
abbrev qX_ledNow : Nat := 67
abbrev aX_ledNow : Nat := 13
abbrev iX_isKept : Nat := 13
abbrev iX_imageMachines : Nat := 14
abbrev iX_imageWriters : Nat := 15
abbrev iX_imageLatest : Nat := 16
abbrev qX_imageMay : Nat := 68
abbrev aX_imageMay : Nat := 14
abbrev qX_imageLed : Nat := 69
abbrev aX_imageLed : Nat := 15
abbrev iX_bodies : Nat := 17
abbrev qX_bodyKind : Nat := 70
abbrev aX_bodyKind : Nat := 16
abbrev qX_trace : Nat := 71
abbrev aX_trace : Nat := 17
abbrev iX_ran : Nat := 18
abbrev iX_ownKind : Nat := 19
abbrev iX_ownNumber : Nat := 20
abbrev qX_shelf : Nat := 72
abbrev aX_shelf : Nat := 18
abbrev qX_many : Nat := 73
abbrev aX_many : Nat := 19
abbrev qX_items : Nat := 74
abbrev lX_items : Nat := 0
abbrev qX_carried : Nat := 75
abbrev lX_carried : Nat := 1
def LXl : List mLE := [.inl (10, [.inl qX_may, .inl qX_changeAt, .inl qX_changeWas, .inl qX_changeIs, .inr iX_keptMany, .inr iX_done, .inr iX_machines, .inr iX_writers, .inl qX_tape, .inr iX_tapeMany, .inl qX_text, .inr iX_textMany, .inr iX_base, .inr iX_at, .inr iX_ends, .inr iX_fault, .inr iX_opened, .inl qX_names, .inl qX_pull, .inl qX_age, .inr iX_ribbon, .inl qX_hadPull, .inl qX_restFar, .inl qX_restGets, .inl qX_lettersTo, .inr iX_latest, .inl qX_ledNow, .inr iX_isKept, .inr iX_imageMachines, .inr iX_imageWriters, .inr iX_imageLatest, .inl qX_imageMay, .inl qX_imageLed, .inr iX_bodies, .inl qX_bodyKind, .inl qX_trace, .inr iX_ran, .inr iX_ownKind, .inr iX_ownNumber, .inl qX_shelf, .inl qX_many, .inl qX_items, .inl qX_carried]), .inr (.inl (65, aX_may)), .inr (.inl (40, aX_changeAt)), .inr (.inl (40, aX_changeWas)), .inr (.inl (40, aX_changeIs)), .inr (.inl (120, aX_tape)), .inr (.inl (120, aX_text)), .inr (.inl (6, aX_names)), .inr (.inl (24, aX_pull)), .inr (.inl (8, aX_age)), .inr (.inl (24, aX_hadPull)), .inr (.inl (2304, aX_restFar)), .inr (.inl (2304, aX_restGets)), .inr (.inl (2197, aX_lettersTo)), .inr (.inl (4, aX_ledNow)), .inr (.inl (56, aX_imageMay)), .inr (.inl (4, aX_imageLed)), .inr (.inl (50, aX_bodyKind)), .inr (.inl (24, aX_trace)), .inr (.inl (6, aX_shelf)), .inr (.inl (6, aX_many)), .inr (.inr (.inl (360, lX_items))), .inr (.inr (.inl (60, lX_carried)))]
def LX (q : Nat) : Option mLE := if q < 53 then none else LXl[q - 53]?
theorem lx_X : LX qX = some (.inl (10, [.inl qX_may, .inl qX_changeAt, .inl qX_changeWas, .inl qX_changeIs, .inr iX_keptMany, .inr iX_done, .inr iX_machines, .inr iX_writers, .inl qX_tape, .inr iX_tapeMany, .inl qX_text, .inr iX_textMany, .inr iX_base, .inr iX_at, .inr iX_ends, .inr iX_fault, .inr iX_opened, .inl qX_names, .inl qX_pull, .inl qX_age, .inr iX_ribbon, .inl qX_hadPull, .inl qX_restFar, .inl qX_restGets, .inl qX_lettersTo, .inr iX_latest, .inl qX_ledNow, .inr iX_isKept, .inr iX_imageMachines, .inr iX_imageWriters, .inr iX_imageLatest, .inl qX_imageMay, .inl qX_imageLed, .inr iX_bodies, .inl qX_bodyKind, .inl qX_trace, .inr iX_ran, .inr iX_ownKind, .inr iX_ownNumber, .inl qX_shelf, .inl qX_many, .inl qX_items, .inl qX_carried])) := rfl
theorem lx_X_may : LX qX_may = some (.inr (.inl (65, aX_may))) := rfl
theorem lx_X_changeAt : LX qX_changeAt = some (.inr (.inl (40, aX_changeAt))) := rfl
theorem lx_X_changeWas : LX qX_changeWas = some (.inr (.inl (40, aX_changeWas))) := rfl
theorem lx_X_changeIs : LX qX_changeIs = some (.inr (.inl (40, aX_changeIs))) := rfl
theorem lx_X_tape : LX qX_tape = some (.inr (.inl (120, aX_tape))) := rfl
theorem lx_X_text : LX qX_text = some (.inr (.inl (120, aX_text))) := rfl
theorem lx_X_names : LX qX_names = some (.inr (.inl (6, aX_names))) := rfl
theorem lx_X_pull : LX qX_pull = some (.inr (.inl (24, aX_pull))) := rfl
theorem lx_X_age : LX qX_age = some (.inr (.inl (8, aX_age))) := rfl
theorem lx_X_hadPull : LX qX_hadPull = some (.inr (.inl (24, aX_hadPull))) := rfl
theorem lx_X_restFar : LX qX_restFar = some (.inr (.inl (2304, aX_restFar))) := rfl
theorem lx_X_restGets : LX qX_restGets = some (.inr (.inl (2304, aX_restGets))) := rfl
theorem lx_X_lettersTo : LX qX_lettersTo = some (.inr (.inl (2197, aX_lettersTo))) := rfl
theorem lx_X_ledNow : LX qX_ledNow = some (.inr (.inl (4, aX_ledNow))) := rfl
theorem lx_X_imageMay : LX qX_imageMay = some (.inr (.inl (56, aX_imageMay))) := rfl
theorem lx_X_imageLed : LX qX_imageLed = some (.inr (.inl (4, aX_imageLed))) := rfl
theorem lx_X_bodyKind : LX qX_bodyKind = some (.inr (.inl (50, aX_bodyKind))) := rfl
theorem lx_X_trace : LX qX_trace = some (.inr (.inl (24, aX_trace))) := rfl
theorem lx_X_shelf : LX qX_shelf = some (.inr (.inl (6, aX_shelf))) := rfl
theorem lx_X_many : LX qX_many = some (.inr (.inl (6, aX_many))) := rfl
theorem lx_X_items : LX qX_items = some (.inr (.inr (.inl (360, lX_items)))) := rfl
theorem lx_X_carried : LX qX_carried = some (.inr (.inr (.inl (60, lX_carried)))) := rfl
/-- the whole heap -/
def hpO (c x : mS) : List mE := LCl.map (mCell c) ++ LXl.map (mCell x)
/-- the numbers of a plan are apart -/
def mUq (l : List mLE) : Bool := (List.range l.length).all fun i => (List.range l.length).all fun j => match l[i]?, l[j]? with
  | some (.inl (_, f)), some (.inl (_, g)) => (List.range f.length).all fun a => (List.range g.length).all fun b => match f[a]?, g[b]? with
    | some (.inr x), some (.inr y) => x != y || (i == j && a == b)
    | _, _ => true
  | some (.inr (.inl x)), some (.inr (.inl y)) => x.2 != y.2 || i == j
  | some (.inr (.inr (.inl x))), some (.inr (.inr (.inl y))) => x.2 != y.2 || i == j
  | _, _ => true
set_option maxRecDepth 100000 in
theorem mUq_C : mUq LCl = true := by decide +kernel
set_option maxRecDepth 100000 in
theorem mUq_X : mUq LXl = true := by decide +kernel
end
section
theorem bO_some {α β : Type} {o : Option α} {k : α → Option β} {res : β} (h : bO o k = some res) : ∃ x, o = some x ∧ k x = some res := by
  cases o with
  | none => cases h
  | some x => exact ⟨x, rfl, h⟩
theorem bP_some {α β : Type} {o : Option (α × mS)} {k : α → mS → Option β} {res : β} (h : bP o k = some res) : ∃ x s, o = some (x, s) ∧ k x s = some res := by
  cases o with
  | none => cases h
  | some x => exact ⟨x.1, x.2, rfl, h⟩
theorem rB_some {β : Type} {x : Int32} {k : Option β} {res : β} (h : rB x k = some res) : (x = 0 ∨ x = 1) ∧ k = some res := by
  unfold rB at h
  split at h
  · rename_i hx
    exact ⟨hx, h⟩
  · cases h
def roOwn (i : Nat) : Int32 := ([1, 10, 11, 2, 20, 0, 0, 0, 0, 30, 0, 0, 0, 41, 40, 0, 0, 0, 50, 0, 0, 0, 0, 60, 70, 0, 0, 0, 0, 80, 0, 81] : List Int32).getD i 0
def roAbove (i : Nat) : Int32 := ([-1, 0, 0, 2, 1, 3, 0, 4] : List Int32).getD i 0
def mRoC (ρ : mRo) : Prop := ρ 1001 = some (32, roOwn) ∧ ρ 1002 = some (8, roAbove)
section ROWS2
variable {ρ : mRo} {C : Nat → List Value → List mE → mPo → Prop} {o nL : Nat} {cc : ByteArray} {ret : Option FieldType} {P : mPo} {pc : Nat} {lv : mLv} {r : List Value} {h : List mE}
theorem e_tabI {x w : Int32} {dflt lo hi off : Int} {offs : Array Int} {len tgt : Nat} (hd : decode cc pc = .ok (.tableswitch dflt lo hi offs, len)) (hc : x = w) (h1 : ¬ w.toInt < lo ∧ ¬ hi < w.toInt ∧ offs[(w.toInt - lo).toNat]? = some off) (ht : (pc : Int) + off = (tgt : Int)) (kk : mG ρ C o nL cc ret P tgt lv r h) : mG ρ C o nL cc ret P pc lv (.int x :: r) h := by
  obtain ⟨n, kk⟩ := kk
  subst hc
  exact ⟨n + 1, lv, _, _, fun _ z => z, hd, x, r, rfl, fun z => absurd z (fun z => z.elim h1.1 h1.2.1), fun _ _ => ⟨off, tgt, h1.2.2, ht, kk⟩⟩
theorem e_tabD {x : Int32} {dflt lo hi : Int} {offs : Array Int} {len tgt : Nat} {ks : List Int32} (hd : decode cc pc = .ok (.tableswitch dflt lo hi offs, len)) (h0 : (pc : Int) + dflt = (tgt : Int) ∧ (List.range (hi - lo + 1).toNat).all (fun i => offs[i]? == some dflt || ks.any (fun k => k.toInt == lo + (i : Int))) = true) (hne : ∀ z ∈ ks, ¬ x = z) (kk : mG ρ C o nL cc ret P tgt lv r h) : mG ρ C o nL cc ret P pc lv (.int x :: r) h := by
  obtain ⟨n, kk⟩ := kk
  refine ⟨n + 1, lv, _, _, fun _ z => z, hd, x, r, rfl, fun _ => ⟨tgt, h0.1, kk⟩, fun h1 h2 => ⟨dflt, tgt, ?_, h0.1, kk⟩⟩
  have h3 := List.all_eq_true.mp h0.2 (x.toInt - lo).toNat (List.mem_range.mpr (by omega))
  simp only [Bool.or_eq_true] at h3
  rcases h3 with h3 | h3
  · simpa using h3
  · obtain ⟨k, hk, h4⟩ := List.any_eq_true.mp h3
    have h5 : k.toInt = x.toInt := by
      have h6 : k.toInt = lo + (((x.toInt - lo).toNat : Nat) : Int) := by simpa using h4
      omega
    exact absurd (Int32.toInt_inj.mp h5).symm (hne k hk)
theorem e_look {x w : Int32} {dflt : Int} {ps : Array (Int × Int)} {len tgt : Nat} (hd : decode cc pc = .ok (.lookupswitch dflt ps, len)) (hc : x = w) (h0 : (ps.toList.zip (ps.toList.drop 1)).all (fun (a, next) => a.1 < next.1) = true) (ht : (pc : Int) + Op.lookupswitch.offset ps.toList dflt w.toInt = (tgt : Int)) (kk : mG ρ C o nL cc ret P tgt lv r h) : mG ρ C o nL cc ret P pc lv (.int x :: r) h := by
  obtain ⟨n, kk⟩ := kk
  subst hc
  exact ⟨n + 1, lv, _, _, fun _ z => z, hd, h0, x, r, tgt, rfl, ht, kk⟩
theorem look_dflt {x : Int32} {dflt : Int} {ks : List Int32} (hne : ∀ z ∈ ks, ¬ x = z) : ∀ (ps : List (Int × Int)), ps.all (fun p => p.2 == dflt || ks.any (fun k => k.toInt == p.1)) = true → Op.lookupswitch.offset ps dflt x.toInt = dflt := by
  intro ps
  induction ps with
  | nil => intro _; rfl
  | cons p ps ih =>
    intro h
    rw [List.all_cons, Bool.and_eq_true] at h
    obtain ⟨a, b⟩ := p
    rw [Op.lookupswitch.offset_cons]
    split
    · rename_i hx
      simp only [Bool.or_eq_true] at h
      rcases h.1 with h1 | h1
      · simpa using h1
      · obtain ⟨k, hk, h4⟩ := List.any_eq_true.mp h1
        have h5 : k.toInt = a := by simpa using h4
        exact absurd (Int32.toInt_inj.mp (by rw [h5]; first | exact hx | exact hx.symm)).symm (hne k hk)
    · exact ih h.2
theorem e_lookD {x : Int32} {dflt : Int} {ps : Array (Int × Int)} {len tgt : Nat} {ks : List Int32} (hd : decode cc pc = .ok (.lookupswitch dflt ps, len)) (h0 : (ps.toList.zip (ps.toList.drop 1)).all (fun (a, next) => a.1 < next.1) = true) (h1 : (pc : Int) + dflt = (tgt : Int) ∧ ps.toList.all (fun p => p.2 == dflt || ks.any (fun k => k.toInt == p.1)) = true) (hne : ∀ z ∈ ks, ¬ x = z) (kk : mG ρ C o nL cc ret P tgt lv r h) : mG ρ C o nL cc ret P pc lv (.int x :: r) h := by
  obtain ⟨n, kk⟩ := kk
  exact ⟨n + 1, lv, _, _, fun _ z => z, hd, h0, x, r, tgt, rfl, by rw [look_dflt hne _ h1.2]; exact h1.1, kk⟩
end ROWS2
end
section
-- bytecode to functions, by program (wip/gen/decomp.py)
theorem dX6_setNew_0 : decode cX6_setNew 0 = .ok (.aload_n 0, 1) := by decide +kernel
theorem dX6_setNew_1 : decode cX6_setNew 1 = .ok (.getfield 11, 3) := by decide +kernel
theorem dX6_setNew_4 : decode cX6_setNew 4 = .ok (.iconst 3, 1) := by decide +kernel
theorem dX6_setNew_5 : decode cX6_setNew 5 = .ok (.iload_n 1, 1) := by decide +kernel
theorem dX6_setNew_6 : decode cX6_setNew 6 = .ok (.imul, 1) := by decide +kernel
theorem dX6_setNew_7 : decode cX6_setNew 7 = .ok (.iload_n 2, 1) := by decide +kernel
theorem dX6_setNew_8 : decode cX6_setNew 8 = .ok (.iastore, 1) := by decide +kernel
theorem dX6_setNew_9 : decode cX6_setNew 9 = .ok (.aload_n 0, 1) := by decide +kernel
theorem dX6_setNew_10 : decode cX6_setNew 10 = .ok (.getfield 11, 3) := by decide +kernel
theorem dX6_setNew_13 : decode cX6_setNew 13 = .ok (.iconst 3, 1) := by decide +kernel
theorem dX6_setNew_14 : decode cX6_setNew 14 = .ok (.iload_n 1, 1) := by decide +kernel
theorem dX6_setNew_15 : decode cX6_setNew 15 = .ok (.imul, 1) := by decide +kernel
theorem dX6_setNew_16 : decode cX6_setNew 16 = .ok (.iconst 1, 1) := by decide +kernel
theorem dX6_setNew_17 : decode cX6_setNew 17 = .ok (.iadd, 1) := by decide +kernel
theorem dX6_setNew_18 : decode cX6_setNew 18 = .ok (.iload_n 3, 1) := by decide +kernel
theorem dX6_setNew_19 : decode cX6_setNew 19 = .ok (.iastore, 1) := by decide +kernel
theorem dX6_setNew_20 : decode cX6_setNew 20 = .ok (.aload_n 0, 1) := by decide +kernel
theorem dX6_setNew_21 : decode cX6_setNew 21 = .ok (.getfield 11, 3) := by decide +kernel
theorem dX6_setNew_24 : decode cX6_setNew 24 = .ok (.iconst 3, 1) := by decide +kernel
theorem dX6_setNew_25 : decode cX6_setNew 25 = .ok (.iload_n 1, 1) := by decide +kernel
theorem dX6_setNew_26 : decode cX6_setNew 26 = .ok (.imul, 1) := by decide +kernel
theorem dX6_setNew_27 : decode cX6_setNew 27 = .ok (.iconst 2, 1) := by decide +kernel
theorem dX6_setNew_28 : decode cX6_setNew 28 = .ok (.iadd, 1) := by decide +kernel
theorem dX6_setNew_29 : decode cX6_setNew 29 = .ok (.iload 4, 2) := by decide +kernel
theorem dX6_setNew_31 : decode cX6_setNew 31 = .ok (.iastore, 1) := by decide +kernel
theorem dX6_setNew_32 : decode cX6_setNew 32 = .ok (.aload_n 0, 1) := by decide +kernel
theorem dX6_setNew_33 : decode cX6_setNew 33 = .ok (.getfield 18, 3) := by decide +kernel
theorem dX6_setNew_36 : decode cX6_setNew 36 = .ok (.iload_n 1, 1) := by decide +kernel
theorem dX6_setNew_37 : decode cX6_setNew 37 = .ok (.iconst 0, 1) := by decide +kernel
theorem dX6_setNew_38 : decode cX6_setNew 38 = .ok (.iastore, 1) := by decide +kernel
theorem dX6_setNew_39 : decode cX6_setNew 39 = .ok (.return_, 1) := by decide +kernel
def fX6_setNew (k0 : Nat) (x1 : Int32) (x2 : Int32) (x3 : Int32) (x4 : Int32) (s : mS) : Option mS :=
  stA s (aM_pulls k0) 24 (3 * x1) x2 fun s1 =>
  stA s1 (aM_pulls k0) 24 ((3 * x1) + 1) x3 fun s2 =>
  stA s2 (aM_pulls k0) 24 ((3 * x1) + 2) x4 fun s3 =>
  stA s3 (aM_ages k0) 8 x1 0 fun s4 =>
  some s4

set_option maxRecDepth 20000 in
theorem tX6_setNew {ρ : mRo} {d : Nat} {P : mPo} {V : mS → List mE} (hV : mView LC V)  {k0 : Nat} (hk0 : k0 < 3) {x1 : Int32} {x2 : Int32} {x3 : Int32} {x4 : Int32} {s : mS} {res : mS} (hf : fX6_setNew k0 x1 x2 x3 x4 s = some res) (hP : P none (V res)) : mC ρ (d + 1) 28 [.ref (qM k0), .int x1, .int x2, .int x3, .int x4] (V s) P := by
  refine ⟨_, rfl, Nat.le_of_ble_eq_true rfl, by decide, ?_⟩
  show mG ρ (mC ρ d) 6 5 cX6_setNew none P 0 [(0, .ref (qM k0)), (1, .int x1), (2, .int x2), (3, .int x3), (4, .int x4)] [] (V s)
  unfold fX6_setNew at hf
  refine e_aload_n 0 dX6_setNew_0 rfl rfl ?_
  refine e_getr hV dX6_setNew_1 rfl (lc_M hk0) rfl ?_
  refine e_iconst (w := 3) dX6_setNew_4 (by decide) ?_
  refine e_iload_n 1 dX6_setNew_5 rfl rfl ?_
  refine e_imul dX6_setNew_6 ?_
  refine e_iload_n 2 dX6_setNew_7 rfl rfl ?_
  refine e_iast hV dX6_setNew_8 (lc_M_pulls hk0) hf (fun s1 hf => ?_)
  refine e_aload_n 0 dX6_setNew_9 rfl rfl ?_
  refine e_getr hV dX6_setNew_10 rfl (lc_M hk0) rfl ?_
  refine e_iconst (w := 3) dX6_setNew_13 (by decide) ?_
  refine e_iload_n 1 dX6_setNew_14 rfl rfl ?_
  refine e_imul dX6_setNew_15 ?_
  refine e_iconst (w := 1) dX6_setNew_16 (by decide) ?_
  refine e_iadd dX6_setNew_17 ?_
  refine e_iload_n 3 dX6_setNew_18 rfl rfl ?_
  refine e_iast hV dX6_setNew_19 (lc_M_pulls hk0) hf (fun s2 hf => ?_)
  refine e_aload_n 0 dX6_setNew_20 rfl rfl ?_
  refine e_getr hV dX6_setNew_21 rfl (lc_M hk0) rfl ?_
  refine e_iconst (w := 3) dX6_setNew_24 (by decide) ?_
  refine e_iload_n 1 dX6_setNew_25 rfl rfl ?_
  refine e_imul dX6_setNew_26 ?_
  refine e_iconst (w := 2) dX6_setNew_27 (by decide) ?_
  refine e_iadd dX6_setNew_28 ?_
  refine e_iload 4 dX6_setNew_29 rfl ?_
  refine e_iast hV dX6_setNew_31 (lc_M_pulls hk0) hf (fun s3 hf => ?_)
  refine e_aload_n 0 dX6_setNew_32 rfl rfl ?_
  refine e_getr hV dX6_setNew_33 rfl (lc_M hk0) rfl ?_
  refine e_iload_n 1 dX6_setNew_36 rfl rfl ?_
  refine e_iconst (w := 0) dX6_setNew_37 (by decide) ?_
  refine e_iast hV dX6_setNew_38 (lc_M_ages hk0) hf (fun s4 hf => ?_)
  cases hf
  exact e_ret dX6_setNew_39 rfl hP

theorem dX6_join_0 : decode cX6_join 0 = .ok (.aload_n 0, 1) := by decide +kernel
theorem dX6_join_1 : decode cX6_join 1 = .ok (.dup, 1) := by decide +kernel
theorem dX6_join_2 : decode cX6_join 2 = .ok (.getfield 25, 3) := by decide +kernel
theorem dX6_join_5 : decode cX6_join 5 = .ok (.iconst 1, 1) := by decide +kernel
theorem dX6_join_6 : decode cX6_join 6 = .ok (.iadd, 1) := by decide +kernel
theorem dX6_join_7 : decode cX6_join 7 = .ok (.putfield 25, 3) := by decide +kernel
theorem dX6_join_10 : decode cX6_join 10 = .ok (.aload_n 0, 1) := by decide +kernel
theorem dX6_join_11 : decode cX6_join 11 = .ok (.aload_n 0, 1) := by decide +kernel
theorem dX6_join_12 : decode cX6_join 12 = .ok (.getfield 25, 3) := by decide +kernel
theorem dX6_join_15 : decode cX6_join 15 = .ok (.iconst 1, 1) := by decide +kernel
theorem dX6_join_16 : decode cX6_join 16 = .ok (.isub, 1) := by decide +kernel
theorem dX6_join_17 : decode cX6_join 17 = .ok (.iload_n 1, 1) := by decide +kernel
theorem dX6_join_18 : decode cX6_join 18 = .ok (.iload_n 2, 1) := by decide +kernel
theorem dX6_join_19 : decode cX6_join 19 = .ok (.iload_n 3, 1) := by decide +kernel
theorem dX6_join_20 : decode cX6_join 20 = .ok (.invokevirtual 28, 3) := by decide +kernel
theorem dX6_join_23 : decode cX6_join 23 = .ok (.aload_n 0, 1) := by decide +kernel
theorem dX6_join_24 : decode cX6_join 24 = .ok (.getfield 25, 3) := by decide +kernel
theorem dX6_join_27 : decode cX6_join 27 = .ok (.iconst 1, 1) := by decide +kernel
theorem dX6_join_28 : decode cX6_join 28 = .ok (.isub, 1) := by decide +kernel
theorem dX6_join_29 : decode cX6_join 29 = .ok (.ireturn, 1) := by decide +kernel
def fX6_join (k0 : Nat) (x1 : Int32) (x2 : Int32) (x3 : Int32) (s : mS) : Option (Int32 × mS) :=
  bnd (pI s (iM_size k0) ((gI s (iM_size k0)) + 1)) fun s1 =>
  bO (fX6_setNew k0 ((gI s1 (iM_size k0)) - 1) x1 x2 x3 s1) fun s2 =>
  some ((gI s2 (iM_size k0)) - 1, s2)

set_option maxRecDepth 20000 in
theorem tX6_join {ρ : mRo} {d : Nat} {P : mPo} {V : mS → List mE} (hV : mView LC V)  {k0 : Nat} (hk0 : k0 < 3) {x1 : Int32} {x2 : Int32} {x3 : Int32} {s : mS} {res : (Int32 × mS)} (hf : fX6_join k0 x1 x2 x3 s = some res) (hP : P (some (.int res.1)) (V res.2)) : mC ρ (d + 2) 27 [.ref (qM k0), .int x1, .int x2, .int x3] (V s) P := by
  refine ⟨_, rfl, Nat.le_of_ble_eq_true rfl, by decide, ?_⟩
  show mG ρ (mC ρ (d + 1)) 6 4 cX6_join (some .int) P 0 [(0, .ref (qM k0)), (1, .int x1), (2, .int x2), (3, .int x3)] [] (V s)
  unfold fX6_join at hf
  refine e_aload_n 0 dX6_join_0 rfl rfl ?_
  refine e_dup dX6_join_1 rfl ?_
  refine e_geti hV dX6_join_2 rfl (lc_M hk0) rfl ?_
  refine e_iconst (w := 1) dX6_join_5 (by decide) ?_
  refine e_iadd dX6_join_6 ?_
  refine e_puti hV dX6_join_7 rfl rfl rfl (Or.inl rfl) (lc_M hk0) rfl hf (fun s1 hf => ?_)
  refine e_aload_n 0 dX6_join_10 rfl rfl ?_
  refine e_aload_n 0 dX6_join_11 rfl rfl ?_
  refine e_geti hV dX6_join_12 rfl (lc_M hk0) rfl ?_
  refine e_iconst (w := 1) dX6_join_15 (by decide) ?_
  refine e_isub dX6_join_16 ?_
  refine e_iload_n 1 dX6_join_17 rfl rfl ?_
  refine e_iload_n 2 dX6_join_18 rfl rfl ?_
  refine e_iload_n 3 dX6_join_19 rfl rfl ?_
  obtain ⟨s2, hg, hf⟩ := bO_some hf
  refine e_callV (as := [.int ((gI s1 (iM_size k0)) - 1), .int x1, .int x2, .int x3]) (v := none) (s' := s2) hV dX6_join_20 (Or.inl rfl) rfl rfl rfl rfl (by decide) (lc_M hk0) rfl rfl (fun Q hQ => tX6_setNew (d := d) hV hk0 hg hQ) ?_
  refine e_aload_n 0 dX6_join_23 rfl rfl ?_
  refine e_geti hV dX6_join_24 rfl (lc_M hk0) rfl ?_
  refine e_iconst (w := 1) dX6_join_27 (by decide) ?_
  refine e_isub dX6_join_28 ?_
  cases hf
  exact e_iret dX6_join_29 trivial hP

theorem dX6_pull_0 : decode cX6_pull 0 = .ok (.aload_n 0, 1) := by decide +kernel
theorem dX6_pull_1 : decode cX6_pull 1 = .ok (.getfield 11, 3) := by decide +kernel
theorem dX6_pull_4 : decode cX6_pull 4 = .ok (.iconst 3, 1) := by decide +kernel
theorem dX6_pull_5 : decode cX6_pull 5 = .ok (.iload_n 1, 1) := by decide +kernel
theorem dX6_pull_6 : decode cX6_pull 6 = .ok (.imul, 1) := by decide +kernel
theorem dX6_pull_7 : decode cX6_pull 7 = .ok (.iload_n 2, 1) := by decide +kernel
theorem dX6_pull_8 : decode cX6_pull 8 = .ok (.iadd, 1) := by decide +kernel
theorem dX6_pull_9 : decode cX6_pull 9 = .ok (.iaload, 1) := by decide +kernel
theorem dX6_pull_10 : decode cX6_pull 10 = .ok (.ireturn, 1) := by decide +kernel
def fX6_pull (k0 : Nat) (x1 : Int32) (x2 : Int32) (s : mS) : Option Int32 :=
  ldA s (aM_pulls k0) 24 ((3 * x1) + x2) fun v1 =>
  some v1

set_option maxRecDepth 20000 in
theorem tX6_pull {ρ : mRo} {d : Nat} {P : mPo} {V : mS → List mE} (hV : mView LC V)  {k0 : Nat} (hk0 : k0 < 3) {x1 : Int32} {x2 : Int32} {s : mS} {res : Int32} (hf : fX6_pull k0 x1 x2 s = some res) (hP : P (some (.int res)) (V s)) : mC ρ (d + 1) 29 [.ref (qM k0), .int x1, .int x2] (V s) P := by
  refine ⟨_, rfl, Nat.le_of_ble_eq_true rfl, by decide, ?_⟩
  show mG ρ (mC ρ d) 6 3 cX6_pull (some .int) P 0 [(0, .ref (qM k0)), (1, .int x1), (2, .int x2)] [] (V s)
  unfold fX6_pull at hf
  refine e_aload_n 0 dX6_pull_0 rfl rfl ?_
  refine e_getr hV dX6_pull_1 rfl (lc_M hk0) rfl ?_
  refine e_iconst (w := 3) dX6_pull_4 (by decide) ?_
  refine e_iload_n 1 dX6_pull_5 rfl rfl ?_
  refine e_imul dX6_pull_6 ?_
  refine e_iload_n 2 dX6_pull_7 rfl rfl ?_
  refine e_iadd dX6_pull_8 ?_
  refine e_iald hV dX6_pull_9 (lc_M_pulls hk0) hf (fun v1 hf => ?_)
  cases hf
  exact e_iret dX6_pull_10 trivial hP

theorem dX7_lowest_0 : decode cX7_lowest 0 = .ok (.aload_n 0, 1) := by decide +kernel
theorem dX7_lowest_1 : decode cX7_lowest 1 = .ok (.getfield 13, 3) := by decide +kernel
theorem dX7_lowest_4 : decode cX7_lowest 4 = .ok (.tableswitch 48 0 3 #[32, 37, 42, 46], 32) := by decide +kernel
theorem dX7_lowest_36 : decode cX7_lowest 36 = .ok (.lload_n 1, 1) := by decide +kernel
theorem dX7_lowest_37 : decode cX7_lowest 37 = .ok (.l2i, 1) := by decide +kernel
theorem dX7_lowest_38 : decode cX7_lowest 38 = .ok (.i2b, 1) := by decide +kernel
theorem dX7_lowest_39 : decode cX7_lowest 39 = .ok (.i2l, 1) := by decide +kernel
theorem dX7_lowest_40 : decode cX7_lowest 40 = .ok (.lreturn, 1) := by decide +kernel
theorem dX7_lowest_41 : decode cX7_lowest 41 = .ok (.lload_n 1, 1) := by decide +kernel
theorem dX7_lowest_42 : decode cX7_lowest 42 = .ok (.l2i, 1) := by decide +kernel
theorem dX7_lowest_43 : decode cX7_lowest 43 = .ok (.i2s, 1) := by decide +kernel
theorem dX7_lowest_44 : decode cX7_lowest 44 = .ok (.i2l, 1) := by decide +kernel
theorem dX7_lowest_45 : decode cX7_lowest 45 = .ok (.lreturn, 1) := by decide +kernel
theorem dX7_lowest_46 : decode cX7_lowest 46 = .ok (.lload_n 1, 1) := by decide +kernel
theorem dX7_lowest_47 : decode cX7_lowest 47 = .ok (.l2i, 1) := by decide +kernel
theorem dX7_lowest_48 : decode cX7_lowest 48 = .ok (.i2l, 1) := by decide +kernel
theorem dX7_lowest_49 : decode cX7_lowest 49 = .ok (.lreturn, 1) := by decide +kernel
theorem dX7_lowest_50 : decode cX7_lowest 50 = .ok (.lload_n 1, 1) := by decide +kernel
theorem dX7_lowest_51 : decode cX7_lowest 51 = .ok (.lreturn, 1) := by decide +kernel
theorem dX7_lowest_52 : decode cX7_lowest 52 = .ok (.lload_n 1, 1) := by decide +kernel
theorem dX7_lowest_53 : decode cX7_lowest 53 = .ok (.lconst 0, 1) := by decide +kernel
theorem dX7_lowest_54 : decode cX7_lowest 54 = .ok (.lcmp, 1) := by decide +kernel
theorem dX7_lowest_55 : decode cX7_lowest 55 = .ok (.ifCond .eq 7, 3) := by decide +kernel
theorem dX7_lowest_58 : decode cX7_lowest 58 = .ok (.lconst 1, 1) := by decide +kernel
theorem dX7_lowest_59 : decode cX7_lowest 59 = .ok (.goto 4, 3) := by decide +kernel
theorem dX7_lowest_62 : decode cX7_lowest 62 = .ok (.lconst 0, 1) := by decide +kernel
theorem dX7_lowest_63 : decode cX7_lowest 63 = .ok (.lreturn, 1) := by decide +kernel
def fX7_lowest (k0 : Nat) (x1 : Int64) (s : mS) : Option Int64 :=
  if (gI s (iS_sort k0)) = 0 then
    some (Int32.toInt64 ((Int32.toInt8 (Int64.toInt32 x1)).toInt32))
  else if (gI s (iS_sort k0)) = 1 then
    some (Int32.toInt64 ((Int32.toInt16 (Int64.toInt32 x1)).toInt32))
  else if (gI s (iS_sort k0)) = 2 then
    some (Int32.toInt64 (Int64.toInt32 x1))
  else if (gI s (iS_sort k0)) = 3 then
    some x1
  else
    if (lg_cmp x1 0) = 0 then
      some 0
    else
      some 1

set_option maxRecDepth 20000 in
theorem tX7_lowest {ρ : mRo} {d : Nat} {P : mPo} {V : mS → List mE} (hV : mView LC V)  {k0 : Nat} (hk0 : k0 < 6) {x1 : Int64} {s : mS} {res : Int64} (hf : fX7_lowest k0 x1 s = some res) (hP : P (some (.long res)) (V s)) : mC ρ (d + 1) 43 [.ref (qS k0), .long x1] (V s) P := by
  refine ⟨_, rfl, Nat.le_of_ble_eq_true rfl, by decide, ?_⟩
  show mG ρ (mC ρ d) 7 3 cX7_lowest (some .long) P 0 [(0, .ref (qS k0)), (1, .long x1)] [] (V s)
  unfold fX7_lowest at hf
  refine e_aload_n 0 dX7_lowest_0 rfl rfl ?_
  refine e_geti hV dX7_lowest_1 rfl (lc_S hk0) rfl ?_
  by_cases hc0 : (gI s (iS_sort k0)) = 0
  · rw [if_pos hc0] at hf
    refine e_tabI (off := 32) (tgt := 36) dX7_lowest_4 hc0 (by decide) (by decide) ?_
    refine e_lload_n 1 dX7_lowest_36 rfl rfl ?_
    refine e_l2i dX7_lowest_37 ?_
    refine e_i2b dX7_lowest_38 ?_
    refine e_i2l dX7_lowest_39 ?_
    cases hf
    exact e_lret dX7_lowest_40 rfl hP
  rw [if_neg hc0] at hf
  by_cases hc1 : (gI s (iS_sort k0)) = 1
  · rw [if_pos hc1] at hf
    refine e_tabI (off := 37) (tgt := 41) dX7_lowest_4 hc1 (by decide) (by decide) ?_
    refine e_lload_n 1 dX7_lowest_41 rfl rfl ?_
    refine e_l2i dX7_lowest_42 ?_
    refine e_i2s dX7_lowest_43 ?_
    refine e_i2l dX7_lowest_44 ?_
    cases hf
    exact e_lret dX7_lowest_45 rfl hP
  rw [if_neg hc1] at hf
  by_cases hc2 : (gI s (iS_sort k0)) = 2
  · rw [if_pos hc2] at hf
    refine e_tabI (off := 42) (tgt := 46) dX7_lowest_4 hc2 (by decide) (by decide) ?_
    refine e_lload_n 1 dX7_lowest_46 rfl rfl ?_
    refine e_l2i dX7_lowest_47 ?_
    refine e_i2l dX7_lowest_48 ?_
    cases hf
    exact e_lret dX7_lowest_49 rfl hP
  rw [if_neg hc2] at hf
  by_cases hc3 : (gI s (iS_sort k0)) = 3
  · rw [if_pos hc3] at hf
    refine e_tabI (off := 46) (tgt := 50) dX7_lowest_4 hc3 (by decide) (by decide) ?_
    refine e_lload_n 1 dX7_lowest_50 rfl rfl ?_
    cases hf
    exact e_lret dX7_lowest_51 rfl hP
  rw [if_neg hc3] at hf
  refine e_tabD (tgt := 52) (ks := [0, 1, 2, 3]) dX7_lowest_4 (by decide) (fun z hz => ?_) ?_
  · simp only [List.mem_cons, List.not_mem_nil, or_false] at hz
    rcases hz with rfl | rfl | rfl | rfl
    · exact hc0
    · exact hc1
    · exact hc2
    · exact hc3
  refine e_lload_n 1 dX7_lowest_52 rfl rfl ?_
  refine e_lconst (w := 0) dX7_lowest_53 (by decide) ?_
  refine e_lcmp dX7_lowest_54 ?_
  refine e_if_eq 62 dX7_lowest_55 (by decide) hf (fun hf => ?_) (fun hf => ?_)
  · refine e_lconst (w := 0) dX7_lowest_62 (by decide) ?_
    cases hf
    exact e_lret dX7_lowest_63 rfl hP
  · refine e_lconst (w := 1) dX7_lowest_58 (by decide) ?_
    refine e_goto 63 dX7_lowest_59 (by decide) ?_
    cases hf
    exact e_lret dX7_lowest_63 rfl hP

theorem dX6_isFull_0 : decode cX6_isFull 0 = .ok (.aload_n 0, 1) := by decide +kernel
theorem dX6_isFull_1 : decode cX6_isFull 1 = .ok (.getfield 25, 3) := by decide +kernel
theorem dX6_isFull_4 : decode cX6_isFull 4 = .ok (.bipush 8, 2) := by decide +kernel
theorem dX6_isFull_6 : decode cX6_isFull 6 = .ok (.if_icmp .lt 7, 3) := by decide +kernel
theorem dX6_isFull_9 : decode cX6_isFull 9 = .ok (.iconst 1, 1) := by decide +kernel
theorem dX6_isFull_10 : decode cX6_isFull 10 = .ok (.goto 4, 3) := by decide +kernel
theorem dX6_isFull_13 : decode cX6_isFull 13 = .ok (.iconst 0, 1) := by decide +kernel
theorem dX6_isFull_14 : decode cX6_isFull 14 = .ok (.ireturn, 1) := by decide +kernel
def fX6_isFull (k0 : Nat) (s : mS) : Option Int32 :=
  if (gI s (iM_size k0)) < 8 then
    some 0
  else
    some 1

set_option maxRecDepth 20000 in
theorem tX6_isFull {ρ : mRo} {d : Nat} {P : mPo} {V : mS → List mE} (hV : mView LC V)  {k0 : Nat} (hk0 : k0 < 3) {s : mS} {res : Int32} (hf : fX6_isFull k0 s = some res) (hP : P (some (.int res)) (V s)) : mC ρ (d + 1) 26 [.ref (qM k0)] (V s) P := by
  refine ⟨_, rfl, Nat.le_of_ble_eq_true rfl, by decide, ?_⟩
  show mG ρ (mC ρ d) 6 1 cX6_isFull (some .boolean) P 0 [(0, .ref (qM k0))] [] (V s)
  unfold fX6_isFull at hf
  refine e_aload_n 0 dX6_isFull_0 rfl rfl ?_
  refine e_geti hV dX6_isFull_1 rfl (lc_M hk0) rfl ?_
  refine e_bipush (w := 8) dX6_isFull_4 (by decide) ?_
  refine e_icmp_lt 13 dX6_isFull_6 (by decide) hf (fun hf => ?_) (fun hf => ?_)
  · refine e_iconst (w := 0) dX6_isFull_13 (by decide) ?_
    cases hf
    exact e_iret dX6_isFull_14 (Or.inl rfl) hP
  · refine e_iconst (w := 1) dX6_isFull_9 (by decide) ?_
    refine e_goto 14 dX6_isFull_10 (by decide) ?_
    cases hf
    exact e_iret dX6_isFull_14 (Or.inr rfl) hP

theorem dX7_isRowOf_0 : decode cX7_isRowOf 0 = .ok (.aload_n 0, 1) := by decide +kernel
theorem dX7_isRowOf_1 : decode cX7_isRowOf 1 = .ok (.getfield 13, 3) := by decide +kernel
theorem dX7_isRowOf_4 : decode cX7_isRowOf 4 = .ok (.iload_n 1, 1) := by decide +kernel
theorem dX7_isRowOf_5 : decode cX7_isRowOf 5 = .ok (.if_icmp .ne 7, 3) := by decide +kernel
theorem dX7_isRowOf_8 : decode cX7_isRowOf 8 = .ok (.iconst 1, 1) := by decide +kernel
theorem dX7_isRowOf_9 : decode cX7_isRowOf 9 = .ok (.goto 4, 3) := by decide +kernel
theorem dX7_isRowOf_12 : decode cX7_isRowOf 12 = .ok (.iconst 0, 1) := by decide +kernel
theorem dX7_isRowOf_13 : decode cX7_isRowOf 13 = .ok (.ireturn, 1) := by decide +kernel
def fX7_isRowOf (k0 : Nat) (x1 : Int32) (s : mS) : Option Int32 :=
  if (gI s (iS_sort k0)) = x1 then
    some 1
  else
    some 0

set_option maxRecDepth 20000 in
theorem tX7_isRowOf {ρ : mRo} {d : Nat} {P : mPo} {V : mS → List mE} (hV : mView LC V)  {k0 : Nat} (hk0 : k0 < 6) {x1 : Int32} {s : mS} {res : Int32} (hf : fX7_isRowOf k0 x1 s = some res) (hP : P (some (.int res)) (V s)) : mC ρ (d + 1) 38 [.ref (qS k0), .int x1] (V s) P := by
  refine ⟨_, rfl, Nat.le_of_ble_eq_true rfl, by decide, ?_⟩
  show mG ρ (mC ρ d) 7 2 cX7_isRowOf (some .boolean) P 0 [(0, .ref (qS k0)), (1, .int x1)] [] (V s)
  unfold fX7_isRowOf at hf
  refine e_aload_n 0 dX7_isRowOf_0 rfl rfl ?_
  refine e_geti hV dX7_isRowOf_1 rfl (lc_S hk0) rfl ?_
  refine e_iload_n 1 dX7_isRowOf_4 rfl rfl ?_
  refine e_icmp_ne 12 dX7_isRowOf_5 (by decide) hf (fun hf => ?_) (fun hf => ?_)
  · refine e_iconst (w := 0) dX7_isRowOf_12 (by decide) ?_
    cases hf
    exact e_iret dX7_isRowOf_13 (Or.inl rfl) hP
  · refine e_iconst (w := 1) dX7_isRowOf_8 (by decide) ?_
    refine e_goto 13 dX7_isRowOf_9 (by decide) ?_
    cases hf
    exact e_iret dX7_isRowOf_13 (Or.inr rfl) hP

theorem dX7_isEmpty_0 : decode cX7_isEmpty 0 = .ok (.aload_n 0, 1) := by decide +kernel
theorem dX7_isEmpty_1 : decode cX7_isEmpty 1 = .ok (.getfield 13, 3) := by decide +kernel
theorem dX7_isEmpty_4 : decode cX7_isEmpty 4 = .ok (.iconst (-1), 1) := by decide +kernel
theorem dX7_isEmpty_5 : decode cX7_isEmpty 5 = .ok (.if_icmp .ne 15, 3) := by decide +kernel
theorem dX7_isEmpty_8 : decode cX7_isEmpty 8 = .ok (.aload_n 0, 1) := by decide +kernel
theorem dX7_isEmpty_9 : decode cX7_isEmpty 9 = .ok (.getfield 17, 3) := by decide +kernel
theorem dX7_isEmpty_12 : decode cX7_isEmpty 12 = .ok (.iconst (-1), 1) := by decide +kernel
theorem dX7_isEmpty_13 : decode cX7_isEmpty 13 = .ok (.if_icmp .ne 7, 3) := by decide +kernel
theorem dX7_isEmpty_16 : decode cX7_isEmpty 16 = .ok (.iconst 1, 1) := by decide +kernel
theorem dX7_isEmpty_17 : decode cX7_isEmpty 17 = .ok (.goto 4, 3) := by decide +kernel
theorem dX7_isEmpty_20 : decode cX7_isEmpty 20 = .ok (.iconst 0, 1) := by decide +kernel
theorem dX7_isEmpty_21 : decode cX7_isEmpty 21 = .ok (.ireturn, 1) := by decide +kernel
def fX7_isEmpty (k0 : Nat) (s : mS) : Option Int32 :=
  if (gI s (iS_sort k0)) = (-1) then
    if (gI s (iS_ghost k0)) = (-1) then
      some 1
    else
      some 0
  else
    some 0

set_option maxRecDepth 20000 in
theorem tX7_isEmpty {ρ : mRo} {d : Nat} {P : mPo} {V : mS → List mE} (hV : mView LC V)  {k0 : Nat} (hk0 : k0 < 6) {s : mS} {res : Int32} (hf : fX7_isEmpty k0 s = some res) (hP : P (some (.int res)) (V s)) : mC ρ (d + 1) 39 [.ref (qS k0)] (V s) P := by
  refine ⟨_, rfl, Nat.le_of_ble_eq_true rfl, by decide, ?_⟩
  show mG ρ (mC ρ d) 7 1 cX7_isEmpty (some .boolean) P 0 [(0, .ref (qS k0))] [] (V s)
  unfold fX7_isEmpty at hf
  refine e_aload_n 0 dX7_isEmpty_0 rfl rfl ?_
  refine e_geti hV dX7_isEmpty_1 rfl (lc_S hk0) rfl ?_
  refine e_iconst (w := (-1)) dX7_isEmpty_4 (by decide) ?_
  refine e_icmp_ne 20 dX7_isEmpty_5 (by decide) hf (fun hf => ?_) (fun hf => ?_)
  · refine e_iconst (w := 0) dX7_isEmpty_20 (by decide) ?_
    cases hf
    exact e_iret dX7_isEmpty_21 (Or.inl rfl) hP
  · refine e_aload_n 0 dX7_isEmpty_8 rfl rfl ?_
    refine e_geti hV dX7_isEmpty_9 rfl (lc_S hk0) rfl ?_
    refine e_iconst (w := (-1)) dX7_isEmpty_12 (by decide) ?_
    refine e_icmp_ne 20 dX7_isEmpty_13 (by decide) hf (fun hf => ?_) (fun hf => ?_)
    · refine e_iconst (w := 0) dX7_isEmpty_20 (by decide) ?_
      cases hf
      exact e_iret dX7_isEmpty_21 (Or.inl rfl) hP
    · refine e_iconst (w := 1) dX7_isEmpty_16 (by decide) ?_
      refine e_goto 21 dX7_isEmpty_17 (by decide) ?_
      cases hf
      exact e_iret dX7_isEmpty_21 (Or.inr rfl) hP

theorem dX10_isShelf_0 : decode cX10_isShelf 0 = .ok (.iload_n 0, 1) := by decide +kernel
theorem dX10_isShelf_1 : decode cX10_isShelf 1 = .ok (.ifCond .lt 13, 3) := by decide +kernel
theorem dX10_isShelf_4 : decode cX10_isShelf 4 = .ok (.iload_n 0, 1) := by decide +kernel
theorem dX10_isShelf_5 : decode cX10_isShelf 5 = .ok (.bipush 6, 2) := by decide +kernel
theorem dX10_isShelf_7 : decode cX10_isShelf 7 = .ok (.if_icmp .ge 7, 3) := by decide +kernel
theorem dX10_isShelf_10 : decode cX10_isShelf 10 = .ok (.iconst 1, 1) := by decide +kernel
theorem dX10_isShelf_11 : decode cX10_isShelf 11 = .ok (.goto 4, 3) := by decide +kernel
theorem dX10_isShelf_14 : decode cX10_isShelf 14 = .ok (.iconst 0, 1) := by decide +kernel
theorem dX10_isShelf_15 : decode cX10_isShelf 15 = .ok (.ireturn, 1) := by decide +kernel
def fX10_isShelf (x0 : Int32) (s : mS) : Option Int32 :=
  if x0 < 0 then
    some 0
  else
    if 6 ≤ x0 then
      some 0
    else
      some 1

set_option maxRecDepth 20000 in
theorem tX10_isShelf {ρ : mRo} {d : Nat} {P : mPo} {V : mS → List mE} (hV : mView LC V)  {x0 : Int32} {s : mS} {res : Int32} (hf : fX10_isShelf x0 s = some res) (hP : P (some (.int res)) (V s)) : mC ρ (d + 1) 110 [.int x0] (V s) P := by
  refine ⟨_, rfl, Nat.le_of_ble_eq_true rfl, by decide, ?_⟩
  show mG ρ (mC ρ d) 10 1 cX10_isShelf (some .boolean) P 0 [(0, .int x0)] [] (V s)
  unfold fX10_isShelf at hf
  refine e_iload_n 0 dX10_isShelf_0 rfl rfl ?_
  refine e_if_lt 14 dX10_isShelf_1 (by decide) hf (fun hf => ?_) (fun hf => ?_)
  · refine e_iconst (w := 0) dX10_isShelf_14 (by decide) ?_
    cases hf
    exact e_iret dX10_isShelf_15 (Or.inl rfl) hP
  · refine e_iload_n 0 dX10_isShelf_4 rfl rfl ?_
    refine e_bipush (w := 6) dX10_isShelf_5 (by decide) ?_
    refine e_icmp_ge 14 dX10_isShelf_7 (by decide) hf (fun hf => ?_) (fun hf => ?_)
    · refine e_iconst (w := 0) dX10_isShelf_14 (by decide) ?_
      cases hf
      exact e_iret dX10_isShelf_15 (Or.inl rfl) hP
    · refine e_iconst (w := 1) dX10_isShelf_10 (by decide) ?_
      refine e_goto 15 dX10_isShelf_11 (by decide) ?_
      cases hf
      exact e_iret dX10_isShelf_15 (Or.inr rfl) hP

theorem dX7_hasSpan_0 : decode cX7_hasSpan 0 = .ok (.iload_n 1, 1) := by decide +kernel
theorem dX7_hasSpan_1 : decode cX7_hasSpan 1 = .ok (.ifCond .lt 29, 3) := by decide +kernel
theorem dX7_hasSpan_4 : decode cX7_hasSpan 4 = .ok (.iload_n 2, 1) := by decide +kernel
theorem dX7_hasSpan_5 : decode cX7_hasSpan 5 = .ok (.ifCond .lt 25, 3) := by decide +kernel
theorem dX7_hasSpan_8 : decode cX7_hasSpan 8 = .ok (.iload_n 2, 1) := by decide +kernel
theorem dX7_hasSpan_9 : decode cX7_hasSpan 9 = .ok (.aload_n 0, 1) := by decide +kernel
theorem dX7_hasSpan_10 : decode cX7_hasSpan 10 = .ok (.getfield 20, 3) := by decide +kernel
theorem dX7_hasSpan_13 : decode cX7_hasSpan 13 = .ok (.if_icmp .gt 17, 3) := by decide +kernel
theorem dX7_hasSpan_16 : decode cX7_hasSpan 16 = .ok (.iload_n 1, 1) := by decide +kernel
theorem dX7_hasSpan_17 : decode cX7_hasSpan 17 = .ok (.aload_n 0, 1) := by decide +kernel
theorem dX7_hasSpan_18 : decode cX7_hasSpan 18 = .ok (.getfield 20, 3) := by decide +kernel
theorem dX7_hasSpan_21 : decode cX7_hasSpan 21 = .ok (.iload_n 2, 1) := by decide +kernel
theorem dX7_hasSpan_22 : decode cX7_hasSpan 22 = .ok (.isub, 1) := by decide +kernel
theorem dX7_hasSpan_23 : decode cX7_hasSpan 23 = .ok (.if_icmp .gt 7, 3) := by decide +kernel
theorem dX7_hasSpan_26 : decode cX7_hasSpan 26 = .ok (.iconst 1, 1) := by decide +kernel
theorem dX7_hasSpan_27 : decode cX7_hasSpan 27 = .ok (.goto 4, 3) := by decide +kernel
theorem dX7_hasSpan_30 : decode cX7_hasSpan 30 = .ok (.iconst 0, 1) := by decide +kernel
theorem dX7_hasSpan_31 : decode cX7_hasSpan 31 = .ok (.ireturn, 1) := by decide +kernel
def fX7_hasSpan (k0 : Nat) (x1 : Int32) (x2 : Int32) (s : mS) : Option Int32 :=
  if x1 < 0 then
    some 0
  else
    if x2 < 0 then
      some 0
    else
      if (gI s (iS_size k0)) < x2 then
        some 0
      else
        if ((gI s (iS_size k0)) - x2) < x1 then
          some 0
        else
          some 1

set_option maxRecDepth 20000 in
theorem tX7_hasSpan {ρ : mRo} {d : Nat} {P : mPo} {V : mS → List mE} (hV : mView LC V)  {k0 : Nat} (hk0 : k0 < 6) {x1 : Int32} {x2 : Int32} {s : mS} {res : Int32} (hf : fX7_hasSpan k0 x1 x2 s = some res) (hP : P (some (.int res)) (V s)) : mC ρ (d + 1) 42 [.ref (qS k0), .int x1, .int x2] (V s) P := by
  refine ⟨_, rfl, Nat.le_of_ble_eq_true rfl, by decide, ?_⟩
  show mG ρ (mC ρ d) 7 3 cX7_hasSpan (some .boolean) P 0 [(0, .ref (qS k0)), (1, .int x1), (2, .int x2)] [] (V s)
  unfold fX7_hasSpan at hf
  refine e_iload_n 1 dX7_hasSpan_0 rfl rfl ?_
  refine e_if_lt 30 dX7_hasSpan_1 (by decide) hf (fun hf => ?_) (fun hf => ?_)
  · refine e_iconst (w := 0) dX7_hasSpan_30 (by decide) ?_
    cases hf
    exact e_iret dX7_hasSpan_31 (Or.inl rfl) hP
  · refine e_iload_n 2 dX7_hasSpan_4 rfl rfl ?_
    refine e_if_lt 30 dX7_hasSpan_5 (by decide) hf (fun hf => ?_) (fun hf => ?_)
    · refine e_iconst (w := 0) dX7_hasSpan_30 (by decide) ?_
      cases hf
      exact e_iret dX7_hasSpan_31 (Or.inl rfl) hP
    · refine e_iload_n 2 dX7_hasSpan_8 rfl rfl ?_
      refine e_aload_n 0 dX7_hasSpan_9 rfl rfl ?_
      refine e_geti hV dX7_hasSpan_10 rfl (lc_S hk0) rfl ?_
      refine e_icmp_gt 30 dX7_hasSpan_13 (by decide) hf (fun hf => ?_) (fun hf => ?_)
      · refine e_iconst (w := 0) dX7_hasSpan_30 (by decide) ?_
        cases hf
        exact e_iret dX7_hasSpan_31 (Or.inl rfl) hP
      · refine e_iload_n 1 dX7_hasSpan_16 rfl rfl ?_
        refine e_aload_n 0 dX7_hasSpan_17 rfl rfl ?_
        refine e_geti hV dX7_hasSpan_18 rfl (lc_S hk0) rfl ?_
        refine e_iload_n 2 dX7_hasSpan_21 rfl rfl ?_
        refine e_isub dX7_hasSpan_22 ?_
        refine e_icmp_gt 30 dX7_hasSpan_23 (by decide) hf (fun hf => ?_) (fun hf => ?_)
        · refine e_iconst (w := 0) dX7_hasSpan_30 (by decide) ?_
          cases hf
          exact e_iret dX7_hasSpan_31 (Or.inl rfl) hP
        · refine e_iconst (w := 1) dX7_hasSpan_26 (by decide) ?_
          refine e_goto 31 dX7_hasSpan_27 (by decide) ?_
          cases hf
          exact e_iret dX7_hasSpan_31 (Or.inr rfl) hP

theorem dX10_pullsStandAt_0 : decode cX10_pullsStandAt 0 = .ok (.aload_n 0, 1) := by decide +kernel
theorem dX10_pullsStandAt_1 : decode cX10_pullsStandAt 1 = .ok (.iload_n 1, 1) := by decide +kernel
theorem dX10_pullsStandAt_2 : decode cX10_pullsStandAt 2 = .ok (.iconst 3, 1) := by decide +kernel
theorem dX10_pullsStandAt_3 : decode cX10_pullsStandAt 3 = .ok (.invokevirtual 383, 3) := by decide +kernel
theorem dX10_pullsStandAt_6 : decode cX10_pullsStandAt 6 = .ok (.ifCond .ne 5, 3) := by decide +kernel
theorem dX10_pullsStandAt_9 : decode cX10_pullsStandAt 9 = .ok (.iconst 0, 1) := by decide +kernel
theorem dX10_pullsStandAt_10 : decode cX10_pullsStandAt 10 = .ok (.ireturn, 1) := by decide +kernel
theorem dX10_pullsStandAt_11 : decode cX10_pullsStandAt 11 = .ok (.iload_n 1, 1) := by decide +kernel
theorem dX10_pullsStandAt_12 : decode cX10_pullsStandAt 12 = .ok (.istore_n 2, 1) := by decide +kernel
theorem dX10_pullsStandAt_13 : decode cX10_pullsStandAt 13 = .ok (.iload_n 2, 1) := by decide +kernel
theorem dX10_pullsStandAt_14 : decode cX10_pullsStandAt 14 = .ok (.iload_n 1, 1) := by decide +kernel
theorem dX10_pullsStandAt_15 : decode cX10_pullsStandAt 15 = .ok (.iconst 3, 1) := by decide +kernel
theorem dX10_pullsStandAt_16 : decode cX10_pullsStandAt 16 = .ok (.iadd, 1) := by decide +kernel
theorem dX10_pullsStandAt_17 : decode cX10_pullsStandAt 17 = .ok (.if_icmp .ge 35, 3) := by decide +kernel
theorem dX10_pullsStandAt_20 : decode cX10_pullsStandAt 20 = .ok (.aload_n 0, 1) := by decide +kernel
theorem dX10_pullsStandAt_21 : decode cX10_pullsStandAt 21 = .ok (.getfield 117, 3) := by decide +kernel
theorem dX10_pullsStandAt_24 : decode cX10_pullsStandAt 24 = .ok (.iload_n 2, 1) := by decide +kernel
theorem dX10_pullsStandAt_25 : decode cX10_pullsStandAt 25 = .ok (.laload, 1) := by decide +kernel
theorem dX10_pullsStandAt_26 : decode cX10_pullsStandAt 26 = .ok (.lconst 0, 1) := by decide +kernel
theorem dX10_pullsStandAt_27 : decode cX10_pullsStandAt 27 = .ok (.lcmp, 1) := by decide +kernel
theorem dX10_pullsStandAt_28 : decode cX10_pullsStandAt 28 = .ok (.ifCond .lt 16, 3) := by decide +kernel
theorem dX10_pullsStandAt_31 : decode cX10_pullsStandAt 31 = .ok (.aload_n 0, 1) := by decide +kernel
theorem dX10_pullsStandAt_32 : decode cX10_pullsStandAt 32 = .ok (.getfield 117, 3) := by decide +kernel
theorem dX10_pullsStandAt_35 : decode cX10_pullsStandAt 35 = .ok (.iload_n 2, 1) := by decide +kernel
theorem dX10_pullsStandAt_36 : decode cX10_pullsStandAt 36 = .ok (.laload, 1) := by decide +kernel
theorem dX10_pullsStandAt_37 : decode cX10_pullsStandAt 37 = .ok (.ldc2_w 399, 3) := by decide +kernel
theorem dX10_pullsStandAt_40 : decode cX10_pullsStandAt 40 = .ok (.lcmp, 1) := by decide +kernel
theorem dX10_pullsStandAt_41 : decode cX10_pullsStandAt 41 = .ok (.ifCond .le 5, 3) := by decide +kernel
theorem dX10_pullsStandAt_44 : decode cX10_pullsStandAt 44 = .ok (.iconst 0, 1) := by decide +kernel
theorem dX10_pullsStandAt_45 : decode cX10_pullsStandAt 45 = .ok (.ireturn, 1) := by decide +kernel
theorem dX10_pullsStandAt_46 : decode cX10_pullsStandAt 46 = .ok (.iinc 2 1, 3) := by decide +kernel
theorem dX10_pullsStandAt_49 : decode cX10_pullsStandAt 49 = .ok (.goto (-36), 3) := by decide +kernel
theorem dX10_pullsStandAt_52 : decode cX10_pullsStandAt 52 = .ok (.iconst 1, 1) := by decide +kernel
theorem dX10_pullsStandAt_53 : decode cX10_pullsStandAt 53 = .ok (.ireturn, 1) := by decide +kernel
def fX10_pullsStandAt_b13 : Nat → Nat → Int32 → Int32 → mS → Option Int32
  | 0, _, _, _, _ => none
  | k + 1, k0, y1, y2, s =>
    if (y1 + 3) ≤ y2 then
      some 1
    else
      ldL s (lS_cells k0) 60 y2 fun v3 =>
      if (lg_cmp v3 0) < 0 then
        some 0
      else
        ldL s (lS_cells k0) 60 y2 fun v4 =>
        if (lg_cmp v4 12) ≤ 0 then
          bnd (y2 + 1) fun v5 =>
          fX10_pullsStandAt_b13 k k0 y1 v5 s
        else
          some 0

def fX10_pullsStandAt (k0 : Nat) (x1 : Int32) (s : mS) : Option Int32 :=
  bO (fX7_hasSpan k0 x1 3 s) fun r1 =>
  if r1 = 0 then
    some 0
  else
    bnd x1 fun v2 =>
    fX10_pullsStandAt_b13 mFu k0 x1 v2 s

set_option maxRecDepth 20000 in
theorem wX10_pullsStandAt_b13 {ρ : mRo} {d : Nat} {P : mPo} {V : mS → List mE} (hV : mView LC V)  {res : Int32} {s : mS} (hP : P (some (.int res)) (V s)) : ∀ (k : Nat) (k0 : Nat) (hk0 : k0 < 6) (y1 : Int32) (y2 : Int32), fX10_pullsStandAt_b13 k k0 y1 y2 s = some res → mG ρ (mC ρ (d + 1)) 10 3 cX10_pullsStandAt (some .boolean) P 13 [(0, .ref (qS k0)), (1, .int y1), (2, .int y2)] [] (V s) := by
  intro k
  induction k with
  | zero => intro k0 hk0 y1 y2 hf; rw [fX10_pullsStandAt_b13] at hf; cases hf
  | succ k ih =>
    intro k0 hk0 y1 y2 hf
    rw [fX10_pullsStandAt_b13] at hf
    refine e_iload_n 2 dX10_pullsStandAt_13 rfl rfl ?_
    refine e_iload_n 1 dX10_pullsStandAt_14 rfl rfl ?_
    refine e_iconst (w := 3) dX10_pullsStandAt_15 (by decide) ?_
    refine e_iadd dX10_pullsStandAt_16 ?_
    refine e_icmp_ge 52 dX10_pullsStandAt_17 (by decide) hf (fun hf => ?_) (fun hf => ?_)
    · refine e_iconst (w := 1) dX10_pullsStandAt_52 (by decide) ?_
      cases hf
      exact e_iret dX10_pullsStandAt_53 (Or.inr rfl) hP
    · refine e_aload_n 0 dX10_pullsStandAt_20 rfl rfl ?_
      refine e_getr hV dX10_pullsStandAt_21 rfl (lc_S hk0) rfl ?_
      refine e_iload_n 2 dX10_pullsStandAt_24 rfl rfl ?_
      refine e_lald hV dX10_pullsStandAt_25 (lc_S_cells hk0) hf (fun v3 hf => ?_)
      refine e_lconst (w := 0) dX10_pullsStandAt_26 (by decide) ?_
      refine e_lcmp dX10_pullsStandAt_27 ?_
      refine e_if_lt 44 dX10_pullsStandAt_28 (by decide) hf (fun hf => ?_) (fun hf => ?_)
      · refine e_iconst (w := 0) dX10_pullsStandAt_44 (by decide) ?_
        cases hf
        exact e_iret dX10_pullsStandAt_45 (Or.inl rfl) hP
      · refine e_aload_n 0 dX10_pullsStandAt_31 rfl rfl ?_
        refine e_getr hV dX10_pullsStandAt_32 rfl (lc_S hk0) rfl ?_
        refine e_iload_n 2 dX10_pullsStandAt_35 rfl rfl ?_
        refine e_lald hV dX10_pullsStandAt_36 (lc_S_cells hk0) hf (fun v4 hf => ?_)
        refine e_ldc2_w (w := 12) dX10_pullsStandAt_37 rfl ?_
        refine e_lcmp dX10_pullsStandAt_40 ?_
        refine e_if_le 46 dX10_pullsStandAt_41 (by decide) hf (fun hf => ?_) (fun hf => ?_)
        · refine e_iinc 2 dX10_pullsStandAt_46 rfl rfl hf (fun v5 hf => ?_)
          refine e_goto 13 dX10_pullsStandAt_49 (by decide) ?_
          refine e_pick [1, 2, 0] rfl ?_
          exact ih k0 hk0 y1 v5 hf
        · refine e_iconst (w := 0) dX10_pullsStandAt_44 (by decide) ?_
          cases hf
          exact e_iret dX10_pullsStandAt_45 (Or.inl rfl) hP
set_option maxRecDepth 20000 in
theorem tX10_pullsStandAt {ρ : mRo} {d : Nat} {P : mPo} {V : mS → List mE} (hV : mView LC V)  {k0 : Nat} (hk0 : k0 < 6) {x1 : Int32} {s : mS} {res : Int32} (hf : fX10_pullsStandAt k0 x1 s = some res) (hP : P (some (.int res)) (V s)) : mC ρ (d + 2) 114 [.ref (qS k0), .int x1] (V s) P := by
  refine ⟨_, rfl, Nat.le_of_ble_eq_true rfl, by decide, ?_⟩
  show mG ρ (mC ρ (d + 1)) 10 3 cX10_pullsStandAt (some .boolean) P 0 [(0, .ref (qS k0)), (1, .int x1)] [] (V s)
  unfold fX10_pullsStandAt at hf
  refine e_aload_n 0 dX10_pullsStandAt_0 rfl rfl ?_
  refine e_iload_n 1 dX10_pullsStandAt_1 rfl rfl ?_
  refine e_iconst (w := 3) dX10_pullsStandAt_2 (by decide) ?_
  obtain ⟨r1, hg, hf⟩ := bO_some hf
  refine e_callV (as := [.int x1, .int 3]) (v := (some (.int r1))) (s' := s) hV dX10_pullsStandAt_3 (Or.inl rfl) rfl rfl rfl rfl (by decide) (lc_S hk0) rfl rfl (fun Q hQ => tX7_hasSpan (d := d) hV hk0 hg hQ) ?_
  refine e_if_ne 11 dX10_pullsStandAt_6 (by decide) hf (fun hf => ?_) (fun hf => ?_)
  · refine e_iload_n 1 dX10_pullsStandAt_11 rfl rfl ?_
    refine e_istore_n dX10_pullsStandAt_12 rfl (by decide) hf (fun v2 hf => ?_)
    refine e_pick [1, 2, 0] rfl ?_
    exact wX10_pullsStandAt_b13 hV hP mFu k0 hk0 x1 v2 hf
  · refine e_iconst (w := 0) dX10_pullsStandAt_9 (by decide) ?_
    cases hf
    exact e_iret dX10_pullsStandAt_10 (Or.inl rfl) hP

theorem dX10_machines_0 : decode cX10_machines 0 = .ok (.iload_n 1, 1) := by decide +kernel
theorem dX10_machines_1 : decode cX10_machines 1 = .ok (.invokestatic 99, 3) := by decide +kernel
theorem dX10_machines_4 : decode cX10_machines 4 = .ok (.ifCond .eq 14, 3) := by decide +kernel
theorem dX10_machines_7 : decode cX10_machines 7 = .ok (.iload_n 3, 1) := by decide +kernel
theorem dX10_machines_8 : decode cX10_machines 8 = .ok (.iconst 1, 1) := by decide +kernel
theorem dX10_machines_9 : decode cX10_machines 9 = .ok (.if_icmp .lt 9, 3) := by decide +kernel
theorem dX10_machines_12 : decode cX10_machines 12 = .ok (.iload_n 3, 1) := by decide +kernel
theorem dX10_machines_13 : decode cX10_machines 13 = .ok (.bipush 8, 2) := by decide +kernel
theorem dX10_machines_15 : decode cX10_machines 15 = .ok (.if_icmp .le 5, 3) := by decide +kernel
theorem dX10_machines_18 : decode cX10_machines 18 = .ok (.iconst (-1), 1) := by decide +kernel
theorem dX10_machines_19 : decode cX10_machines 19 = .ok (.ireturn, 1) := by decide +kernel
theorem dX10_machines_20 : decode cX10_machines 20 = .ok (.aload_n 0, 1) := by decide +kernel
theorem dX10_machines_21 : decode cX10_machines 21 = .ok (.getfield 42, 3) := by decide +kernel
theorem dX10_machines_24 : decode cX10_machines 24 = .ok (.iload_n 1, 1) := by decide +kernel
theorem dX10_machines_25 : decode cX10_machines 25 = .ok (.aaload, 1) := by decide +kernel
theorem dX10_machines_26 : decode cX10_machines 26 = .ok (.astore 4, 2) := by decide +kernel
theorem dX10_machines_28 : decode cX10_machines 28 = .ok (.aload 4, 2) := by decide +kernel
theorem dX10_machines_30 : decode cX10_machines 30 = .ok (.invokevirtual 103, 3) := by decide +kernel
theorem dX10_machines_33 : decode cX10_machines 33 = .ok (.ifCond .eq 5, 3) := by decide +kernel
theorem dX10_machines_36 : decode cX10_machines 36 = .ok (.iconst 0, 1) := by decide +kernel
theorem dX10_machines_37 : decode cX10_machines 37 = .ok (.ireturn, 1) := by decide +kernel
theorem dX10_machines_38 : decode cX10_machines 38 = .ok (.aload 4, 2) := by decide +kernel
theorem dX10_machines_40 : decode cX10_machines 40 = .ok (.iconst 0, 1) := by decide +kernel
theorem dX10_machines_41 : decode cX10_machines 41 = .ok (.invokevirtual 106, 3) := by decide +kernel
theorem dX10_machines_44 : decode cX10_machines 44 = .ok (.ifCond .ne 6, 3) := by decide +kernel
theorem dX10_machines_47 : decode cX10_machines 47 = .ok (.bipush (-12), 2) := by decide +kernel
theorem dX10_machines_49 : decode cX10_machines 49 = .ok (.ireturn, 1) := by decide +kernel
theorem dX10_machines_50 : decode cX10_machines 50 = .ok (.iconst 0, 1) := by decide +kernel
theorem dX10_machines_51 : decode cX10_machines 51 = .ok (.istore 5, 2) := by decide +kernel
theorem dX10_machines_53 : decode cX10_machines 53 = .ok (.iload 5, 2) := by decide +kernel
theorem dX10_machines_55 : decode cX10_machines 55 = .ok (.iload_n 3, 1) := by decide +kernel
theorem dX10_machines_56 : decode cX10_machines 56 = .ok (.if_icmp .ge 89, 3) := by decide +kernel
theorem dX10_machines_59 : decode cX10_machines 59 = .ok (.iload_n 2, 1) := by decide +kernel
theorem dX10_machines_60 : decode cX10_machines 60 = .ok (.aload 4, 2) := by decide +kernel
theorem dX10_machines_62 : decode cX10_machines 62 = .ok (.getfield 109, 3) := by decide +kernel
theorem dX10_machines_65 : decode cX10_machines 65 = .ok (.if_icmp .ge 80, 3) := by decide +kernel
theorem dX10_machines_68 : decode cX10_machines 68 = .ok (.aload_n 0, 1) := by decide +kernel
theorem dX10_machines_69 : decode cX10_machines 69 = .ok (.getfield 10, 3) := by decide +kernel
theorem dX10_machines_72 : decode cX10_machines 72 = .ok (.invokevirtual 91, 3) := by decide +kernel
theorem dX10_machines_75 : decode cX10_machines 75 = .ok (.ifCond .ne 70, 3) := by decide +kernel
theorem dX10_machines_78 : decode cX10_machines 78 = .ok (.aload 4, 2) := by decide +kernel
theorem dX10_machines_80 : decode cX10_machines 80 = .ok (.iload_n 2, 1) := by decide +kernel
theorem dX10_machines_81 : decode cX10_machines 81 = .ok (.iconst 3, 1) := by decide +kernel
theorem dX10_machines_82 : decode cX10_machines 82 = .ok (.iload 5, 2) := by decide +kernel
theorem dX10_machines_84 : decode cX10_machines 84 = .ok (.imul, 1) := by decide +kernel
theorem dX10_machines_85 : decode cX10_machines 85 = .ok (.iadd, 1) := by decide +kernel
theorem dX10_machines_86 : decode cX10_machines 86 = .ok (.invokestatic 113, 3) := by decide +kernel
theorem dX10_machines_89 : decode cX10_machines 89 = .ok (.ifCond .eq 56, 3) := by decide +kernel
theorem dX10_machines_92 : decode cX10_machines 92 = .ok (.iload_n 2, 1) := by decide +kernel
theorem dX10_machines_93 : decode cX10_machines 93 = .ok (.iconst 3, 1) := by decide +kernel
theorem dX10_machines_94 : decode cX10_machines 94 = .ok (.iload 5, 2) := by decide +kernel
theorem dX10_machines_96 : decode cX10_machines 96 = .ok (.imul, 1) := by decide +kernel
theorem dX10_machines_97 : decode cX10_machines 97 = .ok (.iadd, 1) := by decide +kernel
theorem dX10_machines_98 : decode cX10_machines 98 = .ok (.istore 6, 2) := by decide +kernel
theorem dX10_machines_100 : decode cX10_machines 100 = .ok (.aload_n 0, 1) := by decide +kernel
theorem dX10_machines_101 : decode cX10_machines 101 = .ok (.getfield 10, 3) := by decide +kernel
theorem dX10_machines_104 : decode cX10_machines 104 = .ok (.aload 4, 2) := by decide +kernel
theorem dX10_machines_106 : decode cX10_machines 106 = .ok (.getfield 117, 3) := by decide +kernel
theorem dX10_machines_109 : decode cX10_machines 109 = .ok (.iload 6, 2) := by decide +kernel
theorem dX10_machines_111 : decode cX10_machines 111 = .ok (.laload, 1) := by decide +kernel
theorem dX10_machines_112 : decode cX10_machines 112 = .ok (.l2i, 1) := by decide +kernel
theorem dX10_machines_113 : decode cX10_machines 113 = .ok (.aload 4, 2) := by decide +kernel
theorem dX10_machines_115 : decode cX10_machines 115 = .ok (.getfield 117, 3) := by decide +kernel
theorem dX10_machines_118 : decode cX10_machines 118 = .ok (.iload 6, 2) := by decide +kernel
theorem dX10_machines_120 : decode cX10_machines 120 = .ok (.iconst 1, 1) := by decide +kernel
theorem dX10_machines_121 : decode cX10_machines 121 = .ok (.iadd, 1) := by decide +kernel
theorem dX10_machines_122 : decode cX10_machines 122 = .ok (.laload, 1) := by decide +kernel
theorem dX10_machines_123 : decode cX10_machines 123 = .ok (.l2i, 1) := by decide +kernel
theorem dX10_machines_124 : decode cX10_machines 124 = .ok (.aload 4, 2) := by decide +kernel
theorem dX10_machines_126 : decode cX10_machines 126 = .ok (.getfield 117, 3) := by decide +kernel
theorem dX10_machines_129 : decode cX10_machines 129 = .ok (.iload 6, 2) := by decide +kernel
theorem dX10_machines_131 : decode cX10_machines 131 = .ok (.iconst 2, 1) := by decide +kernel
theorem dX10_machines_132 : decode cX10_machines 132 = .ok (.iadd, 1) := by decide +kernel
theorem dX10_machines_133 : decode cX10_machines 133 = .ok (.laload, 1) := by decide +kernel
theorem dX10_machines_134 : decode cX10_machines 134 = .ok (.l2i, 1) := by decide +kernel
theorem dX10_machines_135 : decode cX10_machines 135 = .ok (.invokevirtual 95, 3) := by decide +kernel
theorem dX10_machines_138 : decode cX10_machines 138 = .ok (.pop, 1) := by decide +kernel
theorem dX10_machines_139 : decode cX10_machines 139 = .ok (.iinc 5 1, 3) := by decide +kernel
theorem dX10_machines_142 : decode cX10_machines 142 = .ok (.goto (-89), 3) := by decide +kernel
theorem dX10_machines_145 : decode cX10_machines 145 = .ok (.iload 5, 2) := by decide +kernel
theorem dX10_machines_147 : decode cX10_machines 147 = .ok (.ireturn, 1) := by decide +kernel
def fX10_machines_b53 : Nat → Nat → Int32 → Int32 → Int32 → mS → Option (Int32 × mS)
  | 0, _, _, _, _, _ => none
  | k + 1, j2, y2, y3, y5, s =>
    if y3 ≤ y5 then
      some (y5, s)
    else
      if (gI s (iS_size j2)) ≤ y2 then
        some (y5, s)
      else
        bO (fX6_isFull 0 s) fun r6 =>
        if r6 = 0 then
          bO (fX10_pullsStandAt j2 (y2 + (3 * y5)) s) fun r7 =>
          if r7 = 0 then
            some (y5, s)
          else
            bnd (y2 + (3 * y5)) fun v8 =>
            ldL s (lS_cells j2) 60 v8 fun v9 =>
            ldL s (lS_cells j2) 60 (v8 + 1) fun v10 =>
            ldL s (lS_cells j2) 60 (v8 + 2) fun v11 =>
            bP (fX6_join 0 (Int64.toInt32 v9) (Int64.toInt32 v10) (Int64.toInt32 v11) s) fun r12 s13 =>
            bnd (y5 + 1) fun v14 =>
            fX10_machines_b53 k j2 y2 y3 v14 s13
        else
          some (y5, s)

def fX10_machines (x1 : Int32) (x2 : Int32) (x3 : Int32) (s : mS) : Option (Int32 × mS) :=
  bO (fX10_isShelf x1 s) fun r1 =>
  if r1 = 0 then
    some ((-1), s)
  else
    if x3 < 1 then
      some ((-1), s)
    else
      if x3 ≤ 8 then
        ldS 6 x1 fun j2 =>
        bO (fX7_isEmpty j2 s) fun r3 =>
        if r3 = 0 then
          bO (fX7_isRowOf j2 0 s) fun r4 =>
          if r4 = 0 then
            some ((-12), s)
          else
            bnd 0 fun v5 =>
            fX10_machines_b53 mFu j2 x2 x3 v5 s
        else
          some (0, s)
      else
        some ((-1), s)

set_option maxRecDepth 20000 in
theorem wX10_machines_b53 {ρ : mRo} {d : Nat} {P : mPo} {V : mS → List mE} (hV : mView LC V)  {res : (Int32 × mS)} (hP : P (some (.int res.1)) (V res.2)) : ∀ (k : Nat) (j2 : Nat) (hj2 : j2 < 6) (y2 : Int32) (y3 : Int32) (y5 : Int32) (s : mS), fX10_machines_b53 k j2 y2 y3 y5 s = some res → mG ρ (mC ρ (d + 2)) 10 7 cX10_machines (some .int) P 53 [(0, .ref qT), (2, .int y2), (3, .int y3), (4, .ref (qS j2)), (5, .int y5)] [] (V s) := by
  intro k
  induction k with
  | zero => intro j2 hj2 y2 y3 y5 s hf; rw [fX10_machines_b53] at hf; cases hf
  | succ k ih =>
    intro j2 hj2 y2 y3 y5 s hf
    rw [fX10_machines_b53] at hf
    refine e_iload 4 dX10_machines_53 rfl ?_
    refine e_iload_n 2 dX10_machines_55 rfl rfl ?_
    refine e_icmp_ge 145 dX10_machines_56 (by decide) hf (fun hf => ?_) (fun hf => ?_)
    · refine e_iload 4 dX10_machines_145 rfl ?_
      cases hf
      exact e_iret dX10_machines_147 trivial hP
    · refine e_iload_n 1 dX10_machines_59 rfl rfl ?_
      refine e_aload 3 dX10_machines_60 rfl ?_
      refine e_geti hV dX10_machines_62 rfl (lc_S hj2) rfl ?_
      refine e_icmp_ge 145 dX10_machines_65 (by decide) hf (fun hf => ?_) (fun hf => ?_)
      · refine e_iload 4 dX10_machines_145 rfl ?_
        cases hf
        exact e_iret dX10_machines_147 trivial hP
      · refine e_aload_n 0 dX10_machines_68 rfl rfl ?_
        refine e_getr hV dX10_machines_69 rfl lc_T rfl ?_
        obtain ⟨r6, hg, hf⟩ := bO_some hf
        refine e_callV (as := []) (v := (some (.int r6))) (s' := s) hV dX10_machines_72 (Or.inl rfl) rfl rfl rfl rfl (by decide) (lc_M (by decide)) rfl rfl (fun Q hQ => tX6_isFull (d := (d + 1)) hV (by decide) hg hQ) ?_
        refine e_if_ne 145 dX10_machines_75 (by decide) hf (fun hf => ?_) (fun hf => ?_)
        · refine e_iload 4 dX10_machines_145 rfl ?_
          cases hf
          exact e_iret dX10_machines_147 trivial hP
        · refine e_aload 3 dX10_machines_78 rfl ?_
          refine e_iload_n 1 dX10_machines_80 rfl rfl ?_
          refine e_iconst (w := 3) dX10_machines_81 (by decide) ?_
          refine e_iload 4 dX10_machines_82 rfl ?_
          refine e_imul dX10_machines_84 ?_
          refine e_iadd dX10_machines_85 ?_
          obtain ⟨r7, hg, hf⟩ := bO_some hf
          refine e_callS (as := [.ref (qS j2), .int (y2 + (3 * y5))]) (v := (some (.int r7))) (s' := s) dX10_machines_86 rfl rfl rfl rfl rfl (by decide) (fun Q hQ => tX10_pullsStandAt (d := d) hV hj2 hg hQ) ?_
          refine e_if_eq 145 dX10_machines_89 (by decide) hf (fun hf => ?_) (fun hf => ?_)
          · refine e_iload 4 dX10_machines_145 rfl ?_
            cases hf
            exact e_iret dX10_machines_147 trivial hP
          · refine e_iload_n 1 dX10_machines_92 rfl rfl ?_
            refine e_iconst (w := 3) dX10_machines_93 (by decide) ?_
            refine e_iload 4 dX10_machines_94 rfl ?_
            refine e_imul dX10_machines_96 ?_
            refine e_iadd dX10_machines_97 ?_
            refine e_istore dX10_machines_98 (by decide) hf (fun v8 hf => ?_)
            refine e_aload_n 1 dX10_machines_100 rfl rfl ?_
            refine e_getr hV dX10_machines_101 rfl lc_T rfl ?_
            refine e_aload 4 dX10_machines_104 rfl ?_
            refine e_getr hV dX10_machines_106 rfl (lc_S hj2) rfl ?_
            refine e_iload 0 dX10_machines_109 rfl ?_
            refine e_lald hV dX10_machines_111 (lc_S_cells hj2) hf (fun v9 hf => ?_)
            refine e_l2i dX10_machines_112 ?_
            refine e_aload 4 dX10_machines_113 rfl ?_
            refine e_getr hV dX10_machines_115 rfl (lc_S hj2) rfl ?_
            refine e_iload 0 dX10_machines_118 rfl ?_
            refine e_iconst (w := 1) dX10_machines_120 (by decide) ?_
            refine e_iadd dX10_machines_121 ?_
            refine e_lald hV dX10_machines_122 (lc_S_cells hj2) hf (fun v10 hf => ?_)
            refine e_l2i dX10_machines_123 ?_
            refine e_aload 4 dX10_machines_124 rfl ?_
            refine e_getr hV dX10_machines_126 rfl (lc_S hj2) rfl ?_
            refine e_iload 0 dX10_machines_129 rfl ?_
            refine e_iconst (w := 2) dX10_machines_131 (by decide) ?_
            refine e_iadd dX10_machines_132 ?_
            refine e_lald hV dX10_machines_133 (lc_S_cells hj2) hf (fun v11 hf => ?_)
            refine e_l2i dX10_machines_134 ?_
            obtain ⟨r12, s13, hg, hf⟩ := bP_some hf
            refine e_callV (as := [.int (Int64.toInt32 v9), .int (Int64.toInt32 v10), .int (Int64.toInt32 v11)]) (v := (some (.int r12))) (s' := s13) hV dX10_machines_135 (Or.inl rfl) rfl rfl rfl rfl (by decide) (lc_M (by decide)) rfl rfl (fun Q hQ => tX6_join (d := d) hV (by decide) hg hQ) ?_
            refine e_pop dX10_machines_138 rfl ?_
            refine e_iinc 5 dX10_machines_139 rfl rfl hf (fun v14 hf => ?_)
            refine e_goto 53 dX10_machines_142 (by decide) ?_
            refine e_pick [2, 3, 4, 5, 0] rfl ?_
            exact ih j2 hj2 y2 y3 v14 s13 hf
set_option maxRecDepth 20000 in
theorem tX10_machines {ρ : mRo} {d : Nat} {P : mPo} {V : mS → List mE} (hV : mView LC V)  {x1 : Int32} {x2 : Int32} {x3 : Int32} {s : mS} {res : (Int32 × mS)} (hf : fX10_machines x1 x2 x3 s = some res) (hP : P (some (.int res.1)) (V res.2)) : mC ρ (d + 3) 65 [.ref qT, .int x1, .int x2, .int x3] (V s) P := by
  refine ⟨_, rfl, Nat.le_of_ble_eq_true rfl, by decide, ?_⟩
  show mG ρ (mC ρ (d + 2)) 10 7 cX10_machines (some .int) P 0 [(0, .ref qT), (1, .int x1), (2, .int x2), (3, .int x3)] [] (V s)
  unfold fX10_machines at hf
  refine e_iload_n 1 dX10_machines_0 rfl rfl ?_
  obtain ⟨r1, hg, hf⟩ := bO_some hf
  refine e_callS (as := [.int x1]) (v := (some (.int r1))) (s' := s) dX10_machines_1 rfl rfl rfl rfl rfl (by decide) (fun Q hQ => tX10_isShelf (d := (d + 1)) hV  hg hQ) ?_
  refine e_if_eq 18 dX10_machines_4 (by decide) hf (fun hf => ?_) (fun hf => ?_)
  · refine e_iconst (w := (-1)) dX10_machines_18 (by decide) ?_
    cases hf
    exact e_iret dX10_machines_19 trivial hP
  · refine e_iload_n 3 dX10_machines_7 rfl rfl ?_
    refine e_iconst (w := 1) dX10_machines_8 (by decide) ?_
    refine e_icmp_lt 18 dX10_machines_9 (by decide) hf (fun hf => ?_) (fun hf => ?_)
    · refine e_iconst (w := (-1)) dX10_machines_18 (by decide) ?_
      cases hf
      exact e_iret dX10_machines_19 trivial hP
    · refine e_iload_n 3 dX10_machines_12 rfl rfl ?_
      refine e_bipush (w := 8) dX10_machines_13 (by decide) ?_
      refine e_icmp_le 20 dX10_machines_15 (by decide) hf (fun hf => ?_) (fun hf => ?_)
      · refine e_aload_n 0 dX10_machines_20 rfl rfl ?_
        refine e_getr hV dX10_machines_21 rfl lc_T rfl ?_
        refine e_iload_n 1 dX10_machines_24 rfl rfl ?_
        refine e_aald hV dX10_machines_25 lc_T_shelves rfl lc_T_shelves_at hf (fun j2 hj2 hf => ?_)
        refine e_astore dX10_machines_26 (by decide) ?_
        refine e_aload 0 dX10_machines_28 rfl ?_
        obtain ⟨r3, hg, hf⟩ := bO_some hf
        refine e_callV (as := []) (v := (some (.int r3))) (s' := s) hV dX10_machines_30 (Or.inl rfl) rfl rfl rfl rfl (by decide) (lc_S hj2) rfl rfl (fun Q hQ => tX7_isEmpty (d := (d + 1)) hV hj2 hg hQ) ?_
        refine e_if_eq 38 dX10_machines_33 (by decide) hf (fun hf => ?_) (fun hf => ?_)
        · refine e_aload 0 dX10_machines_38 rfl ?_
          refine e_iconst (w := 0) dX10_machines_40 (by decide) ?_
          obtain ⟨r4, hg, hf⟩ := bO_some hf
          refine e_callV (as := [.int 0]) (v := (some (.int r4))) (s' := s) hV dX10_machines_41 (Or.inl rfl) rfl rfl rfl rfl (by decide) (lc_S hj2) rfl rfl (fun Q hQ => tX7_isRowOf (d := (d + 1)) hV hj2 hg hQ) ?_
          refine e_if_ne 50 dX10_machines_44 (by decide) hf (fun hf => ?_) (fun hf => ?_)
          · refine e_iconst (w := 0) dX10_machines_50 (by decide) ?_
            refine e_istore dX10_machines_51 (by decide) hf (fun v5 hf => ?_)
            refine e_pick [2, 4, 5, 1, 0] rfl ?_
            exact wX10_machines_b53 hV hP mFu j2 hj2 x2 x3 v5 s hf
          · refine e_bipush (w := (-12)) dX10_machines_47 (by decide) ?_
            cases hf
            exact e_iret dX10_machines_49 trivial hP
        · refine e_iconst (w := 0) dX10_machines_36 (by decide) ?_
          cases hf
          exact e_iret dX10_machines_37 trivial hP
      · refine e_iconst (w := (-1)) dX10_machines_18 (by decide) ?_
        cases hf
        exact e_iret dX10_machines_19 trivial hP

theorem dX10_led_0 : decode cX10_led 0 = .ok (.iload_n 1, 1) := by decide +kernel
theorem dX10_led_1 : decode cX10_led 1 = .ok (.tableswitch 75 0 4 #[35, 43, 51, 59, 67], 35) := by decide +kernel
theorem dX10_led_36 : decode cX10_led 36 = .ok (.aload_n 0, 1) := by decide +kernel
theorem dX10_led_37 : decode cX10_led 37 = .ok (.getfield 63, 3) := by decide +kernel
theorem dX10_led_40 : decode cX10_led 40 = .ok (.getfield 282, 3) := by decide +kernel
theorem dX10_led_43 : decode cX10_led 43 = .ok (.ireturn, 1) := by decide +kernel
theorem dX10_led_44 : decode cX10_led 44 = .ok (.aload_n 0, 1) := by decide +kernel
theorem dX10_led_45 : decode cX10_led 45 = .ok (.getfield 63, 3) := by decide +kernel
theorem dX10_led_48 : decode cX10_led 48 = .ok (.getfield 297, 3) := by decide +kernel
theorem dX10_led_51 : decode cX10_led 51 = .ok (.ireturn, 1) := by decide +kernel
theorem dX10_led_52 : decode cX10_led 52 = .ok (.aload_n 0, 1) := by decide +kernel
theorem dX10_led_53 : decode cX10_led 53 = .ok (.getfield 63, 3) := by decide +kernel
theorem dX10_led_56 : decode cX10_led 56 = .ok (.getfield 303, 3) := by decide +kernel
theorem dX10_led_59 : decode cX10_led 59 = .ok (.ireturn, 1) := by decide +kernel
theorem dX10_led_60 : decode cX10_led 60 = .ok (.aload_n 0, 1) := by decide +kernel
theorem dX10_led_61 : decode cX10_led 61 = .ok (.getfield 63, 3) := by decide +kernel
theorem dX10_led_64 : decode cX10_led 64 = .ok (.getfield 285, 3) := by decide +kernel
theorem dX10_led_67 : decode cX10_led 67 = .ok (.ireturn, 1) := by decide +kernel
theorem dX10_led_68 : decode cX10_led 68 = .ok (.aload_n 0, 1) := by decide +kernel
theorem dX10_led_69 : decode cX10_led 69 = .ok (.getfield 63, 3) := by decide +kernel
theorem dX10_led_72 : decode cX10_led 72 = .ok (.getfield 291, 3) := by decide +kernel
theorem dX10_led_75 : decode cX10_led 75 = .ok (.ireturn, 1) := by decide +kernel
theorem dX10_led_76 : decode cX10_led 76 = .ok (.iconst (-1), 1) := by decide +kernel
theorem dX10_led_77 : decode cX10_led 77 = .ok (.ireturn, 1) := by decide +kernel
def fX10_led (x1 : Int32) (s : mS) : Option Int32 :=
  if x1 = 0 then
    some (gI s (iG_letters 0))
  else if x1 = 1 then
    some (gI s (iG_cleanings 0))
  else if x1 = 2 then
    some (gI s (iG_learnings 0))
  else if x1 = 3 then
    some (gI s (iG_showed 0))
  else if x1 = 4 then
    some (gI s (iG_latest 0))
  else
    some (-1)

set_option maxRecDepth 20000 in
theorem tX10_led {ρ : mRo} {d : Nat} {P : mPo} {V : mS → List mE} (hV : mView LC V)  {x1 : Int32} {s : mS} {res : Int32} (hf : fX10_led x1 s = some res) (hP : P (some (.int res)) (V s)) : mC ρ (d + 1) 95 [.ref qT, .int x1] (V s) P := by
  refine ⟨_, rfl, Nat.le_of_ble_eq_true rfl, by decide, ?_⟩
  show mG ρ (mC ρ d) 10 2 cX10_led (some .int) P 0 [(0, .ref qT), (1, .int x1)] [] (V s)
  unfold fX10_led at hf
  refine e_iload_n 1 dX10_led_0 rfl rfl ?_
  by_cases hc0 : x1 = 0
  · rw [if_pos hc0] at hf
    refine e_tabI (off := 35) (tgt := 36) dX10_led_1 hc0 (by decide) (by decide) ?_
    refine e_aload_n 0 dX10_led_36 rfl rfl ?_
    refine e_getr hV dX10_led_37 rfl lc_T rfl ?_
    refine e_geti hV dX10_led_40 rfl (lc_G (by decide)) rfl ?_
    cases hf
    exact e_iret dX10_led_43 trivial hP
  rw [if_neg hc0] at hf
  by_cases hc1 : x1 = 1
  · rw [if_pos hc1] at hf
    refine e_tabI (off := 43) (tgt := 44) dX10_led_1 hc1 (by decide) (by decide) ?_
    refine e_aload_n 0 dX10_led_44 rfl rfl ?_
    refine e_getr hV dX10_led_45 rfl lc_T rfl ?_
    refine e_geti hV dX10_led_48 rfl (lc_G (by decide)) rfl ?_
    cases hf
    exact e_iret dX10_led_51 trivial hP
  rw [if_neg hc1] at hf
  by_cases hc2 : x1 = 2
  · rw [if_pos hc2] at hf
    refine e_tabI (off := 51) (tgt := 52) dX10_led_1 hc2 (by decide) (by decide) ?_
    refine e_aload_n 0 dX10_led_52 rfl rfl ?_
    refine e_getr hV dX10_led_53 rfl lc_T rfl ?_
    refine e_geti hV dX10_led_56 rfl (lc_G (by decide)) rfl ?_
    cases hf
    exact e_iret dX10_led_59 trivial hP
  rw [if_neg hc2] at hf
  by_cases hc3 : x1 = 3
  · rw [if_pos hc3] at hf
    refine e_tabI (off := 59) (tgt := 60) dX10_led_1 hc3 (by decide) (by decide) ?_
    refine e_aload_n 0 dX10_led_60 rfl rfl ?_
    refine e_getr hV dX10_led_61 rfl lc_T rfl ?_
    refine e_geti hV dX10_led_64 rfl (lc_G (by decide)) rfl ?_
    cases hf
    exact e_iret dX10_led_67 trivial hP
  rw [if_neg hc3] at hf
  by_cases hc4 : x1 = 4
  · rw [if_pos hc4] at hf
    refine e_tabI (off := 67) (tgt := 68) dX10_led_1 hc4 (by decide) (by decide) ?_
    refine e_aload_n 0 dX10_led_68 rfl rfl ?_
    refine e_getr hV dX10_led_69 rfl lc_T rfl ?_
    refine e_geti hV dX10_led_72 rfl (lc_G (by decide)) rfl ?_
    cases hf
    exact e_iret dX10_led_75 trivial hP
  rw [if_neg hc4] at hf
  refine e_tabD (tgt := 76) (ks := [0, 1, 2, 3, 4]) dX10_led_1 (by decide) (fun z hz => ?_) ?_
  · simp only [List.mem_cons, List.not_mem_nil, or_false] at hz
    rcases hz with rfl | rfl | rfl | rfl | rfl
    · exact hc0
    · exact hc1
    · exact hc2
    · exact hc3
    · exact hc4
  refine e_iconst (w := (-1)) dX10_led_76 (by decide) ?_
  cases hf
  exact e_iret dX10_led_77 trivial hP

theorem dJ7_fill_53178_0 : decode cJ7_fill_53178 0 = .ok (.iconst 0, 1) := by decide +kernel
theorem dJ7_fill_53178_1 : decode cJ7_fill_53178 1 = .ok (.istore_n 2, 1) := by decide +kernel
theorem dJ7_fill_53178_2 : decode cJ7_fill_53178 2 = .ok (.aload_n 0, 1) := by decide +kernel
theorem dJ7_fill_53178_3 : decode cJ7_fill_53178 3 = .ok (.arraylength, 1) := by decide +kernel
theorem dJ7_fill_53178_4 : decode cJ7_fill_53178 4 = .ok (.istore_n 3, 1) := by decide +kernel
theorem dJ7_fill_53178_5 : decode cJ7_fill_53178 5 = .ok (.iload_n 2, 1) := by decide +kernel
theorem dJ7_fill_53178_6 : decode cJ7_fill_53178 6 = .ok (.iload_n 3, 1) := by decide +kernel
theorem dJ7_fill_53178_7 : decode cJ7_fill_53178 7 = .ok (.if_icmp .ge 13, 3) := by decide +kernel
theorem dJ7_fill_53178_10 : decode cJ7_fill_53178 10 = .ok (.aload_n 0, 1) := by decide +kernel
theorem dJ7_fill_53178_11 : decode cJ7_fill_53178 11 = .ok (.iload_n 2, 1) := by decide +kernel
theorem dJ7_fill_53178_12 : decode cJ7_fill_53178 12 = .ok (.iload_n 1, 1) := by decide +kernel
theorem dJ7_fill_53178_13 : decode cJ7_fill_53178 13 = .ok (.iastore, 1) := by decide +kernel
theorem dJ7_fill_53178_14 : decode cJ7_fill_53178 14 = .ok (.iinc 2 1, 3) := by decide +kernel
theorem dJ7_fill_53178_17 : decode cJ7_fill_53178 17 = .ok (.goto (-12), 3) := by decide +kernel
theorem dJ7_fill_53178_20 : decode cJ7_fill_53178 20 = .ok (.return_, 1) := by decide +kernel
def fJ7_fill_53178_b5 (n0 d0 : Nat) : Nat → Int32 → Int32 → Int32 → mS → Option mS
  | 0, _, _, _, _ => none
  | k + 1, y1, y2, y3, s =>
    if y3 ≤ y2 then
      some s
    else
      stA s d0 n0 y2 y1 fun s3 =>
      bnd (y2 + 1) fun v4 =>
      fJ7_fill_53178_b5 n0 d0 k y1 v4 y3 s3

def fJ7_fill_53178 (n0 d0 : Nat) (x1 : Int32) (s : mS) : Option mS :=
  bnd 0 fun v1 =>
  bnd (Int32.ofNat n0) fun v2 =>
  fJ7_fill_53178_b5 n0 d0 mFu x1 v1 v2 s

set_option maxRecDepth 20000 in
theorem wJ7_fill_53178_b5 {ρ : mRo} {d : Nat} {P : mPo} {V : mS → List mE} {L : Nat → Option mLE} (hV : mView L V)  {q0 n0 d0 : Nat} (hq0 : L q0 = some (.inr (.inl (n0, d0)))) {res : mS} (hP : P none (V res)) : ∀ (k : Nat) (y1 : Int32) (y2 : Int32) (y3 : Int32) (s : mS), fJ7_fill_53178_b5 n0 d0 k y1 y2 y3 s = some res → mG ρ (mC ρ d) 15 4 cJ7_fill_53178 none P 5 [(0, .ref q0), (1, .int y1), (2, .int y2), (3, .int y3)] [] (V s) := by
  intro k
  induction k with
  | zero => intro y1 y2 y3 s hf; rw [fJ7_fill_53178_b5] at hf; cases hf
  | succ k ih =>
    intro y1 y2 y3 s hf
    rw [fJ7_fill_53178_b5] at hf
    refine e_iload_n 2 dJ7_fill_53178_5 rfl rfl ?_
    refine e_iload_n 3 dJ7_fill_53178_6 rfl rfl ?_
    refine e_icmp_ge 20 dJ7_fill_53178_7 (by decide) hf (fun hf => ?_) (fun hf => ?_)
    · cases hf
      exact e_ret dJ7_fill_53178_20 rfl hP
    · refine e_aload_n 0 dJ7_fill_53178_10 rfl rfl ?_
      refine e_iload_n 2 dJ7_fill_53178_11 rfl rfl ?_
      refine e_iload_n 1 dJ7_fill_53178_12 rfl rfl ?_
      refine e_iast hV dJ7_fill_53178_13 hq0 hf (fun s3 hf => ?_)
      refine e_iinc 2 dJ7_fill_53178_14 rfl rfl hf (fun v4 hf => ?_)
      refine e_goto 5 dJ7_fill_53178_17 (by decide) ?_
      refine e_pick [1, 2, 0, 3] rfl ?_
      exact ih y1 v4 y3 s3 hf
set_option maxRecDepth 20000 in
theorem tJ7_fill_53178 {ρ : mRo} {d : Nat} {P : mPo} {V : mS → List mE} {L : Nat → Option mLE} (hV : mView L V)  {q0 n0 d0 : Nat} (hq0 : L q0 = some (.inr (.inl (n0, d0)))) {x1 : Int32} {s : mS} {res : mS} (hf : fJ7_fill_53178 n0 d0 x1 s = some res) (hP : P none (V res)) : mC ρ (d + 1) 235 [.ref q0, .int x1] (V s) P := by
  refine ⟨_, rfl, Nat.le_of_ble_eq_true rfl, by decide, ?_⟩
  show mG ρ (mC ρ d) 15 4 cJ7_fill_53178 none P 0 [(0, .ref q0), (1, .int x1)] [] (V s)
  unfold fJ7_fill_53178 at hf
  refine e_iconst (w := 0) dJ7_fill_53178_0 (by decide) ?_
  refine e_istore_n dJ7_fill_53178_1 rfl (by decide) hf (fun v1 hf => ?_)
  refine e_aload_n 1 dJ7_fill_53178_2 rfl rfl ?_
  refine e_alenI (w := Int32.ofNat n0) hV dJ7_fill_53178_3 hq0 rfl ?_
  refine e_istore_n dJ7_fill_53178_4 rfl (by decide) hf (fun v2 hf => ?_)
  refine e_pick [2, 3, 1, 0] rfl ?_
  exact wJ7_fill_53178_b5 hV hq0 hP mFu x1 v1 v2 s hf
end
