section
def lw_okq (q : MethodName × Nat) : Prop := (q.1.cls ≠ "java/lang/invoke/MethodHandle" ∧ q.1.cls ≠ "java/lang/invoke/VarHandle") ∧ Cond.instantiable q.1.cls q.2 ∈ tables_1 ∧ Cond.privateMethod q.1 ∈ tables_1 ∧ Cond.instanceMethod q.1 ∈ tables_1
theorem lw_p0 : lw_okq (⟨"BookPairs", "failed", "(I)I"⟩, 12) := ⟨⟨by decide +kernel, by decide +kernel⟩, List.mem_of_getElem? (i := 11) (by decide +kernel), List.mem_of_getElem? (i := 210) (by decide +kernel), List.mem_of_getElem? (i := 211) (by decide +kernel)⟩
theorem lw_p1 : lw_okq (⟨"BookPairs$TextTaker", "goesOn", "(ILBookPairs$Books;)Z"⟩, 1) := ⟨⟨by decide +kernel, by decide +kernel⟩, List.mem_of_getElem? (i := 123) (by decide +kernel), List.mem_of_getElem? (i := 222) (by decide +kernel), List.mem_of_getElem? (i := 223) (by decide +kernel)⟩
theorem lw_p2 : lw_okq (⟨"BookPairs$TextTaker", "goesOnInLeft", "(ILBookPairs$Books;)Z"⟩, 1) := ⟨⟨by decide +kernel, by decide +kernel⟩, List.mem_of_getElem? (i := 123) (by decide +kernel), List.mem_of_getElem? (i := 226) (by decide +kernel), List.mem_of_getElem? (i := 227) (by decide +kernel)⟩
theorem lw_p3 : lw_okq (⟨"BookPairs$TextTaker", "goesOnInRight", "(ILBookPairs$Books;)Z"⟩, 1) := ⟨⟨by decide +kernel, by decide +kernel⟩, List.mem_of_getElem? (i := 123) (by decide +kernel), List.mem_of_getElem? (i := 239) (by decide +kernel), List.mem_of_getElem? (i := 240) (by decide +kernel)⟩
theorem lw_p4 : lw_okq (⟨"BookPairs", "alignmentOfNow", "()LBookPairs$Aligner;"⟩, 12) := ⟨⟨by decide +kernel, by decide +kernel⟩, List.mem_of_getElem? (i := 11) (by decide +kernel), List.mem_of_getElem? (i := 262) (by decide +kernel), List.mem_of_getElem? (i := 263) (by decide +kernel)⟩
theorem lw_p5 : lw_okq (⟨"BookPairs$Aligner", "fillLeast", "(I)V"⟩, 11) := ⟨⟨by decide +kernel, by decide +kernel⟩, List.mem_of_getElem? (i := 79) (by decide +kernel), List.mem_of_getElem? (i := 304) (by decide +kernel), List.mem_of_getElem? (i := 305) (by decide +kernel)⟩
theorem lw_p6 : lw_okq (⟨"BookPairs$Aligner", "end", "()I"⟩, 11) := ⟨⟨by decide +kernel, by decide +kernel⟩, List.mem_of_getElem? (i := 79) (by decide +kernel), List.mem_of_getElem? (i := 308) (by decide +kernel), List.mem_of_getElem? (i := 309) (by decide +kernel)⟩
theorem lw_p7 : lw_okq (⟨"BookPairs$Aligner", "fillOthers", "()V"⟩, 11) := ⟨⟨by decide +kernel, by decide +kernel⟩, List.mem_of_getElem? (i := 79) (by decide +kernel), List.mem_of_getElem? (i := 317) (by decide +kernel), List.mem_of_getElem? (i := 318) (by decide +kernel)⟩
theorem lw_p8 : lw_okq (⟨"BookPairs$Aligner", "fillOthersAt", "(I)V"⟩, 11) := ⟨⟨by decide +kernel, by decide +kernel⟩, List.mem_of_getElem? (i := 79) (by decide +kernel), List.mem_of_getElem? (i := 321) (by decide +kernel), List.mem_of_getElem? (i := 322) (by decide +kernel)⟩
theorem lw_p9 : lw_okq (⟨"BookPairs$Aligner", "addOthers", "(IIII)V"⟩, 11) := ⟨⟨by decide +kernel, by decide +kernel⟩, List.mem_of_getElem? (i := 79) (by decide +kernel), List.mem_of_getElem? (i := 325) (by decide +kernel), List.mem_of_getElem? (i := 326) (by decide +kernel)⟩
theorem lw_p10 : lw_okq (⟨"BookPairs$Aligner", "walkBest", "()V"⟩, 11) := ⟨⟨by decide +kernel, by decide +kernel⟩, List.mem_of_getElem? (i := 79) (by decide +kernel), List.mem_of_getElem? (i := 332) (by decide +kernel), List.mem_of_getElem? (i := 333) (by decide +kernel)⟩
theorem lw_p11 : lw_okq (⟨"BookPairs", "supposeDay", "(LBookPairs$Sheet;II)I"⟩, 12) := ⟨⟨by decide +kernel, by decide +kernel⟩, List.mem_of_getElem? (i := 11) (by decide +kernel), List.mem_of_getElem? (i := 429) (by decide +kernel), List.mem_of_getElem? (i := 430) (by decide +kernel)⟩
theorem lw_p12 : lw_okq (⟨"BookPairs", "answerOfDay", "(II)I"⟩, 12) := ⟨⟨by decide +kernel, by decide +kernel⟩, List.mem_of_getElem? (i := 11) (by decide +kernel), List.mem_of_getElem? (i := 438) (by decide +kernel), List.mem_of_getElem? (i := 439) (by decide +kernel)⟩
theorem lw_p13 : lw_okq (⟨"BookPairs", "readingsHoldIfSupposed", "()Z"⟩, 12) := ⟨⟨by decide +kernel, by decide +kernel⟩, List.mem_of_getElem? (i := 11) (by decide +kernel), List.mem_of_getElem? (i := 464) (by decide +kernel), List.mem_of_getElem? (i := 465) (by decide +kernel)⟩
theorem lw_p14 : lw_okq (⟨"BookPairs", "doubleBody", "(I)I"⟩, 12) := ⟨⟨by decide +kernel, by decide +kernel⟩, List.mem_of_getElem? (i := 11) (by decide +kernel), List.mem_of_getElem? (i := 520) (by decide +kernel), List.mem_of_getElem? (i := 521) (by decide +kernel)⟩
theorem lw_p15 : lw_okq (⟨"BookPairs", "leaveTrace", "(I)V"⟩, 12) := ⟨⟨by decide +kernel, by decide +kernel⟩, List.mem_of_getElem? (i := 11) (by decide +kernel), List.mem_of_getElem? (i := 524) (by decide +kernel), List.mem_of_getElem? (i := 525) (by decide +kernel)⟩
def lw_privs_1 : List (MethodName × Nat) := [(⟨"BookPairs", "failed", "(I)I"⟩, 12), (⟨"BookPairs$TextTaker", "goesOn", "(ILBookPairs$Books;)Z"⟩, 1), (⟨"BookPairs$TextTaker", "goesOnInLeft", "(ILBookPairs$Books;)Z"⟩, 1), (⟨"BookPairs$TextTaker", "goesOnInRight", "(ILBookPairs$Books;)Z"⟩, 1), (⟨"BookPairs", "alignmentOfNow", "()LBookPairs$Aligner;"⟩, 12), (⟨"BookPairs$Aligner", "fillLeast", "(I)V"⟩, 11), (⟨"BookPairs$Aligner", "end", "()I"⟩, 11), (⟨"BookPairs$Aligner", "fillOthers", "()V"⟩, 11), (⟨"BookPairs$Aligner", "fillOthersAt", "(I)V"⟩, 11), (⟨"BookPairs$Aligner", "addOthers", "(IIII)V"⟩, 11), (⟨"BookPairs$Aligner", "walkBest", "()V"⟩, 11), (⟨"BookPairs", "supposeDay", "(LBookPairs$Sheet;II)I"⟩, 12), (⟨"BookPairs", "answerOfDay", "(II)I"⟩, 12), (⟨"BookPairs", "readingsHoldIfSupposed", "()Z"⟩, 12), (⟨"BookPairs", "doubleBody", "(I)I"⟩, 12), (⟨"BookPairs", "leaveTrace", "(I)V"⟩, 12)]
theorem lw_r1 : ∀ q ∈ lw_privs_1, lw_okq q := List.forall_mem_cons.mpr ⟨lw_p0, List.forall_mem_cons.mpr ⟨lw_p1, List.forall_mem_cons.mpr ⟨lw_p2, List.forall_mem_cons.mpr ⟨lw_p3, List.forall_mem_cons.mpr ⟨lw_p4, List.forall_mem_cons.mpr ⟨lw_p5, List.forall_mem_cons.mpr ⟨lw_p6, List.forall_mem_cons.mpr ⟨lw_p7, List.forall_mem_cons.mpr ⟨lw_p8, List.forall_mem_cons.mpr ⟨lw_p9, List.forall_mem_cons.mpr ⟨lw_p10, List.forall_mem_cons.mpr ⟨lw_p11, List.forall_mem_cons.mpr ⟨lw_p12, List.forall_mem_cons.mpr ⟨lw_p13, List.forall_mem_cons.mpr ⟨lw_p14, List.forall_mem_cons.mpr ⟨lw_p15, fun _ h => absurd h List.not_mem_nil⟩⟩⟩⟩⟩⟩⟩⟩⟩⟩⟩⟩⟩⟩⟩⟩
theorem lw_p16 : lw_okq (⟨"BookPairs", "longBody", "(I)I"⟩, 12) := ⟨⟨by decide +kernel, by decide +kernel⟩, List.mem_of_getElem? (i := 11) (by decide +kernel), List.mem_of_getElem? (i := 528) (by decide +kernel), List.mem_of_getElem? (i := 529) (by decide +kernel)⟩
theorem lw_p17 : lw_okq (⟨"BookPairs", "plainBody", "(I)I"⟩, 12) := ⟨⟨by decide +kernel, by decide +kernel⟩, List.mem_of_getElem? (i := 11) (by decide +kernel), List.mem_of_getElem? (i := 532) (by decide +kernel), List.mem_of_getElem? (i := 533) (by decide +kernel)⟩
theorem lw_p18 : lw_okq (⟨"BookPairs", "doublesOwnBody", "(I)I"⟩, 12) := ⟨⟨by decide +kernel, by decide +kernel⟩, List.mem_of_getElem? (i := 11) (by decide +kernel), List.mem_of_getElem? (i := 540) (by decide +kernel), List.mem_of_getElem? (i := 541) (by decide +kernel)⟩
theorem lw_p19 : lw_okq (⟨"BookPairs", "lentBody", "(I)I"⟩, 12) := ⟨⟨by decide +kernel, by decide +kernel⟩, List.mem_of_getElem? (i := 11) (by decide +kernel), List.mem_of_getElem? (i := 544) (by decide +kernel), List.mem_of_getElem? (i := 545) (by decide +kernel)⟩
theorem lw_p20 : lw_okq (⟨"BookPairsModel", "against", "(IIII)I"⟩, 32) := ⟨⟨by decide +kernel, by decide +kernel⟩, List.mem_of_getElem? (i := 564) (by decide +kernel), List.mem_of_getElem? (i := 680) (by decide +kernel), List.mem_of_getElem? (i := 681) (by decide +kernel)⟩
theorem lw_p21 : lw_okq (⟨"BookPairsModel", "fails", "(I)I"⟩, 32) := ⟨⟨by decide +kernel, by decide +kernel⟩, List.mem_of_getElem? (i := 564) (by decide +kernel), List.mem_of_getElem? (i := 684) (by decide +kernel), List.mem_of_getElem? (i := 685) (by decide +kernel)⟩
theorem lw_p22 : lw_okq (⟨"BookPairsModel", "readAll", "(I)Z"⟩, 32) := ⟨⟨by decide +kernel, by decide +kernel⟩, List.mem_of_getElem? (i := 564) (by decide +kernel), List.mem_of_getElem? (i := 688) (by decide +kernel), List.mem_of_getElem? (i := 689) (by decide +kernel)⟩
theorem lw_p23 : lw_okq (⟨"BookPairsModel", "isSign", "(II)Z"⟩, 32) := ⟨⟨by decide +kernel, by decide +kernel⟩, List.mem_of_getElem? (i := 564) (by decide +kernel), List.mem_of_getElem? (i := 692) (by decide +kernel), List.mem_of_getElem? (i := 693) (by decide +kernel)⟩
theorem lw_p24 : lw_okq (⟨"BookPairsModel", "readKindNext", "(I)Z"⟩, 32) := ⟨⟨by decide +kernel, by decide +kernel⟩, List.mem_of_getElem? (i := 564) (by decide +kernel), List.mem_of_getElem? (i := 696) (by decide +kernel), List.mem_of_getElem? (i := 697) (by decide +kernel)⟩
theorem lw_p25 : lw_okq (⟨"BookPairsModel", "readSentence", "(II)Z"⟩, 32) := ⟨⟨by decide +kernel, by decide +kernel⟩, List.mem_of_getElem? (i := 564) (by decide +kernel), List.mem_of_getElem? (i := 700) (by decide +kernel), List.mem_of_getElem? (i := 701) (by decide +kernel)⟩
theorem lw_p26 : lw_okq (⟨"BookPairsModel", "isLeft", "(I)Z"⟩, 32) := ⟨⟨by decide +kernel, by decide +kernel⟩, List.mem_of_getElem? (i := 564) (by decide +kernel), List.mem_of_getElem? (i := 708) (by decide +kernel), List.mem_of_getElem? (i := 709) (by decide +kernel)⟩
theorem lw_p27 : lw_okq (⟨"BookPairsModel", "lengthOf", "(I)I"⟩, 32) := ⟨⟨by decide +kernel, by decide +kernel⟩, List.mem_of_getElem? (i := 564) (by decide +kernel), List.mem_of_getElem? (i := 712) (by decide +kernel), List.mem_of_getElem? (i := 713) (by decide +kernel)⟩
theorem lw_p28 : lw_okq (⟨"BookPairsModel", "findBest", "()I"⟩, 32) := ⟨⟨by decide +kernel, by decide +kernel⟩, List.mem_of_getElem? (i := 564) (by decide +kernel), List.mem_of_getElem? (i := 716) (by decide +kernel), List.mem_of_getElem? (i := 717) (by decide +kernel)⟩
theorem lw_p29 : lw_okq (⟨"BookPairsModel", "findAll", "(I)I"⟩, 32) := ⟨⟨by decide +kernel, by decide +kernel⟩, List.mem_of_getElem? (i := 564) (by decide +kernel), List.mem_of_getElem? (i := 720) (by decide +kernel), List.mem_of_getElem? (i := 721) (by decide +kernel)⟩
theorem lw_p30 : lw_okq (⟨"BookPairsModel", "findStand", "(III)V"⟩, 32) := ⟨⟨by decide +kernel, by decide +kernel⟩, List.mem_of_getElem? (i := 564) (by decide +kernel), List.mem_of_getElem? (i := 724) (by decide +kernel), List.mem_of_getElem? (i := 725) (by decide +kernel)⟩
theorem lw_p31 : lw_okq (⟨"BookPairsModel", "isStand", "(III)Z"⟩, 32) := ⟨⟨by decide +kernel, by decide +kernel⟩, List.mem_of_getElem? (i := 564) (by decide +kernel), List.mem_of_getElem? (i := 729) (by decide +kernel), List.mem_of_getElem? (i := 730) (by decide +kernel)⟩
def lw_privs_2 : List (MethodName × Nat) := [(⟨"BookPairs", "longBody", "(I)I"⟩, 12), (⟨"BookPairs", "plainBody", "(I)I"⟩, 12), (⟨"BookPairs", "doublesOwnBody", "(I)I"⟩, 12), (⟨"BookPairs", "lentBody", "(I)I"⟩, 12), (⟨"BookPairsModel", "against", "(IIII)I"⟩, 32), (⟨"BookPairsModel", "fails", "(I)I"⟩, 32), (⟨"BookPairsModel", "readAll", "(I)Z"⟩, 32), (⟨"BookPairsModel", "isSign", "(II)Z"⟩, 32), (⟨"BookPairsModel", "readKindNext", "(I)Z"⟩, 32), (⟨"BookPairsModel", "readSentence", "(II)Z"⟩, 32), (⟨"BookPairsModel", "isLeft", "(I)Z"⟩, 32), (⟨"BookPairsModel", "lengthOf", "(I)I"⟩, 32), (⟨"BookPairsModel", "findBest", "()I"⟩, 32), (⟨"BookPairsModel", "findAll", "(I)I"⟩, 32), (⟨"BookPairsModel", "findStand", "(III)V"⟩, 32), (⟨"BookPairsModel", "isStand", "(III)Z"⟩, 32)]
theorem lw_r2 : ∀ q ∈ lw_privs_2, lw_okq q := List.forall_mem_cons.mpr ⟨lw_p16, List.forall_mem_cons.mpr ⟨lw_p17, List.forall_mem_cons.mpr ⟨lw_p18, List.forall_mem_cons.mpr ⟨lw_p19, List.forall_mem_cons.mpr ⟨lw_p20, List.forall_mem_cons.mpr ⟨lw_p21, List.forall_mem_cons.mpr ⟨lw_p22, List.forall_mem_cons.mpr ⟨lw_p23, List.forall_mem_cons.mpr ⟨lw_p24, List.forall_mem_cons.mpr ⟨lw_p25, List.forall_mem_cons.mpr ⟨lw_p26, List.forall_mem_cons.mpr ⟨lw_p27, List.forall_mem_cons.mpr ⟨lw_p28, List.forall_mem_cons.mpr ⟨lw_p29, List.forall_mem_cons.mpr ⟨lw_p30, List.forall_mem_cons.mpr ⟨lw_p31, fun _ h => absurd h List.not_mem_nil⟩⟩⟩⟩⟩⟩⟩⟩⟩⟩⟩⟩⟩⟩⟩⟩
theorem lw_p32 : lw_okq (⟨"BookPairsModel", "costOf", "(III)I"⟩, 32) := ⟨⟨by decide +kernel, by decide +kernel⟩, List.mem_of_getElem? (i := 564) (by decide +kernel), List.mem_of_getElem? (i := 739) (by decide +kernel), List.mem_of_getElem? (i := 740) (by decide +kernel)⟩
theorem lw_p33 : lw_okq (⟨"BookPairsModel", "comes", "(III)V"⟩, 32) := ⟨⟨by decide +kernel, by decide +kernel⟩, List.mem_of_getElem? (i := 564) (by decide +kernel), List.mem_of_getElem? (i := 746) (by decide +kernel), List.mem_of_getElem? (i := 747) (by decide +kernel)⟩
theorem lw_p34 : lw_okq (⟨"BookPairsModel", "isOnBest", "(III)Z"⟩, 32) := ⟨⟨by decide +kernel, by decide +kernel⟩, List.mem_of_getElem? (i := 564) (by decide +kernel), List.mem_of_getElem? (i := 750) (by decide +kernel), List.mem_of_getElem? (i := 751) (by decide +kernel)⟩
theorem lw_p35 : lw_okq (⟨"BookPairsModel", "pairedWith", "(II)I"⟩, 32) := ⟨⟨by decide +kernel, by decide +kernel⟩, List.mem_of_getElem? (i := 564) (by decide +kernel), List.mem_of_getElem? (i := 754) (by decide +kernel), List.mem_of_getElem? (i := 755) (by decide +kernel)⟩
theorem lw_p36 : lw_okq (⟨"BookPairsModel", "isRight", "(I)Z"⟩, 32) := ⟨⟨by decide +kernel, by decide +kernel⟩, List.mem_of_getElem? (i := 564) (by decide +kernel), List.mem_of_getElem? (i := 762) (by decide +kernel), List.mem_of_getElem? (i := 763) (by decide +kernel)⟩
theorem lw_p37 : lw_okq (⟨"BookPairsModel", "goesUp", "(I)V"⟩, 32) := ⟨⟨by decide +kernel, by decide +kernel⟩, List.mem_of_getElem? (i := 564) (by decide +kernel), List.mem_of_getElem? (i := 778) (by decide +kernel), List.mem_of_getElem? (i := 779) (by decide +kernel)⟩
theorem lw_p38 : lw_okq (⟨"BookPairsModel", "tellBest", "(I)I"⟩, 32) := ⟨⟨by decide +kernel, by decide +kernel⟩, List.mem_of_getElem? (i := 564) (by decide +kernel), List.mem_of_getElem? (i := 786) (by decide +kernel), List.mem_of_getElem? (i := 787) (by decide +kernel)⟩
theorem lw_p39 : lw_okq (⟨"BookPairsModel", "keep", "()V"⟩, 32) := ⟨⟨by decide +kernel, by decide +kernel⟩, List.mem_of_getElem? (i := 564) (by decide +kernel), List.mem_of_getElem? (i := 805) (by decide +kernel), List.mem_of_getElem? (i := 806) (by decide +kernel)⟩
theorem lw_p40 : lw_okq (⟨"BookPairsModel", "goDay", "(II)I"⟩, 32) := ⟨⟨by decide +kernel, by decide +kernel⟩, List.mem_of_getElem? (i := 564) (by decide +kernel), List.mem_of_getElem? (i := 809) (by decide +kernel), List.mem_of_getElem? (i := 810) (by decide +kernel)⟩
theorem lw_p41 : lw_okq (⟨"BookPairsModel", "does", "(II)Z"⟩, 32) := ⟨⟨by decide +kernel, by decide +kernel⟩, List.mem_of_getElem? (i := 564) (by decide +kernel), List.mem_of_getElem? (i := 813) (by decide +kernel), List.mem_of_getElem? (i := 814) (by decide +kernel)⟩
theorem lw_p42 : lw_okq (⟨"BookPairsModel", "tellDay", "(I)I"⟩, 32) := ⟨⟨by decide +kernel, by decide +kernel⟩, List.mem_of_getElem? (i := 564) (by decide +kernel), List.mem_of_getElem? (i := 817) (by decide +kernel), List.mem_of_getElem? (i := 818) (by decide +kernel)⟩
theorem lw_p43 : lw_okq (⟨"BookPairsModel", "putBack", "()V"⟩, 32) := ⟨⟨by decide +kernel, by decide +kernel⟩, List.mem_of_getElem? (i := 564) (by decide +kernel), List.mem_of_getElem? (i := 821) (by decide +kernel), List.mem_of_getElem? (i := 822) (by decide +kernel)⟩
theorem lw_p44 : lw_okq (⟨"BookPairsModel", "areSo", "()Z"⟩, 32) := ⟨⟨by decide +kernel, by decide +kernel⟩, List.mem_of_getElem? (i := 564) (by decide +kernel), List.mem_of_getElem? (i := 845) (by decide +kernel), List.mem_of_getElem? (i := 846) (by decide +kernel)⟩
theorem lw_p45 : lw_okq (⟨"BookPairsModel", "lost", "(I)J"⟩, 32) := ⟨⟨by decide +kernel, by decide +kernel⟩, List.mem_of_getElem? (i := 564) (by decide +kernel), List.mem_of_getElem? (i := 877) (by decide +kernel), List.mem_of_getElem? (i := 878) (by decide +kernel)⟩
theorem lw_p46 : lw_okq (⟨"BookPairsModel", "begins", "(I)V"⟩, 32) := ⟨⟨by decide +kernel, by decide +kernel⟩, List.mem_of_getElem? (i := 564) (by decide +kernel), List.mem_of_getElem? (i := 889) (by decide +kernel), List.mem_of_getElem? (i := 890) (by decide +kernel)⟩
def lw_privs_3 : List (MethodName × Nat) := [(⟨"BookPairsModel", "costOf", "(III)I"⟩, 32), (⟨"BookPairsModel", "comes", "(III)V"⟩, 32), (⟨"BookPairsModel", "isOnBest", "(III)Z"⟩, 32), (⟨"BookPairsModel", "pairedWith", "(II)I"⟩, 32), (⟨"BookPairsModel", "isRight", "(I)Z"⟩, 32), (⟨"BookPairsModel", "goesUp", "(I)V"⟩, 32), (⟨"BookPairsModel", "tellBest", "(I)I"⟩, 32), (⟨"BookPairsModel", "keep", "()V"⟩, 32), (⟨"BookPairsModel", "goDay", "(II)I"⟩, 32), (⟨"BookPairsModel", "does", "(II)Z"⟩, 32), (⟨"BookPairsModel", "tellDay", "(I)I"⟩, 32), (⟨"BookPairsModel", "putBack", "()V"⟩, 32), (⟨"BookPairsModel", "areSo", "()Z"⟩, 32), (⟨"BookPairsModel", "lost", "(I)J"⟩, 32), (⟨"BookPairsModel", "begins", "(I)V"⟩, 32)]
theorem lw_r3 : ∀ q ∈ lw_privs_3, lw_okq q := List.forall_mem_cons.mpr ⟨lw_p32, List.forall_mem_cons.mpr ⟨lw_p33, List.forall_mem_cons.mpr ⟨lw_p34, List.forall_mem_cons.mpr ⟨lw_p35, List.forall_mem_cons.mpr ⟨lw_p36, List.forall_mem_cons.mpr ⟨lw_p37, List.forall_mem_cons.mpr ⟨lw_p38, List.forall_mem_cons.mpr ⟨lw_p39, List.forall_mem_cons.mpr ⟨lw_p40, List.forall_mem_cons.mpr ⟨lw_p41, List.forall_mem_cons.mpr ⟨lw_p42, List.forall_mem_cons.mpr ⟨lw_p43, List.forall_mem_cons.mpr ⟨lw_p44, List.forall_mem_cons.mpr ⟨lw_p45, List.forall_mem_cons.mpr ⟨lw_p46, fun _ h => absurd h List.not_mem_nil⟩⟩⟩⟩⟩⟩⟩⟩⟩⟩⟩⟩⟩⟩⟩
def lw_privs : List (MethodName × Nat) := lw_privs_1 ++ (lw_privs_2 ++ (lw_privs_3))
def lw_tbl : List Cond := k2_sels lw_privs ++ tables_1
theorem lw_privs_ok : ∀ q ∈ lw_privs, lw_okq q := by
  show ∀ q ∈ lw_privs_1 ++ (lw_privs_2 ++ (lw_privs_3)), lw_okq q
  exact List.forall_mem_append.mpr ⟨lw_r1, List.forall_mem_append.mpr ⟨lw_r2, lw_r3⟩⟩

theorem goodIn_r {big : List Cond} (ws : List Cond) (ps : List Nat) (hp : ws = ps.filterMap (fun i => big[i]?)) (h : ws.all goodWord = true) : GoodIn big ws := by
  intro w hw
  have h1 := List.all_eq_true.mp h w hw
  rw [hp] at hw
  obtain ⟨i, -, hi⟩ := List.mem_filterMap.mp hw
  have hm : w ∈ big := by first | exact List.mem_of_getElem? hi | exact List.getElem?_mem hi
  exact ⟨hm, good_of_word h1⟩
theorem goodIn_app {big a b : List Cond} (ha : GoodIn big a) (hb : GoodIn big b) : GoodIn big (a ++ b) := fun w h => (List.mem_append.mp h).elim (ha w) (hb w)
theorem goodIn_ca {big a b : List Cond} {c : Cond} (ha : GoodIn big (c :: a)) (hb : GoodIn big b) : GoodIn big (c :: (a ++ b)) := fun w h => (List.mem_cons.mp h).elim (fun e => ha w (List.mem_cons.mpr (Or.inl e))) (fun h => (List.mem_append.mp h).elim (fun h => ha w (List.mem_cons.mpr (Or.inr h))) (hb w))
theorem goodIn_sub {big ws : List Cond} (hm : ∀ w ∈ ws, w ∈ big) (h : ws.all goodWord = true) : GoodIn big ws := fun w hw => ⟨hm w hw, good_of_word (List.all_eq_true.mp h w hw)⟩

def RX0 : String := "BookPairs$Aligner"
def TX0 : u_T := fun k => match k with
  | 0 => ("BookPairs$Aligner", "pairCosts", "[I", true)
  | 1 => ("BookPairs$Aligner", "leastCosts", "[I", true)
  | 2 => ("BookPairs$Aligner", "nextCosts", "[I", true)
  | 3 => ("BookPairs$Aligner", "alikes", "[I", true)
  | 4 => ("BookPairs$Aligner", "firstSorts", "[I", true)
  | 5 => ("BookPairs$Aligner", "sorts", "[I", true)
  | 6 => ("BookPairs$Aligner", "leftsAhead", "[I", true)
  | 7 => ("BookPairs$Aligner", "rightsAhead", "[I", true)
  | 8 => ("BookPairs$Aligner", "leftCount", "I", false)
  | 9 => ("BookPairs$Aligner", "rightCount", "I", false)
  | _ => ("BookPairs$Aligner", "pairCount", "I", false)
def tyX0 : Nat → FieldType := fun k => match k with
  | 0 => .array .int
  | 1 => .array .int
  | 2 => .array .int
  | 3 => .array .int
  | 4 => .array .int
  | 5 => .array .int
  | 6 => .array .int
  | 7 => .array .int
  | 8 => .int
  | 9 => .int
  | _ => .int
abbrev wsX00 : List Cond := u_ws RX0 TX0 11
theorem nmX0 : ∀ a, a < 11 → ∀ b, b < 11 → a ≠ b → (TX0 a).2.1 ≠ (TX0 b).2.1 := by decide +kernel
theorem tyX0_ok : ∀ k, k < 11 → parseFieldDescriptor (TX0 k).2.2.1 = some (tyX0 k) := by decide +kernel
abbrev cX0_init : ByteArray := prog_2_method_1_code
def yX0_init : MethodName := ⟨RX0, "<init>", "()V"⟩
abbrev cX0_align : ByteArray := prog_2_method_2_code
def yX0_align : MethodName := ⟨RX0, "align", "(LBookPairs$Books;)V"⟩
abbrev cX0_take : ByteArray := prog_2_method_3_code
def yX0_take : MethodName := ⟨RX0, "take", "(LBookPairs$Books;)V"⟩
abbrev cX0_leastBy : ByteArray := prog_2_method_4_code
def yX0_leastBy : MethodName := ⟨RX0, "leastBy", "(I)I"⟩
abbrev cX0_fillLeast : ByteArray := prog_2_method_5_code
def yX0_fillLeast : MethodName := ⟨RX0, "fillLeast", "(I)V"⟩
abbrev cX0_fillOthers : ByteArray := prog_2_method_6_code
def yX0_fillOthers : MethodName := ⟨RX0, "fillOthers", "()V"⟩
abbrev cX0_fillOthersAt : ByteArray := prog_2_method_7_code
def yX0_fillOthersAt : MethodName := ⟨RX0, "fillOthersAt", "(I)V"⟩
abbrev cX0_addOthers : ByteArray := prog_2_method_8_code
def yX0_addOthers : MethodName := ⟨RX0, "addOthers", "(IIII)V"⟩
abbrev cX0_walkBest : ByteArray := prog_2_method_9_code
def yX0_walkBest : MethodName := ⟨RX0, "walkBest", "()V"⟩
abbrev cX0_end : ByteArray := prog_2_method_10_code
def yX0_end : MethodName := ⟨RX0, "end", "()I"⟩
abbrev cX0_orNone : ByteArray := prog_2_method_11_code
def yX0_orNone : MethodName := ⟨RX0, "orNone", "(I)I"⟩
abbrev cX0_answer : ByteArray := prog_2_method_12_code
def yX0_answer : MethodName := ⟨RX0, "answer", "(I)I"⟩
abbrev cX0_costOfPair : ByteArray := prog_2_method_13_code
def yX0_costOfPair : MethodName := ⟨RX0, "costOfPair", "(I)I"⟩
abbrev cX0_howManyOf : ByteArray := prog_2_method_14_code
def yX0_howManyOf : MethodName := ⟨RX0, "howManyOf", "(I)I"⟩
abbrev cX0_rightsWith : ByteArray := prog_2_method_15_code
def yX0_rightsWith : MethodName := ⟨RX0, "rightsWith", "(I)I"⟩
abbrev cX0_leftsWith : ByteArray := prog_2_method_16_code
def yX0_leftsWith : MethodName := ⟨RX0, "leftsWith", "(I)I"⟩
abbrev cX0_isIn : ByteArray := prog_2_method_17_code
def yX0_isIn : MethodName := ⟨RX0, "isIn", "(III)Z"⟩
abbrev cX0_setOf : ByteArray := prog_2_method_18_code
def yX0_setOf : MethodName := ⟨RX0, "setOf", "(II)I"⟩
def RX1 : String := "BookPairs$Books"
def TX1 : u_T := fun k => match k with
  | 0 => ("BookPairs$Books", "leftKinds", "[I", true)
  | 1 => ("BookPairs$Books", "leftLetters", "[I", true)
  | 2 => ("BookPairs$Books", "leftAnchors", "[I", true)
  | 3 => ("BookPairs$Books", "rightLetters", "[I", true)
  | 4 => ("BookPairs$Books", "rightAnchors", "[I", true)
  | 5 => ("BookPairs$Books", "leftCount", "I", false)
  | 6 => ("BookPairs$Books", "rightCount", "I", false)
  | 7 => ("BookPairs$Books", "skip", "I", false)
  | 8 => ("BookPairs$Books", "join", "I", false)
  | _ => ("BookPairs$Books", "band", "I", false)
def tyX1 : Nat → FieldType := fun k => match k with
  | 0 => .array .int
  | 1 => .array .int
  | 2 => .array .int
  | 3 => .array .int
  | 4 => .array .int
  | 5 => .int
  | 6 => .int
  | 7 => .int
  | 8 => .int
  | _ => .int
abbrev wsX10 : List Cond := u_ws RX1 TX1 10
theorem nmX1 : ∀ a, a < 10 → ∀ b, b < 10 → a ≠ b → (TX1 a).2.1 ≠ (TX1 b).2.1 := by decide +kernel
theorem tyX1_ok : ∀ k, k < 10 → parseFieldDescriptor (TX1 k).2.2.1 = some (tyX1 k) := by decide +kernel
abbrev cX1_init : ByteArray := prog_3_method_1_code
def yX1_init : MethodName := ⟨RX1, "<init>", "()V"⟩
abbrev cX1_begin : ByteArray := prog_3_method_2_code
def yX1_begin : MethodName := ⟨RX1, "begin", "()V"⟩
abbrev cX1_becomeLike : ByteArray := prog_3_method_3_code
def yX1_becomeLike : MethodName := ⟨RX1, "becomeLike", "(LBookPairs$Books;)V"⟩
abbrev cX1_areThere : ByteArray := prog_3_method_4_code
def yX1_areThere : MethodName := ⟨RX1, "areThere", "()Z"⟩
abbrev cX1_hasLeft : ByteArray := prog_3_method_5_code
def yX1_hasLeft : MethodName := ⟨RX1, "hasLeft", "(I)Z"⟩
abbrev cX1_hasRight : ByteArray := prog_3_method_6_code
def yX1_hasRight : MethodName := ⟨RX1, "hasRight", "(I)Z"⟩
abbrev cX1_leftLength : ByteArray := prog_3_method_7_code
def yX1_leftLength : MethodName := ⟨RX1, "leftLength", "(I)I"⟩
abbrev cX1_priceOf : ByteArray := prog_3_method_8_code
def yX1_priceOf : MethodName := ⟨RX1, "priceOf", "(I)I"⟩
abbrev cX1_setPrice : ByteArray := prog_3_method_9_code
def yX1_setPrice : MethodName := ⟨RX1, "setPrice", "(II)V"⟩
abbrev cX1_takeAct : ByteArray := prog_3_method_10_code
def yX1_takeAct : MethodName := ⟨RX1, "takeAct", "(II)Z"⟩
abbrev cX1_takeMoved : ByteArray := prog_3_method_11_code
def yX1_takeMoved : MethodName := ⟨RX1, "takeMoved", "(LBookPairs$Books;III)V"⟩
abbrev cX1_hasPair : ByteArray := prog_3_method_12_code
def yX1_hasPair : MethodName := ⟨RX1, "hasPair", "(III)Z"⟩
abbrev cX1_pairCost : ByteArray := prog_3_method_13_code
def yX1_pairCost : MethodName := ⟨RX1, "pairCost", "(III)I"⟩
abbrev cX1_anchorSet : ByteArray := prog_3_method_14_code
def yX1_anchorSet : MethodName := ⟨RX1, "anchorSet", "(I)I"⟩
def RX2 : String := "BookPairs$Sheet"
def TX2 : u_T := fun k => match k with
  | 0 => ("BookPairs$Sheet", "cells", "[I", true)
  | 1 => ("BookPairs$Sheet", "there", "Z", false)
  | 2 => ("BookPairs$Sheet", "lane", "I", false)
  | _ => ("BookPairs$Sheet", "size", "I", false)
def tyX2 : Nat → FieldType := fun k => match k with
  | 0 => .array .int
  | 1 => .boolean
  | 2 => .int
  | _ => .int
abbrev wsX20 : List Cond := u_ws RX2 TX2 4
theorem nmX2 : ∀ a, a < 4 → ∀ b, b < 4 → a ≠ b → (TX2 a).2.1 ≠ (TX2 b).2.1 := by decide +kernel
theorem tyX2_ok : ∀ k, k < 4 → parseFieldDescriptor (TX2 k).2.2.1 = some (tyX2 k) := by decide +kernel
abbrev cX2_init : ByteArray := prog_4_method_1_code
def yX2_init : MethodName := ⟨RX2, "<init>", "()V"⟩
abbrev cX2_begin : ByteArray := prog_4_method_2_code
def yX2_begin : MethodName := ⟨RX2, "begin", "(II)V"⟩
abbrev cX2_faultAs : ByteArray := prog_4_method_3_code
def yX2_faultAs : MethodName := ⟨RX2, "faultAs", "(I)I"⟩
abbrev cX2_hasCells : ByteArray := prog_4_method_4_code
def yX2_hasCells : MethodName := ⟨RX2, "hasCells", "(II)Z"⟩
abbrev cX2_cut : ByteArray := prog_4_method_5_code
def yX2_cut : MethodName := ⟨RX2, "cut", "(I)I"⟩
def RX3 : String := "BookPairs$TextTaker"
def TX3 : u_T := fun k => match k with
  | _ => ("BookPairs$TextTaker", "awaits", "I", false)
def tyX3 : Nat → FieldType := fun k => match k with
  | _ => .int
abbrev wsX30 : List Cond := u_ws RX3 TX3 1
theorem nmX3 : ∀ a, a < 1 → ∀ b, b < 1 → a ≠ b → (TX3 a).2.1 ≠ (TX3 b).2.1 := by decide +kernel
theorem tyX3_ok : ∀ k, k < 1 → parseFieldDescriptor (TX3 k).2.2.1 = some (tyX3 k) := by decide +kernel
abbrev cX3_init : ByteArray := prog_5_method_1_code
def yX3_init : MethodName := ⟨RX3, "<init>", "()V"⟩
abbrev cX3_firstFault : ByteArray := prog_5_method_2_code
def yX3_firstFault : MethodName := ⟨RX3, "firstFault", "(LBookPairs$Sheet;IILBookPairs$Books;)I"⟩
abbrev cX3_goesOn : ByteArray := prog_5_method_3_code
def yX3_goesOn : MethodName := ⟨RX3, "goesOn", "(ILBookPairs$Books;)Z"⟩
abbrev cX3_goesOnInLeft : ByteArray := prog_5_method_4_code
def yX3_goesOnInLeft : MethodName := ⟨RX3, "goesOnInLeft", "(ILBookPairs$Books;)Z"⟩
abbrev cX3_goesOnInRight : ByteArray := prog_5_method_5_code
def yX3_goesOnInRight : MethodName := ⟨RX3, "goesOnInRight", "(ILBookPairs$Books;)Z"⟩
abbrev cX3_isDigit : ByteArray := prog_5_method_6_code
def yX3_isDigit : MethodName := ⟨RX3, "isDigit", "(I)Z"⟩
abbrev cX3_kindOf : ByteArray := prog_5_method_7_code
def yX3_kindOf : MethodName := ⟨RX3, "kindOf", "(I)I"⟩
abbrev cX3_anchorOf : ByteArray := prog_5_method_8_code
def yX3_anchorOf : MethodName := ⟨RX3, "anchorOf", "(I)I"⟩
def RX4 : String := "BookPairs"
def TX4 : u_T := fun k => match k with
  | 0 => ("BookPairs", "sheets", "[LBookPairs$Sheet;", true)
  | 1 => ("BookPairs", "now", "LBookPairs$Books;", true)
  | 2 => ("BookPairs", "supposed", "LBookPairs$Books;", true)
  | 3 => ("BookPairs", "bestOfNow", "LBookPairs$Aligner;", true)
  | 4 => ("BookPairs", "trial", "LBookPairs$Aligner;", true)
  | 5 => ("BookPairs", "textTaker", "LBookPairs$TextTaker;", true)
  | 6 => ("BookPairs", "readingBands", "[I", true)
  | 7 => ("BookPairs", "readingCosts", "[I", true)
  | 8 => ("BookPairs", "readingCount", "I", false)
  | 9 => ("BookPairs", "aligned", "Z", false)
  | 10 => ("BookPairs", "trace", "I", false)
  | _ => ("BookPairs", "fault", "I", false)
def tyX4 : Nat → FieldType := fun k => match k with
  | 0 => .array (.object "BookPairs$Sheet")
  | 1 => .object "BookPairs$Books"
  | 2 => .object "BookPairs$Books"
  | 3 => .object "BookPairs$Aligner"
  | 4 => .object "BookPairs$Aligner"
  | 5 => .object "BookPairs$TextTaker"
  | 6 => .array .int
  | 7 => .array .int
  | 8 => .int
  | 9 => .boolean
  | 10 => .int
  | _ => .int
abbrev wsX40 : List Cond := u_ws RX4 TX4 12
theorem nmX4 : ∀ a, a < 12 → ∀ b, b < 12 → a ≠ b → (TX4 a).2.1 ≠ (TX4 b).2.1 := by decide +kernel
theorem tyX4_ok : ∀ k, k < 12 → parseFieldDescriptor (TX4 k).2.2.1 = some (tyX4 k) := by decide +kernel
abbrev cX4_init : ByteArray := prog_1_method_1_code
def yX4_init : MethodName := ⟨RX4, "<init>", "()V"⟩
abbrev cX4_books : ByteArray := prog_1_method_2_code
def yX4_books : MethodName := ⟨RX4, "books", "(IIII)I"⟩
abbrev cX4_ofLeft : ByteArray := prog_1_method_3_code
def yX4_ofLeft : MethodName := ⟨RX4, "ofLeft", "(II)I"⟩
abbrev cX4_ofRight : ByteArray := prog_1_method_4_code
def yX4_ofRight : MethodName := ⟨RX4, "ofRight", "(II)I"⟩
abbrev cX4_letters : ByteArray := prog_1_method_5_code
def yX4_letters : MethodName := ⟨RX4, "letters", "(III)I"⟩
abbrev cX4_price : ByteArray := prog_1_method_6_code
def yX4_price : MethodName := ⟨RX4, "price", "(II)I"⟩
abbrev cX4_move : ByteArray := prog_1_method_7_code
def yX4_move : MethodName := ⟨RX4, "move", "(III)I"⟩
abbrev cX4_best : ByteArray := prog_1_method_8_code
def yX4_best : MethodName := ⟨RX4, "best", "(I)I"⟩
abbrev cX4_ofPair : ByteArray := prog_1_method_9_code
def yX4_ofPair : MethodName := ⟨RX4, "ofPair", "(II)I"⟩
abbrev cX4_cost : ByteArray := prog_1_method_10_code
def yX4_cost : MethodName := ⟨RX4, "cost", "(III)I"⟩
abbrev cX4_day : ByteArray := prog_1_method_11_code
def yX4_day : MethodName := ⟨RX4, "day", "(IIIII)I"⟩
abbrev cX4_by : ByteArray := prog_1_method_12_code
def yX4_by : MethodName := ⟨RX4, "by", "(I)I"⟩
abbrev cX4_enough : ByteArray := prog_1_method_13_code
def yX4_enough : MethodName := ⟨RX4, "enough", "()I"⟩
abbrev cX4_reading : ByteArray := prog_1_method_14_code
def yX4_reading : MethodName := ⟨RX4, "reading", "(II)I"⟩
abbrev cX4_back : ByteArray := prog_1_method_15_code
def yX4_back : MethodName := ⟨RX4, "back", "(I)I"⟩
abbrev cX4_kinds : ByteArray := prog_1_method_16_code
def yX4_kinds : MethodName := ⟨RX4, "kinds", "(I)I"⟩
abbrev cX4_letterings : ByteArray := prog_1_method_17_code
def yX4_letterings : MethodName := ⟨RX4, "letterings", "(I)I"⟩
abbrev cX4_odds : ByteArray := prog_1_method_18_code
def yX4_odds : MethodName := ⟨RX4, "odds", "(II)J"⟩
abbrev cX4_sheet : ByteArray := prog_1_method_19_code
def yX4_sheet : MethodName := ⟨RX4, "sheet", "(III)I"⟩
abbrev cX4_lose : ByteArray := prog_1_method_20_code
def yX4_lose : MethodName := ⟨RX4, "lose", "(I)I"⟩
abbrev cX4_put : ByteArray := prog_1_method_21_code
def yX4_put : MethodName := ⟨RX4, "put", "(III)I"⟩
abbrev cX4_cell : ByteArray := prog_1_method_22_code
def yX4_cell : MethodName := ⟨RX4, "cell", "(III)J"⟩
abbrev cX4_copy : ByteArray := prog_1_method_23_code
def yX4_copy : MethodName := ⟨RX4, "copy", "(IIIII)I"⟩
abbrev cX4_tell : ByteArray := prog_1_method_24_code
def yX4_tell : MethodName := ⟨RX4, "tell", "(I)I"⟩
abbrev cX4_read : ByteArray := prog_1_method_25_code
def yX4_read : MethodName := ⟨RX4, "read", "(I)I"⟩
abbrev cX4_as : ByteArray := prog_1_method_26_code
def yX4_as : MethodName := ⟨RX4, "as", "(II)I"⟩
abbrev cX4_trace : ByteArray := prog_1_method_27_code
def yX4_trace : MethodName := ⟨RX4, "trace", "()I"⟩
abbrev cX4_fault : ByteArray := prog_1_method_28_code
def yX4_fault : MethodName := ⟨RX4, "fault", "()I"⟩
abbrev cX4_many : ByteArray := prog_1_method_29_code
def yX4_many : MethodName := ⟨RX4, "many", "(I)I"⟩
abbrev cX4_isSheet : ByteArray := prog_1_method_30_code
def yX4_isSheet : MethodName := ⟨RX4, "isSheet", "(I)Z"⟩
abbrev cX4_isLane : ByteArray := prog_1_method_31_code
def yX4_isLane : MethodName := ⟨RX4, "isLane", "(I)Z"⟩
abbrev cX4_isSort : ByteArray := prog_1_method_32_code
def yX4_isSort : MethodName := ⟨RX4, "isSort", "(I)Z"⟩
abbrev cX4_isLetters : ByteArray := prog_1_method_33_code
def yX4_isLetters : MethodName := ⟨RX4, "isLetters", "(I)Z"⟩
abbrev cX4_isPrice : ByteArray := prog_1_method_34_code
def yX4_isPrice : MethodName := ⟨RX4, "isPrice", "(II)Z"⟩
abbrev cX4_isAskedOfDay : ByteArray := prog_1_method_35_code
def yX4_isAskedOfDay : MethodName := ⟨RX4, "isAskedOfDay", "(I)Z"⟩
abbrev cX4_isAct : ByteArray := prog_1_method_36_code
def yX4_isAct : MethodName := ⟨RX4, "isAct", "(II)Z"⟩
abbrev cX4_areActs : ByteArray := prog_1_method_37_code
def yX4_areActs : MethodName := ⟨RX4, "areActs", "(LBookPairs$Sheet;II)Z"⟩
abbrev cX4_failed : ByteArray := prog_1_method_38_code
def yX4_failed : MethodName := ⟨RX4, "failed", "(I)I"⟩
abbrev cX4_alignmentOfNow : ByteArray := prog_1_method_39_code
def yX4_alignmentOfNow : MethodName := ⟨RX4, "alignmentOfNow", "()LBookPairs$Aligner;"⟩
abbrev cX4_supposeDay : ByteArray := prog_1_method_40_code
def yX4_supposeDay : MethodName := ⟨RX4, "supposeDay", "(LBookPairs$Sheet;II)I"⟩
abbrev cX4_answerOfDay : ByteArray := prog_1_method_41_code
def yX4_answerOfDay : MethodName := ⟨RX4, "answerOfDay", "(II)I"⟩
abbrev cX4_readingsHoldIfSupposed : ByteArray := prog_1_method_42_code
def yX4_readingsHoldIfSupposed : MethodName := ⟨RX4, "readingsHoldIfSupposed", "()Z"⟩
abbrev cX4_commonDivisor : ByteArray := prog_1_method_43_code
def yX4_commonDivisor : MethodName := ⟨RX4, "commonDivisor", "(II)I"⟩
abbrev cX4_leaveTrace : ByteArray := prog_1_method_44_code
def yX4_leaveTrace : MethodName := ⟨RX4, "leaveTrace", "(I)V"⟩
abbrev cX4_plainBody : ByteArray := prog_1_method_45_code
def yX4_plainBody : MethodName := ⟨RX4, "plainBody", "(I)I"⟩
abbrev cX4_longBody : ByteArray := prog_1_method_46_code
def yX4_longBody : MethodName := ⟨RX4, "longBody", "(I)I"⟩
abbrev cX4_doubleBody : ByteArray := prog_1_method_47_code
def yX4_doubleBody : MethodName := ⟨RX4, "doubleBody", "(I)I"⟩
abbrev cX4_lentBody : ByteArray := prog_1_method_48_code
def yX4_lentBody : MethodName := ⟨RX4, "lentBody", "(I)I"⟩
abbrev cX4_doublesOwnBody : ByteArray := prog_1_method_49_code
def yX4_doublesOwnBody : MethodName := ⟨RX4, "doublesOwnBody", "(I)I"⟩
def RX5 : String := "BookPairsModel"
def TX5 : u_T := fun k => match k with
  | 0 => ("BookPairsModel", "fault", "I", false)
  | 1 => ("BookPairsModel", "trace", "I", false)
  | 2 => ("BookPairsModel", "sorts", "[I", true)
  | 3 => ("BookPairsModel", "sheetLong", "[I", true)
  | 4 => ("BookPairsModel", "cells", "[I", true)
  | 5 => ("BookPairsModel", "lefts", "I", false)
  | 6 => ("BookPairsModel", "rights", "I", false)
  | 7 => ("BookPairsModel", "skip", "I", false)
  | 8 => ("BookPairsModel", "join", "I", false)
  | 9 => ("BookPairsModel", "band", "I", false)
  | 10 => ("BookPairsModel", "kind", "[I", true)
  | 11 => ("BookPairsModel", "leftLetters", "[I", true)
  | 12 => ("BookPairsModel", "leftAnchor", "[I", true)
  | 13 => ("BookPairsModel", "rightLetters", "[I", true)
  | 14 => ("BookPairsModel", "rightAnchor", "[I", true)
  | 15 => ("BookPairsModel", "at", "I", false)
  | 16 => ("BookPairsModel", "readLefts", "I", false)
  | 17 => ("BookPairsModel", "readRights", "I", false)
  | 18 => ("BookPairsModel", "readKind", "[I", true)
  | 19 => ("BookPairsModel", "readLetters", "[I", true)
  | 20 => ("BookPairsModel", "readAnchor", "[I", true)
  | 21 => ("BookPairsModel", "least", "[I", true)
  | 22 => ("BookPairsModel", "next", "[I", true)
  | 23 => ("BookPairsModel", "alike", "[I", true)
  | 24 => ("BookPairsModel", "pairs", "I", false)
  | 25 => ("BookPairsModel", "pairSort", "[I", true)
  | 26 => ("BookPairsModel", "pairLeft", "[I", true)
  | 27 => ("BookPairsModel", "pairRight", "[I", true)
  | 28 => ("BookPairsModel", "kept", "[I", true)
  | 29 => ("BookPairsModel", "readings", "I", false)
  | 30 => ("BookPairsModel", "readBand", "[I", true)
  | _ => ("BookPairsModel", "readCost", "[I", true)
def tyX5 : Nat → FieldType := fun k => match k with
  | 0 => .int
  | 1 => .int
  | 2 => .array .int
  | 3 => .array .int
  | 4 => .array .int
  | 5 => .int
  | 6 => .int
  | 7 => .int
  | 8 => .int
  | 9 => .int
  | 10 => .array .int
  | 11 => .array .int
  | 12 => .array .int
  | 13 => .array .int
  | 14 => .array .int
  | 15 => .int
  | 16 => .int
  | 17 => .int
  | 18 => .array .int
  | 19 => .array .int
  | 20 => .array .int
  | 21 => .array .int
  | 22 => .array .int
  | 23 => .array .int
  | 24 => .int
  | 25 => .array .int
  | 26 => .array .int
  | 27 => .array .int
  | 28 => .array .int
  | 29 => .int
  | 30 => .array .int
  | _ => .array .int
abbrev wsX50 : List Cond := u_ws RX5 TX5 32
theorem nmX5 : ∀ a, a < 32 → ∀ b, b < 32 → a ≠ b → (TX5 a).2.1 ≠ (TX5 b).2.1 := by decide +kernel
theorem tyX5_ok : ∀ k, k < 32 → parseFieldDescriptor (TX5 k).2.2.1 = some (tyX5 k) := by decide +kernel
abbrev cX5_init : ByteArray := prog_7_method_1_code
def yX5_init : MethodName := ⟨RX5, "<init>", "()V"⟩
abbrev cX5_fails : ByteArray := prog_7_method_3_code
def yX5_fails : MethodName := ⟨RX5, "fails", "(I)I"⟩
abbrev cX5_lost : ByteArray := prog_7_method_4_code
def yX5_lost : MethodName := ⟨RX5, "lost", "(I)J"⟩
abbrev cX5_within : ByteArray := prog_7_method_5_code
def yX5_within : MethodName := ⟨RX5, "within", "(III)Z"⟩
abbrev cX5_isSheet : ByteArray := prog_7_method_6_code
def yX5_isSheet : MethodName := ⟨RX5, "isSheet", "(I)Z"⟩
abbrev cX5_isSort : ByteArray := prog_7_method_7_code
def yX5_isSort : MethodName := ⟨RX5, "isSort", "(I)Z"⟩
abbrev cX5_against : ByteArray := prog_7_method_8_code
def yX5_against : MethodName := ⟨RX5, "against", "(IIII)I"⟩
abbrev cX5_isLeft : ByteArray := prog_7_method_9_code
def yX5_isLeft : MethodName := ⟨RX5, "isLeft", "(I)Z"⟩
abbrev cX5_isRight : ByteArray := prog_7_method_10_code
def yX5_isRight : MethodName := ⟨RX5, "isRight", "(I)Z"⟩
abbrev cX5_isSign : ByteArray := prog_7_method_11_code
def yX5_isSign : MethodName := ⟨RX5, "isSign", "(II)Z"⟩
abbrev cX5_books : ByteArray := prog_7_method_12_code
def yX5_books : MethodName := ⟨RX5, "books", "(IIII)I"⟩
abbrev cX5_readAll : ByteArray := prog_7_method_13_code
def yX5_readAll : MethodName := ⟨RX5, "readAll", "(I)Z"⟩
abbrev cX5_readKindNext : ByteArray := prog_7_method_14_code
def yX5_readKindNext : MethodName := ⟨RX5, "readKindNext", "(I)Z"⟩
abbrev cX5_readSentence : ByteArray := prog_7_method_15_code
def yX5_readSentence : MethodName := ⟨RX5, "readSentence", "(II)Z"⟩
abbrev cX5_lengthOf : ByteArray := prog_7_method_16_code
def yX5_lengthOf : MethodName := ⟨RX5, "lengthOf", "(I)I"⟩
abbrev cX5_leftsOf : ByteArray := prog_7_method_17_code
def yX5_leftsOf : MethodName := ⟨RX5, "leftsOf", "(I)I"⟩
abbrev cX5_rightsOf : ByteArray := prog_7_method_18_code
def yX5_rightsOf : MethodName := ⟨RX5, "rightsOf", "(I)I"⟩
abbrev cX5_anchorSet : ByteArray := prog_7_method_19_code
def yX5_anchorSet : MethodName := ⟨RX5, "anchorSet", "(I)I"⟩
abbrev cX5_costOf : ByteArray := prog_7_method_20_code
def yX5_costOf : MethodName := ⟨RX5, "costOf", "(III)I"⟩
abbrev cX5_isStand : ByteArray := prog_7_method_21_code
def yX5_isStand : MethodName := ⟨RX5, "isStand", "(III)Z"⟩
abbrev cX5_comes : ByteArray := prog_7_method_22_code
def yX5_comes : MethodName := ⟨RX5, "comes", "(III)V"⟩
abbrev cX5_findStand : ByteArray := prog_7_method_23_code
def yX5_findStand : MethodName := ⟨RX5, "findStand", "(III)V"⟩
abbrev cX5_findAll : ByteArray := prog_7_method_24_code
def yX5_findAll : MethodName := ⟨RX5, "findAll", "(I)I"⟩
abbrev cX5_findBest : ByteArray := prog_7_method_25_code
def yX5_findBest : MethodName := ⟨RX5, "findBest", "()I"⟩
abbrev cX5_isOnBest : ByteArray := prog_7_method_26_code
def yX5_isOnBest : MethodName := ⟨RX5, "isOnBest", "(III)Z"⟩
abbrev cX5_pairedWith : ByteArray := prog_7_method_27_code
def yX5_pairedWith : MethodName := ⟨RX5, "pairedWith", "(II)I"⟩
abbrev cX5_ofLeft : ByteArray := prog_7_method_28_code
def yX5_ofLeft : MethodName := ⟨RX5, "ofLeft", "(II)I"⟩
abbrev cX5_ofRight : ByteArray := prog_7_method_29_code
def yX5_ofRight : MethodName := ⟨RX5, "ofRight", "(II)I"⟩
abbrev cX5_letters : ByteArray := prog_7_method_30_code
def yX5_letters : MethodName := ⟨RX5, "letters", "(III)I"⟩
abbrev cX5_price : ByteArray := prog_7_method_31_code
def yX5_price : MethodName := ⟨RX5, "price", "(II)I"⟩
abbrev cX5_goesUp : ByteArray := prog_7_method_32_code
def yX5_goesUp : MethodName := ⟨RX5, "goesUp", "(I)V"⟩
abbrev cX5_move : ByteArray := prog_7_method_33_code
def yX5_move : MethodName := ⟨RX5, "move", "(III)I"⟩
abbrev cX5_best : ByteArray := prog_7_method_34_code
def yX5_best : MethodName := ⟨RX5, "best", "(I)I"⟩
abbrev cX5_tellBest : ByteArray := prog_7_method_35_code
def yX5_tellBest : MethodName := ⟨RX5, "tellBest", "(I)I"⟩
abbrev cX5_ofPair : ByteArray := prog_7_method_36_code
def yX5_ofPair : MethodName := ⟨RX5, "ofPair", "(II)I"⟩
abbrev cX5_cost : ByteArray := prog_7_method_37_code
def yX5_cost : MethodName := ⟨RX5, "cost", "(III)I"⟩
abbrev cX5_keep : ByteArray := prog_7_method_38_code
def yX5_keep : MethodName := ⟨RX5, "keep", "()V"⟩
abbrev cX5_putBack : ByteArray := prog_7_method_39_code
def yX5_putBack : MethodName := ⟨RX5, "putBack", "()V"⟩
abbrev cX5_does : ByteArray := prog_7_method_40_code
def yX5_does : MethodName := ⟨RX5, "does", "(II)Z"⟩
abbrev cX5_isPair : ByteArray := prog_7_method_41_code
def yX5_isPair : MethodName := ⟨RX5, "isPair", "(II)Z"⟩
abbrev cX5_goDay : ByteArray := prog_7_method_42_code
def yX5_goDay : MethodName := ⟨RX5, "goDay", "(II)I"⟩
abbrev cX5_day : ByteArray := prog_7_method_43_code
def yX5_day : MethodName := ⟨RX5, "day", "(IIIII)I"⟩
abbrev cX5_tellDay : ByteArray := prog_7_method_44_code
def yX5_tellDay : MethodName := ⟨RX5, "tellDay", "(I)I"⟩
abbrev cX5_by : ByteArray := prog_7_method_45_code
def yX5_by : MethodName := ⟨RX5, "by", "(I)I"⟩
abbrev cX5_enough : ByteArray := prog_7_method_46_code
def yX5_enough : MethodName := ⟨RX5, "enough", "()I"⟩
abbrev cX5_reading : ByteArray := prog_7_method_47_code
def yX5_reading : MethodName := ⟨RX5, "reading", "(II)I"⟩
abbrev cX5_back : ByteArray := prog_7_method_48_code
def yX5_back : MethodName := ⟨RX5, "back", "(I)I"⟩
abbrev cX5_areSo : ByteArray := prog_7_method_49_code
def yX5_areSo : MethodName := ⟨RX5, "areSo", "()Z"⟩
abbrev cX5_kinds : ByteArray := prog_7_method_50_code
def yX5_kinds : MethodName := ⟨RX5, "kinds", "(I)I"⟩
abbrev cX5_letterings : ByteArray := prog_7_method_51_code
def yX5_letterings : MethodName := ⟨RX5, "letterings", "(I)I"⟩
abbrev cX5_inLeastTerms : ByteArray := prog_7_method_52_code
def yX5_inLeastTerms : MethodName := ⟨RX5, "inLeastTerms", "(JJI)J"⟩
abbrev cX5_odds : ByteArray := prog_7_method_53_code
def yX5_odds : MethodName := ⟨RX5, "odds", "(II)J"⟩
abbrev cX5_sheet : ByteArray := prog_7_method_54_code
def yX5_sheet : MethodName := ⟨RX5, "sheet", "(III)I"⟩
abbrev cX5_lose : ByteArray := prog_7_method_55_code
def yX5_lose : MethodName := ⟨RX5, "lose", "(I)I"⟩
abbrev cX5_put : ByteArray := prog_7_method_56_code
def yX5_put : MethodName := ⟨RX5, "put", "(III)I"⟩
abbrev cX5_cell : ByteArray := prog_7_method_57_code
def yX5_cell : MethodName := ⟨RX5, "cell", "(III)J"⟩
abbrev cX5_copy : ByteArray := prog_7_method_58_code
def yX5_copy : MethodName := ⟨RX5, "copy", "(IIIII)I"⟩
abbrev cX5_begins : ByteArray := prog_7_method_59_code
def yX5_begins : MethodName := ⟨RX5, "begins", "(I)V"⟩
abbrev cX5_tell : ByteArray := prog_7_method_60_code
def yX5_tell : MethodName := ⟨RX5, "tell", "(I)I"⟩
abbrev cX5_read : ByteArray := prog_7_method_61_code
def yX5_read : MethodName := ⟨RX5, "read", "(I)I"⟩
abbrev cX5_as : ByteArray := prog_7_method_62_code
def yX5_as : MethodName := ⟨RX5, "as", "(II)I"⟩
abbrev cX5_trace : ByteArray := prog_7_method_63_code
def yX5_trace : MethodName := ⟨RX5, "trace", "()I"⟩
abbrev cX5_fault : ByteArray := prog_7_method_64_code
def yX5_fault : MethodName := ⟨RX5, "fault", "()I"⟩
abbrev cX5_many : ByteArray := prog_7_method_65_code
def yX5_many : MethodName := ⟨RX5, "many", "(I)I"⟩
def RJ9 : String := "java/lang/Math"
def TJ9 : u_T := fun k => match k with
  | _ => ("", "", "", false)
def tyJ9 : Nat → FieldType := fun k => match k with
  | _ => .int
abbrev wsJ90 : List Cond := u_ws RJ9 TJ9 0
theorem nmJ9 : ∀ a, a < 0 → ∀ b, b < 0 → a ≠ b → (TJ9 a).2.1 ≠ (TJ9 b).2.1 := by decide +kernel
theorem tyJ9_ok : ∀ k, k < 0 → parseFieldDescriptor (TJ9 k).2.2.1 = some (tyJ9 k) := by decide +kernel
abbrev cJ9_abs_0f7a4 : ByteArray := prog_8_method_59_code
def yJ9_abs_0f7a4 : MethodName := ⟨RJ9, "abs", "(I)I"⟩
abbrev cJ9_min_7cf53 : ByteArray := prog_8_method_69_code
def yJ9_min_7cf53 : MethodName := ⟨RJ9, "min", "(II)I"⟩
def RJ10 : String := "java/lang/System"
def TJ10 : u_T := fun k => match k with
  | _ => ("", "", "", false)
def tyJ10 : Nat → FieldType := fun k => match k with
  | _ => .int
abbrev wsJ100 : List Cond := u_ws RJ10 TJ10 0
theorem nmJ10 : ∀ a, a < 0 → ∀ b, b < 0 → a ≠ b → (TJ10 a).2.1 ≠ (TJ10 b).2.1 := by decide +kernel
theorem tyJ10_ok : ∀ k, k < 0 → parseFieldDescriptor (TJ10 k).2.2.1 = some (tyJ10 k) := by decide +kernel
def RJ7 : String := "java/util/Arrays"
def TJ7 : u_T := fun k => match k with
  | _ => ("", "", "", false)
def tyJ7 : Nat → FieldType := fun k => match k with
  | _ => .int
abbrev wsJ70 : List Cond := u_ws RJ7 TJ7 0
theorem nmJ7 : ∀ a, a < 0 → ∀ b, b < 0 → a ≠ b → (TJ7 a).2.1 ≠ (TJ7 b).2.1 := by decide +kernel
theorem tyJ7_ok : ∀ k, k < 0 → parseFieldDescriptor (TJ7 k).2.2.1 = some (tyJ7 k) := by decide +kernel
abbrev cJ7_fill_53178 : ByteArray := prog_10_method_103_code
def yJ7_fill_53178 : MethodName := ⟨RJ7, "fill", "([II)V"⟩
def RL : String := "BookPairsLaw"
abbrev cL_law : ByteArray := code
def yL_law : MethodName := ⟨RL, "law", "([I)Z"⟩
abbrev vwCl : List vw_C := [(RX0, TX0, 11), (RX1, TX1, 10), (RX2, TX2, 4), (RX3, TX3, 1), (RX4, TX4, 12), (RX5, TX5, 32)]
def TB : List Cond := lw_tbl.filter goodWord
theorem tbi1 {w : Cond} (h : w ∈ tables_1_1) : w ∈ lw_tbl := List.mem_append_right _ (show w ∈ tables_1_1 ++ (tables_1_2 ++ (tables_1_3 ++ tables_1_4)) from List.mem_append_left _ h)
theorem tb1 {w : Cond} (i : Nat) (h : tables_1_1[i]? = some w) (hg : goodWord w = true) : w ∈ TB := List.mem_filter.mpr ⟨tbi1 (List.mem_of_getElem? h), hg⟩
theorem tbi2 {w : Cond} (h : w ∈ tables_1_2) : w ∈ lw_tbl := List.mem_append_right _ (show w ∈ tables_1_1 ++ (tables_1_2 ++ (tables_1_3 ++ tables_1_4)) from List.mem_append_right _ (List.mem_append_left _ h))
theorem tb2 {w : Cond} (i : Nat) (h : tables_1_2[i]? = some w) (hg : goodWord w = true) : w ∈ TB := List.mem_filter.mpr ⟨tbi2 (List.mem_of_getElem? h), hg⟩
theorem tbi3 {w : Cond} (h : w ∈ tables_1_3) : w ∈ lw_tbl := List.mem_append_right _ (show w ∈ tables_1_1 ++ (tables_1_2 ++ (tables_1_3 ++ tables_1_4)) from List.mem_append_right _ (List.mem_append_right _ (List.mem_append_left _ h)))
theorem tb3 {w : Cond} (i : Nat) (h : tables_1_3[i]? = some w) (hg : goodWord w = true) : w ∈ TB := List.mem_filter.mpr ⟨tbi3 (List.mem_of_getElem? h), hg⟩
theorem tbi4 {w : Cond} (h : w ∈ tables_1_4) : w ∈ lw_tbl := List.mem_append_right _ (show w ∈ tables_1_1 ++ (tables_1_2 ++ (tables_1_3 ++ tables_1_4)) from List.mem_append_right _ (List.mem_append_right _ (List.mem_append_right _ h)))
theorem tb4 {w : Cond} (i : Nat) (h : tables_1_4[i]? = some w) (hg : goodWord w = true) : w ∈ TB := List.mem_filter.mpr ⟨tbi4 (List.mem_of_getElem? h), hg⟩
theorem tbp {w : Cond} (i : Nat) (h : (k2_sels lw_privs)[i]? = some w) (hg : goodWord w = true) : w ∈ TB := List.mem_filter.mpr ⟨List.mem_append_left _ (List.mem_of_getElem? h), hg⟩
theorem TB_good : GoodIn TB TB := fun w hw => ⟨hw, good_of_word (List.mem_filter.mp hw).2⟩
theorem inX0 : ∀ w ∈ wsX00, w ∈ TB := by
  intro w hw
  obtain ⟨k, hk, rfl⟩ := List.mem_map.mp hw
  have hk := List.mem_range.mp hk
  match k, hk with
  | 0, _ => exact tb1 99 (by decide +kernel) (by decide +kernel)
  | 1, _ => exact tb1 101 (by decide +kernel) (by decide +kernel)
  | 2, _ => exact tb1 103 (by decide +kernel) (by decide +kernel)
  | 3, _ => exact tb1 105 (by decide +kernel) (by decide +kernel)
  | 4, _ => exact tb1 107 (by decide +kernel) (by decide +kernel)
  | 5, _ => exact tb1 109 (by decide +kernel) (by decide +kernel)
  | 6, _ => exact tb1 111 (by decide +kernel) (by decide +kernel)
  | 7, _ => exact tb1 113 (by decide +kernel) (by decide +kernel)
  | 8, _ => exact tb1 115 (by decide +kernel) (by decide +kernel)
  | 9, _ => exact tb1 117 (by decide +kernel) (by decide +kernel)
  | 10, _ => exact tb1 119 (by decide +kernel) (by decide +kernel)
  | k + 11, hk => exact absurd hk (by omega)
theorem inX1 : ∀ w ∈ wsX10, w ∈ TB := by
  intro w hw
  obtain ⟨k, hk, rfl⟩ := List.mem_map.mp hw
  have hk := List.mem_range.mp hk
  match k, hk with
  | 0, _ => exact tb1 56 (by decide +kernel) (by decide +kernel)
  | 1, _ => exact tb1 58 (by decide +kernel) (by decide +kernel)
  | 2, _ => exact tb1 60 (by decide +kernel) (by decide +kernel)
  | 3, _ => exact tb1 62 (by decide +kernel) (by decide +kernel)
  | 4, _ => exact tb1 64 (by decide +kernel) (by decide +kernel)
  | 5, _ => exact tb1 66 (by decide +kernel) (by decide +kernel)
  | 6, _ => exact tb1 68 (by decide +kernel) (by decide +kernel)
  | 7, _ => exact tb1 70 (by decide +kernel) (by decide +kernel)
  | 8, _ => exact tb1 72 (by decide +kernel) (by decide +kernel)
  | 9, _ => exact tb1 74 (by decide +kernel) (by decide +kernel)
  | k + 10, hk => exact absurd hk (by omega)
theorem inX2 : ∀ w ∈ wsX20, w ∈ TB := by
  intro w hw
  obtain ⟨k, hk, rfl⟩ := List.mem_map.mp hw
  have hk := List.mem_range.mp hk
  match k, hk with
  | 0, _ => exact tb1 145 (by decide +kernel) (by decide +kernel)
  | 1, _ => exact tb1 147 (by decide +kernel) (by decide +kernel)
  | 2, _ => exact tb1 149 (by decide +kernel) (by decide +kernel)
  | 3, _ => exact tb1 151 (by decide +kernel) (by decide +kernel)
  | k + 4, hk => exact absurd hk (by omega)
theorem inX3 : ∀ w ∈ wsX30, w ∈ TB := by
  intro w hw
  obtain ⟨k, hk, rfl⟩ := List.mem_map.mp hw
  have hk := List.mem_range.mp hk
  match k, hk with
  | 0, _ => exact tb1 129 (by decide +kernel) (by decide +kernel)
  | k + 1, hk => exact absurd hk (by omega)
theorem inX4 : ∀ w ∈ wsX40, w ∈ TB := by
  intro w hw
  obtain ⟨k, hk, rfl⟩ := List.mem_map.mp hw
  have hk := List.mem_range.mp hk
  match k, hk with
  | 0, _ => exact tb1 166 (by decide +kernel) (by decide +kernel)
  | 1, _ => exact tb1 168 (by decide +kernel) (by decide +kernel)
  | 2, _ => exact tb1 170 (by decide +kernel) (by decide +kernel)
  | 3, _ => exact tb1 172 (by decide +kernel) (by decide +kernel)
  | 4, _ => exact tb1 174 (by decide +kernel) (by decide +kernel)
  | 5, _ => exact tb1 176 (by decide +kernel) (by decide +kernel)
  | 6, _ => exact tb1 178 (by decide +kernel) (by decide +kernel)
  | 7, _ => exact tb1 180 (by decide +kernel) (by decide +kernel)
  | 8, _ => exact tb1 182 (by decide +kernel) (by decide +kernel)
  | 9, _ => exact tb1 184 (by decide +kernel) (by decide +kernel)
  | 10, _ => exact tb1 186 (by decide +kernel) (by decide +kernel)
  | 11, _ => exact tb1 188 (by decide +kernel) (by decide +kernel)
  | k + 12, hk => exact absurd hk (by omega)
theorem inX5 : ∀ w ∈ wsX50, w ∈ TB := by
  intro w hw
  obtain ⟨k, hk, rfl⟩ := List.mem_map.mp hw
  have hk := List.mem_range.mp hk
  match k, hk with
  | 0, _ => exact tb3 121 (by decide +kernel) (by decide +kernel)
  | 1, _ => exact tb3 123 (by decide +kernel) (by decide +kernel)
  | 2, _ => exact tb3 125 (by decide +kernel) (by decide +kernel)
  | 3, _ => exact tb3 127 (by decide +kernel) (by decide +kernel)
  | 4, _ => exact tb3 129 (by decide +kernel) (by decide +kernel)
  | 5, _ => exact tb3 131 (by decide +kernel) (by decide +kernel)
  | 6, _ => exact tb3 133 (by decide +kernel) (by decide +kernel)
  | 7, _ => exact tb3 135 (by decide +kernel) (by decide +kernel)
  | 8, _ => exact tb3 137 (by decide +kernel) (by decide +kernel)
  | 9, _ => exact tb3 139 (by decide +kernel) (by decide +kernel)
  | 10, _ => exact tb3 141 (by decide +kernel) (by decide +kernel)
  | 11, _ => exact tb3 143 (by decide +kernel) (by decide +kernel)
  | 12, _ => exact tb3 145 (by decide +kernel) (by decide +kernel)
  | 13, _ => exact tb3 147 (by decide +kernel) (by decide +kernel)
  | 14, _ => exact tb3 149 (by decide +kernel) (by decide +kernel)
  | 15, _ => exact tb3 151 (by decide +kernel) (by decide +kernel)
  | 16, _ => exact tb3 153 (by decide +kernel) (by decide +kernel)
  | 17, _ => exact tb3 155 (by decide +kernel) (by decide +kernel)
  | 18, _ => exact tb3 157 (by decide +kernel) (by decide +kernel)
  | 19, _ => exact tb3 159 (by decide +kernel) (by decide +kernel)
  | 20, _ => exact tb3 161 (by decide +kernel) (by decide +kernel)
  | 21, _ => exact tb3 163 (by decide +kernel) (by decide +kernel)
  | 22, _ => exact tb3 165 (by decide +kernel) (by decide +kernel)
  | 23, _ => exact tb3 167 (by decide +kernel) (by decide +kernel)
  | 24, _ => exact tb3 169 (by decide +kernel) (by decide +kernel)
  | 25, _ => exact tb3 171 (by decide +kernel) (by decide +kernel)
  | 26, _ => exact tb3 173 (by decide +kernel) (by decide +kernel)
  | 27, _ => exact tb3 175 (by decide +kernel) (by decide +kernel)
  | 28, _ => exact tb3 177 (by decide +kernel) (by decide +kernel)
  | 29, _ => exact tb3 179 (by decide +kernel) (by decide +kernel)
  | 30, _ => exact tb3 181 (by decide +kernel) (by decide +kernel)
  | 31, _ => exact tb3 183 (by decide +kernel) (by decide +kernel)
  | k + 32, hk => exact absurd hk (by omega)
end
section
abbrev Mem : Type := Nat → Nat → Int32
abbrev CSh : Type := (Nat ⊕ List Nat) ⊕ (Nat × List (Option Nat))
def fO (ci c : Nat) : List (Option Nat) := match ci with
  | 0 => [some (c + 1), some (c + 2), some (c + 3), some (c + 4), some (c + 5), some (c + 6), some (c + 7), some (c + 8), none, none, none]
  | 1 => [some (c + 1), some (c + 2), some (c + 3), some (c + 4), some (c + 5), none, none, none, none, none]
  | 2 => [some (c + 1), none, none, none]
  | 3 => [none]
  | 4 => [some 1, some 2, some 8, some 14, some 23, some 32, some 33, some 34, none, none, none, none]
  | _ => [none, none, some 44, some 45, some 46, none, none, none, none, none, some 47, some 48, some 49, some 50, some 51, none, none, none, some 52, some 53, some 54, some 55, some 56, some 57, none, some 58, some 59, some 60, some 61, none, some 62, some 63]
def sh : List CSh := [.inr (4, fO 4 0), .inl (.inr [35, 37, 39, 41]),
  .inr (1, fO 1 2), .inl (.inl 7), .inl (.inl 7), .inl (.inl 7), .inl (.inl 7), .inl (.inl 7),
  .inr (1, fO 1 8), .inl (.inl 7), .inl (.inl 7), .inl (.inl 7), .inl (.inl 7), .inl (.inl 7),
  .inr (0, fO 0 14), .inl (.inl 320), .inl (.inl 64), .inl (.inl 64), .inl (.inl 64), .inl (.inl 64), .inl (.inl 14), .inl (.inl 14), .inl (.inl 14),
  .inr (0, fO 0 23), .inl (.inl 320), .inl (.inl 64), .inl (.inl 64), .inl (.inl 64), .inl (.inl 64), .inl (.inl 14), .inl (.inl 14), .inl (.inl 14),
  .inr (3, fO 3 32), .inl (.inl 8), .inl (.inl 8),
  .inr (2, fO 2 35), .inl (.inl 60), .inr (2, fO 2 37), .inl (.inl 60), .inr (2, fO 2 39), .inl (.inl 60), .inr (2, fO 2 41), .inl (.inl 60),
  .inr (5, fO 5 43), .inl (.inl 4), .inl (.inl 4), .inl (.inl 240), .inl (.inl 7), .inl (.inl 7), .inl (.inl 7), .inl (.inl 7), .inl (.inl 7),
  .inl (.inl 7), .inl (.inl 14), .inl (.inl 14), .inl (.inl 64), .inl (.inl 64), .inl (.inl 64), .inl (.inl 14), .inl (.inl 14), .inl (.inl 14), .inl (.inl 17), .inl (.inl 8), .inl (.inl 8)]
theorem sh_len : sh.length = 64 := rfl
abbrev isO (c ci : Nat) : Prop := sh[c]? = some (.inr (ci, fO ci c))
abbrev isA (c n : Nat) : Prop := sh[c]? = some (.inl (.inl n))
abbrev GG : Type := va_G × (Nat → Nat) × ClassId × ClassId × Nat × (Nat → Nat)
def gF (G : GG) (μ : Mem) (c : Nat) (fs : List (Option Nat)) : List Value := fs.mapIdx (fun i f => match f with | none => Value.int (μ c i) | some q => Value.ref (G.2.1 q))
def gE (G : GG) (μ : Mem) (c : Nat) (x : CSh) : va_E := match x with
  | .inl (.inl n) => .inl (G.2.2.1, n, .inl (μ c))
  | .inl (.inr rs) => .inl (G.2.2.2.1, rs.length, .inr (.inr (.inr (.inr (fun j => (rs[j]?).map G.2.1)))))
  | .inr o => .inr (o.1, gF G μ c o.2)
def gW (G : GG) (μ : Mem) : va_W := sh.mapIdx (fun c x => (G.2.1 c, gE G μ c x))
theorem gW_at {G : GG} {μ : Mem} {c : Nat} {x : CSh} (h : sh[c]? = some x) : (gW G μ)[c]? = some (G.2.1 c, gE G μ c x) := by
  rw [gW, List.getElem?_mapIdx, h]; rfl
theorem gF_I {G : GG} {μ : Mem} {c i : Nat} {fs : List (Option Nat)} (h : fs[i]? = some none) : (gF G μ c fs)[i]? = some (.int (μ c i)) := by
  rw [gF, List.getElem?_mapIdx, h]; rfl
theorem gF_R {G : GG} {μ : Mem} {c i q : Nat} {fs : List (Option Nat)} (h : fs[i]? = some (some q)) : (gF G μ c fs)[i]? = some (.ref (G.2.1 q)) := by
  rw [gF, List.getElem?_mapIdx, h]; rfl
theorem gF_len {G : GG} {μ : Mem} {c : Nat} {fs : List (Option Nat)} : (gF G μ c fs).length = fs.length := by rw [gF, List.length_mapIdx]
def up (μ : Mem) (c i : Nat) (v : Int32) : Mem := fun a b => if a = c ∧ b = i then v else μ a b
def cpm (μ : Mem) (c0 sp c1 dp n : Nat) : Mem := fun a b => if a = c1 then va_cpy (μ c0) (μ c1) sp dp n b else μ a b
theorem gE_ne {G : GG} {μ ν : Mem} {c : Nat} (h : ν c = μ c) (x : CSh) : gE G ν c x = gE G μ c x := by
  match x with
  | .inl (.inl n) => simp only [gE, h]
  | .inl (.inr rs) => rfl
  | .inr o => simp only [gE, gF, h]
theorem gW_set {G : GG} {μ ν : Mem} {c : Nat} {x : CSh} {z : va_E} (hc : sh[c]? = some x) (h : ∀ a, a ≠ c → ν a = μ a) (hz : gE G ν c x = z) : gW G ν = (gW G μ).set c (G.2.1 c, z) := by
  apply List.ext_getElem?
  intro k
  by_cases hk : k = c
  · subst hk
    rw [gW_at hc, List.getElem?_set_self (by rw [gW, List.length_mapIdx]; exact (List.getElem?_eq_some_iff.mp hc).1), hz]
  · rw [List.getElem?_set_ne (Ne.symm hk), gW, gW, List.getElem?_mapIdx, List.getElem?_mapIdx]
    cases hs : sh[k]? with
    | none => rfl
    | some y => simp only [Option.map_some, gE_ne (h k hk)]
theorem gW_upF {G : GG} {μ : Mem} {c ci i : Nat} {fs : List (Option Nat)} {v : Int32} (hc : sh[c]? = some (.inr (ci, fs))) (hf : fs[i]? = some none) : gW G (up μ c i v) = (gW G μ).set c (G.2.1 c, .inr (ci, (gF G μ c fs).set i (.int v))) := by
  refine gW_set hc (fun a ha => by funext b; simp [up, ha]) ?_
  show Sum.inr (ci, gF G (up μ c i v) c fs) = _
  congr 2
  apply List.ext_getElem?
  intro k
  by_cases hk : k = i
  · subst hk
    rw [gF_I hf, List.getElem?_set_self (by rw [gF_len]; exact (List.getElem?_eq_some_iff.mp hf).1)]
    simp [up]
  · rw [List.getElem?_set_ne (Ne.symm hk), gF, gF, List.getElem?_mapIdx, List.getElem?_mapIdx]
    cases hs : fs[k]? with
    | none => rfl
    | some y => cases y <;> simp [up, hk]
theorem gW_upA {G : GG} {μ : Mem} {c n i : Nat} {v : Int32} (hc : isA c n) : gW G (up μ c i v) = (gW G μ).set c (G.2.1 c, .inl (G.2.2.1, n, .inl (upd (μ c) i v))) := by
  refine gW_set hc (fun a ha => by funext b; simp [up, ha]) ?_
  show Sum.inl (G.2.2.1, n, Sum.inl (up μ c i v c)) = _
  congr 4
  funext b
  simp [up, upd]
theorem gW_cpm {G : GG} {μ : Mem} {c0 c1 n sp dp k : Nat} (hc : isA c1 n) : gW G (cpm μ c0 sp c1 dp k) = (gW G μ).set c1 (G.2.1 c1, .inl (G.2.2.1, n, .inl (va_cpy (μ c0) (μ c1) sp dp k))) := by
  refine gW_set hc (fun a ha => by funext b; simp [cpm, ha]) ?_
  show Sum.inl (G.2.2.1, n, Sum.inl (cpm μ c0 sp c1 dp k c1)) = _
  congr 4
  funext b
  simp [cpm]
def gA (G : GG) : Nat → Prop := fun q => G.2.2.2.2.1 ≤ q
def gT (G : GG) : List (ClassId × FieldType) := [(G.2.2.1, .int), (G.2.2.2.1, .object "BookPairs$Sheet")]
def snm (j : Nat) : String := match j with
  | 0 => "LEFTS_OF_SORT"
  | 1 => "RIGHTS_OF_SORT"
  | _ => "STEP_OF_SORT"
def stv (j i : Nat) : Int32 := match j with
  | 0 => ([1, 1, 0, 2, 1] : List Int32).getD i 0
  | 1 => ([1, 0, 1, 1, 2] : List Int32).getD i 0
  | _ => ([9, 8, 1, 17, 10] : List Int32).getD i 0
def nsts : List (String × Nat × Nat) := [("BookPairs$Books", 60, 0), ("BookPairs$Books", 63, 1), ("BookPairs$Aligner", 89, 2), ("BookPairs$Aligner", 106, 0), ("BookPairs$Aligner", 112, 1)]
def gDD (G : GG) : Prop := (∀ i j : Nat, i < 64 → j < 64 → G.2.1 i = G.2.1 j → i = j) ∧ ∀ i : Nat, i < 64 → G.2.2.2.2.1 ≤ G.2.1 i
def gST (G : GG) (U : State) (H : Heap) : Prop := ∀ j : Nat, j < 3 → va_Z "BookPairs" (snm j) "[I" (.ref (G.2.2.2.2.2 j)) (gA G) U H ∧ va_T .int (G.2.2.2.2.2 j) 5 (fun i => .int (stv j i)) (gA G) U H
def gNW (U : State) : Prop := ∀ q ∈ nsts, va_Nw (.fieldLinkNest q.1 q.2.1 "BookPairs" (snm q.2.2) "[I" "BookPairs") U
def gOK (G : GG) (U : State) (H : Heap) : Prop := va_K G.1 vwCl (gT G) U ∧ gDD G ∧ gST G U H ∧ gNW U
theorem gD_of {G : GG} {μ : Mem} (h : gDD G) : va_D (gA G) (gW G μ) := by
  have key : ∀ (i : Nat) (q : Nat × va_E), (gW G μ)[i]? = some q → i < 64 ∧ q.1 = G.2.1 i := by
    intro i q hq
    have hl := (List.getElem?_eq_some_iff.mp hq).1
    rw [gW, List.length_mapIdx, sh_len] at hl
    refine ⟨hl, ?_⟩
    rw [gW, List.getElem?_mapIdx] at hq
    cases hs : sh[i]? with
    | none => rw [hs] at hq; cases hq
    | some x => rw [hs] at hq; cases hq; rfl
  refine ⟨fun i j p q hi hj hpq => ?_, fun k q hk => ?_⟩
  · obtain ⟨a1, a2⟩ := key i p hi
    obtain ⟨b1, b2⟩ := key j q hj
    exact h.1 i j a1 b1 (by rw [← a2, ← b2]; exact hpq)
  · obtain ⟨a1, a2⟩ := key k q hk
    rw [gA, a2]
    exact h.2 k a1
theorem gOK_to {G : GG} {s U : State} {H : Heap} {locs : List Loc} (h : gOK G s s.heap) (hW : s.WarmedH U.vm) (hS : va_S (gA G) s.heap H locs) : gOK G U H := by
  refine ⟨va_K.moved hW.alike h.1, h.2.1, fun j hj => ?_, fun q hq => va_Nw.warmF hW (h.2.2.2 q hq)⟩
  obtain ⟨a, b⟩ := h.2.2.1 j hj
  exact ⟨(va_Z.moved hW.alike a).kept (fun q h1 h2 => hS.2.1 q h1 h2), (va_T.moved hW.alike b).kept (fun q h1 h2 => hS.2.1 q h1 h2)⟩
theorem gOK_same {G : GG} {s U : State} {H : Heap} (h : gOK G s H) (hv : s.vm = U.vm) : gOK G U H := by
  have ha : s.vm.Alike U.vm := by rw [hv]; exact Vm.Alike.refl _
  refine ⟨va_K.moved ha h.1, h.2.1, fun j hj => ?_, fun q hq => va_Nw.same rfl hv (h.2.2.2 q hq)⟩
  obtain ⟨a, b⟩ := h.2.2.1 j hj
  exact ⟨va_Z.moved ha a, va_T.moved ha b⟩
abbrev MD : Type := String × ByteArray × Nat × Option FieldType × Room
abbrev Oc : Type := Option Value × Mem
def gPre (G : GG) (av : List Value) (μ : Mem) : Array Value → State → Prop := va_Pc av (fun U => va_P G.1 vwCl (gW G μ) U.heap ∧ gOK G U U.heap)
def gPost (G : GG) (o : Oc) : Array Value → State → Outcome → State → Prop := fun _ st oc t => oc = .returned o.1 ∧ va_P G.1 vwCl (gW G o.2) t.heap ∧ va_F (gA G) st t
def gWs (J : MD) (y : MethodName) : List Cond := Cond.code y J.2.1 J.2.2.1 J.2.2.2.1 :: TB
def GM (G : GG) (J : MD) (y : MethodName) (av : List Value) (μ : Mem) (o : Oc) : Prop := ∀ l : Launch, Met l y (gWs J y) J.2.2.2.2 (gPre G av μ) (gPost G o) 0 0 (gA G)
theorem gBlind {G : GG} {av : List Value} {μ : Mem} : FrameBlind (gPre G av μ) := by
  intro a U g mk h
  exact ⟨h.1, h.2.1, gOK_same h.2.2 rfl⟩
def gCtx (G : GG) (J : MD) (p : Program) (s : State) (m : MethodId) (args : Array Value) (meth : Method) (c : Code) : Prop :=
  p.tables.exec = Jvm.exec ∧ c.code = J.2.1 ∧ c.maxLocals = J.2.2.1 ∧ meth.sig.returnType = J.2.2.2.1 ∧ s.vm.findClass J.1 = some m.cls ∧ (∀ w ∈ TB, w.before args s = true) ∧ meth.locks = false ∧ gOK G s s.heap
def V (G : GG) (J : MD) (pc : Nat) (lv : List (Nat × Value)) (st : List Value) (μ : Mem) {R : Type} (x : Option R) (k : R → Option Oc) : Prop :=
  ∀ r, x = some r → ∀ o, k r = some o → ∀ (p : Program) (l : Launch) (e : Env) (s : State) (m : MethodId) (args : Array Value) (below : List Frame) (meth : Method) (c : Code), gCtx G J p s m args meth c → ∀ (H : Heap) (locs : List Loc) (ls : Array Slot), va_P G.1 vwCl (gW G μ) H → va_S (gA G) s.heap H locs → lv_has ls J.2.2.1 lv →
    W p l e J.2.2.2.2 s m args below meth c H locs 0 0 (MQ below (gPost G o) args s 0 0 (gA G)) (F0 m pc ls st)
theorem gm_of {G : GG} {J : MD} {y : MethodName} {av : List Value} {μ : Mem} {R : Type} {x : Option R} {k : R → Option Oc} {t : R} {o : Oc} (hc : J.1 = y.cls) (hp : plainName y.cls = true) (hl : (lg_sl av).length ≤ J.2.2.1) (h : V G J 0 (lv_args 0 av) [] μ x k) (hx : x = some t) (hk : k t = some o) : GM G J y av μ o := by
  intro l
  refine Met.ofW (cc := J.2.1) (maxL := J.2.2.1) (ret := J.2.2.2.1) hp rfl ?_
  intro p e s m args below meth c s₁ B hml hv
  obtain ⟨rfl, hP, hO⟩ := hv
  have hts := atoms_spec (ws := gWs J y) B.pre
  have hl2 := lv_entry av hl
  rw [lg_entry_eq]
  exact h t hx o hk p l e s m _ below meth c ⟨B.exec, B.bytes, hml, B.returns, by rw [hc]; exact findClass_of_methodNamed B.named, fun w hw => hts w (List.mem_cons_of_mem _ hw), B.notSynchronized, hO⟩ s.heap [] _ hP va_S.rf hl2
def ck {R : Type} (b : Bool) (x : Option R) : Option R := if b = true then x else none
def lt {α R : Type} (e : α) (f : α → Option R) : Option R := f e
def inb (i : Int32) (n : Nat) : Bool := decide (¬ (i < 0 ∨ n ≤ i.toNatClampNeg))
theorem inb_vp {i : Int32} {n : Nat} (h : inb i n = true) : vp_in i n := by simpa [inb, vp_in] using h
def b1 {A R : Type} (x : Option A) (f : A → Option R) : Option R := x.bind f
def b2 {A B R : Type} (x : Option (A × B)) (f : A → B → Option R) : Option R := x.bind (fun p => f p.1 p.2)
def b3 {A B C R : Type} (x : Option (A × B × C)) (f : A → B → C → Option R) : Option R := x.bind (fun p => f p.1 p.2.1 p.2.2)
def b4 {A B C D R : Type} (x : Option (A × B × C × D)) (f : A → B → C → D → Option R) : Option R := x.bind (fun p => f p.1 p.2.1 p.2.2.1 p.2.2.2)
def b5 {A B C D E R : Type} (x : Option (A × B × C × D × E)) (f : A → B → C → D → E → Option R) : Option R := x.bind (fun p => f p.1 p.2.1 p.2.2.1 p.2.2.2.1 p.2.2.2.2)
def bs {A O R : Type} (x : Option (A ⊕ O)) (f : A → Option R) (g : O → Option R) : Option R := x.bind (fun p => match p with | .inl a => f a | .inr b => g b)
def bo (v : Int32) : Bool := decide (narrow .boolean (.int v) = Value.int v)
def shc (i : Int32) : Nat := 35 + 2 * i.toNatClampNeg
def oI (t : Int32 × Mem) : Oc := (some (.int t.1), t.2)
def oL (t : Int64 × Mem) : Oc := (some (.long t.1), t.2)
def oV (t : Mem) : Oc := (none, t)
def oA (G : GG) (t : Mem) : Oc := (some (.ref (G.2.1 14)), t)
def kI (t : Int32 × Mem) : Option Oc := some (oI t)
def kL (t : Int64 × Mem) : Option Oc := some (oL t)
def kV (t : Mem) : Option Oc := some (oV t)
def kA (G : GG) (t : Mem) : Option Oc := some (oA G t)
def gFld (own : String) (idx ci i : Nat) : Prop := ∃ (C : String) (T : u_T) (N : Nat) (ref : String), vwCl[ci]? = some (C, T, N) ∧ i < N ∧ (∀ w ∈ u_ws C T N, w ∈ TB) ∧ Cond.fieldLink own idx ref (T i).2.1 (T i).2.2.1 ∈ TB ∧ ∀ (s : State) (x : ClassId × Class × Nat × Field), s.fieldFound? (T i).1 (T i).2.1 (T i).2.2.1 = some x → s.fieldFound? ref (T i).2.1 (T i).2.2.1 = some x
def gPut (own : String) (idx ci i : Nat) (ty : FieldType) : Prop := ∃ (C : String) (T : u_T) (N : Nat) (ref : String) (ty0 : Nat → FieldType), vwCl[ci]? = some (C, T, N) ∧ i < N ∧ (∀ w ∈ u_ws C T N, w ∈ TB) ∧ Cond.fieldLink own idx ref (T i).2.1 (T i).2.2.1 ∈ TB ∧ (∀ (s : State) (x : ClassId × Class × Nat × Field), s.fieldFound? (T i).1 (T i).2.1 (T i).2.2.1 = some x → s.fieldFound? ref (T i).2.1 (T i).2.2.1 = some x) ∧ (∀ k, k < N → parseFieldDescriptor (T k).2.2.1 = some (ty0 k)) ∧ (∀ a, a < N → ∀ b, b < N → a ≠ b → (T a).2.1 ≠ (T b).2.1) ∧ (T i).2.2.2 = false ∧ parseFieldDescriptor (T i).2.2.1 = some ty
def gCal (J : MD) (y : MethodName) (ci n : Nat) : Prop := (∃ (T : u_T) (N : Nat), vwCl[ci]? = some (y.cls, T, N)) ∧ Cond.code y J.2.1 J.2.2.1 J.2.2.2.1 ∈ TB ∧ Cond.instanceMethod y ∈ TB ∧ Cond.selects y.cls y y ∈ TB ∧ Cond.initialized y.cls ∈ TB ∧ J.2.2.2.2.cells = 0 ∧ J.2.2.2.2.slots = 0 ∧ y.cls ≠ "java/lang/invoke/MethodHandle" ∧ y.cls ≠ "java/lang/invoke/VarHandle" ∧ (parseMethodDescriptor y.desc).map (fun d => d.parameters.length) = some n
def gCalS (J : MD) (y : MethodName) (n : Nat) : Prop := Cond.code y J.2.1 J.2.2.1 J.2.2.2.1 ∈ TB ∧ Cond.static y ∈ TB ∧ Cond.initialized y.cls ∈ TB ∧ J.2.2.2.2.cells = 0 ∧ J.2.2.2.2.slots = 0 ∧ y.cls ≠ "java/lang/invoke/MethodHandle" ∧ y.cls ≠ "java/lang/invoke/VarHandle" ∧ (parseMethodDescriptor y.desc).map (fun d => d.parameters.length) = some n
theorem gWs_good {J : MD} {y : MethodName} (h : Cond.code y J.2.1 J.2.2.1 J.2.2.2.1 ∈ TB) : GoodIn TB (gWs J y) := by
  intro w hw
  rcases List.mem_cons.mp hw with rfl | hw
  · exact TB_good _ h
  · exact TB_good _ hw
end
section
theorem v_none {G : GG} {J : MD} {pc : Nat} {lv : List (Nat × Value)} {st : List Value} {μ : Mem} {R : Type} {k : R → Option Oc} : V G J pc lv st μ (none : Option R) k := by intro r hr; cases hr
theorem v_leaf {G : GG} {J : MD} {pc : Nat} {lv : List (Nat × Value)} {st : List Value} {μ : Mem} {R : Type} {k : R → Option Oc} {t : R} (h : V G J pc lv st μ (k t) some) : V G J pc lv st μ (some t) k := by
  intro r hr o ho
  cases hr
  exact h o ho o rfl
theorem v_sub {G : GG} {J : MD} {pc : Nat} {lv : List (Nat × Value)} {st : List Value} {μ : Mem} {R : Type} {x : Option R} {k : R → Option Oc} {lv' : List (Nat × Value)} (ks : List Nat) (hl : lv_pick lv ks = lv') (h : V G J pc lv' st μ x k) : V G J pc lv st μ x k := by
  intro r hr o ho p l e s m args below meth c C H locs ls hP hS hls
  exact h r hr o ho p l e s m args below meth c C H locs ls hP hS (lv_sub hls ks hl)
theorem v_lt {G : GG} {J : MD} {pc : Nat} {lv : List (Nat × Value)} {st : List Value} {μ : Mem} {R : Type} {k : R → Option Oc} {z : Int32} {f : Int32 → Option R} (h : ∀ y, V G J pc lv (.int y :: st) μ (f y) k) : V G J pc lv (.int z :: st) μ (lt z f) k := h z
theorem v_ltL {G : GG} {J : MD} {pc : Nat} {lv : List (Nat × Value)} {st : List Value} {μ : Mem} {R : Type} {k : R → Option Oc} {z : Int64} {f : Int64 → Option R} (h : ∀ y, V G J pc lv (.long y :: st) μ (f y) k) : V G J pc lv (.long z :: st) μ (lt z f) k := h z
theorem v_lm {G : GG} {J : MD} {pc : Nat} {lv : List (Nat × Value)} {st : List Value} {μ : Mem} {R : Type} {k : R → Option Oc} {f : Mem → Option R} (h : ∀ y, V G J pc lv st y (f y) k) : V G J pc lv st μ (lt μ f) k := h μ
theorem v_bind {G : GG} {J : MD} {pc : Nat} {lv : List (Nat × Value)} {st : List Value} {μ : Mem} {R : Type} {k : R → Option Oc} {A : Type} {z : Option A} {f : A → Option R} (h : V G J pc lv st μ z (fun a => (f a).bind k)) : V G J pc lv st μ (z.bind f) k := by
  intro r hr o ho
  cases z with
  | none => cases hr
  | some a => exact h a rfl o (by show (f a).bind k = some o; rw [show f a = some r from hr]; exact ho)
theorem v_some {G : GG} {J : MD} {pc : Nat} {lv : List (Nat × Value)} {st : List Value} {μ : Mem} {R : Type} {x : Option R} {k : R → Option Oc} (h : V G J pc lv st μ x k) : V G J pc lv st μ (x.bind k) some := by
  intro r hr o ho
  cases x with
  | none => cases hr
  | some a => cases ho; exact h a rfl r hr
theorem v_loop {G : GG} {J : MD} {pc : Nat} {lv : List (Nat × Value)} {st : List Value} {μ : Mem} {R : Type} {k : R → Option Oc} {T : Type} {z : Option T} {f : T → Option R} (hz : ∀ kk : T → Option Oc, (∀ t, kk t = (f t).bind k) → V G J pc lv st μ z kk) : V G J pc lv st μ (z.bind f) k := v_bind (hz _ (fun _ => rfl))
theorem v_iconst {G : GG} {J : MD} {pc : Nat} {lv : List (Nat × Value)} {st : List Value} {μ : Mem} {R : Type} {x : Option R} {k : R → Option Oc} {q : Int} {v : Int32} (d : decode J.2.1 pc = .ok (.iconst q, 1)) (hv : Int32.ofInt q = v) {n : Nat} (hn : pc + 1 = n) (h : V G J n lv (.int v :: st) μ x k) : V G J pc lv (st) μ x k := by
  subst hn
  intro r hr o ho p l e s m args below meth c C H locs ls hP hS hl
  exact lv_iconst C.1 C.2.1 d hv (h r hr o ho p l e s m args below meth c C H locs ls hP hS hl)
theorem v_bipush {G : GG} {J : MD} {pc : Nat} {lv : List (Nat × Value)} {st : List Value} {μ : Mem} {R : Type} {x : Option R} {k : R → Option Oc} {q : Int} {v : Int32} (d : decode J.2.1 pc = .ok (.bipush q, 2)) (hv : (Int8.ofInt q).toInt32 = v) {n : Nat} (hn : pc + 2 = n) (h : V G J n lv (.int v :: st) μ x k) : V G J pc lv (st) μ x k := by
  subst hn
  intro r hr o ho p l e s m args below meth c C H locs ls hP hS hl
  exact lv_bipush C.1 C.2.1 d hv (h r hr o ho p l e s m args below meth c C H locs ls hP hS hl)
theorem v_sipush {G : GG} {J : MD} {pc : Nat} {lv : List (Nat × Value)} {st : List Value} {μ : Mem} {R : Type} {x : Option R} {k : R → Option Oc} {q : Int} {v : Int32} (d : decode J.2.1 pc = .ok (.sipush q, 3)) (hv : (Int16.ofInt q).toInt32 = v) {n : Nat} (hn : pc + 3 = n) (h : V G J n lv (.int v :: st) μ x k) : V G J pc lv (st) μ x k := by
  subst hn
  intro r hr o ho p l e s m args below meth c C H locs ls hP hS hl
  exact lv_sipush C.1 C.2.1 d hv (h r hr o ho p l e s m args below meth c C H locs ls hP hS hl)
theorem v_lconst {G : GG} {J : MD} {pc : Nat} {lv : List (Nat × Value)} {st : List Value} {μ : Mem} {R : Type} {x : Option R} {k : R → Option Oc} {q : Fin 2} {v : Int64} (d : decode J.2.1 pc = .ok (.lconst q, 1)) (hv : Int64.ofNat (q : Nat) = v) {n : Nat} (hn : pc + 1 = n) (h : V G J n lv (.long v :: st) μ x k) : V G J pc lv (st) μ x k := by
  subst hn
  intro r hr o ho p l e s m args below meth c C H locs ls hP hS hl
  exact lv_lconst C.1 C.2.1 d hv (h r hr o ho p l e s m args below meth c C H locs ls hP hS hl)
theorem v_ldc {G : GG} {J : MD} {pc : Nat} {lv : List (Nat × Value)} {st : List Value} {μ : Mem} {R : Type} {x : Option R} {k : R → Option Oc} {idx : Nat} {v : Int32} (d : decode J.2.1 pc = .ok (.ldc idx, 2)) (hv : Cond.constant J.1 idx v ∈ TB) {n : Nat} (hn : pc + 2 = n) (h : V G J n lv (.int v :: st) μ x k) : V G J pc lv st μ x k := by
  subst hn
  intro r hr o ho p l e s m args below meth c C H locs ls hP hS hl
  exact lv_ldc C.1 C.2.1 C.2.2.2.2.1 (C.2.2.2.2.2.1 _ hv) d (h r hr o ho p l e s m args below meth c C H locs ls hP hS hl)
theorem v_ldc2 {G : GG} {J : MD} {pc : Nat} {lv : List (Nat × Value)} {st : List Value} {μ : Mem} {R : Type} {x : Option R} {k : R → Option Oc} {idx : Nat} {v : Int64} (d : decode J.2.1 pc = .ok (.ldc2_w idx, 3)) (hv : Cond.constantLong J.1 idx v ∈ TB) {n : Nat} (hn : pc + 3 = n) (h : V G J n lv (.long v :: st) μ x k) : V G J pc lv st μ x k := by
  subst hn
  intro r hr o ho p l e s m args below meth c C H locs ls hP hS hl
  exact lv_ldc2 C.1 C.2.1 C.2.2.2.2.1 (C.2.2.2.2.2.1 _ hv) d (h r hr o ho p l e s m args below meth c C H locs ls hP hS hl)
theorem v_iload_n {G : GG} {J : MD} {pc : Nat} {lv : List (Nat × Value)} {st : List Value} {μ : Mem} {R : Type} {x : Option R} {k : R → Option Oc} {q : Fin 4} {i : Nat} {v : Int32} (d : decode J.2.1 pc = .ok (.iload_n q, 1)) (hi : (q : Nat) = i) (j : Nat) (hj : lv[j]? = some (i, .int v)) {n : Nat} (hn : pc + 1 = n) (h : V G J n lv (.int v :: st) μ x k) : V G J pc lv (st) μ x k := by
  subst hn
  intro r hr o ho p l e s m args below meth c C H locs ls hP hS hl
  exact lv_iload_n C.1 C.2.1 d hi (lv_at hl j hj) (h r hr o ho p l e s m args below meth c C H locs ls hP hS hl)
theorem v_iload {G : GG} {J : MD} {pc : Nat} {lv : List (Nat × Value)} {st : List Value} {μ : Mem} {R : Type} {x : Option R} {k : R → Option Oc} {i : Nat} {v : Int32} (d : decode J.2.1 pc = .ok (.iload i, 2)) (j : Nat) (hj : lv[j]? = some (i, .int v)) {n : Nat} (hn : pc + 2 = n) (h : V G J n lv (.int v :: st) μ x k) : V G J pc lv (st) μ x k := by
  subst hn
  intro r hr o ho p l e s m args below meth c C H locs ls hP hS hl
  exact lv_iload C.1 C.2.1 d (lv_at hl j hj) (h r hr o ho p l e s m args below meth c C H locs ls hP hS hl)
theorem v_lload_n {G : GG} {J : MD} {pc : Nat} {lv : List (Nat × Value)} {st : List Value} {μ : Mem} {R : Type} {x : Option R} {k : R → Option Oc} {q : Fin 4} {i : Nat} {v : Int64} (d : decode J.2.1 pc = .ok (.lload_n q, 1)) (hi : (q : Nat) = i) (j : Nat) (hj : lv[j]? = some (i, .long v)) {n : Nat} (hn : pc + 1 = n) (h : V G J n lv (.long v :: st) μ x k) : V G J pc lv (st) μ x k := by
  subst hn
  intro r hr o ho p l e s m args below meth c C H locs ls hP hS hl
  exact lv_lload_n C.1 C.2.1 d hi (lv_at hl j hj) (h r hr o ho p l e s m args below meth c C H locs ls hP hS hl)
theorem v_lload {G : GG} {J : MD} {pc : Nat} {lv : List (Nat × Value)} {st : List Value} {μ : Mem} {R : Type} {x : Option R} {k : R → Option Oc} {i : Nat} {v : Int64} (d : decode J.2.1 pc = .ok (.lload i, 2)) (j : Nat) (hj : lv[j]? = some (i, .long v)) {n : Nat} (hn : pc + 2 = n) (h : V G J n lv (.long v :: st) μ x k) : V G J pc lv (st) μ x k := by
  subst hn
  intro r hr o ho p l e s m args below meth c C H locs ls hP hS hl
  exact lv_lload C.1 C.2.1 d (lv_at hl j hj) (h r hr o ho p l e s m args below meth c C H locs ls hP hS hl)
theorem v_aload_n {G : GG} {J : MD} {pc : Nat} {lv : List (Nat × Value)} {st : List Value} {μ : Mem} {R : Type} {x : Option R} {k : R → Option Oc} {q : Fin 4} {i : Nat} {v : Nat} (d : decode J.2.1 pc = .ok (.aload_n q, 1)) (hi : (q : Nat) = i) (j : Nat) (hj : lv[j]? = some (i, .ref v)) {n : Nat} (hn : pc + 1 = n) (h : V G J n lv (.ref v :: st) μ x k) : V G J pc lv (st) μ x k := by
  subst hn
  intro r hr o ho p l e s m args below meth c C H locs ls hP hS hl
  exact lv_aload_n C.1 C.2.1 d hi (lv_at hl j hj) (h r hr o ho p l e s m args below meth c C H locs ls hP hS hl)
theorem v_aload {G : GG} {J : MD} {pc : Nat} {lv : List (Nat × Value)} {st : List Value} {μ : Mem} {R : Type} {x : Option R} {k : R → Option Oc} {i : Nat} {v : Nat} (d : decode J.2.1 pc = .ok (.aload i, 2)) (j : Nat) (hj : lv[j]? = some (i, .ref v)) {n : Nat} (hn : pc + 2 = n) (h : V G J n lv (.ref v :: st) μ x k) : V G J pc lv (st) μ x k := by
  subst hn
  intro r hr o ho p l e s m args below meth c C H locs ls hP hS hl
  exact lv_aload C.1 C.2.1 d (lv_at hl j hj) (h r hr o ho p l e s m args below meth c C H locs ls hP hS hl)
theorem v_istore_n {G : GG} {J : MD} {pc : Nat} {lv : List (Nat × Value)} {st : List Value} {μ : Mem} {R : Type} {x : Option R} {k : R → Option Oc} {q : Fin 4} {i : Nat} {v : Int32} (lv' : List (Nat × Value)) (d : decode J.2.1 pc = .ok (.istore_n q, 1)) (hi : (q : Nat) = i) (hb : i < J.2.2.1) (hl' : (i, Value.int v) :: lv.filter (fun q => !(q.1 == i) && !(q.1 + 1 == i && q.2.category == 2)) = lv') {n : Nat} (hn : pc + 1 = n) (h : V G J n lv' st μ x k) : V G J pc lv (.int v :: st) μ x k := by
  subst hn
  intro r hr o ho p l e s m args below meth c C H locs ls hP hS hl
  exact lv_istore_n C.1 C.2.1 d hi hl hb hl' (fun ls hl => h r hr o ho p l e s m args below meth c C H locs ls hP hS hl)
theorem v_istore {G : GG} {J : MD} {pc : Nat} {lv : List (Nat × Value)} {st : List Value} {μ : Mem} {R : Type} {x : Option R} {k : R → Option Oc} {i : Nat} {v : Int32} (lv' : List (Nat × Value)) (d : decode J.2.1 pc = .ok (.istore i, 2)) (hb : i < J.2.2.1) (hl' : (i, Value.int v) :: lv.filter (fun q => !(q.1 == i) && !(q.1 + 1 == i && q.2.category == 2)) = lv') {n : Nat} (hn : pc + 2 = n) (h : V G J n lv' st μ x k) : V G J pc lv (.int v :: st) μ x k := by
  subst hn
  intro r hr o ho p l e s m args below meth c C H locs ls hP hS hl
  exact lv_istore C.1 C.2.1 d hl hb hl' (fun ls hl => h r hr o ho p l e s m args below meth c C H locs ls hP hS hl)
theorem v_lstore_n {G : GG} {J : MD} {pc : Nat} {lv : List (Nat × Value)} {st : List Value} {μ : Mem} {R : Type} {x : Option R} {k : R → Option Oc} {q : Fin 4} {i : Nat} {v : Int64} (lv' : List (Nat × Value)) (d : decode J.2.1 pc = .ok (.lstore_n q, 1)) (hi : (q : Nat) = i) (hb : i + 1 < J.2.2.1) (hl' : (i, Value.long v) :: lv.filter (fun q => !(q.1 == i) && (!(q.1 == i + 1) && !(q.1 + 1 == i && q.2.category == 2))) = lv') {n : Nat} (hn : pc + 1 = n) (h : V G J n lv' st μ x k) : V G J pc lv (.long v :: st) μ x k := by
  subst hn
  intro r hr o ho p l e s m args below meth c C H locs ls hP hS hl
  exact lv_lstore_n C.1 C.2.1 d hi hl hb hl' (fun ls hl => h r hr o ho p l e s m args below meth c C H locs ls hP hS hl)
theorem v_lstore {G : GG} {J : MD} {pc : Nat} {lv : List (Nat × Value)} {st : List Value} {μ : Mem} {R : Type} {x : Option R} {k : R → Option Oc} {i : Nat} {v : Int64} (lv' : List (Nat × Value)) (d : decode J.2.1 pc = .ok (.lstore i, 2)) (hb : i + 1 < J.2.2.1) (hl' : (i, Value.long v) :: lv.filter (fun q => !(q.1 == i) && (!(q.1 == i + 1) && !(q.1 + 1 == i && q.2.category == 2))) = lv') {n : Nat} (hn : pc + 2 = n) (h : V G J n lv' st μ x k) : V G J pc lv (.long v :: st) μ x k := by
  subst hn
  intro r hr o ho p l e s m args below meth c C H locs ls hP hS hl
  exact lv_lstore C.1 C.2.1 d hl hb hl' (fun ls hl => h r hr o ho p l e s m args below meth c C H locs ls hP hS hl)
theorem v_astore_n {G : GG} {J : MD} {pc : Nat} {lv : List (Nat × Value)} {st : List Value} {μ : Mem} {R : Type} {x : Option R} {k : R → Option Oc} {q : Fin 4} {i : Nat} {v : Nat} (lv' : List (Nat × Value)) (d : decode J.2.1 pc = .ok (.astore_n q, 1)) (hi : (q : Nat) = i) (hb : i < J.2.2.1) (hl' : (i, Value.ref v) :: lv.filter (fun q => !(q.1 == i) && !(q.1 + 1 == i && q.2.category == 2)) = lv') {n : Nat} (hn : pc + 1 = n) (h : V G J n lv' st μ x k) : V G J pc lv (.ref v :: st) μ x k := by
  subst hn
  intro r hr o ho p l e s m args below meth c C H locs ls hP hS hl
  exact lv_astore_n C.1 C.2.1 d hi hl hb hl' (fun ls hl => h r hr o ho p l e s m args below meth c C H locs ls hP hS hl)
theorem v_astore {G : GG} {J : MD} {pc : Nat} {lv : List (Nat × Value)} {st : List Value} {μ : Mem} {R : Type} {x : Option R} {k : R → Option Oc} {i : Nat} {v : Nat} (lv' : List (Nat × Value)) (d : decode J.2.1 pc = .ok (.astore i, 2)) (hb : i < J.2.2.1) (hl' : (i, Value.ref v) :: lv.filter (fun q => !(q.1 == i) && !(q.1 + 1 == i && q.2.category == 2)) = lv') {n : Nat} (hn : pc + 2 = n) (h : V G J n lv' st μ x k) : V G J pc lv (.ref v :: st) μ x k := by
  subst hn
  intro r hr o ho p l e s m args below meth c C H locs ls hP hS hl
  exact lv_astore C.1 C.2.1 d hl hb hl' (fun ls hl => h r hr o ho p l e s m args below meth c C H locs ls hP hS hl)
theorem v_iinc {G : GG} {J : MD} {pc : Nat} {lv : List (Nat × Value)} {st : List Value} {μ : Mem} {R : Type} {k : R → Option Oc} {i : Nat} {q : Int} {z w : Int32} {f : Int32 → Option R} (lv' : Int32 → List (Nat × Value)) (d : decode J.2.1 pc = .ok (.iinc i q, 3)) (j : Nat) (hj : lv[j]? = some (i, .int z)) (hw : Int32.ofInt q = w) (hb : i < J.2.2.1) (hl' : ∀ v, (i, Value.int v) :: lv.filter (fun q => !(q.1 == i) && !(q.1 + 1 == i && q.2.category == 2)) = lv' v) {n : Nat} (hn : pc + 3 = n) (h : ∀ v, V G J n (lv' v) st μ (f v) k) : V G J pc lv st μ (lt (z + w) f) k := by
  subst hn
  subst hw
  intro r hr o ho p l e s m args below meth c C H locs ls hP hS hl
  exact lv_iinc (v := z + Int32.ofInt q) C.1 C.2.1 d hl hj rfl hb (hl' _) (fun ls hl => h _ r hr o ho p l e s m args below meth c C H locs ls hP hS hl)
theorem v_iadd {G : GG} {J : MD} {pc : Nat} {lv : List (Nat × Value)} {st : List Value} {μ : Mem} {R : Type} {x : Option R} {k : R → Option Oc} {a b : Int32} (d : decode J.2.1 pc = .ok (.iadd, 1)) {n : Nat} (hn : pc + 1 = n) (h : V G J n lv (.int (a + b) :: st) μ x k) : V G J pc lv (.int b :: .int a :: st) μ x k := by
  subst hn
  intro r hr o ho p l e s m args below meth c C H locs ls hP hS hl
  exact lv_iadd C.1 C.2.1 d  (h r hr o ho p l e s m args below meth c C H locs ls hP hS hl)
theorem v_isub {G : GG} {J : MD} {pc : Nat} {lv : List (Nat × Value)} {st : List Value} {μ : Mem} {R : Type} {x : Option R} {k : R → Option Oc} {a b : Int32} (d : decode J.2.1 pc = .ok (.isub, 1)) {n : Nat} (hn : pc + 1 = n) (h : V G J n lv (.int (a - b) :: st) μ x k) : V G J pc lv (.int b :: .int a :: st) μ x k := by
  subst hn
  intro r hr o ho p l e s m args below meth c C H locs ls hP hS hl
  exact lv_isub C.1 C.2.1 d  (h r hr o ho p l e s m args below meth c C H locs ls hP hS hl)
theorem v_imul {G : GG} {J : MD} {pc : Nat} {lv : List (Nat × Value)} {st : List Value} {μ : Mem} {R : Type} {x : Option R} {k : R → Option Oc} {a b : Int32} (d : decode J.2.1 pc = .ok (.imul, 1)) {n : Nat} (hn : pc + 1 = n) (h : V G J n lv (.int (a * b) :: st) μ x k) : V G J pc lv (.int b :: .int a :: st) μ x k := by
  subst hn
  intro r hr o ho p l e s m args below meth c C H locs ls hP hS hl
  exact lv_imul C.1 C.2.1 d  (h r hr o ho p l e s m args below meth c C H locs ls hP hS hl)
theorem v_iand {G : GG} {J : MD} {pc : Nat} {lv : List (Nat × Value)} {st : List Value} {μ : Mem} {R : Type} {x : Option R} {k : R → Option Oc} {a b : Int32} (d : decode J.2.1 pc = .ok (.iand, 1)) {n : Nat} (hn : pc + 1 = n) (h : V G J n lv (.int (a &&& b) :: st) μ x k) : V G J pc lv (.int b :: .int a :: st) μ x k := by
  subst hn
  intro r hr o ho p l e s m args below meth c C H locs ls hP hS hl
  exact lv_iand C.1 C.2.1 d  (h r hr o ho p l e s m args below meth c C H locs ls hP hS hl)
theorem v_ior {G : GG} {J : MD} {pc : Nat} {lv : List (Nat × Value)} {st : List Value} {μ : Mem} {R : Type} {x : Option R} {k : R → Option Oc} {a b : Int32} (d : decode J.2.1 pc = .ok (.ior, 1)) {n : Nat} (hn : pc + 1 = n) (h : V G J n lv (.int (a ||| b) :: st) μ x k) : V G J pc lv (.int b :: .int a :: st) μ x k := by
  subst hn
  intro r hr o ho p l e s m args below meth c C H locs ls hP hS hl
  exact lv_ior C.1 C.2.1 d  (h r hr o ho p l e s m args below meth c C H locs ls hP hS hl)
theorem v_ishl {G : GG} {J : MD} {pc : Nat} {lv : List (Nat × Value)} {st : List Value} {μ : Mem} {R : Type} {x : Option R} {k : R → Option Oc} {a b : Int32} (d : decode J.2.1 pc = .ok (.ishl, 1)) {n : Nat} (hn : pc + 1 = n) (h : V G J n lv (.int (a <<< (b &&& 31)) :: st) μ x k) : V G J pc lv (.int b :: .int a :: st) μ x k := by
  subst hn
  intro r hr o ho p l e s m args below meth c C H locs ls hP hS hl
  exact lv_ishl C.1 C.2.1 d  (h r hr o ho p l e s m args below meth c C H locs ls hP hS hl)
theorem v_ineg {G : GG} {J : MD} {pc : Nat} {lv : List (Nat × Value)} {st : List Value} {μ : Mem} {R : Type} {x : Option R} {k : R → Option Oc} {a : Int32} (d : decode J.2.1 pc = .ok (.ineg, 1)) {n : Nat} (hn : pc + 1 = n) (h : V G J n lv (.int (-a) :: st) μ x k) : V G J pc lv (.int a :: st) μ x k := by
  subst hn
  intro r hr o ho p l e s m args below meth c C H locs ls hP hS hl
  exact lv_ineg C.1 C.2.1 d  (h r hr o ho p l e s m args below meth c C H locs ls hP hS hl)
theorem v_i2l {G : GG} {J : MD} {pc : Nat} {lv : List (Nat × Value)} {st : List Value} {μ : Mem} {R : Type} {x : Option R} {k : R → Option Oc} {a : Int32} (d : decode J.2.1 pc = .ok (.i2l, 1)) {n : Nat} (hn : pc + 1 = n) (h : V G J n lv (.long (a.toInt64) :: st) μ x k) : V G J pc lv (.int a :: st) μ x k := by
  subst hn
  intro r hr o ho p l e s m args below meth c C H locs ls hP hS hl
  exact lv_i2l C.1 C.2.1 d rfl (h r hr o ho p l e s m args below meth c C H locs ls hP hS hl)
theorem v_i2b {G : GG} {J : MD} {pc : Nat} {lv : List (Nat × Value)} {st : List Value} {μ : Mem} {R : Type} {x : Option R} {k : R → Option Oc} {a : Int32} (d : decode J.2.1 pc = .ok (.i2b, 1)) {n : Nat} (hn : pc + 1 = n) (h : V G J n lv (.int (a.toInt8.toInt32) :: st) μ x k) : V G J pc lv (.int a :: st) μ x k := by
  subst hn
  intro r hr o ho p l e s m args below meth c C H locs ls hP hS hl
  exact lv_i2b C.1 C.2.1 d rfl (h r hr o ho p l e s m args below meth c C H locs ls hP hS hl)
theorem v_i2s {G : GG} {J : MD} {pc : Nat} {lv : List (Nat × Value)} {st : List Value} {μ : Mem} {R : Type} {x : Option R} {k : R → Option Oc} {a : Int32} (d : decode J.2.1 pc = .ok (.i2s, 1)) {n : Nat} (hn : pc + 1 = n) (h : V G J n lv (.int (a.toInt16.toInt32) :: st) μ x k) : V G J pc lv (.int a :: st) μ x k := by
  subst hn
  intro r hr o ho p l e s m args below meth c C H locs ls hP hS hl
  exact lv_i2s C.1 C.2.1 d rfl (h r hr o ho p l e s m args below meth c C H locs ls hP hS hl)
theorem v_lcmp {G : GG} {J : MD} {pc : Nat} {lv : List (Nat × Value)} {st : List Value} {μ : Mem} {R : Type} {x : Option R} {k : R → Option Oc} {a b : Int64} (d : decode J.2.1 pc = .ok (.lcmp, 1)) {n : Nat} (hn : pc + 1 = n) (h : V G J n lv (.int (lg_cmp a b) :: st) μ x k) : V G J pc lv (.long b :: .long a :: st) μ x k := by
  subst hn
  intro r hr o ho p l e s m args below meth c C H locs ls hP hS hl
  exact W.lcmp C.1 C.2.1 d  (h r hr o ho p l e s m args below meth c C H locs ls hP hS hl)
theorem v_dup {G : GG} {J : MD} {pc : Nat} {lv : List (Nat × Value)} {st : List Value} {μ : Mem} {R : Type} {x : Option R} {k : R → Option Oc} {a : Value} (d : decode J.2.1 pc = .ok (.dup, 1)) (ha : a.category = 1) {n : Nat} (hn : pc + 1 = n) (h : V G J n lv (a :: a :: st) μ x k) : V G J pc lv (a :: st) μ x k := by
  subst hn
  intro r hr o ho p l e s m args below meth c C H locs ls hP hS hl
  exact lv_dup C.1 C.2.1 d ha (h r hr o ho p l e s m args below meth c C H locs ls hP hS hl)
theorem v_pop {G : GG} {J : MD} {pc : Nat} {lv : List (Nat × Value)} {st : List Value} {μ : Mem} {R : Type} {x : Option R} {k : R → Option Oc} {a : Value} (d : decode J.2.1 pc = .ok (.pop, 1)) (ha : a.category = 1) {n : Nat} (hn : pc + 1 = n) (h : V G J n lv (st) μ x k) : V G J pc lv (a :: st) μ x k := by
  subst hn
  intro r hr o ho p l e s m args below meth c C H locs ls hP hS hl
  exact lv_pop C.1 C.2.1 d ha (h r hr o ho p l e s m args below meth c C H locs ls hP hS hl)
theorem v_dup2 {G : GG} {J : MD} {pc : Nat} {lv : List (Nat × Value)} {st : List Value} {μ : Mem} {R : Type} {x : Option R} {k : R → Option Oc} {a b : Value} (d : decode J.2.1 pc = .ok (.dup2, 1)) (ha : a.category = 1) (hb : b.category = 1) {n : Nat} (hn : pc + 1 = n) (h : V G J n lv (a :: b :: a :: b :: st) μ x k) : V G J pc lv (a :: b :: st) μ x k := by
  subst hn
  intro r hr o ho p l e s m args below meth c C H locs ls hP hS hl
  exact lv_dup2_11 C.1 C.2.1 d ha hb (h r hr o ho p l e s m args below meth c C H locs ls hP hS hl)
theorem v_idiv {G : GG} {J : MD} {pc : Nat} {lv : List (Nat × Value)} {st : List Value} {μ : Mem} {R : Type} {x : Option R} {k : R → Option Oc} {a b : Int32} (d : decode J.2.1 pc = .ok (.idiv, 1)) {n : Nat} (hn : pc + 1 = n) (h : V G J n lv (.int (a / b) :: st) μ x k) : V G J pc lv (.int b :: .int a :: st) μ (ck (decide (¬ b = 0)) x) k := by
  subst hn
  intro r hr o ho p l e s m args below meth c C H locs ls hP hS hl
  by_cases hz : b = 0
  · rw [ck, if_neg (by simp [hz])] at hr; cases hr
  · rw [ck, if_pos (by simp [hz])] at hr
    exact lv_idiv C.1 C.2.1 d hz (h r hr o ho p l e s m args below meth c C H locs ls hP hS hl)
theorem v_irem {G : GG} {J : MD} {pc : Nat} {lv : List (Nat × Value)} {st : List Value} {μ : Mem} {R : Type} {x : Option R} {k : R → Option Oc} {a b : Int32} (d : decode J.2.1 pc = .ok (.irem, 1)) {n : Nat} (hn : pc + 1 = n) (h : V G J n lv (.int (a - a / b * b) :: st) μ x k) : V G J pc lv (.int b :: .int a :: st) μ (ck (decide (¬ b = 0)) x) k := by
  subst hn
  intro r hr o ho p l e s m args below meth c C H locs ls hP hS hl
  by_cases hz : b = 0
  · rw [ck, if_neg (by simp [hz])] at hr; cases hr
  · rw [ck, if_pos (by simp [hz])] at hr
    exact lv_irem C.1 C.2.1 d hz (h r hr o ho p l e s m args below meth c C H locs ls hP hS hl)
theorem v_ldiv {G : GG} {J : MD} {pc : Nat} {lv : List (Nat × Value)} {st : List Value} {μ : Mem} {R : Type} {x : Option R} {k : R → Option Oc} {a b : Int64} (d : decode J.2.1 pc = .ok (.ldiv, 1)) {n : Nat} (hn : pc + 1 = n) (h : V G J n lv (.long (a / b) :: st) μ x k) : V G J pc lv (.long b :: .long a :: st) μ (ck (decide (¬ b = 0)) x) k := by
  subst hn
  intro r hr o ho p l e s m args below meth c C H locs ls hP hS hl
  by_cases hz : b = 0
  · rw [ck, if_neg (by simp [hz])] at hr; cases hr
  · rw [ck, if_pos (by simp [hz])] at hr
    exact lv_ldiv C.1 C.2.1 d hz (h r hr o ho p l e s m args below meth c C H locs ls hP hS hl)
theorem v_lrem {G : GG} {J : MD} {pc : Nat} {lv : List (Nat × Value)} {st : List Value} {μ : Mem} {R : Type} {x : Option R} {k : R → Option Oc} {a b : Int64} (d : decode J.2.1 pc = .ok (.lrem, 1)) {n : Nat} (hn : pc + 1 = n) (h : V G J n lv (.long (a - a / b * b) :: st) μ x k) : V G J pc lv (.long b :: .long a :: st) μ (ck (decide (¬ b = 0)) x) k := by
  subst hn
  intro r hr o ho p l e s m args below meth c C H locs ls hP hS hl
  by_cases hz : b = 0
  · rw [ck, if_neg (by simp [hz])] at hr; cases hr
  · rw [ck, if_pos (by simp [hz])] at hr
    exact lv_lrem C.1 C.2.1 d hz (h r hr o ho p l e s m args below meth c C H locs ls hP hS hl)
theorem v_if_eq {G : GG} {J : MD} {pc : Nat} {lv : List (Nat × Value)} {st : List Value} {μ : Mem} {R : Type} {k : R → Option Oc} {A B : Option R} {a : Int32} {off : Int} {tgt n : Nat} (d : decode J.2.1 pc = .ok (.ifCond .eq off, 3)) (ht : (pc : Int) + off = (tgt : Int)) (hn : pc + 3 = n) (h1 : V G J tgt lv st μ A k) (h2 : V G J n lv st μ B k) : V G J pc lv (.int a :: st) μ (if a = 0 then A else B) k := by
  subst hn
  intro r hr o ho p l e s m args below meth c C H locs ls hP hS hl
  exact lv_if_eq C.1 C.2.1 d ht (fun q => by rw [if_pos q] at hr; exact h1 r hr o ho p l e s m args below meth c C H locs ls hP hS hl) (fun q => by rw [if_neg q] at hr; exact h2 r hr o ho p l e s m args below meth c C H locs ls hP hS hl)
theorem v_icmp_eq {G : GG} {J : MD} {pc : Nat} {lv : List (Nat × Value)} {st : List Value} {μ : Mem} {R : Type} {k : R → Option Oc} {A B : Option R} {a b : Int32} {off : Int} {tgt n : Nat} (d : decode J.2.1 pc = .ok (.if_icmp .eq off, 3)) (ht : (pc : Int) + off = (tgt : Int)) (hn : pc + 3 = n) (h1 : V G J tgt lv st μ A k) (h2 : V G J n lv st μ B k) : V G J pc lv (.int b :: .int a :: st) μ (if a = b then A else B) k := by
  subst hn
  intro r hr o ho p l e s m args below meth c C H locs ls hP hS hl
  exact lv_icmp_eq C.1 C.2.1 d ht (fun q => by rw [if_pos q] at hr; exact h1 r hr o ho p l e s m args below meth c C H locs ls hP hS hl) (fun q => by rw [if_neg q] at hr; exact h2 r hr o ho p l e s m args below meth c C H locs ls hP hS hl)
theorem v_if_ne {G : GG} {J : MD} {pc : Nat} {lv : List (Nat × Value)} {st : List Value} {μ : Mem} {R : Type} {k : R → Option Oc} {A B : Option R} {a : Int32} {off : Int} {tgt n : Nat} (d : decode J.2.1 pc = .ok (.ifCond .ne off, 3)) (ht : (pc : Int) + off = (tgt : Int)) (hn : pc + 3 = n) (h1 : V G J n lv st μ A k) (h2 : V G J tgt lv st μ B k) : V G J pc lv (.int a :: st) μ (if a = 0 then A else B) k := by
  subst hn
  intro r hr o ho p l e s m args below meth c C H locs ls hP hS hl
  exact lv_if_ne C.1 C.2.1 d ht (fun q => by rw [if_neg q] at hr; exact h2 r hr o ho p l e s m args below meth c C H locs ls hP hS hl) (fun q => by rw [if_pos q] at hr; exact h1 r hr o ho p l e s m args below meth c C H locs ls hP hS hl)
theorem v_icmp_ne {G : GG} {J : MD} {pc : Nat} {lv : List (Nat × Value)} {st : List Value} {μ : Mem} {R : Type} {k : R → Option Oc} {A B : Option R} {a b : Int32} {off : Int} {tgt n : Nat} (d : decode J.2.1 pc = .ok (.if_icmp .ne off, 3)) (ht : (pc : Int) + off = (tgt : Int)) (hn : pc + 3 = n) (h1 : V G J n lv st μ A k) (h2 : V G J tgt lv st μ B k) : V G J pc lv (.int b :: .int a :: st) μ (if a = b then A else B) k := by
  subst hn
  intro r hr o ho p l e s m args below meth c C H locs ls hP hS hl
  exact lv_icmp_ne C.1 C.2.1 d ht (fun q => by rw [if_neg q] at hr; exact h2 r hr o ho p l e s m args below meth c C H locs ls hP hS hl) (fun q => by rw [if_pos q] at hr; exact h1 r hr o ho p l e s m args below meth c C H locs ls hP hS hl)
theorem v_if_lt {G : GG} {J : MD} {pc : Nat} {lv : List (Nat × Value)} {st : List Value} {μ : Mem} {R : Type} {k : R → Option Oc} {A B : Option R} {a : Int32} {off : Int} {tgt n : Nat} (d : decode J.2.1 pc = .ok (.ifCond .lt off, 3)) (ht : (pc : Int) + off = (tgt : Int)) (hn : pc + 3 = n) (h1 : V G J tgt lv st μ A k) (h2 : V G J n lv st μ B k) : V G J pc lv (.int a :: st) μ (if a < 0 then A else B) k := by
  subst hn
  intro r hr o ho p l e s m args below meth c C H locs ls hP hS hl
  exact lv_if_lt C.1 C.2.1 d ht (fun q => by rw [if_pos q] at hr; exact h1 r hr o ho p l e s m args below meth c C H locs ls hP hS hl) (fun q => by rw [if_neg q] at hr; exact h2 r hr o ho p l e s m args below meth c C H locs ls hP hS hl)
theorem v_icmp_lt {G : GG} {J : MD} {pc : Nat} {lv : List (Nat × Value)} {st : List Value} {μ : Mem} {R : Type} {k : R → Option Oc} {A B : Option R} {a b : Int32} {off : Int} {tgt n : Nat} (d : decode J.2.1 pc = .ok (.if_icmp .lt off, 3)) (ht : (pc : Int) + off = (tgt : Int)) (hn : pc + 3 = n) (h1 : V G J tgt lv st μ A k) (h2 : V G J n lv st μ B k) : V G J pc lv (.int b :: .int a :: st) μ (if a < b then A else B) k := by
  subst hn
  intro r hr o ho p l e s m args below meth c C H locs ls hP hS hl
  exact lv_icmp_lt C.1 C.2.1 d ht (fun q => by rw [if_pos q] at hr; exact h1 r hr o ho p l e s m args below meth c C H locs ls hP hS hl) (fun q => by rw [if_neg q] at hr; exact h2 r hr o ho p l e s m args below meth c C H locs ls hP hS hl)
theorem v_if_ge {G : GG} {J : MD} {pc : Nat} {lv : List (Nat × Value)} {st : List Value} {μ : Mem} {R : Type} {k : R → Option Oc} {A B : Option R} {a : Int32} {off : Int} {tgt n : Nat} (d : decode J.2.1 pc = .ok (.ifCond .ge off, 3)) (ht : (pc : Int) + off = (tgt : Int)) (hn : pc + 3 = n) (h1 : V G J tgt lv st μ A k) (h2 : V G J n lv st μ B k) : V G J pc lv (.int a :: st) μ (if 0 ≤ a then A else B) k := by
  subst hn
  intro r hr o ho p l e s m args below meth c C H locs ls hP hS hl
  exact lv_if_ge C.1 C.2.1 d ht (fun q => by rw [if_pos q] at hr; exact h1 r hr o ho p l e s m args below meth c C H locs ls hP hS hl) (fun q => by rw [if_neg q] at hr; exact h2 r hr o ho p l e s m args below meth c C H locs ls hP hS hl)
theorem v_icmp_ge {G : GG} {J : MD} {pc : Nat} {lv : List (Nat × Value)} {st : List Value} {μ : Mem} {R : Type} {k : R → Option Oc} {A B : Option R} {a b : Int32} {off : Int} {tgt n : Nat} (d : decode J.2.1 pc = .ok (.if_icmp .ge off, 3)) (ht : (pc : Int) + off = (tgt : Int)) (hn : pc + 3 = n) (h1 : V G J tgt lv st μ A k) (h2 : V G J n lv st μ B k) : V G J pc lv (.int b :: .int a :: st) μ (if b ≤ a then A else B) k := by
  subst hn
  intro r hr o ho p l e s m args below meth c C H locs ls hP hS hl
  exact lv_icmp_ge C.1 C.2.1 d ht (fun q => by rw [if_pos q] at hr; exact h1 r hr o ho p l e s m args below meth c C H locs ls hP hS hl) (fun q => by rw [if_neg q] at hr; exact h2 r hr o ho p l e s m args below meth c C H locs ls hP hS hl)
theorem v_if_gt {G : GG} {J : MD} {pc : Nat} {lv : List (Nat × Value)} {st : List Value} {μ : Mem} {R : Type} {k : R → Option Oc} {A B : Option R} {a : Int32} {off : Int} {tgt n : Nat} (d : decode J.2.1 pc = .ok (.ifCond .gt off, 3)) (ht : (pc : Int) + off = (tgt : Int)) (hn : pc + 3 = n) (h1 : V G J tgt lv st μ A k) (h2 : V G J n lv st μ B k) : V G J pc lv (.int a :: st) μ (if 0 < a then A else B) k := by
  subst hn
  intro r hr o ho p l e s m args below meth c C H locs ls hP hS hl
  exact lv_if_gt C.1 C.2.1 d ht (fun q => by rw [if_pos q] at hr; exact h1 r hr o ho p l e s m args below meth c C H locs ls hP hS hl) (fun q => by rw [if_neg q] at hr; exact h2 r hr o ho p l e s m args below meth c C H locs ls hP hS hl)
theorem v_icmp_gt {G : GG} {J : MD} {pc : Nat} {lv : List (Nat × Value)} {st : List Value} {μ : Mem} {R : Type} {k : R → Option Oc} {A B : Option R} {a b : Int32} {off : Int} {tgt n : Nat} (d : decode J.2.1 pc = .ok (.if_icmp .gt off, 3)) (ht : (pc : Int) + off = (tgt : Int)) (hn : pc + 3 = n) (h1 : V G J tgt lv st μ A k) (h2 : V G J n lv st μ B k) : V G J pc lv (.int b :: .int a :: st) μ (if b < a then A else B) k := by
  subst hn
  intro r hr o ho p l e s m args below meth c C H locs ls hP hS hl
  exact lv_icmp_gt C.1 C.2.1 d ht (fun q => by rw [if_pos q] at hr; exact h1 r hr o ho p l e s m args below meth c C H locs ls hP hS hl) (fun q => by rw [if_neg q] at hr; exact h2 r hr o ho p l e s m args below meth c C H locs ls hP hS hl)
theorem v_if_le {G : GG} {J : MD} {pc : Nat} {lv : List (Nat × Value)} {st : List Value} {μ : Mem} {R : Type} {k : R → Option Oc} {A B : Option R} {a : Int32} {off : Int} {tgt n : Nat} (d : decode J.2.1 pc = .ok (.ifCond .le off, 3)) (ht : (pc : Int) + off = (tgt : Int)) (hn : pc + 3 = n) (h1 : V G J tgt lv st μ A k) (h2 : V G J n lv st μ B k) : V G J pc lv (.int a :: st) μ (if a ≤ 0 then A else B) k := by
  subst hn
  intro r hr o ho p l e s m args below meth c C H locs ls hP hS hl
  exact lv_if_le C.1 C.2.1 d ht (fun q => by rw [if_pos q] at hr; exact h1 r hr o ho p l e s m args below meth c C H locs ls hP hS hl) (fun q => by rw [if_neg q] at hr; exact h2 r hr o ho p l e s m args below meth c C H locs ls hP hS hl)
theorem v_icmp_le {G : GG} {J : MD} {pc : Nat} {lv : List (Nat × Value)} {st : List Value} {μ : Mem} {R : Type} {k : R → Option Oc} {A B : Option R} {a b : Int32} {off : Int} {tgt n : Nat} (d : decode J.2.1 pc = .ok (.if_icmp .le off, 3)) (ht : (pc : Int) + off = (tgt : Int)) (hn : pc + 3 = n) (h1 : V G J tgt lv st μ A k) (h2 : V G J n lv st μ B k) : V G J pc lv (.int b :: .int a :: st) μ (if a ≤ b then A else B) k := by
  subst hn
  intro r hr o ho p l e s m args below meth c C H locs ls hP hS hl
  exact lv_icmp_le C.1 C.2.1 d ht (fun q => by rw [if_pos q] at hr; exact h1 r hr o ho p l e s m args below meth c C H locs ls hP hS hl) (fun q => by rw [if_neg q] at hr; exact h2 r hr o ho p l e s m args below meth c C H locs ls hP hS hl)
theorem v_goto {G : GG} {J : MD} {pc : Nat} {lv : List (Nat × Value)} {st : List Value} {μ : Mem} {R : Type} {x : Option R} {k : R → Option Oc} {off : Int} {tgt : Nat} (d : decode J.2.1 pc = .ok (.goto off, 3)) (ht : (pc : Int) + off = (tgt : Int)) (h : V G J tgt lv st μ x k) : V G J pc lv st μ x k := by
  intro r hr o ho p l e s m args below meth c C H locs ls hP hS hl
  exact lv_goto C.1 C.2.1 d ht (h r hr o ho p l e s m args below meth c C H locs ls hP hS hl)
theorem v_swif {G : GG} {J : MD} {pc : Nat} {lv : List (Nat × Value)} {st : List Value} {μ : Mem} {R : Type} {k : R → Option Oc} {A B : Option R} {z a : Int32} (h1 : V G J pc lv (.int a :: st) μ A k) (h2 : ¬ z = a → V G J pc lv (.int z :: st) μ B k) : V G J pc lv (.int z :: st) μ (if z = a then A else B) k := by
  by_cases h : z = a
  · subst h; rw [if_pos rfl]; exact h1
  · rw [if_neg h]; exact h2 h
theorem v_tblI {G : GG} {J : MD} {pc : Nat} {lv : List (Nat × Value)} {st : List Value} {μ : Mem} {R : Type} {x : Option R} {k : R → Option Oc} {dflt lo hi : Int} {offs : Array Int} {len : Nat} {a : Int32} {off : Int} {tgt : Nat} (d : decode J.2.1 pc = .ok (.tableswitch dflt lo hi offs, len)) (h1 : ¬ a.toInt < lo) (h2 : ¬ hi < a.toInt) (hof : offs[(a.toInt - lo).toNat]? = some off) (ht : (pc : Int) + off = (tgt : Int)) (h : V G J tgt lv st μ x k) : V G J pc lv (.int a :: st) μ x k := by
  intro r hr o ho p l e s m args below meth c C H locs ls hP hS hl
  exact lv_tableIn C.1 C.2.1 d h1 h2 hof ht (h r hr o ho p l e s m args below meth c C H locs ls hP hS hl)
theorem v_tblO {G : GG} {J : MD} {pc : Nat} {lv : List (Nat × Value)} {st : List Value} {μ : Mem} {R : Type} {x : Option R} {k : R → Option Oc} {dflt lo hi : Int} {offs : Array Int} {len : Nat} {a : Int32} {tgt : Nat} (d : decode J.2.1 pc = .ok (.tableswitch dflt lo hi offs, len)) (h1 : a.toInt < lo ∨ hi < a.toInt) (ht : (pc : Int) + dflt = (tgt : Int)) (h : V G J tgt lv st μ x k) : V G J pc lv (.int a :: st) μ x k := by
  intro r hr o ho p l e s m args below meth c C H locs ls hP hS hl
  exact lv_tableOut C.1 C.2.1 d h1 ht (h r hr o ho p l e s m args below meth c C H locs ls hP hS hl)
theorem v_lkp {G : GG} {J : MD} {pc : Nat} {lv : List (Nat × Value)} {st : List Value} {μ : Mem} {R : Type} {x : Option R} {k : R → Option Oc} {dflt : Int} {ps : Array (Int × Int)} {len : Nat} {a : Int32} {off : Int} {tgt : Nat} (d : decode J.2.1 pc = .ok (.lookupswitch dflt ps, len)) (hp : (ps.toList.zip (ps.toList.drop 1)).all (fun (a, next) => a.1 < next.1) = true) (hof : Op.lookupswitch.offset ps.toList dflt a.toInt = off) (ht : (pc : Int) + off = (tgt : Int)) (h : V G J tgt lv st μ x k) : V G J pc lv (.int a :: st) μ x k := by
  intro r hr o ho p l e s m args below meth c C H locs ls hP hS hl
  exact lv_lookup C.1 C.2.1 d hp hof ht (h r hr o ho p l e s m args below meth c C H locs ls hP hS hl)
theorem v_getI {G : GG} {J : MD} {pc : Nat} {lv : List (Nat × Value)} {st : List Value} {μ : Mem} {R : Type} {x : Option R} {k : R → Option Oc} {q ci i idx : Nat} {fs : List (Option Nat)} (d : decode J.2.1 pc = .ok (.getfield idx, 3)) (hc : sh[q]? = some (.inr (ci, fs))) (hf : fs[i]? = some none) (F : gFld J.1 idx ci i) {n : Nat} (hn : pc + 3 = n) (h : V G J n lv (.int (μ q i) :: st) μ x k) : V G J pc lv (.ref (G.2.1 q) :: st) μ x k := by
  subst hn
  intro r hr o ho p l e s m args below meth c C H locs ls hP hS hl
  obtain ⟨hx, hb, hml, hre, hown, hts, hlk, hK, hDD, hST, hNW⟩ := id C
  obtain ⟨Cn, T, N, ref, h1, h2, h3, h4, h5⟩ := F
  exact va_get (D := G.1) (ci := ci) (v := .int (μ q i)) (C := Cn) (T := T) (N := N) hx hb hts h3 hown hK hP q (gW_at hc) h1 i h2 (hts _ h4) (h5 s) (gF_I hf) d (h r hr o ho p l e s m args below meth c C H locs ls hP hS hl)
theorem v_getR {G : GG} {J : MD} {pc : Nat} {lv : List (Nat × Value)} {st : List Value} {μ : Mem} {R : Type} {x : Option R} {k : R → Option Oc} {q ci i idx q2 : Nat} {fs : List (Option Nat)} (d : decode J.2.1 pc = .ok (.getfield idx, 3)) (hc : sh[q]? = some (.inr (ci, fs))) (hf : fs[i]? = some (some q2)) (F : gFld J.1 idx ci i) {n : Nat} (hn : pc + 3 = n) (h : V G J n lv (.ref (G.2.1 q2) :: st) μ x k) : V G J pc lv (.ref (G.2.1 q) :: st) μ x k := by
  subst hn
  intro r hr o ho p l e s m args below meth c C H locs ls hP hS hl
  obtain ⟨hx, hb, hml, hre, hown, hts, hlk, hK, hDD, hST, hNW⟩ := id C
  obtain ⟨Cn, T, N, ref, h1, h2, h3, h4, h5⟩ := F
  exact va_get (D := G.1) (ci := ci) (v := .ref (G.2.1 q2)) (C := Cn) (T := T) (N := N) hx hb hts h3 hown hK hP q (gW_at hc) h1 i h2 (hts _ h4) (h5 s) (gF_R hf) d (h r hr o ho p l e s m args below meth c C H locs ls hP hS hl)
theorem v_put {G : GG} {J : MD} {pc : Nat} {lv : List (Nat × Value)} {st : List Value} {μ : Mem} {R : Type} {x : Option R} {k : R → Option Oc} {q ci i idx : Nat} {fs : List (Option Nat)} {ty : FieldType} {v : Int32} (d : decode J.2.1 pc = .ok (.putfield idx, 3)) (hc : sh[q]? = some (.inr (ci, fs))) (hf : fs[i]? = some none) (F : gPut J.1 idx ci i ty) (hnw : narrow ty (.int v) = .int v) (hft : fits ty (.int v) = true) {n : Nat} (hn : pc + 3 = n) (h : V G J n lv st (up μ q i v) x k) : V G J pc lv (.int v :: .ref (G.2.1 q) :: st) μ x k := by
  subst hn
  intro r hr o ho p l e s m args below meth c C H locs ls hP hS hl
  obtain ⟨hx, hb, hml, hre, hown, hts, hlk, hK, hDD, hST, hNW⟩ := id C
  obtain ⟨Cn, T, N, ref, ty0, h1, h2, h3, h4, h5, h6, h7, h8, h9⟩ := F
  refine va_put (D := G.1) (ci := ci) (v := .int v) (ty := ty) (C := Cn) (T := T) (N := N) hx hb hts h3 ty0 h6 h7 hown hK hP (gD_of hDD) hS q (gW_at hc) h1 i h2 (hts _ h4) (h5 s) h8 h9 hnw hft (by show i < (gF G μ q fs).length; rw [gF_len]; exact (List.getElem?_eq_some_iff.mp hf).1) d (fun H1 locs1 hP1 _ hS1 => ?_)
  refine h r hr o ho p l e s m args below meth c C H1 locs1 ls ?_ hS1 hl
  rw [gW_upF hc hf]
  exact hP1
theorem v_iald {G : GG} {J : MD} {pc : Nat} {lv : List (Nat × Value)} {st : List Value} {μ : Mem} {R : Type} {x : Option R} {k : R → Option Oc} {q N : Nat} {i : Int32} (d : decode J.2.1 pc = .ok (.iaload, 1)) (hc : isA q N) {n : Nat} (hn : pc + 1 = n) (h : V G J n lv (.int (μ q i.toNatClampNeg) :: st) μ x k) : V G J pc lv (.int i :: .ref (G.2.1 q) :: st) μ (ck (inb i N) x) k := by
  subst hn
  intro r hr o ho p l e s m args below meth c C H locs ls hP hS hl
  obtain ⟨hx, hb, hml, hre, hown, hts, hlk, hK, hDD, hST, hNW⟩ := id C
  by_cases hi : inb i N = true
  · rw [ck, if_pos hi] at hr
    exact va_iald hx hb hK hP q 0 (gW_at hc) rfl (inb_vp hi) d (h r hr o ho p l e s m args below meth c C H locs ls hP hS hl)
  · rw [ck, if_neg hi] at hr; cases hr
theorem v_iast {G : GG} {J : MD} {pc : Nat} {lv : List (Nat × Value)} {st : List Value} {μ : Mem} {R : Type} {x : Option R} {k : R → Option Oc} {q N : Nat} {i v : Int32} (d : decode J.2.1 pc = .ok (.iastore, 1)) (hc : isA q N) {n : Nat} (hn : pc + 1 = n) (h : V G J n lv st (up μ q i.toNatClampNeg v) x k) : V G J pc lv (.int v :: .int i :: .ref (G.2.1 q) :: st) μ (ck (inb i N) x) k := by
  subst hn
  intro r hr o ho p l e s m args below meth c C H locs ls hP hS hl
  obtain ⟨hx, hb, hml, hre, hown, hts, hlk, hK, hDD, hST, hNW⟩ := id C
  by_cases hi : inb i N = true
  · rw [ck, if_pos hi] at hr
    refine va_iast hx hb hK hP (gD_of hDD) hS q 0 (gW_at hc) rfl (inb_vp hi) d (fun H1 locs1 hP1 _ hS1 => ?_)
    refine h r hr o ho p l e s m args below meth c C H1 locs1 ls ?_ hS1 hl
    rw [gW_upA hc]
    exact hP1
  · rw [ck, if_neg hi] at hr; cases hr
theorem v_alen {G : GG} {J : MD} {pc : Nat} {lv : List (Nat × Value)} {st : List Value} {μ : Mem} {R : Type} {x : Option R} {k : R → Option Oc} {q N : Nat} {v : Int32} (d : decode J.2.1 pc = .ok (.arraylength, 1)) (hc : isA q N) (hv : Int32.ofNat N = v) {n : Nat} (hn : pc + 1 = n) (h : V G J n lv (.int v :: st) μ x k) : V G J pc lv (.ref (G.2.1 q) :: st) μ x k := by
  subst hn
  subst hv
  intro r hr o ho p l e s m args below meth c C H locs ls hP hS hl
  obtain ⟨hx, hb, hml, hre, hown, hts, hlk, hK, hDD, hST, hNW⟩ := id C
  exact va_alen hx hb hK hP q 0 (gW_at hc) rfl rfl d (h r hr o ho p l e s m args below meth c C H locs ls hP hS hl)
theorem shc_ok {i : Int32} (h : inb i 4 = true) : isO (shc i) 2 ∧ ([35, 37, 39, 41] : List Nat)[i.toNatClampNeg]? = some (shc i) := by
  have hlt : i.toNatClampNeg < 4 := Nat.not_le.mp fun q => inb_vp h (Or.inr q)
  unfold shc
  generalize i.toNatClampNeg = a at hlt
  rcases (show a = 0 ∨ a = 1 ∨ a = 2 ∨ a = 3 by omega) with rfl | rfl | rfl | rfl <;> exact ⟨rfl, rfl⟩
theorem v_aald {G : GG} {J : MD} {pc : Nat} {lv : List (Nat × Value)} {st : List Value} {μ : Mem} {R : Type} {k : R → Option Oc} {i : Int32} {f : Nat → Option R} (d : decode J.2.1 pc = .ok (.aaload, 1)) {n : Nat} (hn : pc + 1 = n) (h : ∀ q, isO q 2 → V G J n lv (.ref (G.2.1 q) :: st) μ (f q) k) : V G J pc lv (.int i :: .ref (G.2.1 1) :: st) μ (ck (inb i 4) (lt (shc i) f)) k := by
  subst hn
  intro r hr o ho p l e s m args below meth c C H locs ls hP hS hl
  obtain ⟨hx, hb, hml, hre, hown, hts, hlk, hK, hDD, hST, hNW⟩ := id C
  by_cases hi : inb i 4 = true
  · rw [ck, if_pos hi] at hr
    obtain ⟨e1, e2⟩ := shc_ok hi
    refine va_aldq hx hb hK hP 1 1 (gW_at (x := .inl (.inr [35, 37, 39, 41])) rfl) rfl (inb_vp hi) d ?_
    have hz := h (shc i) e1 r hr o ho p l e s m args below meth c C H locs ls hP hS hl
    have ez : va_rf ((([35, 37, 39, 41] : List Nat)[i.toNatClampNeg]?).map G.2.1) = .ref (G.2.1 (shc i)) := by rw [e2]; rfl
    show W p l e J.2.2.2.2 s m args below meth c H locs 0 0 _ (F0 m (pc + 1) ls (va_rf ((([35, 37, 39, 41] : List Nat)[i.toNatClampNeg]?).map G.2.1) :: st))
    rw [ez]
    exact hz
  · rw [ck, if_neg hi] at hr; cases hr
theorem v_gets {G : GG} {J : MD} {pc : Nat} {lv : List (Nat × Value)} {st : List Value} {μ : Mem} {R : Type} {x : Option R} {k : R → Option Oc} (j : Nat) {idx : Nat} (d : decode J.2.1 pc = .ok (.getstatic idx, 3)) (hj : j < 3) (hm : (J.1, idx, j) ∈ nsts) {n : Nat} (hn : pc + 3 = n) (h : V G J n lv (.ref (G.2.2.2.2.2 j) :: st) μ x k) : V G J pc lv st μ x k := by
  subst hn
  intro r hr o ho p l e s m args below meth c C H locs ls hP hS hl
  obtain ⟨hx, hb, hml, hre, hown, hts, hlk, hK, hDD, hST, hNW⟩ := id C
  exact va_getsN hx hb (hST j hj).1 hS hown (va_Nw.use rfl (hNW _ hm)) (fun _ h => h) d (h r hr o ho p l e s m args below meth c C H locs ls hP hS hl)
theorem v_sald {G : GG} {J : MD} {pc : Nat} {lv : List (Nat × Value)} {st : List Value} {μ : Mem} {R : Type} {x : Option R} {k : R → Option Oc} {j : Nat} {i : Int32} (d : decode J.2.1 pc = .ok (.iaload, 1)) (hj : j < 3) {n : Nat} (hn : pc + 1 = n) (h : V G J n lv (.int (stv j i.toNatClampNeg) :: st) μ x k) : V G J pc lv (.int i :: .ref (G.2.2.2.2.2 j) :: st) μ (ck (inb i 5) x) k := by
  subst hn
  intro r hr o ho p l e s m args below meth c C H locs ls hP hS hl
  obtain ⟨hx, hb, hml, hre, hown, hts, hlk, hK, hDD, hST, hNW⟩ := id C
  by_cases hi : inb i 5 = true
  · rw [ck, if_pos hi] at hr
    exact va_ti hx hb (hST j hj).2 hS (inb_vp hi) rfl d (h r hr o ho p l e s m args below meth c C H locs ls hP hS hl)
  · rw [ck, if_neg hi] at hr; cases hr
def cpk (sp dp n : Int32) (n0 n1 : Nat) : Bool := decide (¬ sp < 0 ∧ ¬ dp < 0 ∧ ¬ n < 0 ∧ sp.toNatClampNeg + n.toNatClampNeg ≤ n0 ∧ dp.toNatClampNeg + n.toNatClampNeg ≤ n1)
theorem v_acopy {G : GG} {J : MD} {pc : Nat} {lv : List (Nat × Value)} {st : List Value} {μ : Mem} {R : Type} {x : Option R} {k : R → Option Oc} {q0 q1 n0 n1 idx : Nat} {sp dp z : Int32} (d : decode J.2.1 pc = .ok (.invokestatic idx, 3)) (hl1 : Cond.methodLink J.1 idx arraycopyName ∈ TB) (hl2 : Cond.native arraycopyName ∈ TB) (hl3 : Cond.static arraycopyName ∈ TB) (hl4 : Cond.initialized "java/lang/System" ∈ TB) (hc0 : isA q0 n0) (hc1 : isA q1 n1) (hfr : 1 ≤ J.2.2.2.2.frames) (hlo : (st.map fun v => v.category).sum + (nativeFrameWords "java/lang/System" "arraycopy" 5 + 11) ≤ J.2.2.2.2.locals) {n : Nat} (hn : pc + 3 = n) (h : V G J n lv st (cpm μ q0 sp.toNatClampNeg q1 dp.toNatClampNeg z.toNatClampNeg) x k) : V G J pc lv (.int z :: .int dp :: .ref (G.2.1 q1) :: .int sp :: .ref (G.2.1 q0) :: st) μ (ck (cpk sp dp z n0 n1) x) k := by
  subst hn
  intro r hr o ho p l e s m args below meth c C H locs ls hP hS hl
  obtain ⟨hx, hb, hml, hre, hown, hts, hlk, hK, hDD, hST, hNW⟩ := id C
  by_cases hi : cpk sp dp z n0 n1 = true
  · rw [ck, if_pos hi] at hr
    have hi2 := hi
    rw [cpk, decide_eq_true_eq] at hi2
    obtain ⟨g1, g2, g3, g4, g5⟩ := hi2
    refine va_copyi hx hb (hml.trans hl.1.symm) hown (hts _ hl1) (hts _ hl2) (hts _ hl3) (hts _ hl4) hK hP (gD_of hDD) hS q0 q1 0 0 (gW_at hc0) (gW_at hc1) rfl rfl rfl g1 g2 g3 g4 g5 (fun _ _ => rfl) hfr hlo d (fun H1 locs1 hP1 _ hS1 => ?_)
    refine h r hr o ho p l e s m args below meth c C H1 locs1 ls ?_ hS1 hl
    rw [gW_cpm hc1]
    exact hP1
  · rw [ck, if_neg hi] at hr; cases hr
theorem w_call {p : Program} {l : Launch} {e : Env} {R : Room} {s : State} {m : MethodId} {args : Array Value} {below : List Frame} {meth : Method} {c : Code} {H : Heap} {locs : List Loc} {cells slots : Nat} {Q : State → Prop} {G : GG} {o : Oc} {pc : Nat} {ls : Array Slot} {st0 rest : List Value} {a : Array Value}
    (hr : va_Run p l e R s m args below meth c H locs cells slots 0 0 (F0 m pc ls st0) rest (gPost G o a) (gA G)) (hS : va_S (gA G) s.heap H locs)
    (kk : ∀ (H1 : Heap) (locs1 : List Loc), va_P G.1 vwCl (gW G o.2) H1 → va_S (gA G) s.heap H1 locs1 → W p l e R s m args below meth c H1 locs1 cells slots Q (F0 m (pc + 3) ls (o.1.toList ++ rest))) : W p l e R s m args below meth c H locs cells slots Q (F0 m pc ls st0) := by
  intro T hT X
  obtain ⟨v, st₀, t, T', L, h0, X', hL, e1, e2, ⟨hv, hp, hz, hk⟩, st⟩ := hr T hT X
  cases hv
  rw [h0] at hz hk
  obtain ⟨t2, a1, b1⟩ := kk T'.heap (locs ++ L) (by rw [e1]; exact hp)
    ⟨Nat.le_trans hS.1 (by rw [e1]; exact hz), fun q h1 h2 => by rw [e1, hk q (Nat.lt_of_lt_of_le h1 hS.1) h2]; exact hS.2.1 q h1 h2, fun q hq => by
      rcases List.mem_append.mp hq with h | h
      · exact hS.2.2 q h
      · exact hL q h⟩ T' rfl X'
  exact ⟨t2, st t2 a1, b1⟩
theorem v_callV {G : GG} {J : MD} {pc : Nat} {lv : List (Nat × Value)} {st : List Value} {μ : Mem} {R : Type} {k : R → Option Oc} {T : Type} {fx : Option T} {f : T → Option R} (toO : T → Oc) {J2 : MD} {y : MethodName} {idx ci q na : Nat} {fs : List (Option Nat)} {st0 : List Value} (As : List Value) (d : decode J.2.1 pc = .ok (.invokevirtual idx, 3)) (hM : ∀ t, fx = some t → GM G J2 y (.ref (G.2.1 q) :: As) μ (toO t)) (Cal : gCal J2 y ci na) (Lk : Cond.methodLink J.1 idx y ∈ TB) (hc : sh[q]? = some (.inr (ci, fs))) (hna : As.length = na) (hst : st0 = As.reverse ++ .ref (G.2.1 q) :: st) (hW : (st.map fun v => v.category).sum ≤ 8)
    (hR : J2.2.2.2.2.frames + 1 ≤ J.2.2.2.2.frames ∧ 8 + (J2.2.2.1 + 11) + J2.2.2.2.2.locals ≤ J.2.2.2.2.locals) (h : ∀ t, V G J (pc + 3) lv ((toO t).1.toList ++ st) (toO t).2 (f t) k) : V G J pc lv st0 μ (fx.bind f) k := by
  intro r hr o ho p l e s m args below meth c C H locs ls hP hS hl
  obtain ⟨hx, hb, hml, hre, hown, hts, hlk, hK, hDD, hST, hNW⟩ := id C
  cases hfx : fx with
  | none => rw [hfx] at hr; cases hr
  | some t =>
    rw [hfx] at hr
    obtain ⟨⟨T0, N0, c1⟩, c2, c3, c4, c5, c6, c7, c8, c9, c10⟩ := Cal
    have hT : GoodIn TB (wsV J.1 idx y.cls y (gWs J2 y)) := goodIn_app (fun w hw => by
      simp only [List.mem_cons, List.not_mem_nil, or_false] at hw
      rcases hw with rfl | rfl | rfl | rfl
      · exact TB_good _ Lk
      · exact TB_good _ c3
      · exact TB_good _ c4
      · exact TB_good _ c5) (gWs_good c2)
    have run := va_runV (As := As) (rest := st) (g := F0 m pc ls st0) (locs := locs) (cells := 0) (slots := 0) (e := e) (below := below) (meth := meth) ⟨hx, hb, hml, hown, hts⟩ (hM t hfx l) (cwV (R := J.2.2.2.2) na hts hT rfl c6 c7 ⟨rfl, c8, c9, c10⟩ hR) ⟨gBlind, va_recv hK hP c1 (gW_at hc), fun U hU hWm => ⟨rfl, by rw [hU]; exact hP, by rw [hU]; exact gOK_to C.2.2.2.2.2.2.2 hWm hS⟩⟩ rfl hna hl.1 hst (lv_room hW) d ⟨Nat.zero_le _, Nat.zero_le _⟩
    exact w_call run hS (fun H1 locs1 hP1 hS1 => h t r hr o ho p l e s m args below meth c C H1 locs1 ls hP1 hS1 hl)
theorem v_callS {G : GG} {J : MD} {pc : Nat} {lv : List (Nat × Value)} {st : List Value} {μ : Mem} {R : Type} {k : R → Option Oc} {T : Type} {fx : Option T} {f : T → Option R} (toO : T → Oc) {J2 : MD} {y : MethodName} {idx na : Nat} {st0 : List Value} (As : List Value) (d : decode J.2.1 pc = .ok (.invokestatic idx, 3)) (hM : ∀ t, fx = some t → GM G J2 y As μ (toO t)) (Cal : gCalS J2 y na) (Lk : Cond.methodLink J.1 idx y ∈ TB) (hna : As.length = na) (hst : st0 = As.reverse ++ st) (hW : (st.map fun v => v.category).sum ≤ 8)
    (hR : J2.2.2.2.2.frames + 1 ≤ J.2.2.2.2.frames ∧ 8 + (J2.2.2.1 + 11) + J2.2.2.2.2.locals ≤ J.2.2.2.2.locals) (h : ∀ t, V G J (pc + 3) lv ((toO t).1.toList ++ st) (toO t).2 (f t) k) : V G J pc lv st0 μ (fx.bind f) k := by
  intro r hr o ho p l e s m args below meth c C H locs ls hP hS hl
  obtain ⟨hx, hb, hml, hre, hown, hts, hlk, hK, hDD, hST, hNW⟩ := id C
  cases hfx : fx with
  | none => rw [hfx] at hr; cases hr
  | some t =>
    rw [hfx] at hr
    obtain ⟨c2, c3, c5, c6, c7, c8, c9, c10⟩ := Cal
    have hT : GoodIn TB (va_wsS J.1 idx y (gWs J2 y)) := goodIn_app (fun w hw => by
      simp only [List.mem_cons, List.not_mem_nil, or_false] at hw
      rcases hw with rfl | rfl | rfl
      · exact TB_good _ Lk
      · exact TB_good _ c3
      · exact TB_good _ c5) (gWs_good c2)
    have run := va_runS (As := As) (rest := st) (g := F0 m pc ls st0) (locs := locs) (cells := 0) (slots := 0) (e := e) (below := below) (meth := meth) ⟨hx, hb, hml, hown, hts⟩ (hM t hfx l) (va_cwS (R := J.2.2.2.2) na hts hT rfl c6 c7 ⟨c8, c9, c10⟩ hR) ⟨gBlind, fun U hU hWm => ⟨rfl, by rw [hU]; exact hP, by rw [hU]; exact gOK_to C.2.2.2.2.2.2.2 hWm hS⟩⟩ rfl hna hl.1 hst (lv_room hW) d ⟨Nat.zero_le _, Nat.zero_le _⟩
    exact w_call run hS (fun H1 locs1 hP1 hS1 => h t r hr o ho p l e s m args below meth c C H1 locs1 ls hP1 hS1 hl)
theorem v_cVi {G : GG} {J : MD} {pc : Nat} {lv : List (Nat × Value)} {st : List Value} {μ : Mem} {R : Type} {k : R → Option Oc} {fx : Option (Int32 × Mem)} {f : Int32 → Mem → Option R} {J2 : MD} {y : MethodName} {idx ci q na : Nat} {fs : List (Option Nat)} {st0 : List Value} (As : List Value) (d : decode J.2.1 pc = .ok (.invokevirtual idx, 3)) (hM : ∀ t, fx = some t → GM G J2 y (.ref (G.2.1 q) :: As) μ (oI t)) (Cal : gCal J2 y ci na) (Lk : Cond.methodLink J.1 idx y ∈ TB) (hc : sh[q]? = some (.inr (ci, fs))) (hna : As.length = na) (hst : st0 = As.reverse ++ .ref (G.2.1 q) :: st) (hW : (st.map fun v => v.category).sum ≤ 8) (hR : J2.2.2.2.2.frames + 1 ≤ J.2.2.2.2.frames ∧ 8 + (J2.2.2.1 + 11) + J2.2.2.2.2.locals ≤ J.2.2.2.2.locals) {n : Nat} (hn : pc + 3 = n) (h : ∀ (v : Int32) (ν : Mem), V G J n lv (.int v :: st) ν (f v ν) k) : V G J pc lv st0 μ (b2 fx f) k := by
  subst hn
  exact v_callV oI As d hM Cal Lk hc hna hst hW hR (fun t => h t.1 t.2)
theorem v_cSi {G : GG} {J : MD} {pc : Nat} {lv : List (Nat × Value)} {st : List Value} {μ : Mem} {R : Type} {k : R → Option Oc} {fx : Option (Int32 × Mem)} {f : Int32 → Mem → Option R} {J2 : MD} {y : MethodName} {idx na : Nat} {st0 : List Value} (As : List Value) (d : decode J.2.1 pc = .ok (.invokestatic idx, 3)) (hM : ∀ t, fx = some t → GM G J2 y As μ (oI t)) (Cal : gCalS J2 y na) (Lk : Cond.methodLink J.1 idx y ∈ TB) (hna : As.length = na) (hst : st0 = As.reverse ++ st) (hW : (st.map fun v => v.category).sum ≤ 8) (hR : J2.2.2.2.2.frames + 1 ≤ J.2.2.2.2.frames ∧ 8 + (J2.2.2.1 + 11) + J2.2.2.2.2.locals ≤ J.2.2.2.2.locals) {n : Nat} (hn : pc + 3 = n) (h : ∀ (v : Int32) (ν : Mem), V G J n lv (.int v :: st) ν (f v ν) k) : V G J pc lv st0 μ (b2 fx f) k := by
  subst hn
  exact v_callS oI As d hM Cal Lk hna hst hW hR (fun t => h t.1 t.2)
theorem v_cVl {G : GG} {J : MD} {pc : Nat} {lv : List (Nat × Value)} {st : List Value} {μ : Mem} {R : Type} {k : R → Option Oc} {fx : Option (Int64 × Mem)} {f : Int64 → Mem → Option R} {J2 : MD} {y : MethodName} {idx ci q na : Nat} {fs : List (Option Nat)} {st0 : List Value} (As : List Value) (d : decode J.2.1 pc = .ok (.invokevirtual idx, 3)) (hM : ∀ t, fx = some t → GM G J2 y (.ref (G.2.1 q) :: As) μ (oL t)) (Cal : gCal J2 y ci na) (Lk : Cond.methodLink J.1 idx y ∈ TB) (hc : sh[q]? = some (.inr (ci, fs))) (hna : As.length = na) (hst : st0 = As.reverse ++ .ref (G.2.1 q) :: st) (hW : (st.map fun v => v.category).sum ≤ 8) (hR : J2.2.2.2.2.frames + 1 ≤ J.2.2.2.2.frames ∧ 8 + (J2.2.2.1 + 11) + J2.2.2.2.2.locals ≤ J.2.2.2.2.locals) {n : Nat} (hn : pc + 3 = n) (h : ∀ (v : Int64) (ν : Mem), V G J n lv (.long v :: st) ν (f v ν) k) : V G J pc lv st0 μ (b2 fx f) k := by
  subst hn
  exact v_callV oL As d hM Cal Lk hc hna hst hW hR (fun t => h t.1 t.2)
theorem v_cSl {G : GG} {J : MD} {pc : Nat} {lv : List (Nat × Value)} {st : List Value} {μ : Mem} {R : Type} {k : R → Option Oc} {fx : Option (Int64 × Mem)} {f : Int64 → Mem → Option R} {J2 : MD} {y : MethodName} {idx na : Nat} {st0 : List Value} (As : List Value) (d : decode J.2.1 pc = .ok (.invokestatic idx, 3)) (hM : ∀ t, fx = some t → GM G J2 y As μ (oL t)) (Cal : gCalS J2 y na) (Lk : Cond.methodLink J.1 idx y ∈ TB) (hna : As.length = na) (hst : st0 = As.reverse ++ st) (hW : (st.map fun v => v.category).sum ≤ 8) (hR : J2.2.2.2.2.frames + 1 ≤ J.2.2.2.2.frames ∧ 8 + (J2.2.2.1 + 11) + J2.2.2.2.2.locals ≤ J.2.2.2.2.locals) {n : Nat} (hn : pc + 3 = n) (h : ∀ (v : Int64) (ν : Mem), V G J n lv (.long v :: st) ν (f v ν) k) : V G J pc lv st0 μ (b2 fx f) k := by
  subst hn
  exact v_callS oL As d hM Cal Lk hna hst hW hR (fun t => h t.1 t.2)
theorem v_cVv {G : GG} {J : MD} {pc : Nat} {lv : List (Nat × Value)} {st : List Value} {μ : Mem} {R : Type} {k : R → Option Oc} {fx : Option (Mem)} {f : Mem → Option R} {J2 : MD} {y : MethodName} {idx ci q na : Nat} {fs : List (Option Nat)} {st0 : List Value} (As : List Value) (d : decode J.2.1 pc = .ok (.invokevirtual idx, 3)) (hM : ∀ t, fx = some t → GM G J2 y (.ref (G.2.1 q) :: As) μ (oV t)) (Cal : gCal J2 y ci na) (Lk : Cond.methodLink J.1 idx y ∈ TB) (hc : sh[q]? = some (.inr (ci, fs))) (hna : As.length = na) (hst : st0 = As.reverse ++ .ref (G.2.1 q) :: st) (hW : (st.map fun v => v.category).sum ≤ 8) (hR : J2.2.2.2.2.frames + 1 ≤ J.2.2.2.2.frames ∧ 8 + (J2.2.2.1 + 11) + J2.2.2.2.2.locals ≤ J.2.2.2.2.locals) {n : Nat} (hn : pc + 3 = n) (h : ∀ (ν : Mem), V G J n lv st ν (f ν) k) : V G J pc lv st0 μ (b1 fx f) k := by
  subst hn
  exact v_callV oV As d hM Cal Lk hc hna hst hW hR (fun t => h t)
theorem v_cSv {G : GG} {J : MD} {pc : Nat} {lv : List (Nat × Value)} {st : List Value} {μ : Mem} {R : Type} {k : R → Option Oc} {fx : Option (Mem)} {f : Mem → Option R} {J2 : MD} {y : MethodName} {idx na : Nat} {st0 : List Value} (As : List Value) (d : decode J.2.1 pc = .ok (.invokestatic idx, 3)) (hM : ∀ t, fx = some t → GM G J2 y As μ (oV t)) (Cal : gCalS J2 y na) (Lk : Cond.methodLink J.1 idx y ∈ TB) (hna : As.length = na) (hst : st0 = As.reverse ++ st) (hW : (st.map fun v => v.category).sum ≤ 8) (hR : J2.2.2.2.2.frames + 1 ≤ J.2.2.2.2.frames ∧ 8 + (J2.2.2.1 + 11) + J2.2.2.2.2.locals ≤ J.2.2.2.2.locals) {n : Nat} (hn : pc + 3 = n) (h : ∀ (ν : Mem), V G J n lv st ν (f ν) k) : V G J pc lv st0 μ (b1 fx f) k := by
  subst hn
  exact v_callS oV As d hM Cal Lk hna hst hW hR (fun t => h t)
theorem v_cVa {G : GG} {J : MD} {pc : Nat} {lv : List (Nat × Value)} {st : List Value} {μ : Mem} {R : Type} {k : R → Option Oc} {fx : Option (Mem)} {f : Mem → Option R} {J2 : MD} {y : MethodName} {idx ci q na : Nat} {fs : List (Option Nat)} {st0 : List Value} (As : List Value) (d : decode J.2.1 pc = .ok (.invokevirtual idx, 3)) (hM : ∀ t, fx = some t → GM G J2 y (.ref (G.2.1 q) :: As) μ ((oA G) t)) (Cal : gCal J2 y ci na) (Lk : Cond.methodLink J.1 idx y ∈ TB) (hc : sh[q]? = some (.inr (ci, fs))) (hna : As.length = na) (hst : st0 = As.reverse ++ .ref (G.2.1 q) :: st) (hW : (st.map fun v => v.category).sum ≤ 8) (hR : J2.2.2.2.2.frames + 1 ≤ J.2.2.2.2.frames ∧ 8 + (J2.2.2.1 + 11) + J2.2.2.2.2.locals ≤ J.2.2.2.2.locals) {n : Nat} (hn : pc + 3 = n) (h : ∀ (ν : Mem), V G J n lv (.ref (G.2.1 14) :: st) ν (f ν) k) : V G J pc lv st0 μ (b1 fx f) k := by
  subst hn
  exact v_callV (oA G) As d hM Cal Lk hc hna hst hW hR (fun t => h t)
theorem v_cSa {G : GG} {J : MD} {pc : Nat} {lv : List (Nat × Value)} {st : List Value} {μ : Mem} {R : Type} {k : R → Option Oc} {fx : Option (Mem)} {f : Mem → Option R} {J2 : MD} {y : MethodName} {idx na : Nat} {st0 : List Value} (As : List Value) (d : decode J.2.1 pc = .ok (.invokestatic idx, 3)) (hM : ∀ t, fx = some t → GM G J2 y As μ ((oA G) t)) (Cal : gCalS J2 y na) (Lk : Cond.methodLink J.1 idx y ∈ TB) (hna : As.length = na) (hst : st0 = As.reverse ++ st) (hW : (st.map fun v => v.category).sum ≤ 8) (hR : J2.2.2.2.2.frames + 1 ≤ J.2.2.2.2.frames ∧ 8 + (J2.2.2.1 + 11) + J2.2.2.2.2.locals ≤ J.2.2.2.2.locals) {n : Nat} (hn : pc + 3 = n) (h : ∀ (ν : Mem), V G J n lv (.ref (G.2.1 14) :: st) ν (f ν) k) : V G J pc lv st0 μ (b1 fx f) k := by
  subst hn
  exact v_callS (oA G) As d hM Cal Lk hna hst hW hR (fun t => h t)
theorem v_iret {G : GG} {J : MD} {pc : Nat} {lv : List (Nat × Value)} {μ : Mem} {R : Type} {k : R → Option Oc} {t : R} {v : Int32} (d : decode J.2.1 pc = .ok (.ireturn, 1)) (hrt : J.2.2.2.1 = some .int) (hk : k t = some (some (.int v), μ)) : V G J pc lv [.int v] μ (some t) k := by
  intro r hr o ho p l e s m args below meth c C H locs ls hP hS hl
  obtain ⟨hx, hb, hml, hre, hown, hts, hlk, hK, hDD, hST, hNW⟩ := id C
  cases hr
  cases hk.symm.trans ho
  exact W.iret (v := v) hx hb (hre.trans hrt) (fun t ht hW => ⟨rfl, by rw [ht]; exact hP, hS.F ht⟩) hS.2.2 d hlk
theorem v_zret {G : GG} {J : MD} {pc : Nat} {lv : List (Nat × Value)} {μ : Mem} {R : Type} {k : R → Option Oc} {t : R} {v : Int32} (d : decode J.2.1 pc = .ok (.ireturn, 1)) (hrt : J.2.2.2.1 = some .boolean) (hv : narrow .boolean (.int v) = .int v) (hk : k t = some (some (.int v), μ)) : V G J pc lv [.int v] μ (some t) k := by
  intro r hr o ho p l e s m args below meth c C H locs ls hP hS hl
  obtain ⟨hx, hb, hml, hre, hown, hts, hlk, hK, hDD, hST, hNW⟩ := id C
  cases hr
  cases hk.symm.trans ho
  exact W.zret (v := v) hx hb (hre.trans hrt) hv (fun t ht hW => ⟨rfl, by rw [ht]; exact hP, hS.F ht⟩) hS.2.2 d hlk
theorem v_zretV {G : GG} {J : MD} {pc : Nat} {lv : List (Nat × Value)} {μ : Mem} {R : Type} {k : R → Option Oc} {t : R} {v : Int32} (d : decode J.2.1 pc = .ok (.ireturn, 1)) (hrt : J.2.2.2.1 = some .boolean) (hk : k t = some (some (.int v), μ)) : V G J pc lv [.int v] μ (ck (bo v) (some t)) k := by
  by_cases h : bo v = true
  · rw [ck, if_pos h]
    exact v_zret d hrt (by simpa [bo] using h) hk
  · rw [ck, if_neg h]
    exact v_none
theorem v_lret {G : GG} {J : MD} {pc : Nat} {lv : List (Nat × Value)} {μ : Mem} {R : Type} {k : R → Option Oc} {t : R} {v : Int64} (d : decode J.2.1 pc = .ok (.lreturn, 1)) (hrt : J.2.2.2.1 = some .long) (hk : k t = some (some (.long v), μ)) : V G J pc lv [.long v] μ (some t) k := by
  intro r hr o ho p l e s m args below meth c C H locs ls hP hS hl
  obtain ⟨hx, hb, hml, hre, hown, hts, hlk, hK, hDD, hST, hNW⟩ := id C
  cases hr
  cases hk.symm.trans ho
  exact W.lret (v := v) hx hb (hre.trans hrt) (fun t ht hW => ⟨rfl, by rw [ht]; exact hP, hS.F ht⟩) hS.2.2 d hlk
theorem v_vret {G : GG} {J : MD} {pc : Nat} {lv : List (Nat × Value)} {μ : Mem} {R : Type} {k : R → Option Oc} {t : R} (d : decode J.2.1 pc = .ok (.return_, 1)) (hrt : J.2.2.2.1 = none) (hk : k t = some (none, μ)) : V G J pc lv [] μ (some t) k := by
  intro r hr o ho p l e s m args below meth c C H locs ls hP hS hl
  obtain ⟨hx, hb, hml, hre, hown, hts, hlk, hK, hDD, hST, hNW⟩ := id C
  cases hr
  cases hk.symm.trans ho
  exact W.vret hx hb (hre.trans hrt) (fun t ht hW => ⟨rfl, by rw [ht]; exact hP, hS.F ht⟩) hS.2.2 d hlk
theorem v_aret {G : GG} {J : MD} {pc : Nat} {lv : List (Nat × Value)} {μ : Mem} {R : Type} {k : R → Option Oc} {t : R} {q : Nat} {nm : String} (d : decode J.2.1 pc = .ok (.areturn, 1)) (hrt : J.2.2.2.1 = some (.object nm)) (hk : k t = some (some (.ref (G.2.1 q)), μ)) : V G J pc lv [.ref (G.2.1 q)] μ (some t) k := by
  intro r hr o ho p l e s m args below meth c C H locs ls hP hS hl
  obtain ⟨hx, hb, hml, hre, hown, hts, hlk, hK, hDD, hST, hNW⟩ := id C
  cases hr
  cases hk.symm.trans ho
  exact W.aret (v := .ref (G.2.1 q)) hx hb (hre.trans hrt) (Or.inl ⟨nm, rfl⟩) (Or.inr ⟨_, rfl⟩) (fun t ht hW => ⟨rfl, by rw [ht]; exact hP, hS.F ht⟩) hS.2.2 d hlk
theorem v_x1 {G : GG} {J : MD} {pc : Nat} {lv : List (Nat × Value)} {st : List Value} {μ : Mem} {R : Type} {k : R → Option Oc} {A : Type} {z : Option (A)} {f : A → Option R} {px : Nat} {lx : A → List (Nat × Value)} {mx : A → Mem} (hz : ∀ kk : A → Option Oc, (∀ (a0 : A), V G J px (lx a0) [] (mx a0) (kk a0) some) → V G J pc lv st μ z kk) (h : ∀ (a0 : A), V G J px (lx a0) [] (mx a0) (f a0) k) : V G J pc lv st μ (b1 z f) k :=
  v_bind (hz _ (fun a0 => v_some (h a0)))
theorem v_x2 {G : GG} {J : MD} {pc : Nat} {lv : List (Nat × Value)} {st : List Value} {μ : Mem} {R : Type} {k : R → Option Oc} {A B : Type} {z : Option (A × B)} {f : A → B → Option R} {px : Nat} {lx : A → B → List (Nat × Value)} {mx : A → B → Mem} (hz : ∀ kk : A × B → Option Oc, (∀ (a0 : A) (b0 : B), V G J px (lx a0 b0) [] (mx a0 b0) (kk (a0, b0)) some) → V G J pc lv st μ z kk) (h : ∀ (a0 : A) (b0 : B), V G J px (lx a0 b0) [] (mx a0 b0) (f a0 b0) k) : V G J pc lv st μ (b2 z f) k :=
  v_bind (hz _ (fun a0 b0 => v_some (h a0 b0)))
theorem v_x3 {G : GG} {J : MD} {pc : Nat} {lv : List (Nat × Value)} {st : List Value} {μ : Mem} {R : Type} {k : R → Option Oc} {A B C : Type} {z : Option (A × B × C)} {f : A → B → C → Option R} {px : Nat} {lx : A → B → C → List (Nat × Value)} {mx : A → B → C → Mem} (hz : ∀ kk : A × B × C → Option Oc, (∀ (a0 : A) (b0 : B) (c0 : C), V G J px (lx a0 b0 c0) [] (mx a0 b0 c0) (kk (a0, b0, c0)) some) → V G J pc lv st μ z kk) (h : ∀ (a0 : A) (b0 : B) (c0 : C), V G J px (lx a0 b0 c0) [] (mx a0 b0 c0) (f a0 b0 c0) k) : V G J pc lv st μ (b3 z f) k :=
  v_bind (hz _ (fun a0 b0 c0 => v_some (h a0 b0 c0)))
theorem v_x4 {G : GG} {J : MD} {pc : Nat} {lv : List (Nat × Value)} {st : List Value} {μ : Mem} {R : Type} {k : R → Option Oc} {A B C D : Type} {z : Option (A × B × C × D)} {f : A → B → C → D → Option R} {px : Nat} {lx : A → B → C → D → List (Nat × Value)} {mx : A → B → C → D → Mem} (hz : ∀ kk : A × B × C × D → Option Oc, (∀ (a0 : A) (b0 : B) (c0 : C) (d0 : D), V G J px (lx a0 b0 c0 d0) [] (mx a0 b0 c0 d0) (kk (a0, b0, c0, d0)) some) → V G J pc lv st μ z kk) (h : ∀ (a0 : A) (b0 : B) (c0 : C) (d0 : D), V G J px (lx a0 b0 c0 d0) [] (mx a0 b0 c0 d0) (f a0 b0 c0 d0) k) : V G J pc lv st μ (b4 z f) k :=
  v_bind (hz _ (fun a0 b0 c0 d0 => v_some (h a0 b0 c0 d0)))
theorem v_x5 {G : GG} {J : MD} {pc : Nat} {lv : List (Nat × Value)} {st : List Value} {μ : Mem} {R : Type} {k : R → Option Oc} {A B C D E : Type} {z : Option (A × B × C × D × E)} {f : A → B → C → D → E → Option R} {px : Nat} {lx : A → B → C → D → E → List (Nat × Value)} {mx : A → B → C → D → E → Mem} (hz : ∀ kk : A × B × C × D × E → Option Oc, (∀ (a0 : A) (b0 : B) (c0 : C) (d0 : D) (e0 : E), V G J px (lx a0 b0 c0 d0 e0) [] (mx a0 b0 c0 d0 e0) (kk (a0, b0, c0, d0, e0)) some) → V G J pc lv st μ z kk) (h : ∀ (a0 : A) (b0 : B) (c0 : C) (d0 : D) (e0 : E), V G J px (lx a0 b0 c0 d0 e0) [] (mx a0 b0 c0 d0 e0) (f a0 b0 c0 d0 e0) k) : V G J pc lv st μ (b5 z f) k :=
  v_bind (hz _ (fun a0 b0 c0 d0 e0 => v_some (h a0 b0 c0 d0 e0)))
end
section
theorem dX0_init_0 : decode cX0_init 0 = .ok (.aload_n 0, 1) := by decide +kernel
theorem dX0_init_1 : decode cX0_init 1 = .ok (.invokespecial 3, 3) := by decide +kernel
theorem dX0_init_4 : decode cX0_init 4 = .ok (.aload_n 0, 1) := by decide +kernel
theorem dX0_init_5 : decode cX0_init 5 = .ok (.sipush 320, 3) := by decide +kernel
theorem dX0_init_8 : decode cX0_init 8 = .ok (.newarray .int, 2) := by decide +kernel
theorem dX0_init_10 : decode cX0_init 10 = .ok (.putfield 9, 3) := by decide +kernel
theorem dX0_init_13 : decode cX0_init 13 = .ok (.aload_n 0, 1) := by decide +kernel
theorem dX0_init_14 : decode cX0_init 14 = .ok (.bipush 64, 2) := by decide +kernel
theorem dX0_init_16 : decode cX0_init 16 = .ok (.newarray .int, 2) := by decide +kernel
theorem dX0_init_18 : decode cX0_init 18 = .ok (.putfield 15, 3) := by decide +kernel
theorem dX0_init_21 : decode cX0_init 21 = .ok (.aload_n 0, 1) := by decide +kernel
theorem dX0_init_22 : decode cX0_init 22 = .ok (.bipush 64, 2) := by decide +kernel
theorem dX0_init_24 : decode cX0_init 24 = .ok (.newarray .int, 2) := by decide +kernel
theorem dX0_init_26 : decode cX0_init 26 = .ok (.putfield 18, 3) := by decide +kernel
theorem dX0_init_29 : decode cX0_init 29 = .ok (.aload_n 0, 1) := by decide +kernel
theorem dX0_init_30 : decode cX0_init 30 = .ok (.bipush 64, 2) := by decide +kernel
theorem dX0_init_32 : decode cX0_init 32 = .ok (.newarray .int, 2) := by decide +kernel
theorem dX0_init_34 : decode cX0_init 34 = .ok (.putfield 21, 3) := by decide +kernel
theorem dX0_init_37 : decode cX0_init 37 = .ok (.aload_n 0, 1) := by decide +kernel
theorem dX0_init_38 : decode cX0_init 38 = .ok (.bipush 64, 2) := by decide +kernel
theorem dX0_init_40 : decode cX0_init 40 = .ok (.newarray .int, 2) := by decide +kernel
theorem dX0_init_42 : decode cX0_init 42 = .ok (.putfield 24, 3) := by decide +kernel
theorem dX0_init_45 : decode cX0_init 45 = .ok (.aload_n 0, 1) := by decide +kernel
theorem dX0_init_46 : decode cX0_init 46 = .ok (.bipush 14, 2) := by decide +kernel
theorem dX0_init_48 : decode cX0_init 48 = .ok (.newarray .int, 2) := by decide +kernel
theorem dX0_init_50 : decode cX0_init 50 = .ok (.putfield 27, 3) := by decide +kernel
theorem dX0_init_53 : decode cX0_init 53 = .ok (.aload_n 0, 1) := by decide +kernel
theorem dX0_init_54 : decode cX0_init 54 = .ok (.bipush 14, 2) := by decide +kernel
theorem dX0_init_56 : decode cX0_init 56 = .ok (.newarray .int, 2) := by decide +kernel
theorem dX0_init_58 : decode cX0_init 58 = .ok (.putfield 30, 3) := by decide +kernel
theorem dX0_init_61 : decode cX0_init 61 = .ok (.aload_n 0, 1) := by decide +kernel
theorem dX0_init_62 : decode cX0_init 62 = .ok (.bipush 14, 2) := by decide +kernel
theorem dX0_init_64 : decode cX0_init 64 = .ok (.newarray .int, 2) := by decide +kernel
theorem dX0_init_66 : decode cX0_init 66 = .ok (.putfield 33, 3) := by decide +kernel
theorem dX0_init_69 : decode cX0_init 69 = .ok (.return_, 1) := by decide +kernel
theorem dX0_align_0 : decode cX0_align 0 = .ok (.aload_n 0, 1) := by decide +kernel
theorem dX0_align_1 : decode cX0_align 1 = .ok (.aload_n 1, 1) := by decide +kernel
theorem dX0_align_2 : decode cX0_align 2 = .ok (.invokevirtual 36, 3) := by decide +kernel
theorem dX0_align_5 : decode cX0_align 5 = .ok (.aload_n 0, 1) := by decide +kernel
theorem dX0_align_6 : decode cX0_align 6 = .ok (.aload_n 1, 1) := by decide +kernel
theorem dX0_align_7 : decode cX0_align 7 = .ok (.getfield 40, 3) := by decide +kernel
theorem dX0_align_10 : decode cX0_align 10 = .ok (.invokevirtual 46, 3) := by decide +kernel
theorem dX0_align_13 : decode cX0_align 13 = .ok (.pop, 1) := by decide +kernel
theorem dX0_align_14 : decode cX0_align 14 = .ok (.aload_n 0, 1) := by decide +kernel
theorem dX0_align_15 : decode cX0_align 15 = .ok (.invokevirtual 50, 3) := by decide +kernel
theorem dX0_align_18 : decode cX0_align 18 = .ok (.aload_n 0, 1) := by decide +kernel
theorem dX0_align_19 : decode cX0_align 19 = .ok (.invokevirtual 53, 3) := by decide +kernel
theorem dX0_align_22 : decode cX0_align 22 = .ok (.return_, 1) := by decide +kernel
theorem dX0_take_0 : decode cX0_take 0 = .ok (.aload_n 0, 1) := by decide +kernel
theorem dX0_take_1 : decode cX0_take 1 = .ok (.aload_n 1, 1) := by decide +kernel
theorem dX0_take_2 : decode cX0_take 2 = .ok (.getfield 56, 3) := by decide +kernel
theorem dX0_take_5 : decode cX0_take 5 = .ok (.putfield 59, 3) := by decide +kernel
theorem dX0_take_8 : decode cX0_take 8 = .ok (.aload_n 0, 1) := by decide +kernel
theorem dX0_take_9 : decode cX0_take 9 = .ok (.aload_n 1, 1) := by decide +kernel
theorem dX0_take_10 : decode cX0_take 10 = .ok (.getfield 60, 3) := by decide +kernel
theorem dX0_take_13 : decode cX0_take 13 = .ok (.putfield 63, 3) := by decide +kernel
theorem dX0_take_16 : decode cX0_take 16 = .ok (.iconst 0, 1) := by decide +kernel
theorem dX0_take_17 : decode cX0_take 17 = .ok (.istore_n 2, 1) := by decide +kernel
theorem dX0_take_18 : decode cX0_take 18 = .ok (.iload_n 2, 1) := by decide +kernel
theorem dX0_take_19 : decode cX0_take 19 = .ok (.aload_n 0, 1) := by decide +kernel
theorem dX0_take_20 : decode cX0_take 20 = .ok (.getfield 59, 3) := by decide +kernel
theorem dX0_take_23 : decode cX0_take 23 = .ok (.if_icmp .gt 85, 3) := by decide +kernel
theorem dX0_take_26 : decode cX0_take 26 = .ok (.iconst 0, 1) := by decide +kernel
theorem dX0_take_27 : decode cX0_take 27 = .ok (.istore_n 3, 1) := by decide +kernel
theorem dX0_take_28 : decode cX0_take 28 = .ok (.iload_n 3, 1) := by decide +kernel
theorem dX0_take_29 : decode cX0_take 29 = .ok (.aload_n 0, 1) := by decide +kernel
theorem dX0_take_30 : decode cX0_take 30 = .ok (.getfield 63, 3) := by decide +kernel
theorem dX0_take_33 : decode cX0_take 33 = .ok (.if_icmp .gt 69, 3) := by decide +kernel
theorem dX0_take_36 : decode cX0_take 36 = .ok (.iconst 0, 1) := by decide +kernel
theorem dX0_take_37 : decode cX0_take 37 = .ok (.istore 4, 2) := by decide +kernel
theorem dX0_take_39 : decode cX0_take 39 = .ok (.iload 4, 2) := by decide +kernel
theorem dX0_take_41 : decode cX0_take 41 = .ok (.iconst 5, 1) := by decide +kernel
theorem dX0_take_42 : decode cX0_take 42 = .ok (.if_icmp .ge 54, 3) := by decide +kernel
theorem dX0_take_45 : decode cX0_take 45 = .ok (.aload_n 1, 1) := by decide +kernel
theorem dX0_take_46 : decode cX0_take 46 = .ok (.iload 4, 2) := by decide +kernel
theorem dX0_take_48 : decode cX0_take 48 = .ok (.iload_n 2, 1) := by decide +kernel
theorem dX0_take_49 : decode cX0_take 49 = .ok (.iload_n 3, 1) := by decide +kernel
theorem dX0_take_50 : decode cX0_take 50 = .ok (.invokevirtual 64, 3) := by decide +kernel
theorem dX0_take_53 : decode cX0_take 53 = .ok (.ifCond .eq 14, 3) := by decide +kernel
theorem dX0_take_56 : decode cX0_take 56 = .ok (.aload_n 1, 1) := by decide +kernel
theorem dX0_take_57 : decode cX0_take 57 = .ok (.iload 4, 2) := by decide +kernel
theorem dX0_take_59 : decode cX0_take 59 = .ok (.iload_n 2, 1) := by decide +kernel
theorem dX0_take_60 : decode cX0_take 60 = .ok (.iload_n 3, 1) := by decide +kernel
theorem dX0_take_61 : decode cX0_take 61 = .ok (.invokevirtual 68, 3) := by decide +kernel
theorem dX0_take_64 : decode cX0_take 64 = .ok (.goto 5, 3) := by decide +kernel
theorem dX0_take_67 : decode cX0_take 67 = .ok (.ldc 72, 2) := by decide +kernel
theorem dX0_take_69 : decode cX0_take 69 = .ok (.istore 5, 2) := by decide +kernel
theorem dX0_take_71 : decode cX0_take 71 = .ok (.aload_n 0, 1) := by decide +kernel
theorem dX0_take_72 : decode cX0_take 72 = .ok (.getfield 9, 3) := by decide +kernel
theorem dX0_take_75 : decode cX0_take 75 = .ok (.iload 4, 2) := by decide +kernel
theorem dX0_take_77 : decode cX0_take 77 = .ok (.bipush 64, 2) := by decide +kernel
theorem dX0_take_79 : decode cX0_take 79 = .ok (.imul, 1) := by decide +kernel
theorem dX0_take_80 : decode cX0_take 80 = .ok (.iload_n 2, 1) := by decide +kernel
theorem dX0_take_81 : decode cX0_take 81 = .ok (.bipush 8, 2) := by decide +kernel
theorem dX0_take_83 : decode cX0_take 83 = .ok (.imul, 1) := by decide +kernel
theorem dX0_take_84 : decode cX0_take 84 = .ok (.iadd, 1) := by decide +kernel
theorem dX0_take_85 : decode cX0_take 85 = .ok (.iload_n 3, 1) := by decide +kernel
theorem dX0_take_86 : decode cX0_take 86 = .ok (.iadd, 1) := by decide +kernel
theorem dX0_take_87 : decode cX0_take 87 = .ok (.iload 5, 2) := by decide +kernel
theorem dX0_take_89 : decode cX0_take 89 = .ok (.iastore, 1) := by decide +kernel
theorem dX0_take_90 : decode cX0_take 90 = .ok (.iinc 4 1, 3) := by decide +kernel
theorem dX0_take_93 : decode cX0_take 93 = .ok (.goto (-54), 3) := by decide +kernel
theorem dX0_take_96 : decode cX0_take 96 = .ok (.iinc 3 1, 3) := by decide +kernel
theorem dX0_take_99 : decode cX0_take 99 = .ok (.goto (-71), 3) := by decide +kernel
theorem dX0_take_102 : decode cX0_take 102 = .ok (.iinc 2 1, 3) := by decide +kernel
theorem dX0_take_105 : decode cX0_take 105 = .ok (.goto (-87), 3) := by decide +kernel
theorem dX0_take_108 : decode cX0_take 108 = .ok (.return_, 1) := by decide +kernel
theorem dX0_leastBy_0 : decode cX0_leastBy 0 = .ok (.aload_n 0, 1) := by decide +kernel
theorem dX0_leastBy_1 : decode cX0_leastBy 1 = .ok (.getfield 59, 3) := by decide +kernel
theorem dX0_leastBy_4 : decode cX0_leastBy 4 = .ok (.istore_n 2, 1) := by decide +kernel
theorem dX0_leastBy_5 : decode cX0_leastBy 5 = .ok (.iload_n 2, 1) := by decide +kernel
theorem dX0_leastBy_6 : decode cX0_leastBy 6 = .ok (.ifCond .lt 57, 3) := by decide +kernel
theorem dX0_leastBy_9 : decode cX0_leastBy 9 = .ok (.aload_n 0, 1) := by decide +kernel
theorem dX0_leastBy_10 : decode cX0_leastBy 10 = .ok (.getfield 63, 3) := by decide +kernel
theorem dX0_leastBy_13 : decode cX0_leastBy 13 = .ok (.istore_n 3, 1) := by decide +kernel
theorem dX0_leastBy_14 : decode cX0_leastBy 14 = .ok (.iload_n 3, 1) := by decide +kernel
theorem dX0_leastBy_15 : decode cX0_leastBy 15 = .ok (.ifCond .lt 42, 3) := by decide +kernel
theorem dX0_leastBy_18 : decode cX0_leastBy 18 = .ok (.iload_n 2, 1) := by decide +kernel
theorem dX0_leastBy_19 : decode cX0_leastBy 19 = .ok (.bipush 8, 2) := by decide +kernel
theorem dX0_leastBy_21 : decode cX0_leastBy 21 = .ok (.imul, 1) := by decide +kernel
theorem dX0_leastBy_22 : decode cX0_leastBy 22 = .ok (.iload_n 3, 1) := by decide +kernel
theorem dX0_leastBy_23 : decode cX0_leastBy 23 = .ok (.iadd, 1) := by decide +kernel
theorem dX0_leastBy_24 : decode cX0_leastBy 24 = .ok (.istore 4, 2) := by decide +kernel
theorem dX0_leastBy_26 : decode cX0_leastBy 26 = .ok (.aload_n 0, 1) := by decide +kernel
theorem dX0_leastBy_27 : decode cX0_leastBy 27 = .ok (.getfield 15, 3) := by decide +kernel
theorem dX0_leastBy_30 : decode cX0_leastBy 30 = .ok (.iload 4, 2) := by decide +kernel
theorem dX0_leastBy_32 : decode cX0_leastBy 32 = .ok (.ldc 72, 2) := by decide +kernel
theorem dX0_leastBy_34 : decode cX0_leastBy 34 = .ok (.iastore, 1) := by decide +kernel
theorem dX0_leastBy_35 : decode cX0_leastBy 35 = .ok (.iload_n 2, 1) := by decide +kernel
theorem dX0_leastBy_36 : decode cX0_leastBy 36 = .ok (.iload_n 3, 1) := by decide +kernel
theorem dX0_leastBy_37 : decode cX0_leastBy 37 = .ok (.isub, 1) := by decide +kernel
theorem dX0_leastBy_38 : decode cX0_leastBy 38 = .ok (.invokestatic 73, 3) := by decide +kernel
theorem dX0_leastBy_41 : decode cX0_leastBy 41 = .ok (.iload_n 1, 1) := by decide +kernel
theorem dX0_leastBy_42 : decode cX0_leastBy 42 = .ok (.if_icmp .gt 9, 3) := by decide +kernel
theorem dX0_leastBy_45 : decode cX0_leastBy 45 = .ok (.aload_n 0, 1) := by decide +kernel
theorem dX0_leastBy_46 : decode cX0_leastBy 46 = .ok (.iload 4, 2) := by decide +kernel
theorem dX0_leastBy_48 : decode cX0_leastBy 48 = .ok (.invokevirtual 78, 3) := by decide +kernel
theorem dX0_leastBy_51 : decode cX0_leastBy 51 = .ok (.iinc 3 (-1), 3) := by decide +kernel
theorem dX0_leastBy_54 : decode cX0_leastBy 54 = .ok (.goto (-40), 3) := by decide +kernel
theorem dX0_leastBy_57 : decode cX0_leastBy 57 = .ok (.iinc 2 (-1), 3) := by decide +kernel
theorem dX0_leastBy_60 : decode cX0_leastBy 60 = .ok (.goto (-55), 3) := by decide +kernel
theorem dX0_leastBy_63 : decode cX0_leastBy 63 = .ok (.aload_n 0, 1) := by decide +kernel
theorem dX0_leastBy_64 : decode cX0_leastBy 64 = .ok (.getfield 15, 3) := by decide +kernel
theorem dX0_leastBy_67 : decode cX0_leastBy 67 = .ok (.iconst 0, 1) := by decide +kernel
theorem dX0_leastBy_68 : decode cX0_leastBy 68 = .ok (.iaload, 1) := by decide +kernel
theorem dX0_leastBy_69 : decode cX0_leastBy 69 = .ok (.invokestatic 82, 3) := by decide +kernel
theorem dX0_leastBy_72 : decode cX0_leastBy 72 = .ok (.ireturn, 1) := by decide +kernel
theorem dX0_fillLeast_0 : decode cX0_fillLeast 0 = .ok (.iload_n 1, 1) := by decide +kernel
theorem dX0_fillLeast_1 : decode cX0_fillLeast 1 = .ok (.aload_n 0, 1) := by decide +kernel
theorem dX0_fillLeast_2 : decode cX0_fillLeast 2 = .ok (.invokevirtual 85, 3) := by decide +kernel
theorem dX0_fillLeast_5 : decode cX0_fillLeast 5 = .ok (.if_icmp .ne 7, 3) := by decide +kernel
theorem dX0_fillLeast_8 : decode cX0_fillLeast 8 = .ok (.iconst 0, 1) := by decide +kernel
theorem dX0_fillLeast_9 : decode cX0_fillLeast 9 = .ok (.goto 5, 3) := by decide +kernel
theorem dX0_fillLeast_12 : decode cX0_fillLeast 12 = .ok (.ldc 72, 2) := by decide +kernel
theorem dX0_fillLeast_14 : decode cX0_fillLeast 14 = .ok (.istore_n 2, 1) := by decide +kernel
theorem dX0_fillLeast_15 : decode cX0_fillLeast 15 = .ok (.iconst 0, 1) := by decide +kernel
theorem dX0_fillLeast_16 : decode cX0_fillLeast 16 = .ok (.istore_n 3, 1) := by decide +kernel
theorem dX0_fillLeast_17 : decode cX0_fillLeast 17 = .ok (.iload_n 3, 1) := by decide +kernel
theorem dX0_fillLeast_18 : decode cX0_fillLeast 18 = .ok (.iconst 5, 1) := by decide +kernel
theorem dX0_fillLeast_19 : decode cX0_fillLeast 19 = .ok (.if_icmp .ge 62, 3) := by decide +kernel
theorem dX0_fillLeast_22 : decode cX0_fillLeast 22 = .ok (.aload_n 0, 1) := by decide +kernel
theorem dX0_fillLeast_23 : decode cX0_fillLeast 23 = .ok (.getfield 9, 3) := by decide +kernel
theorem dX0_fillLeast_26 : decode cX0_fillLeast 26 = .ok (.iload_n 3, 1) := by decide +kernel
theorem dX0_fillLeast_27 : decode cX0_fillLeast 27 = .ok (.bipush 64, 2) := by decide +kernel
theorem dX0_fillLeast_29 : decode cX0_fillLeast 29 = .ok (.imul, 1) := by decide +kernel
theorem dX0_fillLeast_30 : decode cX0_fillLeast 30 = .ok (.iload_n 1, 1) := by decide +kernel
theorem dX0_fillLeast_31 : decode cX0_fillLeast 31 = .ok (.iadd, 1) := by decide +kernel
theorem dX0_fillLeast_32 : decode cX0_fillLeast 32 = .ok (.iaload, 1) := by decide +kernel
theorem dX0_fillLeast_33 : decode cX0_fillLeast 33 = .ok (.istore 4, 2) := by decide +kernel
theorem dX0_fillLeast_35 : decode cX0_fillLeast 35 = .ok (.iload 4, 2) := by decide +kernel
theorem dX0_fillLeast_37 : decode cX0_fillLeast 37 = .ok (.ldc 72, 2) := by decide +kernel
theorem dX0_fillLeast_39 : decode cX0_fillLeast 39 = .ok (.if_icmp .ge 20, 3) := by decide +kernel
theorem dX0_fillLeast_42 : decode cX0_fillLeast 42 = .ok (.iload 4, 2) := by decide +kernel
theorem dX0_fillLeast_44 : decode cX0_fillLeast 44 = .ok (.aload_n 0, 1) := by decide +kernel
theorem dX0_fillLeast_45 : decode cX0_fillLeast 45 = .ok (.getfield 15, 3) := by decide +kernel
theorem dX0_fillLeast_48 : decode cX0_fillLeast 48 = .ok (.iload_n 1, 1) := by decide +kernel
theorem dX0_fillLeast_49 : decode cX0_fillLeast 49 = .ok (.getstatic 89, 3) := by decide +kernel
theorem dX0_fillLeast_52 : decode cX0_fillLeast 52 = .ok (.iload_n 3, 1) := by decide +kernel
theorem dX0_fillLeast_53 : decode cX0_fillLeast 53 = .ok (.iaload, 1) := by decide +kernel
theorem dX0_fillLeast_54 : decode cX0_fillLeast 54 = .ok (.iadd, 1) := by decide +kernel
theorem dX0_fillLeast_55 : decode cX0_fillLeast 55 = .ok (.iaload, 1) := by decide +kernel
theorem dX0_fillLeast_56 : decode cX0_fillLeast 56 = .ok (.iadd, 1) := by decide +kernel
theorem dX0_fillLeast_57 : decode cX0_fillLeast 57 = .ok (.istore 4, 2) := by decide +kernel
theorem dX0_fillLeast_59 : decode cX0_fillLeast 59 = .ok (.iload 4, 2) := by decide +kernel
theorem dX0_fillLeast_61 : decode cX0_fillLeast 61 = .ok (.iload_n 2, 1) := by decide +kernel
theorem dX0_fillLeast_62 : decode cX0_fillLeast 62 = .ok (.if_icmp .ge 13, 3) := by decide +kernel
theorem dX0_fillLeast_65 : decode cX0_fillLeast 65 = .ok (.iload 4, 2) := by decide +kernel
theorem dX0_fillLeast_67 : decode cX0_fillLeast 67 = .ok (.istore_n 2, 1) := by decide +kernel
theorem dX0_fillLeast_68 : decode cX0_fillLeast 68 = .ok (.aload_n 0, 1) := by decide +kernel
theorem dX0_fillLeast_69 : decode cX0_fillLeast 69 = .ok (.getfield 24, 3) := by decide +kernel
theorem dX0_fillLeast_72 : decode cX0_fillLeast 72 = .ok (.iload_n 1, 1) := by decide +kernel
theorem dX0_fillLeast_73 : decode cX0_fillLeast 73 = .ok (.iload_n 3, 1) := by decide +kernel
theorem dX0_fillLeast_74 : decode cX0_fillLeast 74 = .ok (.iastore, 1) := by decide +kernel
theorem dX0_fillLeast_75 : decode cX0_fillLeast 75 = .ok (.iinc 3 1, 3) := by decide +kernel
theorem dX0_fillLeast_78 : decode cX0_fillLeast 78 = .ok (.goto (-61), 3) := by decide +kernel
theorem dX0_fillLeast_81 : decode cX0_fillLeast 81 = .ok (.aload_n 0, 1) := by decide +kernel
theorem dX0_fillLeast_82 : decode cX0_fillLeast 82 = .ok (.getfield 15, 3) := by decide +kernel
theorem dX0_fillLeast_85 : decode cX0_fillLeast 85 = .ok (.iload_n 1, 1) := by decide +kernel
theorem dX0_fillLeast_86 : decode cX0_fillLeast 86 = .ok (.iload_n 2, 1) := by decide +kernel
theorem dX0_fillLeast_87 : decode cX0_fillLeast 87 = .ok (.iastore, 1) := by decide +kernel
theorem dX0_fillLeast_88 : decode cX0_fillLeast 88 = .ok (.return_, 1) := by decide +kernel
theorem dX0_fillOthers_0 : decode cX0_fillOthers 0 = .ok (.aload_n 0, 1) := by decide +kernel
theorem dX0_fillOthers_1 : decode cX0_fillOthers 1 = .ok (.getfield 59, 3) := by decide +kernel
theorem dX0_fillOthers_4 : decode cX0_fillOthers 4 = .ok (.istore_n 1, 1) := by decide +kernel
theorem dX0_fillOthers_5 : decode cX0_fillOthers 5 = .ok (.iload_n 1, 1) := by decide +kernel
theorem dX0_fillOthers_6 : decode cX0_fillOthers 6 = .ok (.ifCond .lt 34, 3) := by decide +kernel
theorem dX0_fillOthers_9 : decode cX0_fillOthers 9 = .ok (.aload_n 0, 1) := by decide +kernel
theorem dX0_fillOthers_10 : decode cX0_fillOthers 10 = .ok (.getfield 63, 3) := by decide +kernel
theorem dX0_fillOthers_13 : decode cX0_fillOthers 13 = .ok (.istore_n 2, 1) := by decide +kernel
theorem dX0_fillOthers_14 : decode cX0_fillOthers 14 = .ok (.iload_n 2, 1) := by decide +kernel
theorem dX0_fillOthers_15 : decode cX0_fillOthers 15 = .ok (.ifCond .lt 19, 3) := by decide +kernel
theorem dX0_fillOthers_18 : decode cX0_fillOthers 18 = .ok (.aload_n 0, 1) := by decide +kernel
theorem dX0_fillOthers_19 : decode cX0_fillOthers 19 = .ok (.iload_n 1, 1) := by decide +kernel
theorem dX0_fillOthers_20 : decode cX0_fillOthers 20 = .ok (.bipush 8, 2) := by decide +kernel
theorem dX0_fillOthers_22 : decode cX0_fillOthers 22 = .ok (.imul, 1) := by decide +kernel
theorem dX0_fillOthers_23 : decode cX0_fillOthers 23 = .ok (.iload_n 2, 1) := by decide +kernel
theorem dX0_fillOthers_24 : decode cX0_fillOthers 24 = .ok (.iadd, 1) := by decide +kernel
theorem dX0_fillOthers_25 : decode cX0_fillOthers 25 = .ok (.invokevirtual 92, 3) := by decide +kernel
theorem dX0_fillOthers_28 : decode cX0_fillOthers 28 = .ok (.iinc 2 (-1), 3) := by decide +kernel
theorem dX0_fillOthers_31 : decode cX0_fillOthers 31 = .ok (.goto (-17), 3) := by decide +kernel
theorem dX0_fillOthers_34 : decode cX0_fillOthers 34 = .ok (.iinc 1 (-1), 3) := by decide +kernel
theorem dX0_fillOthers_37 : decode cX0_fillOthers 37 = .ok (.goto (-32), 3) := by decide +kernel
theorem dX0_fillOthers_40 : decode cX0_fillOthers 40 = .ok (.return_, 1) := by decide +kernel
theorem dX0_fillOthersAt_0 : decode cX0_fillOthersAt 0 = .ok (.aload_n 0, 1) := by decide +kernel
theorem dX0_fillOthersAt_1 : decode cX0_fillOthersAt 1 = .ok (.getfield 18, 3) := by decide +kernel
theorem dX0_fillOthersAt_4 : decode cX0_fillOthersAt 4 = .ok (.iload_n 1, 1) := by decide +kernel
theorem dX0_fillOthersAt_5 : decode cX0_fillOthersAt 5 = .ok (.ldc 72, 2) := by decide +kernel
theorem dX0_fillOthersAt_7 : decode cX0_fillOthersAt 7 = .ok (.iastore, 1) := by decide +kernel
theorem dX0_fillOthersAt_8 : decode cX0_fillOthersAt 8 = .ok (.aload_n 0, 1) := by decide +kernel
theorem dX0_fillOthersAt_9 : decode cX0_fillOthersAt 9 = .ok (.getfield 21, 3) := by decide +kernel
theorem dX0_fillOthersAt_12 : decode cX0_fillOthersAt 12 = .ok (.iload_n 1, 1) := by decide +kernel
theorem dX0_fillOthersAt_13 : decode cX0_fillOthersAt 13 = .ok (.iconst 0, 1) := by decide +kernel
theorem dX0_fillOthersAt_14 : decode cX0_fillOthersAt 14 = .ok (.iastore, 1) := by decide +kernel
theorem dX0_fillOthersAt_15 : decode cX0_fillOthersAt 15 = .ok (.aload_n 0, 1) := by decide +kernel
theorem dX0_fillOthersAt_16 : decode cX0_fillOthersAt 16 = .ok (.getfield 15, 3) := by decide +kernel
theorem dX0_fillOthersAt_19 : decode cX0_fillOthersAt 19 = .ok (.iload_n 1, 1) := by decide +kernel
theorem dX0_fillOthersAt_20 : decode cX0_fillOthersAt 20 = .ok (.iaload, 1) := by decide +kernel
theorem dX0_fillOthersAt_21 : decode cX0_fillOthersAt 21 = .ok (.ldc 72, 2) := by decide +kernel
theorem dX0_fillOthersAt_23 : decode cX0_fillOthersAt 23 = .ok (.if_icmp .lt 4, 3) := by decide +kernel
theorem dX0_fillOthersAt_26 : decode cX0_fillOthersAt 26 = .ok (.return_, 1) := by decide +kernel
theorem dX0_fillOthersAt_27 : decode cX0_fillOthersAt 27 = .ok (.iload_n 1, 1) := by decide +kernel
theorem dX0_fillOthersAt_28 : decode cX0_fillOthersAt 28 = .ok (.aload_n 0, 1) := by decide +kernel
theorem dX0_fillOthersAt_29 : decode cX0_fillOthersAt 29 = .ok (.invokevirtual 85, 3) := by decide +kernel
theorem dX0_fillOthersAt_32 : decode cX0_fillOthersAt 32 = .ok (.if_icmp .ne 10, 3) := by decide +kernel
theorem dX0_fillOthersAt_35 : decode cX0_fillOthersAt 35 = .ok (.aload_n 0, 1) := by decide +kernel
theorem dX0_fillOthersAt_36 : decode cX0_fillOthersAt 36 = .ok (.getfield 21, 3) := by decide +kernel
theorem dX0_fillOthersAt_39 : decode cX0_fillOthersAt 39 = .ok (.iload_n 1, 1) := by decide +kernel
theorem dX0_fillOthersAt_40 : decode cX0_fillOthersAt 40 = .ok (.iconst 1, 1) := by decide +kernel
theorem dX0_fillOthersAt_41 : decode cX0_fillOthersAt 41 = .ok (.iastore, 1) := by decide +kernel
theorem dX0_fillOthersAt_42 : decode cX0_fillOthersAt 42 = .ok (.iconst 0, 1) := by decide +kernel
theorem dX0_fillOthersAt_43 : decode cX0_fillOthersAt 43 = .ok (.istore_n 2, 1) := by decide +kernel
theorem dX0_fillOthersAt_44 : decode cX0_fillOthersAt 44 = .ok (.iload_n 2, 1) := by decide +kernel
theorem dX0_fillOthersAt_45 : decode cX0_fillOthersAt 45 = .ok (.iconst 5, 1) := by decide +kernel
theorem dX0_fillOthersAt_46 : decode cX0_fillOthersAt 46 = .ok (.if_icmp .ge 41, 3) := by decide +kernel
theorem dX0_fillOthersAt_49 : decode cX0_fillOthersAt 49 = .ok (.aload_n 0, 1) := by decide +kernel
theorem dX0_fillOthersAt_50 : decode cX0_fillOthersAt 50 = .ok (.getfield 9, 3) := by decide +kernel
theorem dX0_fillOthersAt_53 : decode cX0_fillOthersAt 53 = .ok (.iload_n 2, 1) := by decide +kernel
theorem dX0_fillOthersAt_54 : decode cX0_fillOthersAt 54 = .ok (.bipush 64, 2) := by decide +kernel
theorem dX0_fillOthersAt_56 : decode cX0_fillOthersAt 56 = .ok (.imul, 1) := by decide +kernel
theorem dX0_fillOthersAt_57 : decode cX0_fillOthersAt 57 = .ok (.iload_n 1, 1) := by decide +kernel
theorem dX0_fillOthersAt_58 : decode cX0_fillOthersAt 58 = .ok (.iadd, 1) := by decide +kernel
theorem dX0_fillOthersAt_59 : decode cX0_fillOthersAt 59 = .ok (.iaload, 1) := by decide +kernel
theorem dX0_fillOthersAt_60 : decode cX0_fillOthersAt 60 = .ok (.istore_n 3, 1) := by decide +kernel
theorem dX0_fillOthersAt_61 : decode cX0_fillOthersAt 61 = .ok (.iload_n 3, 1) := by decide +kernel
theorem dX0_fillOthersAt_62 : decode cX0_fillOthersAt 62 = .ok (.ldc 72, 2) := by decide +kernel
theorem dX0_fillOthersAt_64 : decode cX0_fillOthersAt 64 = .ok (.if_icmp .ge 17, 3) := by decide +kernel
theorem dX0_fillOthersAt_67 : decode cX0_fillOthersAt 67 = .ok (.aload_n 0, 1) := by decide +kernel
theorem dX0_fillOthersAt_68 : decode cX0_fillOthersAt 68 = .ok (.iload_n 1, 1) := by decide +kernel
theorem dX0_fillOthersAt_69 : decode cX0_fillOthersAt 69 = .ok (.iload_n 2, 1) := by decide +kernel
theorem dX0_fillOthersAt_70 : decode cX0_fillOthersAt 70 = .ok (.iload_n 3, 1) := by decide +kernel
theorem dX0_fillOthersAt_71 : decode cX0_fillOthersAt 71 = .ok (.iload_n 1, 1) := by decide +kernel
theorem dX0_fillOthersAt_72 : decode cX0_fillOthersAt 72 = .ok (.getstatic 89, 3) := by decide +kernel
theorem dX0_fillOthersAt_75 : decode cX0_fillOthersAt 75 = .ok (.iload_n 2, 1) := by decide +kernel
theorem dX0_fillOthersAt_76 : decode cX0_fillOthersAt 76 = .ok (.iaload, 1) := by decide +kernel
theorem dX0_fillOthersAt_77 : decode cX0_fillOthersAt 77 = .ok (.iadd, 1) := by decide +kernel
theorem dX0_fillOthersAt_78 : decode cX0_fillOthersAt 78 = .ok (.invokevirtual 95, 3) := by decide +kernel
theorem dX0_fillOthersAt_81 : decode cX0_fillOthersAt 81 = .ok (.iinc 2 1, 3) := by decide +kernel
theorem dX0_fillOthersAt_84 : decode cX0_fillOthersAt 84 = .ok (.goto (-40), 3) := by decide +kernel
theorem dX0_fillOthersAt_87 : decode cX0_fillOthersAt 87 = .ok (.return_, 1) := by decide +kernel
theorem dX0_addOthers_0 : decode cX0_addOthers 0 = .ok (.iload_n 3, 1) := by decide +kernel
theorem dX0_addOthers_1 : decode cX0_addOthers 1 = .ok (.aload_n 0, 1) := by decide +kernel
theorem dX0_addOthers_2 : decode cX0_addOthers 2 = .ok (.getfield 15, 3) := by decide +kernel
theorem dX0_addOthers_5 : decode cX0_addOthers 5 = .ok (.iload 4, 2) := by decide +kernel
theorem dX0_addOthers_7 : decode cX0_addOthers 7 = .ok (.iaload, 1) := by decide +kernel
theorem dX0_addOthers_8 : decode cX0_addOthers 8 = .ok (.iadd, 1) := by decide +kernel
theorem dX0_addOthers_9 : decode cX0_addOthers 9 = .ok (.istore 5, 2) := by decide +kernel
theorem dX0_addOthers_11 : decode cX0_addOthers 11 = .ok (.iload 5, 2) := by decide +kernel
theorem dX0_addOthers_13 : decode cX0_addOthers 13 = .ok (.aload_n 0, 1) := by decide +kernel
theorem dX0_addOthers_14 : decode cX0_addOthers 14 = .ok (.getfield 15, 3) := by decide +kernel
theorem dX0_addOthers_17 : decode cX0_addOthers 17 = .ok (.iload_n 1, 1) := by decide +kernel
theorem dX0_addOthers_18 : decode cX0_addOthers 18 = .ok (.iaload, 1) := by decide +kernel
theorem dX0_addOthers_19 : decode cX0_addOthers 19 = .ok (.if_icmp .ne 19, 3) := by decide +kernel
theorem dX0_addOthers_22 : decode cX0_addOthers 22 = .ok (.aload_n 0, 1) := by decide +kernel
theorem dX0_addOthers_23 : decode cX0_addOthers 23 = .ok (.getfield 21, 3) := by decide +kernel
theorem dX0_addOthers_26 : decode cX0_addOthers 26 = .ok (.iload_n 1, 1) := by decide +kernel
theorem dX0_addOthers_27 : decode cX0_addOthers 27 = .ok (.dup2, 1) := by decide +kernel
theorem dX0_addOthers_28 : decode cX0_addOthers 28 = .ok (.iaload, 1) := by decide +kernel
theorem dX0_addOthers_29 : decode cX0_addOthers 29 = .ok (.aload_n 0, 1) := by decide +kernel
theorem dX0_addOthers_30 : decode cX0_addOthers 30 = .ok (.getfield 21, 3) := by decide +kernel
theorem dX0_addOthers_33 : decode cX0_addOthers 33 = .ok (.iload 4, 2) := by decide +kernel
theorem dX0_addOthers_35 : decode cX0_addOthers 35 = .ok (.iaload, 1) := by decide +kernel
theorem dX0_addOthers_36 : decode cX0_addOthers 36 = .ok (.iadd, 1) := by decide +kernel
theorem dX0_addOthers_37 : decode cX0_addOthers 37 = .ok (.iastore, 1) := by decide +kernel
theorem dX0_addOthers_38 : decode cX0_addOthers 38 = .ok (.iload_n 2, 1) := by decide +kernel
theorem dX0_addOthers_39 : decode cX0_addOthers 39 = .ok (.aload_n 0, 1) := by decide +kernel
theorem dX0_addOthers_40 : decode cX0_addOthers 40 = .ok (.getfield 24, 3) := by decide +kernel
theorem dX0_addOthers_43 : decode cX0_addOthers 43 = .ok (.iload_n 1, 1) := by decide +kernel
theorem dX0_addOthers_44 : decode cX0_addOthers 44 = .ok (.iaload, 1) := by decide +kernel
theorem dX0_addOthers_45 : decode cX0_addOthers 45 = .ok (.if_icmp .ne 15, 3) := by decide +kernel
theorem dX0_addOthers_48 : decode cX0_addOthers 48 = .ok (.iload_n 3, 1) := by decide +kernel
theorem dX0_addOthers_49 : decode cX0_addOthers 49 = .ok (.aload_n 0, 1) := by decide +kernel
theorem dX0_addOthers_50 : decode cX0_addOthers 50 = .ok (.getfield 18, 3) := by decide +kernel
theorem dX0_addOthers_53 : decode cX0_addOthers 53 = .ok (.iload 4, 2) := by decide +kernel
theorem dX0_addOthers_55 : decode cX0_addOthers 55 = .ok (.iaload, 1) := by decide +kernel
theorem dX0_addOthers_56 : decode cX0_addOthers 56 = .ok (.iadd, 1) := by decide +kernel
theorem dX0_addOthers_57 : decode cX0_addOthers 57 = .ok (.goto 5, 3) := by decide +kernel
theorem dX0_addOthers_60 : decode cX0_addOthers 60 = .ok (.iload 5, 2) := by decide +kernel
theorem dX0_addOthers_62 : decode cX0_addOthers 62 = .ok (.istore 6, 2) := by decide +kernel
theorem dX0_addOthers_64 : decode cX0_addOthers 64 = .ok (.aload_n 0, 1) := by decide +kernel
theorem dX0_addOthers_65 : decode cX0_addOthers 65 = .ok (.getfield 18, 3) := by decide +kernel
theorem dX0_addOthers_68 : decode cX0_addOthers 68 = .ok (.iload_n 1, 1) := by decide +kernel
theorem dX0_addOthers_69 : decode cX0_addOthers 69 = .ok (.aload_n 0, 1) := by decide +kernel
theorem dX0_addOthers_70 : decode cX0_addOthers 70 = .ok (.getfield 18, 3) := by decide +kernel
theorem dX0_addOthers_73 : decode cX0_addOthers 73 = .ok (.iload_n 1, 1) := by decide +kernel
theorem dX0_addOthers_74 : decode cX0_addOthers 74 = .ok (.iaload, 1) := by decide +kernel
theorem dX0_addOthers_75 : decode cX0_addOthers 75 = .ok (.iload 6, 2) := by decide +kernel
theorem dX0_addOthers_77 : decode cX0_addOthers 77 = .ok (.invokestatic 99, 3) := by decide +kernel
theorem dX0_addOthers_80 : decode cX0_addOthers 80 = .ok (.iastore, 1) := by decide +kernel
theorem dX0_addOthers_81 : decode cX0_addOthers 81 = .ok (.return_, 1) := by decide +kernel
theorem dX0_walkBest_0 : decode cX0_walkBest 0 = .ok (.aload_n 0, 1) := by decide +kernel
theorem dX0_walkBest_1 : decode cX0_walkBest 1 = .ok (.iconst 0, 1) := by decide +kernel
theorem dX0_walkBest_2 : decode cX0_walkBest 2 = .ok (.putfield 103, 3) := by decide +kernel
theorem dX0_walkBest_5 : decode cX0_walkBest 5 = .ok (.aload_n 0, 1) := by decide +kernel
theorem dX0_walkBest_6 : decode cX0_walkBest 6 = .ok (.getfield 15, 3) := by decide +kernel
theorem dX0_walkBest_9 : decode cX0_walkBest 9 = .ok (.iconst 0, 1) := by decide +kernel
theorem dX0_walkBest_10 : decode cX0_walkBest 10 = .ok (.iaload, 1) := by decide +kernel
theorem dX0_walkBest_11 : decode cX0_walkBest 11 = .ok (.ldc 72, 2) := by decide +kernel
theorem dX0_walkBest_13 : decode cX0_walkBest 13 = .ok (.if_icmp .lt 4, 3) := by decide +kernel
theorem dX0_walkBest_16 : decode cX0_walkBest 16 = .ok (.return_, 1) := by decide +kernel
theorem dX0_walkBest_17 : decode cX0_walkBest 17 = .ok (.iconst 0, 1) := by decide +kernel
theorem dX0_walkBest_18 : decode cX0_walkBest 18 = .ok (.istore_n 1, 1) := by decide +kernel
theorem dX0_walkBest_19 : decode cX0_walkBest 19 = .ok (.iload_n 1, 1) := by decide +kernel
theorem dX0_walkBest_20 : decode cX0_walkBest 20 = .ok (.aload_n 0, 1) := by decide +kernel
theorem dX0_walkBest_21 : decode cX0_walkBest 21 = .ok (.invokevirtual 85, 3) := by decide +kernel
theorem dX0_walkBest_24 : decode cX0_walkBest 24 = .ok (.if_icmp .eq 76, 3) := by decide +kernel
theorem dX0_walkBest_27 : decode cX0_walkBest 27 = .ok (.aload_n 0, 1) := by decide +kernel
theorem dX0_walkBest_28 : decode cX0_walkBest 28 = .ok (.getfield 103, 3) := by decide +kernel
theorem dX0_walkBest_31 : decode cX0_walkBest 31 = .ok (.bipush 14, 2) := by decide +kernel
theorem dX0_walkBest_33 : decode cX0_walkBest 33 = .ok (.if_icmp .ge 67, 3) := by decide +kernel
theorem dX0_walkBest_36 : decode cX0_walkBest 36 = .ok (.aload_n 0, 1) := by decide +kernel
theorem dX0_walkBest_37 : decode cX0_walkBest 37 = .ok (.getfield 24, 3) := by decide +kernel
theorem dX0_walkBest_40 : decode cX0_walkBest 40 = .ok (.iload_n 1, 1) := by decide +kernel
theorem dX0_walkBest_41 : decode cX0_walkBest 41 = .ok (.iaload, 1) := by decide +kernel
theorem dX0_walkBest_42 : decode cX0_walkBest 42 = .ok (.istore_n 2, 1) := by decide +kernel
theorem dX0_walkBest_43 : decode cX0_walkBest 43 = .ok (.aload_n 0, 1) := by decide +kernel
theorem dX0_walkBest_44 : decode cX0_walkBest 44 = .ok (.getfield 27, 3) := by decide +kernel
theorem dX0_walkBest_47 : decode cX0_walkBest 47 = .ok (.aload_n 0, 1) := by decide +kernel
theorem dX0_walkBest_48 : decode cX0_walkBest 48 = .ok (.getfield 103, 3) := by decide +kernel
theorem dX0_walkBest_51 : decode cX0_walkBest 51 = .ok (.iload_n 2, 1) := by decide +kernel
theorem dX0_walkBest_52 : decode cX0_walkBest 52 = .ok (.iastore, 1) := by decide +kernel
theorem dX0_walkBest_53 : decode cX0_walkBest 53 = .ok (.aload_n 0, 1) := by decide +kernel
theorem dX0_walkBest_54 : decode cX0_walkBest 54 = .ok (.getfield 30, 3) := by decide +kernel
theorem dX0_walkBest_57 : decode cX0_walkBest 57 = .ok (.aload_n 0, 1) := by decide +kernel
theorem dX0_walkBest_58 : decode cX0_walkBest 58 = .ok (.getfield 103, 3) := by decide +kernel
theorem dX0_walkBest_61 : decode cX0_walkBest 61 = .ok (.iload_n 1, 1) := by decide +kernel
theorem dX0_walkBest_62 : decode cX0_walkBest 62 = .ok (.bipush 8, 2) := by decide +kernel
theorem dX0_walkBest_64 : decode cX0_walkBest 64 = .ok (.idiv, 1) := by decide +kernel
theorem dX0_walkBest_65 : decode cX0_walkBest 65 = .ok (.iastore, 1) := by decide +kernel
theorem dX0_walkBest_66 : decode cX0_walkBest 66 = .ok (.aload_n 0, 1) := by decide +kernel
theorem dX0_walkBest_67 : decode cX0_walkBest 67 = .ok (.getfield 33, 3) := by decide +kernel
theorem dX0_walkBest_70 : decode cX0_walkBest 70 = .ok (.aload_n 0, 1) := by decide +kernel
theorem dX0_walkBest_71 : decode cX0_walkBest 71 = .ok (.getfield 103, 3) := by decide +kernel
theorem dX0_walkBest_74 : decode cX0_walkBest 74 = .ok (.iload_n 1, 1) := by decide +kernel
theorem dX0_walkBest_75 : decode cX0_walkBest 75 = .ok (.bipush 8, 2) := by decide +kernel
theorem dX0_walkBest_77 : decode cX0_walkBest 77 = .ok (.irem, 1) := by decide +kernel
theorem dX0_walkBest_78 : decode cX0_walkBest 78 = .ok (.iastore, 1) := by decide +kernel
theorem dX0_walkBest_79 : decode cX0_walkBest 79 = .ok (.aload_n 0, 1) := by decide +kernel
theorem dX0_walkBest_80 : decode cX0_walkBest 80 = .ok (.dup, 1) := by decide +kernel
theorem dX0_walkBest_81 : decode cX0_walkBest 81 = .ok (.getfield 103, 3) := by decide +kernel
theorem dX0_walkBest_84 : decode cX0_walkBest 84 = .ok (.iconst 1, 1) := by decide +kernel
theorem dX0_walkBest_85 : decode cX0_walkBest 85 = .ok (.iadd, 1) := by decide +kernel
theorem dX0_walkBest_86 : decode cX0_walkBest 86 = .ok (.putfield 103, 3) := by decide +kernel
theorem dX0_walkBest_89 : decode cX0_walkBest 89 = .ok (.iload_n 1, 1) := by decide +kernel
theorem dX0_walkBest_90 : decode cX0_walkBest 90 = .ok (.getstatic 89, 3) := by decide +kernel
theorem dX0_walkBest_93 : decode cX0_walkBest 93 = .ok (.iload_n 2, 1) := by decide +kernel
theorem dX0_walkBest_94 : decode cX0_walkBest 94 = .ok (.iaload, 1) := by decide +kernel
theorem dX0_walkBest_95 : decode cX0_walkBest 95 = .ok (.iadd, 1) := by decide +kernel
theorem dX0_walkBest_96 : decode cX0_walkBest 96 = .ok (.istore_n 1, 1) := by decide +kernel
theorem dX0_walkBest_97 : decode cX0_walkBest 97 = .ok (.goto (-78), 3) := by decide +kernel
theorem dX0_walkBest_100 : decode cX0_walkBest 100 = .ok (.return_, 1) := by decide +kernel
theorem dX0_end_0 : decode cX0_end 0 = .ok (.aload_n 0, 1) := by decide +kernel
theorem dX0_end_1 : decode cX0_end 1 = .ok (.getfield 59, 3) := by decide +kernel
theorem dX0_end_4 : decode cX0_end 4 = .ok (.bipush 8, 2) := by decide +kernel
theorem dX0_end_6 : decode cX0_end 6 = .ok (.imul, 1) := by decide +kernel
theorem dX0_end_7 : decode cX0_end 7 = .ok (.aload_n 0, 1) := by decide +kernel
theorem dX0_end_8 : decode cX0_end 8 = .ok (.getfield 63, 3) := by decide +kernel
theorem dX0_end_11 : decode cX0_end 11 = .ok (.iadd, 1) := by decide +kernel
theorem dX0_end_12 : decode cX0_end 12 = .ok (.ireturn, 1) := by decide +kernel
theorem dX0_orNone_0 : decode cX0_orNone 0 = .ok (.iload_n 0, 1) := by decide +kernel
theorem dX0_orNone_1 : decode cX0_orNone 1 = .ok (.ldc 72, 2) := by decide +kernel
theorem dX0_orNone_3 : decode cX0_orNone 3 = .ok (.if_icmp .ge 7, 3) := by decide +kernel
theorem dX0_orNone_6 : decode cX0_orNone 6 = .ok (.iload_n 0, 1) := by decide +kernel
theorem dX0_orNone_7 : decode cX0_orNone 7 = .ok (.goto 5, 3) := by decide +kernel
theorem dX0_orNone_10 : decode cX0_orNone 10 = .ok (.bipush (-9), 2) := by decide +kernel
theorem dX0_orNone_12 : decode cX0_orNone 12 = .ok (.ireturn, 1) := by decide +kernel
theorem dX0_answer_0 : decode cX0_answer 0 = .ok (.iload_n 1, 1) := by decide +kernel
theorem dX0_answer_1 : decode cX0_answer 1 = .ok (.tableswitch 64 0 2 #[27, 37, 54], 27) := by decide +kernel
theorem dX0_answer_28 : decode cX0_answer 28 = .ok (.aload_n 0, 1) := by decide +kernel
theorem dX0_answer_29 : decode cX0_answer 29 = .ok (.getfield 15, 3) := by decide +kernel
theorem dX0_answer_32 : decode cX0_answer 32 = .ok (.iconst 0, 1) := by decide +kernel
theorem dX0_answer_33 : decode cX0_answer 33 = .ok (.iaload, 1) := by decide +kernel
theorem dX0_answer_34 : decode cX0_answer 34 = .ok (.invokestatic 82, 3) := by decide +kernel
theorem dX0_answer_37 : decode cX0_answer 37 = .ok (.ireturn, 1) := by decide +kernel
theorem dX0_answer_38 : decode cX0_answer 38 = .ok (.aload_n 0, 1) := by decide +kernel
theorem dX0_answer_39 : decode cX0_answer 39 = .ok (.getfield 103, 3) := by decide +kernel
theorem dX0_answer_42 : decode cX0_answer 42 = .ok (.ifCond .le 10, 3) := by decide +kernel
theorem dX0_answer_45 : decode cX0_answer 45 = .ok (.aload_n 0, 1) := by decide +kernel
theorem dX0_answer_46 : decode cX0_answer 46 = .ok (.getfield 103, 3) := by decide +kernel
theorem dX0_answer_49 : decode cX0_answer 49 = .ok (.goto 5, 3) := by decide +kernel
theorem dX0_answer_52 : decode cX0_answer 52 = .ok (.bipush (-9), 2) := by decide +kernel
theorem dX0_answer_54 : decode cX0_answer 54 = .ok (.ireturn, 1) := by decide +kernel
theorem dX0_answer_55 : decode cX0_answer 55 = .ok (.aload_n 0, 1) := by decide +kernel
theorem dX0_answer_56 : decode cX0_answer 56 = .ok (.getfield 18, 3) := by decide +kernel
theorem dX0_answer_59 : decode cX0_answer 59 = .ok (.iconst 0, 1) := by decide +kernel
theorem dX0_answer_60 : decode cX0_answer 60 = .ok (.iaload, 1) := by decide +kernel
theorem dX0_answer_61 : decode cX0_answer 61 = .ok (.invokestatic 82, 3) := by decide +kernel
theorem dX0_answer_64 : decode cX0_answer 64 = .ok (.ireturn, 1) := by decide +kernel
theorem dX0_answer_65 : decode cX0_answer 65 = .ok (.aload_n 0, 1) := by decide +kernel
theorem dX0_answer_66 : decode cX0_answer 66 = .ok (.getfield 21, 3) := by decide +kernel
theorem dX0_answer_69 : decode cX0_answer 69 = .ok (.iconst 0, 1) := by decide +kernel
theorem dX0_answer_70 : decode cX0_answer 70 = .ok (.iaload, 1) := by decide +kernel
theorem dX0_answer_71 : decode cX0_answer 71 = .ok (.ireturn, 1) := by decide +kernel
theorem dX0_costOfPair_0 : decode cX0_costOfPair 0 = .ok (.aload_n 0, 1) := by decide +kernel
theorem dX0_costOfPair_1 : decode cX0_costOfPair 1 = .ok (.getfield 9, 3) := by decide +kernel
theorem dX0_costOfPair_4 : decode cX0_costOfPair 4 = .ok (.aload_n 0, 1) := by decide +kernel
theorem dX0_costOfPair_5 : decode cX0_costOfPair 5 = .ok (.getfield 27, 3) := by decide +kernel
theorem dX0_costOfPair_8 : decode cX0_costOfPair 8 = .ok (.iload_n 1, 1) := by decide +kernel
theorem dX0_costOfPair_9 : decode cX0_costOfPair 9 = .ok (.iaload, 1) := by decide +kernel
theorem dX0_costOfPair_10 : decode cX0_costOfPair 10 = .ok (.bipush 64, 2) := by decide +kernel
theorem dX0_costOfPair_12 : decode cX0_costOfPair 12 = .ok (.imul, 1) := by decide +kernel
theorem dX0_costOfPair_13 : decode cX0_costOfPair 13 = .ok (.aload_n 0, 1) := by decide +kernel
theorem dX0_costOfPair_14 : decode cX0_costOfPair 14 = .ok (.getfield 30, 3) := by decide +kernel
theorem dX0_costOfPair_17 : decode cX0_costOfPair 17 = .ok (.iload_n 1, 1) := by decide +kernel
theorem dX0_costOfPair_18 : decode cX0_costOfPair 18 = .ok (.iaload, 1) := by decide +kernel
theorem dX0_costOfPair_19 : decode cX0_costOfPair 19 = .ok (.bipush 8, 2) := by decide +kernel
theorem dX0_costOfPair_21 : decode cX0_costOfPair 21 = .ok (.imul, 1) := by decide +kernel
theorem dX0_costOfPair_22 : decode cX0_costOfPair 22 = .ok (.iadd, 1) := by decide +kernel
theorem dX0_costOfPair_23 : decode cX0_costOfPair 23 = .ok (.aload_n 0, 1) := by decide +kernel
theorem dX0_costOfPair_24 : decode cX0_costOfPair 24 = .ok (.getfield 33, 3) := by decide +kernel
theorem dX0_costOfPair_27 : decode cX0_costOfPair 27 = .ok (.iload_n 1, 1) := by decide +kernel
theorem dX0_costOfPair_28 : decode cX0_costOfPair 28 = .ok (.iaload, 1) := by decide +kernel
theorem dX0_costOfPair_29 : decode cX0_costOfPair 29 = .ok (.iadd, 1) := by decide +kernel
theorem dX0_costOfPair_30 : decode cX0_costOfPair 30 = .ok (.iaload, 1) := by decide +kernel
theorem dX0_costOfPair_31 : decode cX0_costOfPair 31 = .ok (.ireturn, 1) := by decide +kernel
theorem dX0_howManyOf_0 : decode cX0_howManyOf 0 = .ok (.iconst 0, 1) := by decide +kernel
theorem dX0_howManyOf_1 : decode cX0_howManyOf 1 = .ok (.istore_n 2, 1) := by decide +kernel
theorem dX0_howManyOf_2 : decode cX0_howManyOf 2 = .ok (.iconst 0, 1) := by decide +kernel
theorem dX0_howManyOf_3 : decode cX0_howManyOf 3 = .ok (.istore_n 3, 1) := by decide +kernel
theorem dX0_howManyOf_4 : decode cX0_howManyOf 4 = .ok (.iload_n 3, 1) := by decide +kernel
theorem dX0_howManyOf_5 : decode cX0_howManyOf 5 = .ok (.aload_n 0, 1) := by decide +kernel
theorem dX0_howManyOf_6 : decode cX0_howManyOf 6 = .ok (.getfield 103, 3) := by decide +kernel
theorem dX0_howManyOf_9 : decode cX0_howManyOf 9 = .ok (.if_icmp .ge 22, 3) := by decide +kernel
theorem dX0_howManyOf_12 : decode cX0_howManyOf 12 = .ok (.aload_n 0, 1) := by decide +kernel
theorem dX0_howManyOf_13 : decode cX0_howManyOf 13 = .ok (.getfield 27, 3) := by decide +kernel
theorem dX0_howManyOf_16 : decode cX0_howManyOf 16 = .ok (.iload_n 3, 1) := by decide +kernel
theorem dX0_howManyOf_17 : decode cX0_howManyOf 17 = .ok (.iaload, 1) := by decide +kernel
theorem dX0_howManyOf_18 : decode cX0_howManyOf 18 = .ok (.iload_n 1, 1) := by decide +kernel
theorem dX0_howManyOf_19 : decode cX0_howManyOf 19 = .ok (.if_icmp .ne 6, 3) := by decide +kernel
theorem dX0_howManyOf_22 : decode cX0_howManyOf 22 = .ok (.iinc 2 1, 3) := by decide +kernel
theorem dX0_howManyOf_25 : decode cX0_howManyOf 25 = .ok (.iinc 3 1, 3) := by decide +kernel
theorem dX0_howManyOf_28 : decode cX0_howManyOf 28 = .ok (.goto (-24), 3) := by decide +kernel
theorem dX0_howManyOf_31 : decode cX0_howManyOf 31 = .ok (.iload_n 2, 1) := by decide +kernel
theorem dX0_howManyOf_32 : decode cX0_howManyOf 32 = .ok (.ireturn, 1) := by decide +kernel
theorem dX0_rightsWith_0 : decode cX0_rightsWith 0 = .ok (.iconst 0, 1) := by decide +kernel
theorem dX0_rightsWith_1 : decode cX0_rightsWith 1 = .ok (.istore_n 2, 1) := by decide +kernel
theorem dX0_rightsWith_2 : decode cX0_rightsWith 2 = .ok (.iconst 0, 1) := by decide +kernel
theorem dX0_rightsWith_3 : decode cX0_rightsWith 3 = .ok (.istore_n 3, 1) := by decide +kernel
theorem dX0_rightsWith_4 : decode cX0_rightsWith 4 = .ok (.iload_n 3, 1) := by decide +kernel
theorem dX0_rightsWith_5 : decode cX0_rightsWith 5 = .ok (.aload_n 0, 1) := by decide +kernel
theorem dX0_rightsWith_6 : decode cX0_rightsWith 6 = .ok (.getfield 103, 3) := by decide +kernel
theorem dX0_rightsWith_9 : decode cX0_rightsWith 9 = .ok (.if_icmp .ge 54, 3) := by decide +kernel
theorem dX0_rightsWith_12 : decode cX0_rightsWith 12 = .ok (.iload_n 1, 1) := by decide +kernel
theorem dX0_rightsWith_13 : decode cX0_rightsWith 13 = .ok (.aload_n 0, 1) := by decide +kernel
theorem dX0_rightsWith_14 : decode cX0_rightsWith 14 = .ok (.getfield 30, 3) := by decide +kernel
theorem dX0_rightsWith_17 : decode cX0_rightsWith 17 = .ok (.iload_n 3, 1) := by decide +kernel
theorem dX0_rightsWith_18 : decode cX0_rightsWith 18 = .ok (.iaload, 1) := by decide +kernel
theorem dX0_rightsWith_19 : decode cX0_rightsWith 19 = .ok (.getstatic 106, 3) := by decide +kernel
theorem dX0_rightsWith_22 : decode cX0_rightsWith 22 = .ok (.aload_n 0, 1) := by decide +kernel
theorem dX0_rightsWith_23 : decode cX0_rightsWith 23 = .ok (.getfield 27, 3) := by decide +kernel
theorem dX0_rightsWith_26 : decode cX0_rightsWith 26 = .ok (.iload_n 3, 1) := by decide +kernel
theorem dX0_rightsWith_27 : decode cX0_rightsWith 27 = .ok (.iaload, 1) := by decide +kernel
theorem dX0_rightsWith_28 : decode cX0_rightsWith 28 = .ok (.iaload, 1) := by decide +kernel
theorem dX0_rightsWith_29 : decode cX0_rightsWith 29 = .ok (.invokestatic 109, 3) := by decide +kernel
theorem dX0_rightsWith_32 : decode cX0_rightsWith 32 = .ok (.ifCond .eq 25, 3) := by decide +kernel
theorem dX0_rightsWith_35 : decode cX0_rightsWith 35 = .ok (.iload_n 2, 1) := by decide +kernel
theorem dX0_rightsWith_36 : decode cX0_rightsWith 36 = .ok (.aload_n 0, 1) := by decide +kernel
theorem dX0_rightsWith_37 : decode cX0_rightsWith 37 = .ok (.getfield 33, 3) := by decide +kernel
theorem dX0_rightsWith_40 : decode cX0_rightsWith 40 = .ok (.iload_n 3, 1) := by decide +kernel
theorem dX0_rightsWith_41 : decode cX0_rightsWith 41 = .ok (.iaload, 1) := by decide +kernel
theorem dX0_rightsWith_42 : decode cX0_rightsWith 42 = .ok (.getstatic 112, 3) := by decide +kernel
theorem dX0_rightsWith_45 : decode cX0_rightsWith 45 = .ok (.aload_n 0, 1) := by decide +kernel
theorem dX0_rightsWith_46 : decode cX0_rightsWith 46 = .ok (.getfield 27, 3) := by decide +kernel
theorem dX0_rightsWith_49 : decode cX0_rightsWith 49 = .ok (.iload_n 3, 1) := by decide +kernel
theorem dX0_rightsWith_50 : decode cX0_rightsWith 50 = .ok (.iaload, 1) := by decide +kernel
theorem dX0_rightsWith_51 : decode cX0_rightsWith 51 = .ok (.iaload, 1) := by decide +kernel
theorem dX0_rightsWith_52 : decode cX0_rightsWith 52 = .ok (.invokestatic 115, 3) := by decide +kernel
theorem dX0_rightsWith_55 : decode cX0_rightsWith 55 = .ok (.ior, 1) := by decide +kernel
theorem dX0_rightsWith_56 : decode cX0_rightsWith 56 = .ok (.istore_n 2, 1) := by decide +kernel
theorem dX0_rightsWith_57 : decode cX0_rightsWith 57 = .ok (.iinc 3 1, 3) := by decide +kernel
theorem dX0_rightsWith_60 : decode cX0_rightsWith 60 = .ok (.goto (-56), 3) := by decide +kernel
theorem dX0_rightsWith_63 : decode cX0_rightsWith 63 = .ok (.iload_n 2, 1) := by decide +kernel
theorem dX0_rightsWith_64 : decode cX0_rightsWith 64 = .ok (.ireturn, 1) := by decide +kernel
theorem dX0_leftsWith_0 : decode cX0_leftsWith 0 = .ok (.iconst 0, 1) := by decide +kernel
theorem dX0_leftsWith_1 : decode cX0_leftsWith 1 = .ok (.istore_n 2, 1) := by decide +kernel
theorem dX0_leftsWith_2 : decode cX0_leftsWith 2 = .ok (.iconst 0, 1) := by decide +kernel
theorem dX0_leftsWith_3 : decode cX0_leftsWith 3 = .ok (.istore_n 3, 1) := by decide +kernel
theorem dX0_leftsWith_4 : decode cX0_leftsWith 4 = .ok (.iload_n 3, 1) := by decide +kernel
theorem dX0_leftsWith_5 : decode cX0_leftsWith 5 = .ok (.aload_n 0, 1) := by decide +kernel
theorem dX0_leftsWith_6 : decode cX0_leftsWith 6 = .ok (.getfield 103, 3) := by decide +kernel
theorem dX0_leftsWith_9 : decode cX0_leftsWith 9 = .ok (.if_icmp .ge 54, 3) := by decide +kernel
theorem dX0_leftsWith_12 : decode cX0_leftsWith 12 = .ok (.iload_n 1, 1) := by decide +kernel
theorem dX0_leftsWith_13 : decode cX0_leftsWith 13 = .ok (.aload_n 0, 1) := by decide +kernel
theorem dX0_leftsWith_14 : decode cX0_leftsWith 14 = .ok (.getfield 33, 3) := by decide +kernel
theorem dX0_leftsWith_17 : decode cX0_leftsWith 17 = .ok (.iload_n 3, 1) := by decide +kernel
theorem dX0_leftsWith_18 : decode cX0_leftsWith 18 = .ok (.iaload, 1) := by decide +kernel
theorem dX0_leftsWith_19 : decode cX0_leftsWith 19 = .ok (.getstatic 112, 3) := by decide +kernel
theorem dX0_leftsWith_22 : decode cX0_leftsWith 22 = .ok (.aload_n 0, 1) := by decide +kernel
theorem dX0_leftsWith_23 : decode cX0_leftsWith 23 = .ok (.getfield 27, 3) := by decide +kernel
theorem dX0_leftsWith_26 : decode cX0_leftsWith 26 = .ok (.iload_n 3, 1) := by decide +kernel
theorem dX0_leftsWith_27 : decode cX0_leftsWith 27 = .ok (.iaload, 1) := by decide +kernel
theorem dX0_leftsWith_28 : decode cX0_leftsWith 28 = .ok (.iaload, 1) := by decide +kernel
theorem dX0_leftsWith_29 : decode cX0_leftsWith 29 = .ok (.invokestatic 109, 3) := by decide +kernel
theorem dX0_leftsWith_32 : decode cX0_leftsWith 32 = .ok (.ifCond .eq 25, 3) := by decide +kernel
theorem dX0_leftsWith_35 : decode cX0_leftsWith 35 = .ok (.iload_n 2, 1) := by decide +kernel
theorem dX0_leftsWith_36 : decode cX0_leftsWith 36 = .ok (.aload_n 0, 1) := by decide +kernel
theorem dX0_leftsWith_37 : decode cX0_leftsWith 37 = .ok (.getfield 30, 3) := by decide +kernel
theorem dX0_leftsWith_40 : decode cX0_leftsWith 40 = .ok (.iload_n 3, 1) := by decide +kernel
theorem dX0_leftsWith_41 : decode cX0_leftsWith 41 = .ok (.iaload, 1) := by decide +kernel
theorem dX0_leftsWith_42 : decode cX0_leftsWith 42 = .ok (.getstatic 106, 3) := by decide +kernel
theorem dX0_leftsWith_45 : decode cX0_leftsWith 45 = .ok (.aload_n 0, 1) := by decide +kernel
theorem dX0_leftsWith_46 : decode cX0_leftsWith 46 = .ok (.getfield 27, 3) := by decide +kernel
theorem dX0_leftsWith_49 : decode cX0_leftsWith 49 = .ok (.iload_n 3, 1) := by decide +kernel
theorem dX0_leftsWith_50 : decode cX0_leftsWith 50 = .ok (.iaload, 1) := by decide +kernel
theorem dX0_leftsWith_51 : decode cX0_leftsWith 51 = .ok (.iaload, 1) := by decide +kernel
theorem dX0_leftsWith_52 : decode cX0_leftsWith 52 = .ok (.invokestatic 115, 3) := by decide +kernel
theorem dX0_leftsWith_55 : decode cX0_leftsWith 55 = .ok (.ior, 1) := by decide +kernel
theorem dX0_leftsWith_56 : decode cX0_leftsWith 56 = .ok (.istore_n 2, 1) := by decide +kernel
theorem dX0_leftsWith_57 : decode cX0_leftsWith 57 = .ok (.iinc 3 1, 3) := by decide +kernel
theorem dX0_leftsWith_60 : decode cX0_leftsWith 60 = .ok (.goto (-56), 3) := by decide +kernel
theorem dX0_leftsWith_63 : decode cX0_leftsWith 63 = .ok (.iload_n 2, 1) := by decide +kernel
theorem dX0_leftsWith_64 : decode cX0_leftsWith 64 = .ok (.ireturn, 1) := by decide +kernel
theorem dX0_isIn_0 : decode cX0_isIn 0 = .ok (.iload_n 0, 1) := by decide +kernel
theorem dX0_isIn_1 : decode cX0_isIn 1 = .ok (.iload_n 1, 1) := by decide +kernel
theorem dX0_isIn_2 : decode cX0_isIn 2 = .ok (.if_icmp .lt 14, 3) := by decide +kernel
theorem dX0_isIn_5 : decode cX0_isIn 5 = .ok (.iload_n 0, 1) := by decide +kernel
theorem dX0_isIn_6 : decode cX0_isIn 6 = .ok (.iload_n 1, 1) := by decide +kernel
theorem dX0_isIn_7 : decode cX0_isIn 7 = .ok (.iload_n 2, 1) := by decide +kernel
theorem dX0_isIn_8 : decode cX0_isIn 8 = .ok (.iadd, 1) := by decide +kernel
theorem dX0_isIn_9 : decode cX0_isIn 9 = .ok (.if_icmp .ge 7, 3) := by decide +kernel
theorem dX0_isIn_12 : decode cX0_isIn 12 = .ok (.iconst 1, 1) := by decide +kernel
theorem dX0_isIn_13 : decode cX0_isIn 13 = .ok (.goto 4, 3) := by decide +kernel
theorem dX0_isIn_16 : decode cX0_isIn 16 = .ok (.iconst 0, 1) := by decide +kernel
theorem dX0_isIn_17 : decode cX0_isIn 17 = .ok (.ireturn, 1) := by decide +kernel
theorem dX0_setOf_0 : decode cX0_setOf 0 = .ok (.iconst 1, 1) := by decide +kernel
theorem dX0_setOf_1 : decode cX0_setOf 1 = .ok (.iload_n 1, 1) := by decide +kernel
theorem dX0_setOf_2 : decode cX0_setOf 2 = .ok (.ishl, 1) := by decide +kernel
theorem dX0_setOf_3 : decode cX0_setOf 3 = .ok (.iconst 1, 1) := by decide +kernel
theorem dX0_setOf_4 : decode cX0_setOf 4 = .ok (.isub, 1) := by decide +kernel
theorem dX0_setOf_5 : decode cX0_setOf 5 = .ok (.iload_n 0, 1) := by decide +kernel
theorem dX0_setOf_6 : decode cX0_setOf 6 = .ok (.ishl, 1) := by decide +kernel
theorem dX0_setOf_7 : decode cX0_setOf 7 = .ok (.ireturn, 1) := by decide +kernel
theorem dX1_init_0 : decode cX1_init 0 = .ok (.aload_n 0, 1) := by decide +kernel
theorem dX1_init_1 : decode cX1_init 1 = .ok (.invokespecial 3, 3) := by decide +kernel
theorem dX1_init_4 : decode cX1_init 4 = .ok (.aload_n 0, 1) := by decide +kernel
theorem dX1_init_5 : decode cX1_init 5 = .ok (.bipush 7, 2) := by decide +kernel
theorem dX1_init_7 : decode cX1_init 7 = .ok (.newarray .int, 2) := by decide +kernel
theorem dX1_init_9 : decode cX1_init 9 = .ok (.putfield 9, 3) := by decide +kernel
theorem dX1_init_12 : decode cX1_init 12 = .ok (.aload_n 0, 1) := by decide +kernel
theorem dX1_init_13 : decode cX1_init 13 = .ok (.bipush 7, 2) := by decide +kernel
theorem dX1_init_15 : decode cX1_init 15 = .ok (.newarray .int, 2) := by decide +kernel
theorem dX1_init_17 : decode cX1_init 17 = .ok (.putfield 15, 3) := by decide +kernel
theorem dX1_init_20 : decode cX1_init 20 = .ok (.aload_n 0, 1) := by decide +kernel
theorem dX1_init_21 : decode cX1_init 21 = .ok (.bipush 7, 2) := by decide +kernel
theorem dX1_init_23 : decode cX1_init 23 = .ok (.newarray .int, 2) := by decide +kernel
theorem dX1_init_25 : decode cX1_init 25 = .ok (.putfield 18, 3) := by decide +kernel
theorem dX1_init_28 : decode cX1_init 28 = .ok (.aload_n 0, 1) := by decide +kernel
theorem dX1_init_29 : decode cX1_init 29 = .ok (.bipush 7, 2) := by decide +kernel
theorem dX1_init_31 : decode cX1_init 31 = .ok (.newarray .int, 2) := by decide +kernel
theorem dX1_init_33 : decode cX1_init 33 = .ok (.putfield 21, 3) := by decide +kernel
theorem dX1_init_36 : decode cX1_init 36 = .ok (.aload_n 0, 1) := by decide +kernel
theorem dX1_init_37 : decode cX1_init 37 = .ok (.bipush 7, 2) := by decide +kernel
theorem dX1_init_39 : decode cX1_init 39 = .ok (.newarray .int, 2) := by decide +kernel
theorem dX1_init_41 : decode cX1_init 41 = .ok (.putfield 24, 3) := by decide +kernel
theorem dX1_init_44 : decode cX1_init 44 = .ok (.return_, 1) := by decide +kernel
theorem dX1_begin_0 : decode cX1_begin 0 = .ok (.aload_n 0, 1) := by decide +kernel
theorem dX1_begin_1 : decode cX1_begin 1 = .ok (.iconst 0, 1) := by decide +kernel
theorem dX1_begin_2 : decode cX1_begin 2 = .ok (.putfield 27, 3) := by decide +kernel
theorem dX1_begin_5 : decode cX1_begin 5 = .ok (.aload_n 0, 1) := by decide +kernel
theorem dX1_begin_6 : decode cX1_begin 6 = .ok (.iconst 0, 1) := by decide +kernel
theorem dX1_begin_7 : decode cX1_begin 7 = .ok (.putfield 31, 3) := by decide +kernel
theorem dX1_begin_10 : decode cX1_begin 10 = .ok (.aload_n 0, 1) := by decide +kernel
theorem dX1_begin_11 : decode cX1_begin 11 = .ok (.iconst 4, 1) := by decide +kernel
theorem dX1_begin_12 : decode cX1_begin 12 = .ok (.putfield 34, 3) := by decide +kernel
theorem dX1_begin_15 : decode cX1_begin 15 = .ok (.aload_n 0, 1) := by decide +kernel
theorem dX1_begin_16 : decode cX1_begin 16 = .ok (.iconst 1, 1) := by decide +kernel
theorem dX1_begin_17 : decode cX1_begin 17 = .ok (.putfield 37, 3) := by decide +kernel
theorem dX1_begin_20 : decode cX1_begin 20 = .ok (.aload_n 0, 1) := by decide +kernel
theorem dX1_begin_21 : decode cX1_begin 21 = .ok (.bipush 7, 2) := by decide +kernel
theorem dX1_begin_23 : decode cX1_begin 23 = .ok (.putfield 40, 3) := by decide +kernel
theorem dX1_begin_26 : decode cX1_begin 26 = .ok (.return_, 1) := by decide +kernel
theorem dX1_becomeLike_0 : decode cX1_becomeLike 0 = .ok (.aload_n 0, 1) := by decide +kernel
theorem dX1_becomeLike_1 : decode cX1_becomeLike 1 = .ok (.aload_n 1, 1) := by decide +kernel
theorem dX1_becomeLike_2 : decode cX1_becomeLike 2 = .ok (.getfield 27, 3) := by decide +kernel
theorem dX1_becomeLike_5 : decode cX1_becomeLike 5 = .ok (.putfield 27, 3) := by decide +kernel
theorem dX1_becomeLike_8 : decode cX1_becomeLike 8 = .ok (.aload_n 0, 1) := by decide +kernel
theorem dX1_becomeLike_9 : decode cX1_becomeLike 9 = .ok (.aload_n 1, 1) := by decide +kernel
theorem dX1_becomeLike_10 : decode cX1_becomeLike 10 = .ok (.getfield 31, 3) := by decide +kernel
theorem dX1_becomeLike_13 : decode cX1_becomeLike 13 = .ok (.putfield 31, 3) := by decide +kernel
theorem dX1_becomeLike_16 : decode cX1_becomeLike 16 = .ok (.aload_n 0, 1) := by decide +kernel
theorem dX1_becomeLike_17 : decode cX1_becomeLike 17 = .ok (.aload_n 1, 1) := by decide +kernel
theorem dX1_becomeLike_18 : decode cX1_becomeLike 18 = .ok (.getfield 34, 3) := by decide +kernel
theorem dX1_becomeLike_21 : decode cX1_becomeLike 21 = .ok (.putfield 34, 3) := by decide +kernel
theorem dX1_becomeLike_24 : decode cX1_becomeLike 24 = .ok (.aload_n 0, 1) := by decide +kernel
theorem dX1_becomeLike_25 : decode cX1_becomeLike 25 = .ok (.aload_n 1, 1) := by decide +kernel
theorem dX1_becomeLike_26 : decode cX1_becomeLike 26 = .ok (.getfield 37, 3) := by decide +kernel
theorem dX1_becomeLike_29 : decode cX1_becomeLike 29 = .ok (.putfield 37, 3) := by decide +kernel
theorem dX1_becomeLike_32 : decode cX1_becomeLike 32 = .ok (.aload_n 0, 1) := by decide +kernel
theorem dX1_becomeLike_33 : decode cX1_becomeLike 33 = .ok (.aload_n 1, 1) := by decide +kernel
theorem dX1_becomeLike_34 : decode cX1_becomeLike 34 = .ok (.getfield 40, 3) := by decide +kernel
theorem dX1_becomeLike_37 : decode cX1_becomeLike 37 = .ok (.putfield 40, 3) := by decide +kernel
theorem dX1_becomeLike_40 : decode cX1_becomeLike 40 = .ok (.aload_n 1, 1) := by decide +kernel
theorem dX1_becomeLike_41 : decode cX1_becomeLike 41 = .ok (.getfield 9, 3) := by decide +kernel
theorem dX1_becomeLike_44 : decode cX1_becomeLike 44 = .ok (.iconst 0, 1) := by decide +kernel
theorem dX1_becomeLike_45 : decode cX1_becomeLike 45 = .ok (.aload_n 0, 1) := by decide +kernel
theorem dX1_becomeLike_46 : decode cX1_becomeLike 46 = .ok (.getfield 9, 3) := by decide +kernel
theorem dX1_becomeLike_49 : decode cX1_becomeLike 49 = .ok (.iconst 0, 1) := by decide +kernel
theorem dX1_becomeLike_50 : decode cX1_becomeLike 50 = .ok (.bipush 7, 2) := by decide +kernel
theorem dX1_becomeLike_52 : decode cX1_becomeLike 52 = .ok (.invokestatic 43, 3) := by decide +kernel
theorem dX1_becomeLike_55 : decode cX1_becomeLike 55 = .ok (.aload_n 1, 1) := by decide +kernel
theorem dX1_becomeLike_56 : decode cX1_becomeLike 56 = .ok (.getfield 15, 3) := by decide +kernel
theorem dX1_becomeLike_59 : decode cX1_becomeLike 59 = .ok (.iconst 0, 1) := by decide +kernel
theorem dX1_becomeLike_60 : decode cX1_becomeLike 60 = .ok (.aload_n 0, 1) := by decide +kernel
theorem dX1_becomeLike_61 : decode cX1_becomeLike 61 = .ok (.getfield 15, 3) := by decide +kernel
theorem dX1_becomeLike_64 : decode cX1_becomeLike 64 = .ok (.iconst 0, 1) := by decide +kernel
theorem dX1_becomeLike_65 : decode cX1_becomeLike 65 = .ok (.bipush 7, 2) := by decide +kernel
theorem dX1_becomeLike_67 : decode cX1_becomeLike 67 = .ok (.invokestatic 43, 3) := by decide +kernel
theorem dX1_becomeLike_70 : decode cX1_becomeLike 70 = .ok (.aload_n 1, 1) := by decide +kernel
theorem dX1_becomeLike_71 : decode cX1_becomeLike 71 = .ok (.getfield 18, 3) := by decide +kernel
theorem dX1_becomeLike_74 : decode cX1_becomeLike 74 = .ok (.iconst 0, 1) := by decide +kernel
theorem dX1_becomeLike_75 : decode cX1_becomeLike 75 = .ok (.aload_n 0, 1) := by decide +kernel
theorem dX1_becomeLike_76 : decode cX1_becomeLike 76 = .ok (.getfield 18, 3) := by decide +kernel
theorem dX1_becomeLike_79 : decode cX1_becomeLike 79 = .ok (.iconst 0, 1) := by decide +kernel
theorem dX1_becomeLike_80 : decode cX1_becomeLike 80 = .ok (.bipush 7, 2) := by decide +kernel
theorem dX1_becomeLike_82 : decode cX1_becomeLike 82 = .ok (.invokestatic 43, 3) := by decide +kernel
theorem dX1_becomeLike_85 : decode cX1_becomeLike 85 = .ok (.aload_n 1, 1) := by decide +kernel
theorem dX1_becomeLike_86 : decode cX1_becomeLike 86 = .ok (.getfield 21, 3) := by decide +kernel
theorem dX1_becomeLike_89 : decode cX1_becomeLike 89 = .ok (.iconst 0, 1) := by decide +kernel
theorem dX1_becomeLike_90 : decode cX1_becomeLike 90 = .ok (.aload_n 0, 1) := by decide +kernel
theorem dX1_becomeLike_91 : decode cX1_becomeLike 91 = .ok (.getfield 21, 3) := by decide +kernel
theorem dX1_becomeLike_94 : decode cX1_becomeLike 94 = .ok (.iconst 0, 1) := by decide +kernel
theorem dX1_becomeLike_95 : decode cX1_becomeLike 95 = .ok (.bipush 7, 2) := by decide +kernel
theorem dX1_becomeLike_97 : decode cX1_becomeLike 97 = .ok (.invokestatic 43, 3) := by decide +kernel
theorem dX1_becomeLike_100 : decode cX1_becomeLike 100 = .ok (.aload_n 1, 1) := by decide +kernel
theorem dX1_becomeLike_101 : decode cX1_becomeLike 101 = .ok (.getfield 24, 3) := by decide +kernel
theorem dX1_becomeLike_104 : decode cX1_becomeLike 104 = .ok (.iconst 0, 1) := by decide +kernel
theorem dX1_becomeLike_105 : decode cX1_becomeLike 105 = .ok (.aload_n 0, 1) := by decide +kernel
theorem dX1_becomeLike_106 : decode cX1_becomeLike 106 = .ok (.getfield 24, 3) := by decide +kernel
theorem dX1_becomeLike_109 : decode cX1_becomeLike 109 = .ok (.iconst 0, 1) := by decide +kernel
theorem dX1_becomeLike_110 : decode cX1_becomeLike 110 = .ok (.bipush 7, 2) := by decide +kernel
theorem dX1_becomeLike_112 : decode cX1_becomeLike 112 = .ok (.invokestatic 43, 3) := by decide +kernel
theorem dX1_becomeLike_115 : decode cX1_becomeLike 115 = .ok (.return_, 1) := by decide +kernel
theorem dX1_areThere_0 : decode cX1_areThere 0 = .ok (.aload_n 0, 1) := by decide +kernel
theorem dX1_areThere_1 : decode cX1_areThere 1 = .ok (.getfield 27, 3) := by decide +kernel
theorem dX1_areThere_4 : decode cX1_areThere 4 = .ok (.ifCond .le 7, 3) := by decide +kernel
theorem dX1_areThere_7 : decode cX1_areThere 7 = .ok (.iconst 1, 1) := by decide +kernel
theorem dX1_areThere_8 : decode cX1_areThere 8 = .ok (.goto 4, 3) := by decide +kernel
theorem dX1_areThere_11 : decode cX1_areThere 11 = .ok (.iconst 0, 1) := by decide +kernel
theorem dX1_areThere_12 : decode cX1_areThere 12 = .ok (.ireturn, 1) := by decide +kernel
theorem dX1_hasLeft_0 : decode cX1_hasLeft 0 = .ok (.iload_n 1, 1) := by decide +kernel
theorem dX1_hasLeft_1 : decode cX1_hasLeft 1 = .ok (.ifCond .lt 15, 3) := by decide +kernel
theorem dX1_hasLeft_4 : decode cX1_hasLeft 4 = .ok (.iload_n 1, 1) := by decide +kernel
theorem dX1_hasLeft_5 : decode cX1_hasLeft 5 = .ok (.aload_n 0, 1) := by decide +kernel
theorem dX1_hasLeft_6 : decode cX1_hasLeft 6 = .ok (.getfield 27, 3) := by decide +kernel
theorem dX1_hasLeft_9 : decode cX1_hasLeft 9 = .ok (.if_icmp .ge 7, 3) := by decide +kernel
theorem dX1_hasLeft_12 : decode cX1_hasLeft 12 = .ok (.iconst 1, 1) := by decide +kernel
theorem dX1_hasLeft_13 : decode cX1_hasLeft 13 = .ok (.goto 4, 3) := by decide +kernel
theorem dX1_hasLeft_16 : decode cX1_hasLeft 16 = .ok (.iconst 0, 1) := by decide +kernel
theorem dX1_hasLeft_17 : decode cX1_hasLeft 17 = .ok (.ireturn, 1) := by decide +kernel
theorem dX1_hasRight_0 : decode cX1_hasRight 0 = .ok (.iload_n 1, 1) := by decide +kernel
theorem dX1_hasRight_1 : decode cX1_hasRight 1 = .ok (.ifCond .lt 15, 3) := by decide +kernel
theorem dX1_hasRight_4 : decode cX1_hasRight 4 = .ok (.iload_n 1, 1) := by decide +kernel
theorem dX1_hasRight_5 : decode cX1_hasRight 5 = .ok (.aload_n 0, 1) := by decide +kernel
theorem dX1_hasRight_6 : decode cX1_hasRight 6 = .ok (.getfield 31, 3) := by decide +kernel
theorem dX1_hasRight_9 : decode cX1_hasRight 9 = .ok (.if_icmp .ge 7, 3) := by decide +kernel
theorem dX1_hasRight_12 : decode cX1_hasRight 12 = .ok (.iconst 1, 1) := by decide +kernel
theorem dX1_hasRight_13 : decode cX1_hasRight 13 = .ok (.goto 4, 3) := by decide +kernel
theorem dX1_hasRight_16 : decode cX1_hasRight 16 = .ok (.iconst 0, 1) := by decide +kernel
theorem dX1_hasRight_17 : decode cX1_hasRight 17 = .ok (.ireturn, 1) := by decide +kernel
theorem dX1_leftLength_0 : decode cX1_leftLength 0 = .ok (.aload_n 0, 1) := by decide +kernel
theorem dX1_leftLength_1 : decode cX1_leftLength 1 = .ok (.getfield 9, 3) := by decide +kernel
theorem dX1_leftLength_4 : decode cX1_leftLength 4 = .ok (.iload_n 1, 1) := by decide +kernel
theorem dX1_leftLength_5 : decode cX1_leftLength 5 = .ok (.iaload, 1) := by decide +kernel
theorem dX1_leftLength_6 : decode cX1_leftLength 6 = .ok (.lookupswitch 44 #[(1, 35), (2, 26)], 26) := by decide +kernel
theorem dX1_leftLength_32 : decode cX1_leftLength 32 = .ok (.iconst 2, 1) := by decide +kernel
theorem dX1_leftLength_33 : decode cX1_leftLength 33 = .ok (.aload_n 0, 1) := by decide +kernel
theorem dX1_leftLength_34 : decode cX1_leftLength 34 = .ok (.getfield 15, 3) := by decide +kernel
theorem dX1_leftLength_37 : decode cX1_leftLength 37 = .ok (.iload_n 1, 1) := by decide +kernel
theorem dX1_leftLength_38 : decode cX1_leftLength 38 = .ok (.iaload, 1) := by decide +kernel
theorem dX1_leftLength_39 : decode cX1_leftLength 39 = .ok (.imul, 1) := by decide +kernel
theorem dX1_leftLength_40 : decode cX1_leftLength 40 = .ok (.ireturn, 1) := by decide +kernel
theorem dX1_leftLength_41 : decode cX1_leftLength 41 = .ok (.aload_n 0, 1) := by decide +kernel
theorem dX1_leftLength_42 : decode cX1_leftLength 42 = .ok (.getfield 15, 3) := by decide +kernel
theorem dX1_leftLength_45 : decode cX1_leftLength 45 = .ok (.iload_n 1, 1) := by decide +kernel
theorem dX1_leftLength_46 : decode cX1_leftLength 46 = .ok (.iaload, 1) := by decide +kernel
theorem dX1_leftLength_47 : decode cX1_leftLength 47 = .ok (.iconst 1, 1) := by decide +kernel
theorem dX1_leftLength_48 : decode cX1_leftLength 48 = .ok (.iadd, 1) := by decide +kernel
theorem dX1_leftLength_49 : decode cX1_leftLength 49 = .ok (.ireturn, 1) := by decide +kernel
theorem dX1_leftLength_50 : decode cX1_leftLength 50 = .ok (.aload_n 0, 1) := by decide +kernel
theorem dX1_leftLength_51 : decode cX1_leftLength 51 = .ok (.getfield 15, 3) := by decide +kernel
theorem dX1_leftLength_54 : decode cX1_leftLength 54 = .ok (.iload_n 1, 1) := by decide +kernel
theorem dX1_leftLength_55 : decode cX1_leftLength 55 = .ok (.iaload, 1) := by decide +kernel
theorem dX1_leftLength_56 : decode cX1_leftLength 56 = .ok (.ireturn, 1) := by decide +kernel
theorem dX1_priceOf_0 : decode cX1_priceOf 0 = .ok (.iload_n 1, 1) := by decide +kernel
theorem dX1_priceOf_1 : decode cX1_priceOf 1 = .ok (.lookupswitch 37 #[(0, 27), (1, 32)], 27) := by decide +kernel
theorem dX1_priceOf_28 : decode cX1_priceOf 28 = .ok (.aload_n 0, 1) := by decide +kernel
theorem dX1_priceOf_29 : decode cX1_priceOf 29 = .ok (.getfield 34, 3) := by decide +kernel
theorem dX1_priceOf_32 : decode cX1_priceOf 32 = .ok (.ireturn, 1) := by decide +kernel
theorem dX1_priceOf_33 : decode cX1_priceOf 33 = .ok (.aload_n 0, 1) := by decide +kernel
theorem dX1_priceOf_34 : decode cX1_priceOf 34 = .ok (.getfield 37, 3) := by decide +kernel
theorem dX1_priceOf_37 : decode cX1_priceOf 37 = .ok (.ireturn, 1) := by decide +kernel
theorem dX1_priceOf_38 : decode cX1_priceOf 38 = .ok (.aload_n 0, 1) := by decide +kernel
theorem dX1_priceOf_39 : decode cX1_priceOf 39 = .ok (.getfield 40, 3) := by decide +kernel
theorem dX1_priceOf_42 : decode cX1_priceOf 42 = .ok (.ireturn, 1) := by decide +kernel
theorem dX1_setPrice_0 : decode cX1_setPrice 0 = .ok (.iload_n 1, 1) := by decide +kernel
theorem dX1_setPrice_1 : decode cX1_setPrice 1 = .ok (.lookupswitch 43 #[(0, 27), (1, 35)], 27) := by decide +kernel
theorem dX1_setPrice_28 : decode cX1_setPrice 28 = .ok (.aload_n 0, 1) := by decide +kernel
theorem dX1_setPrice_29 : decode cX1_setPrice 29 = .ok (.iload_n 2, 1) := by decide +kernel
theorem dX1_setPrice_30 : decode cX1_setPrice 30 = .ok (.putfield 34, 3) := by decide +kernel
theorem dX1_setPrice_33 : decode cX1_setPrice 33 = .ok (.goto 16, 3) := by decide +kernel
theorem dX1_setPrice_36 : decode cX1_setPrice 36 = .ok (.aload_n 0, 1) := by decide +kernel
theorem dX1_setPrice_37 : decode cX1_setPrice 37 = .ok (.iload_n 2, 1) := by decide +kernel
theorem dX1_setPrice_38 : decode cX1_setPrice 38 = .ok (.putfield 37, 3) := by decide +kernel
theorem dX1_setPrice_41 : decode cX1_setPrice 41 = .ok (.goto 8, 3) := by decide +kernel
theorem dX1_setPrice_44 : decode cX1_setPrice 44 = .ok (.aload_n 0, 1) := by decide +kernel
theorem dX1_setPrice_45 : decode cX1_setPrice 45 = .ok (.iload_n 2, 1) := by decide +kernel
theorem dX1_setPrice_46 : decode cX1_setPrice 46 = .ok (.putfield 40, 3) := by decide +kernel
theorem dX1_setPrice_49 : decode cX1_setPrice 49 = .ok (.return_, 1) := by decide +kernel
theorem dX1_takeAct_0 : decode cX1_takeAct 0 = .ok (.iload_n 2, 1) := by decide +kernel
theorem dX1_takeAct_1 : decode cX1_takeAct 1 = .ok (.bipush 20, 2) := by decide +kernel
theorem dX1_takeAct_3 : decode cX1_takeAct 3 = .ok (.if_icmp .lt 14, 3) := by decide +kernel
theorem dX1_takeAct_6 : decode cX1_takeAct 6 = .ok (.aload_n 0, 1) := by decide +kernel
theorem dX1_takeAct_7 : decode cX1_takeAct 7 = .ok (.iload_n 2, 1) := by decide +kernel
theorem dX1_takeAct_8 : decode cX1_takeAct 8 = .ok (.bipush 20, 2) := by decide +kernel
theorem dX1_takeAct_10 : decode cX1_takeAct 10 = .ok (.isub, 1) := by decide +kernel
theorem dX1_takeAct_11 : decode cX1_takeAct 11 = .ok (.iload_n 1, 1) := by decide +kernel
theorem dX1_takeAct_12 : decode cX1_takeAct 12 = .ok (.invokevirtual 49, 3) := by decide +kernel
theorem dX1_takeAct_15 : decode cX1_takeAct 15 = .ok (.iconst 1, 1) := by decide +kernel
theorem dX1_takeAct_16 : decode cX1_takeAct 16 = .ok (.ireturn, 1) := by decide +kernel
theorem dX1_takeAct_17 : decode cX1_takeAct 17 = .ok (.iload_n 2, 1) := by decide +kernel
theorem dX1_takeAct_18 : decode cX1_takeAct 18 = .ok (.bipush 10, 2) := by decide +kernel
theorem dX1_takeAct_20 : decode cX1_takeAct 20 = .ok (.if_icmp .lt 28, 3) := by decide +kernel
theorem dX1_takeAct_23 : decode cX1_takeAct 23 = .ok (.aload_n 0, 1) := by decide +kernel
theorem dX1_takeAct_24 : decode cX1_takeAct 24 = .ok (.iload_n 2, 1) := by decide +kernel
theorem dX1_takeAct_25 : decode cX1_takeAct 25 = .ok (.bipush 10, 2) := by decide +kernel
theorem dX1_takeAct_27 : decode cX1_takeAct 27 = .ok (.isub, 1) := by decide +kernel
theorem dX1_takeAct_28 : decode cX1_takeAct 28 = .ok (.invokevirtual 53, 3) := by decide +kernel
theorem dX1_takeAct_31 : decode cX1_takeAct 31 = .ok (.ifCond .ne 5, 3) := by decide +kernel
theorem dX1_takeAct_34 : decode cX1_takeAct 34 = .ok (.iconst 0, 1) := by decide +kernel
theorem dX1_takeAct_35 : decode cX1_takeAct 35 = .ok (.ireturn, 1) := by decide +kernel
theorem dX1_takeAct_36 : decode cX1_takeAct 36 = .ok (.aload_n 0, 1) := by decide +kernel
theorem dX1_takeAct_37 : decode cX1_takeAct 37 = .ok (.getfield 21, 3) := by decide +kernel
theorem dX1_takeAct_40 : decode cX1_takeAct 40 = .ok (.iload_n 2, 1) := by decide +kernel
theorem dX1_takeAct_41 : decode cX1_takeAct 41 = .ok (.bipush 10, 2) := by decide +kernel
theorem dX1_takeAct_43 : decode cX1_takeAct 43 = .ok (.isub, 1) := by decide +kernel
theorem dX1_takeAct_44 : decode cX1_takeAct 44 = .ok (.iload_n 1, 1) := by decide +kernel
theorem dX1_takeAct_45 : decode cX1_takeAct 45 = .ok (.iastore, 1) := by decide +kernel
theorem dX1_takeAct_46 : decode cX1_takeAct 46 = .ok (.iconst 1, 1) := by decide +kernel
theorem dX1_takeAct_47 : decode cX1_takeAct 47 = .ok (.ireturn, 1) := by decide +kernel
theorem dX1_takeAct_48 : decode cX1_takeAct 48 = .ok (.aload_n 0, 1) := by decide +kernel
theorem dX1_takeAct_49 : decode cX1_takeAct 49 = .ok (.iload_n 2, 1) := by decide +kernel
theorem dX1_takeAct_50 : decode cX1_takeAct 50 = .ok (.invokevirtual 57, 3) := by decide +kernel
theorem dX1_takeAct_53 : decode cX1_takeAct 53 = .ok (.ifCond .ne 5, 3) := by decide +kernel
theorem dX1_takeAct_56 : decode cX1_takeAct 56 = .ok (.iconst 0, 1) := by decide +kernel
theorem dX1_takeAct_57 : decode cX1_takeAct 57 = .ok (.ireturn, 1) := by decide +kernel
theorem dX1_takeAct_58 : decode cX1_takeAct 58 = .ok (.aload_n 0, 1) := by decide +kernel
theorem dX1_takeAct_59 : decode cX1_takeAct 59 = .ok (.getfield 15, 3) := by decide +kernel
theorem dX1_takeAct_62 : decode cX1_takeAct 62 = .ok (.iload_n 2, 1) := by decide +kernel
theorem dX1_takeAct_63 : decode cX1_takeAct 63 = .ok (.iload_n 1, 1) := by decide +kernel
theorem dX1_takeAct_64 : decode cX1_takeAct 64 = .ok (.iastore, 1) := by decide +kernel
theorem dX1_takeAct_65 : decode cX1_takeAct 65 = .ok (.iconst 1, 1) := by decide +kernel
theorem dX1_takeAct_66 : decode cX1_takeAct 66 = .ok (.ireturn, 1) := by decide +kernel
theorem dX1_takeMoved_0 : decode cX1_takeMoved 0 = .ok (.iconst 0, 1) := by decide +kernel
theorem dX1_takeMoved_1 : decode cX1_takeMoved 1 = .ok (.istore 5, 2) := by decide +kernel
theorem dX1_takeMoved_3 : decode cX1_takeMoved 3 = .ok (.iload 5, 2) := by decide +kernel
theorem dX1_takeMoved_5 : decode cX1_takeMoved 5 = .ok (.aload_n 0, 1) := by decide +kernel
theorem dX1_takeMoved_6 : decode cX1_takeMoved 6 = .ok (.getfield 31, 3) := by decide +kernel
theorem dX1_takeMoved_9 : decode cX1_takeMoved 9 = .ok (.if_icmp .ge 100, 3) := by decide +kernel
theorem dX1_takeMoved_12 : decode cX1_takeMoved 12 = .ok (.iload 5, 2) := by decide +kernel
theorem dX1_takeMoved_14 : decode cX1_takeMoved 14 = .ok (.iload 4, 2) := by decide +kernel
theorem dX1_takeMoved_16 : decode cX1_takeMoved 16 = .ok (.if_icmp .lt 24, 3) := by decide +kernel
theorem dX1_takeMoved_19 : decode cX1_takeMoved 19 = .ok (.iload 5, 2) := by decide +kernel
theorem dX1_takeMoved_21 : decode cX1_takeMoved 21 = .ok (.iload 4, 2) := by decide +kernel
theorem dX1_takeMoved_23 : decode cX1_takeMoved 23 = .ok (.iload_n 3, 1) := by decide +kernel
theorem dX1_takeMoved_24 : decode cX1_takeMoved 24 = .ok (.iadd, 1) := by decide +kernel
theorem dX1_takeMoved_25 : decode cX1_takeMoved 25 = .ok (.if_icmp .ge 15, 3) := by decide +kernel
theorem dX1_takeMoved_28 : decode cX1_takeMoved 28 = .ok (.iload_n 2, 1) := by decide +kernel
theorem dX1_takeMoved_29 : decode cX1_takeMoved 29 = .ok (.iload 5, 2) := by decide +kernel
theorem dX1_takeMoved_31 : decode cX1_takeMoved 31 = .ok (.iadd, 1) := by decide +kernel
theorem dX1_takeMoved_32 : decode cX1_takeMoved 32 = .ok (.iload 4, 2) := by decide +kernel
theorem dX1_takeMoved_34 : decode cX1_takeMoved 34 = .ok (.isub, 1) := by decide +kernel
theorem dX1_takeMoved_35 : decode cX1_takeMoved 35 = .ok (.istore 6, 2) := by decide +kernel
theorem dX1_takeMoved_37 : decode cX1_takeMoved 37 = .ok (.goto 38, 3) := by decide +kernel
theorem dX1_takeMoved_40 : decode cX1_takeMoved 40 = .ok (.iload 5, 2) := by decide +kernel
theorem dX1_takeMoved_42 : decode cX1_takeMoved 42 = .ok (.iload 4, 2) := by decide +kernel
theorem dX1_takeMoved_44 : decode cX1_takeMoved 44 = .ok (.if_icmp .ge 8, 3) := by decide +kernel
theorem dX1_takeMoved_47 : decode cX1_takeMoved 47 = .ok (.iload 5, 2) := by decide +kernel
theorem dX1_takeMoved_49 : decode cX1_takeMoved 49 = .ok (.goto 7, 3) := by decide +kernel
theorem dX1_takeMoved_52 : decode cX1_takeMoved 52 = .ok (.iload 5, 2) := by decide +kernel
theorem dX1_takeMoved_54 : decode cX1_takeMoved 54 = .ok (.iload_n 3, 1) := by decide +kernel
theorem dX1_takeMoved_55 : decode cX1_takeMoved 55 = .ok (.isub, 1) := by decide +kernel
theorem dX1_takeMoved_56 : decode cX1_takeMoved 56 = .ok (.istore 7, 2) := by decide +kernel
theorem dX1_takeMoved_58 : decode cX1_takeMoved 58 = .ok (.iload 7, 2) := by decide +kernel
theorem dX1_takeMoved_60 : decode cX1_takeMoved 60 = .ok (.iload_n 2, 1) := by decide +kernel
theorem dX1_takeMoved_61 : decode cX1_takeMoved 61 = .ok (.if_icmp .ge 8, 3) := by decide +kernel
theorem dX1_takeMoved_64 : decode cX1_takeMoved 64 = .ok (.iload 7, 2) := by decide +kernel
theorem dX1_takeMoved_66 : decode cX1_takeMoved 66 = .ok (.goto 7, 3) := by decide +kernel
theorem dX1_takeMoved_69 : decode cX1_takeMoved 69 = .ok (.iload 7, 2) := by decide +kernel
theorem dX1_takeMoved_71 : decode cX1_takeMoved 71 = .ok (.iload_n 3, 1) := by decide +kernel
theorem dX1_takeMoved_72 : decode cX1_takeMoved 72 = .ok (.iadd, 1) := by decide +kernel
theorem dX1_takeMoved_73 : decode cX1_takeMoved 73 = .ok (.istore 6, 2) := by decide +kernel
theorem dX1_takeMoved_75 : decode cX1_takeMoved 75 = .ok (.aload_n 0, 1) := by decide +kernel
theorem dX1_takeMoved_76 : decode cX1_takeMoved 76 = .ok (.getfield 21, 3) := by decide +kernel
theorem dX1_takeMoved_79 : decode cX1_takeMoved 79 = .ok (.iload 5, 2) := by decide +kernel
theorem dX1_takeMoved_81 : decode cX1_takeMoved 81 = .ok (.aload_n 1, 1) := by decide +kernel
theorem dX1_takeMoved_82 : decode cX1_takeMoved 82 = .ok (.getfield 21, 3) := by decide +kernel
theorem dX1_takeMoved_85 : decode cX1_takeMoved 85 = .ok (.iload 6, 2) := by decide +kernel
theorem dX1_takeMoved_87 : decode cX1_takeMoved 87 = .ok (.iaload, 1) := by decide +kernel
theorem dX1_takeMoved_88 : decode cX1_takeMoved 88 = .ok (.iastore, 1) := by decide +kernel
theorem dX1_takeMoved_89 : decode cX1_takeMoved 89 = .ok (.aload_n 0, 1) := by decide +kernel
theorem dX1_takeMoved_90 : decode cX1_takeMoved 90 = .ok (.getfield 24, 3) := by decide +kernel
theorem dX1_takeMoved_93 : decode cX1_takeMoved 93 = .ok (.iload 5, 2) := by decide +kernel
theorem dX1_takeMoved_95 : decode cX1_takeMoved 95 = .ok (.aload_n 1, 1) := by decide +kernel
theorem dX1_takeMoved_96 : decode cX1_takeMoved 96 = .ok (.getfield 24, 3) := by decide +kernel
theorem dX1_takeMoved_99 : decode cX1_takeMoved 99 = .ok (.iload 6, 2) := by decide +kernel
theorem dX1_takeMoved_101 : decode cX1_takeMoved 101 = .ok (.iaload, 1) := by decide +kernel
theorem dX1_takeMoved_102 : decode cX1_takeMoved 102 = .ok (.iastore, 1) := by decide +kernel
theorem dX1_takeMoved_103 : decode cX1_takeMoved 103 = .ok (.iinc 5 1, 3) := by decide +kernel
theorem dX1_takeMoved_106 : decode cX1_takeMoved 106 = .ok (.goto (-103), 3) := by decide +kernel
theorem dX1_takeMoved_109 : decode cX1_takeMoved 109 = .ok (.return_, 1) := by decide +kernel
theorem dX1_hasPair_0 : decode cX1_hasPair 0 = .ok (.getstatic 60, 3) := by decide +kernel
theorem dX1_hasPair_3 : decode cX1_hasPair 3 = .ok (.iload_n 1, 1) := by decide +kernel
theorem dX1_hasPair_4 : decode cX1_hasPair 4 = .ok (.iaload, 1) := by decide +kernel
theorem dX1_hasPair_5 : decode cX1_hasPair 5 = .ok (.istore 4, 2) := by decide +kernel
theorem dX1_hasPair_7 : decode cX1_hasPair 7 = .ok (.getstatic 63, 3) := by decide +kernel
theorem dX1_hasPair_10 : decode cX1_hasPair 10 = .ok (.iload_n 1, 1) := by decide +kernel
theorem dX1_hasPair_11 : decode cX1_hasPair 11 = .ok (.iaload, 1) := by decide +kernel
theorem dX1_hasPair_12 : decode cX1_hasPair 12 = .ok (.istore 5, 2) := by decide +kernel
theorem dX1_hasPair_14 : decode cX1_hasPair 14 = .ok (.iload 4, 2) := by decide +kernel
theorem dX1_hasPair_16 : decode cX1_hasPair 16 = .ok (.ifCond .eq 22, 3) := by decide +kernel
theorem dX1_hasPair_19 : decode cX1_hasPair 19 = .ok (.aload_n 0, 1) := by decide +kernel
theorem dX1_hasPair_20 : decode cX1_hasPair 20 = .ok (.iload_n 2, 1) := by decide +kernel
theorem dX1_hasPair_21 : decode cX1_hasPair 21 = .ok (.invokevirtual 57, 3) := by decide +kernel
theorem dX1_hasPair_24 : decode cX1_hasPair 24 = .ok (.ifCond .eq 18, 3) := by decide +kernel
theorem dX1_hasPair_27 : decode cX1_hasPair 27 = .ok (.iload 4, 2) := by decide +kernel
theorem dX1_hasPair_29 : decode cX1_hasPair 29 = .ok (.aload_n 0, 1) := by decide +kernel
theorem dX1_hasPair_30 : decode cX1_hasPair 30 = .ok (.getfield 27, 3) := by decide +kernel
theorem dX1_hasPair_33 : decode cX1_hasPair 33 = .ok (.iload_n 2, 1) := by decide +kernel
theorem dX1_hasPair_34 : decode cX1_hasPair 34 = .ok (.isub, 1) := by decide +kernel
theorem dX1_hasPair_35 : decode cX1_hasPair 35 = .ok (.if_icmp .gt 7, 3) := by decide +kernel
theorem dX1_hasPair_38 : decode cX1_hasPair 38 = .ok (.iconst 1, 1) := by decide +kernel
theorem dX1_hasPair_39 : decode cX1_hasPair 39 = .ok (.goto 4, 3) := by decide +kernel
theorem dX1_hasPair_42 : decode cX1_hasPair 42 = .ok (.iconst 0, 1) := by decide +kernel
theorem dX1_hasPair_43 : decode cX1_hasPair 43 = .ok (.istore 6, 2) := by decide +kernel
theorem dX1_hasPair_45 : decode cX1_hasPair 45 = .ok (.iload 5, 2) := by decide +kernel
theorem dX1_hasPair_47 : decode cX1_hasPair 47 = .ok (.ifCond .eq 22, 3) := by decide +kernel
theorem dX1_hasPair_50 : decode cX1_hasPair 50 = .ok (.aload_n 0, 1) := by decide +kernel
theorem dX1_hasPair_51 : decode cX1_hasPair 51 = .ok (.iload_n 3, 1) := by decide +kernel
theorem dX1_hasPair_52 : decode cX1_hasPair 52 = .ok (.invokevirtual 53, 3) := by decide +kernel
theorem dX1_hasPair_55 : decode cX1_hasPair 55 = .ok (.ifCond .eq 18, 3) := by decide +kernel
theorem dX1_hasPair_58 : decode cX1_hasPair 58 = .ok (.iload 5, 2) := by decide +kernel
theorem dX1_hasPair_60 : decode cX1_hasPair 60 = .ok (.aload_n 0, 1) := by decide +kernel
theorem dX1_hasPair_61 : decode cX1_hasPair 61 = .ok (.getfield 31, 3) := by decide +kernel
theorem dX1_hasPair_64 : decode cX1_hasPair 64 = .ok (.iload_n 3, 1) := by decide +kernel
theorem dX1_hasPair_65 : decode cX1_hasPair 65 = .ok (.isub, 1) := by decide +kernel
theorem dX1_hasPair_66 : decode cX1_hasPair 66 = .ok (.if_icmp .gt 7, 3) := by decide +kernel
theorem dX1_hasPair_69 : decode cX1_hasPair 69 = .ok (.iconst 1, 1) := by decide +kernel
theorem dX1_hasPair_70 : decode cX1_hasPair 70 = .ok (.goto 4, 3) := by decide +kernel
theorem dX1_hasPair_73 : decode cX1_hasPair 73 = .ok (.iconst 0, 1) := by decide +kernel
theorem dX1_hasPair_74 : decode cX1_hasPair 74 = .ok (.istore 7, 2) := by decide +kernel
theorem dX1_hasPair_76 : decode cX1_hasPair 76 = .ok (.iload 6, 2) := by decide +kernel
theorem dX1_hasPair_78 : decode cX1_hasPair 78 = .ok (.ifCond .eq 12, 3) := by decide +kernel
theorem dX1_hasPair_81 : decode cX1_hasPair 81 = .ok (.iload 7, 2) := by decide +kernel
theorem dX1_hasPair_83 : decode cX1_hasPair 83 = .ok (.ifCond .eq 7, 3) := by decide +kernel
theorem dX1_hasPair_86 : decode cX1_hasPair 86 = .ok (.iconst 1, 1) := by decide +kernel
theorem dX1_hasPair_87 : decode cX1_hasPair 87 = .ok (.goto 4, 3) := by decide +kernel
theorem dX1_hasPair_90 : decode cX1_hasPair 90 = .ok (.iconst 0, 1) := by decide +kernel
theorem dX1_hasPair_91 : decode cX1_hasPair 91 = .ok (.ireturn, 1) := by decide +kernel
theorem dX1_pairCost_0 : decode cX1_pairCost 0 = .ok (.iload_n 1, 1) := by decide +kernel
theorem dX1_pairCost_1 : decode cX1_pairCost 1 = .ok (.iconst 1, 1) := by decide +kernel
theorem dX1_pairCost_2 : decode cX1_pairCost 2 = .ok (.if_icmp .ne 14, 3) := by decide +kernel
theorem dX1_pairCost_5 : decode cX1_pairCost 5 = .ok (.aload_n 0, 1) := by decide +kernel
theorem dX1_pairCost_6 : decode cX1_pairCost 6 = .ok (.getfield 34, 3) := by decide +kernel
theorem dX1_pairCost_9 : decode cX1_pairCost 9 = .ok (.aload_n 0, 1) := by decide +kernel
theorem dX1_pairCost_10 : decode cX1_pairCost 10 = .ok (.iload_n 2, 1) := by decide +kernel
theorem dX1_pairCost_11 : decode cX1_pairCost 11 = .ok (.invokevirtual 66, 3) := by decide +kernel
theorem dX1_pairCost_14 : decode cX1_pairCost 14 = .ok (.iadd, 1) := by decide +kernel
theorem dX1_pairCost_15 : decode cX1_pairCost 15 = .ok (.ireturn, 1) := by decide +kernel
theorem dX1_pairCost_16 : decode cX1_pairCost 16 = .ok (.iload_n 1, 1) := by decide +kernel
theorem dX1_pairCost_17 : decode cX1_pairCost 17 = .ok (.iconst 2, 1) := by decide +kernel
theorem dX1_pairCost_18 : decode cX1_pairCost 18 = .ok (.if_icmp .ne 15, 3) := by decide +kernel
theorem dX1_pairCost_21 : decode cX1_pairCost 21 = .ok (.aload_n 0, 1) := by decide +kernel
theorem dX1_pairCost_22 : decode cX1_pairCost 22 = .ok (.getfield 34, 3) := by decide +kernel
theorem dX1_pairCost_25 : decode cX1_pairCost 25 = .ok (.aload_n 0, 1) := by decide +kernel
theorem dX1_pairCost_26 : decode cX1_pairCost 26 = .ok (.getfield 21, 3) := by decide +kernel
theorem dX1_pairCost_29 : decode cX1_pairCost 29 = .ok (.iload_n 3, 1) := by decide +kernel
theorem dX1_pairCost_30 : decode cX1_pairCost 30 = .ok (.iaload, 1) := by decide +kernel
theorem dX1_pairCost_31 : decode cX1_pairCost 31 = .ok (.iadd, 1) := by decide +kernel
theorem dX1_pairCost_32 : decode cX1_pairCost 32 = .ok (.ireturn, 1) := by decide +kernel
theorem dX1_pairCost_33 : decode cX1_pairCost 33 = .ok (.aload_n 0, 1) := by decide +kernel
theorem dX1_pairCost_34 : decode cX1_pairCost 34 = .ok (.iload_n 2, 1) := by decide +kernel
theorem dX1_pairCost_35 : decode cX1_pairCost 35 = .ok (.invokevirtual 66, 3) := by decide +kernel
theorem dX1_pairCost_38 : decode cX1_pairCost 38 = .ok (.istore 4, 2) := by decide +kernel
theorem dX1_pairCost_40 : decode cX1_pairCost 40 = .ok (.aload_n 0, 1) := by decide +kernel
theorem dX1_pairCost_41 : decode cX1_pairCost 41 = .ok (.getfield 18, 3) := by decide +kernel
theorem dX1_pairCost_44 : decode cX1_pairCost 44 = .ok (.iload_n 2, 1) := by decide +kernel
theorem dX1_pairCost_45 : decode cX1_pairCost 45 = .ok (.iaload, 1) := by decide +kernel
theorem dX1_pairCost_46 : decode cX1_pairCost 46 = .ok (.invokestatic 70, 3) := by decide +kernel
theorem dX1_pairCost_49 : decode cX1_pairCost 49 = .ok (.istore 5, 2) := by decide +kernel
theorem dX1_pairCost_51 : decode cX1_pairCost 51 = .ok (.aload_n 0, 1) := by decide +kernel
theorem dX1_pairCost_52 : decode cX1_pairCost 52 = .ok (.getfield 21, 3) := by decide +kernel
theorem dX1_pairCost_55 : decode cX1_pairCost 55 = .ok (.iload_n 3, 1) := by decide +kernel
theorem dX1_pairCost_56 : decode cX1_pairCost 56 = .ok (.iaload, 1) := by decide +kernel
theorem dX1_pairCost_57 : decode cX1_pairCost 57 = .ok (.istore 6, 2) := by decide +kernel
theorem dX1_pairCost_59 : decode cX1_pairCost 59 = .ok (.aload_n 0, 1) := by decide +kernel
theorem dX1_pairCost_60 : decode cX1_pairCost 60 = .ok (.getfield 24, 3) := by decide +kernel
theorem dX1_pairCost_63 : decode cX1_pairCost 63 = .ok (.iload_n 3, 1) := by decide +kernel
theorem dX1_pairCost_64 : decode cX1_pairCost 64 = .ok (.iaload, 1) := by decide +kernel
theorem dX1_pairCost_65 : decode cX1_pairCost 65 = .ok (.invokestatic 70, 3) := by decide +kernel
theorem dX1_pairCost_68 : decode cX1_pairCost 68 = .ok (.istore 7, 2) := by decide +kernel
theorem dX1_pairCost_70 : decode cX1_pairCost 70 = .ok (.iconst 0, 1) := by decide +kernel
theorem dX1_pairCost_71 : decode cX1_pairCost 71 = .ok (.istore 8, 2) := by decide +kernel
theorem dX1_pairCost_73 : decode cX1_pairCost 73 = .ok (.iload_n 1, 1) := by decide +kernel
theorem dX1_pairCost_74 : decode cX1_pairCost 74 = .ok (.iconst 3, 1) := by decide +kernel
theorem dX1_pairCost_75 : decode cX1_pairCost 75 = .ok (.if_icmp .ne 37, 3) := by decide +kernel
theorem dX1_pairCost_78 : decode cX1_pairCost 78 = .ok (.iload 4, 2) := by decide +kernel
theorem dX1_pairCost_80 : decode cX1_pairCost 80 = .ok (.aload_n 0, 1) := by decide +kernel
theorem dX1_pairCost_81 : decode cX1_pairCost 81 = .ok (.iload_n 2, 1) := by decide +kernel
theorem dX1_pairCost_82 : decode cX1_pairCost 82 = .ok (.iconst 1, 1) := by decide +kernel
theorem dX1_pairCost_83 : decode cX1_pairCost 83 = .ok (.iadd, 1) := by decide +kernel
theorem dX1_pairCost_84 : decode cX1_pairCost 84 = .ok (.invokevirtual 66, 3) := by decide +kernel
theorem dX1_pairCost_87 : decode cX1_pairCost 87 = .ok (.iadd, 1) := by decide +kernel
theorem dX1_pairCost_88 : decode cX1_pairCost 88 = .ok (.istore 4, 2) := by decide +kernel
theorem dX1_pairCost_90 : decode cX1_pairCost 90 = .ok (.iload 5, 2) := by decide +kernel
theorem dX1_pairCost_92 : decode cX1_pairCost 92 = .ok (.aload_n 0, 1) := by decide +kernel
theorem dX1_pairCost_93 : decode cX1_pairCost 93 = .ok (.getfield 18, 3) := by decide +kernel
theorem dX1_pairCost_96 : decode cX1_pairCost 96 = .ok (.iload_n 2, 1) := by decide +kernel
theorem dX1_pairCost_97 : decode cX1_pairCost 97 = .ok (.iconst 1, 1) := by decide +kernel
theorem dX1_pairCost_98 : decode cX1_pairCost 98 = .ok (.iadd, 1) := by decide +kernel
theorem dX1_pairCost_99 : decode cX1_pairCost 99 = .ok (.iaload, 1) := by decide +kernel
theorem dX1_pairCost_100 : decode cX1_pairCost 100 = .ok (.invokestatic 70, 3) := by decide +kernel
theorem dX1_pairCost_103 : decode cX1_pairCost 103 = .ok (.ior, 1) := by decide +kernel
theorem dX1_pairCost_104 : decode cX1_pairCost 104 = .ok (.istore 5, 2) := by decide +kernel
theorem dX1_pairCost_106 : decode cX1_pairCost 106 = .ok (.aload_n 0, 1) := by decide +kernel
theorem dX1_pairCost_107 : decode cX1_pairCost 107 = .ok (.getfield 37, 3) := by decide +kernel
theorem dX1_pairCost_110 : decode cX1_pairCost 110 = .ok (.istore 8, 2) := by decide +kernel
theorem dX1_pairCost_112 : decode cX1_pairCost 112 = .ok (.iload_n 1, 1) := by decide +kernel
theorem dX1_pairCost_113 : decode cX1_pairCost 113 = .ok (.iconst 4, 1) := by decide +kernel
theorem dX1_pairCost_114 : decode cX1_pairCost 114 = .ok (.if_icmp .ne 38, 3) := by decide +kernel
theorem dX1_pairCost_117 : decode cX1_pairCost 117 = .ok (.iload 6, 2) := by decide +kernel
theorem dX1_pairCost_119 : decode cX1_pairCost 119 = .ok (.aload_n 0, 1) := by decide +kernel
theorem dX1_pairCost_120 : decode cX1_pairCost 120 = .ok (.getfield 21, 3) := by decide +kernel
theorem dX1_pairCost_123 : decode cX1_pairCost 123 = .ok (.iload_n 3, 1) := by decide +kernel
theorem dX1_pairCost_124 : decode cX1_pairCost 124 = .ok (.iconst 1, 1) := by decide +kernel
theorem dX1_pairCost_125 : decode cX1_pairCost 125 = .ok (.iadd, 1) := by decide +kernel
theorem dX1_pairCost_126 : decode cX1_pairCost 126 = .ok (.iaload, 1) := by decide +kernel
theorem dX1_pairCost_127 : decode cX1_pairCost 127 = .ok (.iadd, 1) := by decide +kernel
theorem dX1_pairCost_128 : decode cX1_pairCost 128 = .ok (.istore 6, 2) := by decide +kernel
theorem dX1_pairCost_130 : decode cX1_pairCost 130 = .ok (.iload 7, 2) := by decide +kernel
theorem dX1_pairCost_132 : decode cX1_pairCost 132 = .ok (.aload_n 0, 1) := by decide +kernel
theorem dX1_pairCost_133 : decode cX1_pairCost 133 = .ok (.getfield 24, 3) := by decide +kernel
theorem dX1_pairCost_136 : decode cX1_pairCost 136 = .ok (.iload_n 3, 1) := by decide +kernel
theorem dX1_pairCost_137 : decode cX1_pairCost 137 = .ok (.iconst 1, 1) := by decide +kernel
theorem dX1_pairCost_138 : decode cX1_pairCost 138 = .ok (.iadd, 1) := by decide +kernel
theorem dX1_pairCost_139 : decode cX1_pairCost 139 = .ok (.iaload, 1) := by decide +kernel
theorem dX1_pairCost_140 : decode cX1_pairCost 140 = .ok (.invokestatic 70, 3) := by decide +kernel
theorem dX1_pairCost_143 : decode cX1_pairCost 143 = .ok (.ior, 1) := by decide +kernel
theorem dX1_pairCost_144 : decode cX1_pairCost 144 = .ok (.istore 7, 2) := by decide +kernel
theorem dX1_pairCost_146 : decode cX1_pairCost 146 = .ok (.aload_n 0, 1) := by decide +kernel
theorem dX1_pairCost_147 : decode cX1_pairCost 147 = .ok (.getfield 37, 3) := by decide +kernel
theorem dX1_pairCost_150 : decode cX1_pairCost 150 = .ok (.istore 8, 2) := by decide +kernel
theorem dX1_pairCost_152 : decode cX1_pairCost 152 = .ok (.iload 5, 2) := by decide +kernel
theorem dX1_pairCost_154 : decode cX1_pairCost 154 = .ok (.iload 7, 2) := by decide +kernel
theorem dX1_pairCost_156 : decode cX1_pairCost 156 = .ok (.if_icmp .ne 7, 3) := by decide +kernel
theorem dX1_pairCost_159 : decode cX1_pairCost 159 = .ok (.iconst 0, 1) := by decide +kernel
theorem dX1_pairCost_160 : decode cX1_pairCost 160 = .ok (.goto 4, 3) := by decide +kernel
theorem dX1_pairCost_163 : decode cX1_pairCost 163 = .ok (.iconst 3, 1) := by decide +kernel
theorem dX1_pairCost_164 : decode cX1_pairCost 164 = .ok (.istore 9, 2) := by decide +kernel
theorem dX1_pairCost_166 : decode cX1_pairCost 166 = .ok (.iload 4, 2) := by decide +kernel
theorem dX1_pairCost_168 : decode cX1_pairCost 168 = .ok (.iload 6, 2) := by decide +kernel
theorem dX1_pairCost_170 : decode cX1_pairCost 170 = .ok (.isub, 1) := by decide +kernel
theorem dX1_pairCost_171 : decode cX1_pairCost 171 = .ok (.invokestatic 73, 3) := by decide +kernel
theorem dX1_pairCost_174 : decode cX1_pairCost 174 = .ok (.iload 9, 2) := by decide +kernel
theorem dX1_pairCost_176 : decode cX1_pairCost 176 = .ok (.iadd, 1) := by decide +kernel
theorem dX1_pairCost_177 : decode cX1_pairCost 177 = .ok (.iload 8, 2) := by decide +kernel
theorem dX1_pairCost_179 : decode cX1_pairCost 179 = .ok (.iadd, 1) := by decide +kernel
theorem dX1_pairCost_180 : decode cX1_pairCost 180 = .ok (.ireturn, 1) := by decide +kernel
theorem dX1_anchorSet_0 : decode cX1_anchorSet 0 = .ok (.iload_n 0, 1) := by decide +kernel
theorem dX1_anchorSet_1 : decode cX1_anchorSet 1 = .ok (.iconst 4, 1) := by decide +kernel
theorem dX1_anchorSet_2 : decode cX1_anchorSet 2 = .ok (.if_icmp .ne 7, 3) := by decide +kernel
theorem dX1_anchorSet_5 : decode cX1_anchorSet 5 = .ok (.iconst 0, 1) := by decide +kernel
theorem dX1_anchorSet_6 : decode cX1_anchorSet 6 = .ok (.goto 6, 3) := by decide +kernel
theorem dX1_anchorSet_9 : decode cX1_anchorSet 9 = .ok (.iconst 1, 1) := by decide +kernel
theorem dX1_anchorSet_10 : decode cX1_anchorSet 10 = .ok (.iload_n 0, 1) := by decide +kernel
theorem dX1_anchorSet_11 : decode cX1_anchorSet 11 = .ok (.ishl, 1) := by decide +kernel
theorem dX1_anchorSet_12 : decode cX1_anchorSet 12 = .ok (.ireturn, 1) := by decide +kernel
theorem dX2_init_0 : decode cX2_init 0 = .ok (.aload_n 0, 1) := by decide +kernel
theorem dX2_init_1 : decode cX2_init 1 = .ok (.invokespecial 3, 3) := by decide +kernel
theorem dX2_init_4 : decode cX2_init 4 = .ok (.aload_n 0, 1) := by decide +kernel
theorem dX2_init_5 : decode cX2_init 5 = .ok (.bipush 60, 2) := by decide +kernel
theorem dX2_init_7 : decode cX2_init 7 = .ok (.newarray .int, 2) := by decide +kernel
theorem dX2_init_9 : decode cX2_init 9 = .ok (.putfield 9, 3) := by decide +kernel
theorem dX2_init_12 : decode cX2_init 12 = .ok (.return_, 1) := by decide +kernel
theorem dX2_begin_0 : decode cX2_begin 0 = .ok (.aload_n 0, 1) := by decide +kernel
theorem dX2_begin_1 : decode cX2_begin 1 = .ok (.iconst 1, 1) := by decide +kernel
theorem dX2_begin_2 : decode cX2_begin 2 = .ok (.putfield 15, 3) := by decide +kernel
theorem dX2_begin_5 : decode cX2_begin 5 = .ok (.aload_n 0, 1) := by decide +kernel
theorem dX2_begin_6 : decode cX2_begin 6 = .ok (.iload_n 1, 1) := by decide +kernel
theorem dX2_begin_7 : decode cX2_begin 7 = .ok (.putfield 19, 3) := by decide +kernel
theorem dX2_begin_10 : decode cX2_begin 10 = .ok (.aload_n 0, 1) := by decide +kernel
theorem dX2_begin_11 : decode cX2_begin 11 = .ok (.iload_n 2, 1) := by decide +kernel
theorem dX2_begin_12 : decode cX2_begin 12 = .ok (.putfield 23, 3) := by decide +kernel
theorem dX2_begin_15 : decode cX2_begin 15 = .ok (.aload_n 0, 1) := by decide +kernel
theorem dX2_begin_16 : decode cX2_begin 16 = .ok (.getfield 9, 3) := by decide +kernel
theorem dX2_begin_19 : decode cX2_begin 19 = .ok (.iconst 0, 1) := by decide +kernel
theorem dX2_begin_20 : decode cX2_begin 20 = .ok (.invokestatic 26, 3) := by decide +kernel
theorem dX2_begin_23 : decode cX2_begin 23 = .ok (.return_, 1) := by decide +kernel
theorem dX2_faultAs_0 : decode cX2_faultAs 0 = .ok (.aload_n 0, 1) := by decide +kernel
theorem dX2_faultAs_1 : decode cX2_faultAs 1 = .ok (.getfield 15, 3) := by decide +kernel
theorem dX2_faultAs_4 : decode cX2_faultAs 4 = .ok (.ifCond .ne 5, 3) := by decide +kernel
theorem dX2_faultAs_7 : decode cX2_faultAs 7 = .ok (.iconst 1, 1) := by decide +kernel
theorem dX2_faultAs_8 : decode cX2_faultAs 8 = .ok (.ireturn, 1) := by decide +kernel
theorem dX2_faultAs_9 : decode cX2_faultAs 9 = .ok (.aload_n 0, 1) := by decide +kernel
theorem dX2_faultAs_10 : decode cX2_faultAs 10 = .ok (.getfield 19, 3) := by decide +kernel
theorem dX2_faultAs_13 : decode cX2_faultAs 13 = .ok (.iload_n 1, 1) := by decide +kernel
theorem dX2_faultAs_14 : decode cX2_faultAs 14 = .ok (.if_icmp .ne 7, 3) := by decide +kernel
theorem dX2_faultAs_17 : decode cX2_faultAs 17 = .ok (.iconst 0, 1) := by decide +kernel
theorem dX2_faultAs_18 : decode cX2_faultAs 18 = .ok (.goto 4, 3) := by decide +kernel
theorem dX2_faultAs_21 : decode cX2_faultAs 21 = .ok (.iconst 2, 1) := by decide +kernel
theorem dX2_faultAs_22 : decode cX2_faultAs 22 = .ok (.ireturn, 1) := by decide +kernel
theorem dX2_hasCells_0 : decode cX2_hasCells 0 = .ok (.iload_n 1, 1) := by decide +kernel
theorem dX2_hasCells_1 : decode cX2_hasCells 1 = .ok (.ifCond .lt 29, 3) := by decide +kernel
theorem dX2_hasCells_4 : decode cX2_hasCells 4 = .ok (.iload_n 2, 1) := by decide +kernel
theorem dX2_hasCells_5 : decode cX2_hasCells 5 = .ok (.ifCond .lt 25, 3) := by decide +kernel
theorem dX2_hasCells_8 : decode cX2_hasCells 8 = .ok (.iload_n 1, 1) := by decide +kernel
theorem dX2_hasCells_9 : decode cX2_hasCells 9 = .ok (.aload_n 0, 1) := by decide +kernel
theorem dX2_hasCells_10 : decode cX2_hasCells 10 = .ok (.getfield 23, 3) := by decide +kernel
theorem dX2_hasCells_13 : decode cX2_hasCells 13 = .ok (.if_icmp .gt 17, 3) := by decide +kernel
theorem dX2_hasCells_16 : decode cX2_hasCells 16 = .ok (.iload_n 2, 1) := by decide +kernel
theorem dX2_hasCells_17 : decode cX2_hasCells 17 = .ok (.aload_n 0, 1) := by decide +kernel
theorem dX2_hasCells_18 : decode cX2_hasCells 18 = .ok (.getfield 23, 3) := by decide +kernel
theorem dX2_hasCells_21 : decode cX2_hasCells 21 = .ok (.iload_n 1, 1) := by decide +kernel
theorem dX2_hasCells_22 : decode cX2_hasCells 22 = .ok (.isub, 1) := by decide +kernel
theorem dX2_hasCells_23 : decode cX2_hasCells 23 = .ok (.if_icmp .gt 7, 3) := by decide +kernel
theorem dX2_hasCells_26 : decode cX2_hasCells 26 = .ok (.iconst 1, 1) := by decide +kernel
theorem dX2_hasCells_27 : decode cX2_hasCells 27 = .ok (.goto 4, 3) := by decide +kernel
theorem dX2_hasCells_30 : decode cX2_hasCells 30 = .ok (.iconst 0, 1) := by decide +kernel
theorem dX2_hasCells_31 : decode cX2_hasCells 31 = .ok (.ireturn, 1) := by decide +kernel
theorem dX2_cut_0 : decode cX2_cut 0 = .ok (.aload_n 0, 1) := by decide +kernel
theorem dX2_cut_1 : decode cX2_cut 1 = .ok (.getfield 19, 3) := by decide +kernel
theorem dX2_cut_4 : decode cX2_cut 4 = .ok (.ifCond .ne 6, 3) := by decide +kernel
theorem dX2_cut_7 : decode cX2_cut 7 = .ok (.iload_n 1, 1) := by decide +kernel
theorem dX2_cut_8 : decode cX2_cut 8 = .ok (.i2b, 1) := by decide +kernel
theorem dX2_cut_9 : decode cX2_cut 9 = .ok (.ireturn, 1) := by decide +kernel
theorem dX2_cut_10 : decode cX2_cut 10 = .ok (.aload_n 0, 1) := by decide +kernel
theorem dX2_cut_11 : decode cX2_cut 11 = .ok (.getfield 19, 3) := by decide +kernel
theorem dX2_cut_14 : decode cX2_cut 14 = .ok (.iconst 1, 1) := by decide +kernel
theorem dX2_cut_15 : decode cX2_cut 15 = .ok (.if_icmp .ne 8, 3) := by decide +kernel
theorem dX2_cut_18 : decode cX2_cut 18 = .ok (.iload_n 1, 1) := by decide +kernel
theorem dX2_cut_19 : decode cX2_cut 19 = .ok (.i2s, 1) := by decide +kernel
theorem dX2_cut_20 : decode cX2_cut 20 = .ok (.goto 4, 3) := by decide +kernel
theorem dX2_cut_23 : decode cX2_cut 23 = .ok (.iload_n 1, 1) := by decide +kernel
theorem dX2_cut_24 : decode cX2_cut 24 = .ok (.ireturn, 1) := by decide +kernel
theorem dX3_init_0 : decode cX3_init 0 = .ok (.aload_n 0, 1) := by decide +kernel
theorem dX3_init_1 : decode cX3_init 1 = .ok (.invokespecial 3, 3) := by decide +kernel
theorem dX3_init_4 : decode cX3_init 4 = .ok (.return_, 1) := by decide +kernel
theorem dX3_firstFault_0 : decode cX3_firstFault 0 = .ok (.aload 4, 2) := by decide +kernel
theorem dX3_firstFault_2 : decode cX3_firstFault 2 = .ok (.invokevirtual 9, 3) := by decide +kernel
theorem dX3_firstFault_5 : decode cX3_firstFault 5 = .ok (.aload_n 0, 1) := by decide +kernel
theorem dX3_firstFault_6 : decode cX3_firstFault 6 = .ok (.iconst 0, 1) := by decide +kernel
theorem dX3_firstFault_7 : decode cX3_firstFault 7 = .ok (.putfield 16, 3) := by decide +kernel
theorem dX3_firstFault_10 : decode cX3_firstFault 10 = .ok (.iconst 0, 1) := by decide +kernel
theorem dX3_firstFault_11 : decode cX3_firstFault 11 = .ok (.istore 5, 2) := by decide +kernel
theorem dX3_firstFault_13 : decode cX3_firstFault 13 = .ok (.iload 5, 2) := by decide +kernel
theorem dX3_firstFault_15 : decode cX3_firstFault 15 = .ok (.iload_n 3, 1) := by decide +kernel
theorem dX3_firstFault_16 : decode cX3_firstFault 16 = .ok (.if_icmp .ge 30, 3) := by decide +kernel
theorem dX3_firstFault_19 : decode cX3_firstFault 19 = .ok (.aload_n 0, 1) := by decide +kernel
theorem dX3_firstFault_20 : decode cX3_firstFault 20 = .ok (.aload_n 1, 1) := by decide +kernel
theorem dX3_firstFault_21 : decode cX3_firstFault 21 = .ok (.getfield 20, 3) := by decide +kernel
theorem dX3_firstFault_24 : decode cX3_firstFault 24 = .ok (.iload_n 2, 1) := by decide +kernel
theorem dX3_firstFault_25 : decode cX3_firstFault 25 = .ok (.iload 5, 2) := by decide +kernel
theorem dX3_firstFault_27 : decode cX3_firstFault 27 = .ok (.iadd, 1) := by decide +kernel
theorem dX3_firstFault_28 : decode cX3_firstFault 28 = .ok (.iaload, 1) := by decide +kernel
theorem dX3_firstFault_29 : decode cX3_firstFault 29 = .ok (.aload 4, 2) := by decide +kernel
theorem dX3_firstFault_31 : decode cX3_firstFault 31 = .ok (.invokevirtual 26, 3) := by decide +kernel
theorem dX3_firstFault_34 : decode cX3_firstFault 34 = .ok (.ifCond .ne 6, 3) := by decide +kernel
theorem dX3_firstFault_37 : decode cX3_firstFault 37 = .ok (.iload 5, 2) := by decide +kernel
theorem dX3_firstFault_39 : decode cX3_firstFault 39 = .ok (.ireturn, 1) := by decide +kernel
theorem dX3_firstFault_40 : decode cX3_firstFault 40 = .ok (.iinc 5 1, 3) := by decide +kernel
theorem dX3_firstFault_43 : decode cX3_firstFault 43 = .ok (.goto (-30), 3) := by decide +kernel
theorem dX3_firstFault_46 : decode cX3_firstFault 46 = .ok (.aload_n 0, 1) := by decide +kernel
theorem dX3_firstFault_47 : decode cX3_firstFault 47 = .ok (.getfield 16, 3) := by decide +kernel
theorem dX3_firstFault_50 : decode cX3_firstFault 50 = .ok (.bipush 8, 2) := by decide +kernel
theorem dX3_firstFault_52 : decode cX3_firstFault 52 = .ok (.if_icmp .ne 8, 3) := by decide +kernel
theorem dX3_firstFault_55 : decode cX3_firstFault 55 = .ok (.bipush (-9), 2) := by decide +kernel
theorem dX3_firstFault_57 : decode cX3_firstFault 57 = .ok (.goto 4, 3) := by decide +kernel
theorem dX3_firstFault_60 : decode cX3_firstFault 60 = .ok (.iload_n 3, 1) := by decide +kernel
theorem dX3_firstFault_61 : decode cX3_firstFault 61 = .ok (.ireturn, 1) := by decide +kernel
theorem dX3_goesOn_0 : decode cX3_goesOn 0 = .ok (.aload_n 0, 1) := by decide +kernel
theorem dX3_goesOn_1 : decode cX3_goesOn 1 = .ok (.getfield 16, 3) := by decide +kernel
theorem dX3_goesOn_4 : decode cX3_goesOn 4 = .ok (.tableswitch 163 0 8 #[52, 69, 156, 156, 156, 86, 163, 163, 129], 52) := by decide +kernel
theorem dX3_goesOn_56 : decode cX3_goesOn 56 = .ok (.aload_n 0, 1) := by decide +kernel
theorem dX3_goesOn_57 : decode cX3_goesOn 57 = .ok (.iconst 1, 1) := by decide +kernel
theorem dX3_goesOn_58 : decode cX3_goesOn 58 = .ok (.putfield 16, 3) := by decide +kernel
theorem dX3_goesOn_61 : decode cX3_goesOn 61 = .ok (.iload_n 1, 1) := by decide +kernel
theorem dX3_goesOn_62 : decode cX3_goesOn 62 = .ok (.bipush 98, 2) := by decide +kernel
theorem dX3_goesOn_64 : decode cX3_goesOn 64 = .ok (.if_icmp .ne 7, 3) := by decide +kernel
theorem dX3_goesOn_67 : decode cX3_goesOn 67 = .ok (.iconst 1, 1) := by decide +kernel
theorem dX3_goesOn_68 : decode cX3_goesOn 68 = .ok (.goto 4, 3) := by decide +kernel
theorem dX3_goesOn_71 : decode cX3_goesOn 71 = .ok (.iconst 0, 1) := by decide +kernel
theorem dX3_goesOn_72 : decode cX3_goesOn 72 = .ok (.ireturn, 1) := by decide +kernel
theorem dX3_goesOn_73 : decode cX3_goesOn 73 = .ok (.aload_n 0, 1) := by decide +kernel
theorem dX3_goesOn_74 : decode cX3_goesOn 74 = .ok (.iconst 2, 1) := by decide +kernel
theorem dX3_goesOn_75 : decode cX3_goesOn 75 = .ok (.putfield 16, 3) := by decide +kernel
theorem dX3_goesOn_78 : decode cX3_goesOn 78 = .ok (.iload_n 1, 1) := by decide +kernel
theorem dX3_goesOn_79 : decode cX3_goesOn 79 = .ok (.bipush 59, 2) := by decide +kernel
theorem dX3_goesOn_81 : decode cX3_goesOn 81 = .ok (.if_icmp .ne 7, 3) := by decide +kernel
theorem dX3_goesOn_84 : decode cX3_goesOn 84 = .ok (.iconst 1, 1) := by decide +kernel
theorem dX3_goesOn_85 : decode cX3_goesOn 85 = .ok (.goto 4, 3) := by decide +kernel
theorem dX3_goesOn_88 : decode cX3_goesOn 88 = .ok (.iconst 0, 1) := by decide +kernel
theorem dX3_goesOn_89 : decode cX3_goesOn 89 = .ok (.ireturn, 1) := by decide +kernel
theorem dX3_goesOn_90 : decode cX3_goesOn 90 = .ok (.aload_n 0, 1) := by decide +kernel
theorem dX3_goesOn_91 : decode cX3_goesOn 91 = .ok (.iload_n 1, 1) := by decide +kernel
theorem dX3_goesOn_92 : decode cX3_goesOn 92 = .ok (.bipush 59, 2) := by decide +kernel
theorem dX3_goesOn_94 : decode cX3_goesOn 94 = .ok (.if_icmp .ne 7, 3) := by decide +kernel
theorem dX3_goesOn_97 : decode cX3_goesOn 97 = .ok (.iconst 2, 1) := by decide +kernel
theorem dX3_goesOn_98 : decode cX3_goesOn 98 = .ok (.goto 5, 3) := by decide +kernel
theorem dX3_goesOn_101 : decode cX3_goesOn 101 = .ok (.bipush 6, 2) := by decide +kernel
theorem dX3_goesOn_103 : decode cX3_goesOn 103 = .ok (.putfield 16, 3) := by decide +kernel
theorem dX3_goesOn_106 : decode cX3_goesOn 106 = .ok (.iload_n 1, 1) := by decide +kernel
theorem dX3_goesOn_107 : decode cX3_goesOn 107 = .ok (.bipush 44, 2) := by decide +kernel
theorem dX3_goesOn_109 : decode cX3_goesOn 109 = .ok (.if_icmp .eq 18, 3) := by decide +kernel
theorem dX3_goesOn_112 : decode cX3_goesOn 112 = .ok (.iload_n 1, 1) := by decide +kernel
theorem dX3_goesOn_113 : decode cX3_goesOn 113 = .ok (.bipush 59, 2) := by decide +kernel
theorem dX3_goesOn_115 : decode cX3_goesOn 115 = .ok (.if_icmp .ne 16, 3) := by decide +kernel
theorem dX3_goesOn_118 : decode cX3_goesOn 118 = .ok (.aload_n 2, 1) := by decide +kernel
theorem dX3_goesOn_119 : decode cX3_goesOn 119 = .ok (.getfield 30, 3) := by decide +kernel
theorem dX3_goesOn_122 : decode cX3_goesOn 122 = .ok (.bipush 7, 2) := by decide +kernel
theorem dX3_goesOn_124 : decode cX3_goesOn 124 = .ok (.if_icmp .ge 7, 3) := by decide +kernel
theorem dX3_goesOn_127 : decode cX3_goesOn 127 = .ok (.iconst 1, 1) := by decide +kernel
theorem dX3_goesOn_128 : decode cX3_goesOn 128 = .ok (.goto 4, 3) := by decide +kernel
theorem dX3_goesOn_131 : decode cX3_goesOn 131 = .ok (.iconst 0, 1) := by decide +kernel
theorem dX3_goesOn_132 : decode cX3_goesOn 132 = .ok (.ireturn, 1) := by decide +kernel
theorem dX3_goesOn_133 : decode cX3_goesOn 133 = .ok (.aload_n 0, 1) := by decide +kernel
theorem dX3_goesOn_134 : decode cX3_goesOn 134 = .ok (.bipush 6, 2) := by decide +kernel
theorem dX3_goesOn_136 : decode cX3_goesOn 136 = .ok (.putfield 16, 3) := by decide +kernel
theorem dX3_goesOn_139 : decode cX3_goesOn 139 = .ok (.iload_n 1, 1) := by decide +kernel
theorem dX3_goesOn_140 : decode cX3_goesOn 140 = .ok (.bipush 44, 2) := by decide +kernel
theorem dX3_goesOn_142 : decode cX3_goesOn 142 = .ok (.if_icmp .ne 16, 3) := by decide +kernel
theorem dX3_goesOn_145 : decode cX3_goesOn 145 = .ok (.aload_n 2, 1) := by decide +kernel
theorem dX3_goesOn_146 : decode cX3_goesOn 146 = .ok (.getfield 33, 3) := by decide +kernel
theorem dX3_goesOn_149 : decode cX3_goesOn 149 = .ok (.bipush 7, 2) := by decide +kernel
theorem dX3_goesOn_151 : decode cX3_goesOn 151 = .ok (.if_icmp .ge 7, 3) := by decide +kernel
theorem dX3_goesOn_154 : decode cX3_goesOn 154 = .ok (.iconst 1, 1) := by decide +kernel
theorem dX3_goesOn_155 : decode cX3_goesOn 155 = .ok (.goto 4, 3) := by decide +kernel
theorem dX3_goesOn_158 : decode cX3_goesOn 158 = .ok (.iconst 0, 1) := by decide +kernel
theorem dX3_goesOn_159 : decode cX3_goesOn 159 = .ok (.ireturn, 1) := by decide +kernel
theorem dX3_goesOn_160 : decode cX3_goesOn 160 = .ok (.aload_n 0, 1) := by decide +kernel
theorem dX3_goesOn_161 : decode cX3_goesOn 161 = .ok (.iload_n 1, 1) := by decide +kernel
theorem dX3_goesOn_162 : decode cX3_goesOn 162 = .ok (.aload_n 2, 1) := by decide +kernel
theorem dX3_goesOn_163 : decode cX3_goesOn 163 = .ok (.invokevirtual 36, 3) := by decide +kernel
theorem dX3_goesOn_166 : decode cX3_goesOn 166 = .ok (.ireturn, 1) := by decide +kernel
theorem dX3_goesOn_167 : decode cX3_goesOn 167 = .ok (.aload_n 0, 1) := by decide +kernel
theorem dX3_goesOn_168 : decode cX3_goesOn 168 = .ok (.iload_n 1, 1) := by decide +kernel
theorem dX3_goesOn_169 : decode cX3_goesOn 169 = .ok (.aload_n 2, 1) := by decide +kernel
theorem dX3_goesOn_170 : decode cX3_goesOn 170 = .ok (.invokevirtual 39, 3) := by decide +kernel
theorem dX3_goesOn_173 : decode cX3_goesOn 173 = .ok (.ireturn, 1) := by decide +kernel
theorem dX3_goesOnInLeft_0 : decode cX3_goesOnInLeft 0 = .ok (.aload_n 2, 1) := by decide +kernel
theorem dX3_goesOnInLeft_1 : decode cX3_goesOnInLeft 1 = .ok (.getfield 30, 3) := by decide +kernel
theorem dX3_goesOnInLeft_4 : decode cX3_goesOnInLeft 4 = .ok (.istore_n 3, 1) := by decide +kernel
theorem dX3_goesOnInLeft_5 : decode cX3_goesOnInLeft 5 = .ok (.iload_n 3, 1) := by decide +kernel
theorem dX3_goesOnInLeft_6 : decode cX3_goesOnInLeft 6 = .ok (.bipush 7, 2) := by decide +kernel
theorem dX3_goesOnInLeft_8 : decode cX3_goesOnInLeft 8 = .ok (.if_icmp .lt 5, 3) := by decide +kernel
theorem dX3_goesOnInLeft_11 : decode cX3_goesOnInLeft 11 = .ok (.iconst 0, 1) := by decide +kernel
theorem dX3_goesOnInLeft_12 : decode cX3_goesOnInLeft 12 = .ok (.ireturn, 1) := by decide +kernel
theorem dX3_goesOnInLeft_13 : decode cX3_goesOnInLeft 13 = .ok (.aload_n 0, 1) := by decide +kernel
theorem dX3_goesOnInLeft_14 : decode cX3_goesOnInLeft 14 = .ok (.getfield 16, 3) := by decide +kernel
theorem dX3_goesOnInLeft_17 : decode cX3_goesOnInLeft 17 = .ok (.iconst 2, 1) := by decide +kernel
theorem dX3_goesOnInLeft_18 : decode cX3_goesOnInLeft 18 = .ok (.if_icmp .ne 35, 3) := by decide +kernel
theorem dX3_goesOnInLeft_21 : decode cX3_goesOnInLeft 21 = .ok (.aload_n 0, 1) := by decide +kernel
theorem dX3_goesOnInLeft_22 : decode cX3_goesOnInLeft 22 = .ok (.iconst 3, 1) := by decide +kernel
theorem dX3_goesOnInLeft_23 : decode cX3_goesOnInLeft 23 = .ok (.putfield 16, 3) := by decide +kernel
theorem dX3_goesOnInLeft_26 : decode cX3_goesOnInLeft 26 = .ok (.aload_n 2, 1) := by decide +kernel
theorem dX3_goesOnInLeft_27 : decode cX3_goesOnInLeft 27 = .ok (.getfield 42, 3) := by decide +kernel
theorem dX3_goesOnInLeft_30 : decode cX3_goesOnInLeft 30 = .ok (.iload_n 3, 1) := by decide +kernel
theorem dX3_goesOnInLeft_31 : decode cX3_goesOnInLeft 31 = .ok (.iload_n 1, 1) := by decide +kernel
theorem dX3_goesOnInLeft_32 : decode cX3_goesOnInLeft 32 = .ok (.invokestatic 45, 3) := by decide +kernel
theorem dX3_goesOnInLeft_35 : decode cX3_goesOnInLeft 35 = .ok (.iastore, 1) := by decide +kernel
theorem dX3_goesOnInLeft_36 : decode cX3_goesOnInLeft 36 = .ok (.aload_n 2, 1) := by decide +kernel
theorem dX3_goesOnInLeft_37 : decode cX3_goesOnInLeft 37 = .ok (.getfield 42, 3) := by decide +kernel
theorem dX3_goesOnInLeft_40 : decode cX3_goesOnInLeft 40 = .ok (.iload_n 3, 1) := by decide +kernel
theorem dX3_goesOnInLeft_41 : decode cX3_goesOnInLeft 41 = .ok (.iaload, 1) := by decide +kernel
theorem dX3_goesOnInLeft_42 : decode cX3_goesOnInLeft 42 = .ok (.bipush (-9), 2) := by decide +kernel
theorem dX3_goesOnInLeft_44 : decode cX3_goesOnInLeft 44 = .ok (.if_icmp .eq 7, 3) := by decide +kernel
theorem dX3_goesOnInLeft_47 : decode cX3_goesOnInLeft 47 = .ok (.iconst 1, 1) := by decide +kernel
theorem dX3_goesOnInLeft_48 : decode cX3_goesOnInLeft 48 = .ok (.goto 4, 3) := by decide +kernel
theorem dX3_goesOnInLeft_51 : decode cX3_goesOnInLeft 51 = .ok (.iconst 0, 1) := by decide +kernel
theorem dX3_goesOnInLeft_52 : decode cX3_goesOnInLeft 52 = .ok (.ireturn, 1) := by decide +kernel
theorem dX3_goesOnInLeft_53 : decode cX3_goesOnInLeft 53 = .ok (.aload_n 0, 1) := by decide +kernel
theorem dX3_goesOnInLeft_54 : decode cX3_goesOnInLeft 54 = .ok (.getfield 16, 3) := by decide +kernel
theorem dX3_goesOnInLeft_57 : decode cX3_goesOnInLeft 57 = .ok (.iconst 3, 1) := by decide +kernel
theorem dX3_goesOnInLeft_58 : decode cX3_goesOnInLeft 58 = .ok (.if_icmp .ne 23, 3) := by decide +kernel
theorem dX3_goesOnInLeft_61 : decode cX3_goesOnInLeft 61 = .ok (.aload_n 0, 1) := by decide +kernel
theorem dX3_goesOnInLeft_62 : decode cX3_goesOnInLeft 62 = .ok (.iconst 4, 1) := by decide +kernel
theorem dX3_goesOnInLeft_63 : decode cX3_goesOnInLeft 63 = .ok (.putfield 16, 3) := by decide +kernel
theorem dX3_goesOnInLeft_66 : decode cX3_goesOnInLeft 66 = .ok (.aload_n 2, 1) := by decide +kernel
theorem dX3_goesOnInLeft_67 : decode cX3_goesOnInLeft 67 = .ok (.getfield 49, 3) := by decide +kernel
theorem dX3_goesOnInLeft_70 : decode cX3_goesOnInLeft 70 = .ok (.iload_n 3, 1) := by decide +kernel
theorem dX3_goesOnInLeft_71 : decode cX3_goesOnInLeft 71 = .ok (.iload_n 1, 1) := by decide +kernel
theorem dX3_goesOnInLeft_72 : decode cX3_goesOnInLeft 72 = .ok (.bipush 48, 2) := by decide +kernel
theorem dX3_goesOnInLeft_74 : decode cX3_goesOnInLeft 74 = .ok (.isub, 1) := by decide +kernel
theorem dX3_goesOnInLeft_75 : decode cX3_goesOnInLeft 75 = .ok (.iastore, 1) := by decide +kernel
theorem dX3_goesOnInLeft_76 : decode cX3_goesOnInLeft 76 = .ok (.iload_n 1, 1) := by decide +kernel
theorem dX3_goesOnInLeft_77 : decode cX3_goesOnInLeft 77 = .ok (.invokestatic 52, 3) := by decide +kernel
theorem dX3_goesOnInLeft_80 : decode cX3_goesOnInLeft 80 = .ok (.ireturn, 1) := by decide +kernel
theorem dX3_goesOnInLeft_81 : decode cX3_goesOnInLeft 81 = .ok (.aload_n 0, 1) := by decide +kernel
theorem dX3_goesOnInLeft_82 : decode cX3_goesOnInLeft 82 = .ok (.iconst 5, 1) := by decide +kernel
theorem dX3_goesOnInLeft_83 : decode cX3_goesOnInLeft 83 = .ok (.putfield 16, 3) := by decide +kernel
theorem dX3_goesOnInLeft_86 : decode cX3_goesOnInLeft 86 = .ok (.aload_n 2, 1) := by decide +kernel
theorem dX3_goesOnInLeft_87 : decode cX3_goesOnInLeft 87 = .ok (.getfield 56, 3) := by decide +kernel
theorem dX3_goesOnInLeft_90 : decode cX3_goesOnInLeft 90 = .ok (.iload_n 3, 1) := by decide +kernel
theorem dX3_goesOnInLeft_91 : decode cX3_goesOnInLeft 91 = .ok (.iload_n 1, 1) := by decide +kernel
theorem dX3_goesOnInLeft_92 : decode cX3_goesOnInLeft 92 = .ok (.invokestatic 59, 3) := by decide +kernel
theorem dX3_goesOnInLeft_95 : decode cX3_goesOnInLeft 95 = .ok (.iastore, 1) := by decide +kernel
theorem dX3_goesOnInLeft_96 : decode cX3_goesOnInLeft 96 = .ok (.aload_n 2, 1) := by decide +kernel
theorem dX3_goesOnInLeft_97 : decode cX3_goesOnInLeft 97 = .ok (.dup, 1) := by decide +kernel
theorem dX3_goesOnInLeft_98 : decode cX3_goesOnInLeft 98 = .ok (.getfield 30, 3) := by decide +kernel
theorem dX3_goesOnInLeft_101 : decode cX3_goesOnInLeft 101 = .ok (.iconst 1, 1) := by decide +kernel
theorem dX3_goesOnInLeft_102 : decode cX3_goesOnInLeft 102 = .ok (.iadd, 1) := by decide +kernel
theorem dX3_goesOnInLeft_103 : decode cX3_goesOnInLeft 103 = .ok (.putfield 30, 3) := by decide +kernel
theorem dX3_goesOnInLeft_106 : decode cX3_goesOnInLeft 106 = .ok (.aload_n 2, 1) := by decide +kernel
theorem dX3_goesOnInLeft_107 : decode cX3_goesOnInLeft 107 = .ok (.getfield 56, 3) := by decide +kernel
theorem dX3_goesOnInLeft_110 : decode cX3_goesOnInLeft 110 = .ok (.iload_n 3, 1) := by decide +kernel
theorem dX3_goesOnInLeft_111 : decode cX3_goesOnInLeft 111 = .ok (.iaload, 1) := by decide +kernel
theorem dX3_goesOnInLeft_112 : decode cX3_goesOnInLeft 112 = .ok (.bipush (-9), 2) := by decide +kernel
theorem dX3_goesOnInLeft_114 : decode cX3_goesOnInLeft 114 = .ok (.if_icmp .eq 7, 3) := by decide +kernel
theorem dX3_goesOnInLeft_117 : decode cX3_goesOnInLeft 117 = .ok (.iconst 1, 1) := by decide +kernel
theorem dX3_goesOnInLeft_118 : decode cX3_goesOnInLeft 118 = .ok (.goto 4, 3) := by decide +kernel
theorem dX3_goesOnInLeft_121 : decode cX3_goesOnInLeft 121 = .ok (.iconst 0, 1) := by decide +kernel
theorem dX3_goesOnInLeft_122 : decode cX3_goesOnInLeft 122 = .ok (.ireturn, 1) := by decide +kernel
theorem dX3_goesOnInRight_0 : decode cX3_goesOnInRight 0 = .ok (.aload_n 2, 1) := by decide +kernel
theorem dX3_goesOnInRight_1 : decode cX3_goesOnInRight 1 = .ok (.getfield 33, 3) := by decide +kernel
theorem dX3_goesOnInRight_4 : decode cX3_goesOnInRight 4 = .ok (.istore_n 3, 1) := by decide +kernel
theorem dX3_goesOnInRight_5 : decode cX3_goesOnInRight 5 = .ok (.iload_n 3, 1) := by decide +kernel
theorem dX3_goesOnInRight_6 : decode cX3_goesOnInRight 6 = .ok (.bipush 7, 2) := by decide +kernel
theorem dX3_goesOnInRight_8 : decode cX3_goesOnInRight 8 = .ok (.if_icmp .lt 5, 3) := by decide +kernel
theorem dX3_goesOnInRight_11 : decode cX3_goesOnInRight 11 = .ok (.iconst 0, 1) := by decide +kernel
theorem dX3_goesOnInRight_12 : decode cX3_goesOnInRight 12 = .ok (.ireturn, 1) := by decide +kernel
theorem dX3_goesOnInRight_13 : decode cX3_goesOnInRight 13 = .ok (.aload_n 0, 1) := by decide +kernel
theorem dX3_goesOnInRight_14 : decode cX3_goesOnInRight 14 = .ok (.getfield 16, 3) := by decide +kernel
theorem dX3_goesOnInRight_17 : decode cX3_goesOnInRight 17 = .ok (.bipush 6, 2) := by decide +kernel
theorem dX3_goesOnInRight_19 : decode cX3_goesOnInRight 19 = .ok (.if_icmp .ne 24, 3) := by decide +kernel
theorem dX3_goesOnInRight_22 : decode cX3_goesOnInRight 22 = .ok (.aload_n 0, 1) := by decide +kernel
theorem dX3_goesOnInRight_23 : decode cX3_goesOnInRight 23 = .ok (.bipush 7, 2) := by decide +kernel
theorem dX3_goesOnInRight_25 : decode cX3_goesOnInRight 25 = .ok (.putfield 16, 3) := by decide +kernel
theorem dX3_goesOnInRight_28 : decode cX3_goesOnInRight 28 = .ok (.aload_n 2, 1) := by decide +kernel
theorem dX3_goesOnInRight_29 : decode cX3_goesOnInRight 29 = .ok (.getfield 62, 3) := by decide +kernel
theorem dX3_goesOnInRight_32 : decode cX3_goesOnInRight 32 = .ok (.iload_n 3, 1) := by decide +kernel
theorem dX3_goesOnInRight_33 : decode cX3_goesOnInRight 33 = .ok (.iload_n 1, 1) := by decide +kernel
theorem dX3_goesOnInRight_34 : decode cX3_goesOnInRight 34 = .ok (.bipush 48, 2) := by decide +kernel
theorem dX3_goesOnInRight_36 : decode cX3_goesOnInRight 36 = .ok (.isub, 1) := by decide +kernel
theorem dX3_goesOnInRight_37 : decode cX3_goesOnInRight 37 = .ok (.iastore, 1) := by decide +kernel
theorem dX3_goesOnInRight_38 : decode cX3_goesOnInRight 38 = .ok (.iload_n 1, 1) := by decide +kernel
theorem dX3_goesOnInRight_39 : decode cX3_goesOnInRight 39 = .ok (.invokestatic 52, 3) := by decide +kernel
theorem dX3_goesOnInRight_42 : decode cX3_goesOnInRight 42 = .ok (.ireturn, 1) := by decide +kernel
theorem dX3_goesOnInRight_43 : decode cX3_goesOnInRight 43 = .ok (.aload_n 0, 1) := by decide +kernel
theorem dX3_goesOnInRight_44 : decode cX3_goesOnInRight 44 = .ok (.bipush 8, 2) := by decide +kernel
theorem dX3_goesOnInRight_46 : decode cX3_goesOnInRight 46 = .ok (.putfield 16, 3) := by decide +kernel
theorem dX3_goesOnInRight_49 : decode cX3_goesOnInRight 49 = .ok (.aload_n 2, 1) := by decide +kernel
theorem dX3_goesOnInRight_50 : decode cX3_goesOnInRight 50 = .ok (.getfield 65, 3) := by decide +kernel
theorem dX3_goesOnInRight_53 : decode cX3_goesOnInRight 53 = .ok (.iload_n 3, 1) := by decide +kernel
theorem dX3_goesOnInRight_54 : decode cX3_goesOnInRight 54 = .ok (.iload_n 1, 1) := by decide +kernel
theorem dX3_goesOnInRight_55 : decode cX3_goesOnInRight 55 = .ok (.invokestatic 59, 3) := by decide +kernel
theorem dX3_goesOnInRight_58 : decode cX3_goesOnInRight 58 = .ok (.iastore, 1) := by decide +kernel
theorem dX3_goesOnInRight_59 : decode cX3_goesOnInRight 59 = .ok (.aload_n 2, 1) := by decide +kernel
theorem dX3_goesOnInRight_60 : decode cX3_goesOnInRight 60 = .ok (.dup, 1) := by decide +kernel
theorem dX3_goesOnInRight_61 : decode cX3_goesOnInRight 61 = .ok (.getfield 33, 3) := by decide +kernel
theorem dX3_goesOnInRight_64 : decode cX3_goesOnInRight 64 = .ok (.iconst 1, 1) := by decide +kernel
theorem dX3_goesOnInRight_65 : decode cX3_goesOnInRight 65 = .ok (.iadd, 1) := by decide +kernel
theorem dX3_goesOnInRight_66 : decode cX3_goesOnInRight 66 = .ok (.putfield 33, 3) := by decide +kernel
theorem dX3_goesOnInRight_69 : decode cX3_goesOnInRight 69 = .ok (.aload_n 2, 1) := by decide +kernel
theorem dX3_goesOnInRight_70 : decode cX3_goesOnInRight 70 = .ok (.getfield 65, 3) := by decide +kernel
theorem dX3_goesOnInRight_73 : decode cX3_goesOnInRight 73 = .ok (.iload_n 3, 1) := by decide +kernel
theorem dX3_goesOnInRight_74 : decode cX3_goesOnInRight 74 = .ok (.iaload, 1) := by decide +kernel
theorem dX3_goesOnInRight_75 : decode cX3_goesOnInRight 75 = .ok (.bipush (-9), 2) := by decide +kernel
theorem dX3_goesOnInRight_77 : decode cX3_goesOnInRight 77 = .ok (.if_icmp .eq 7, 3) := by decide +kernel
theorem dX3_goesOnInRight_80 : decode cX3_goesOnInRight 80 = .ok (.iconst 1, 1) := by decide +kernel
theorem dX3_goesOnInRight_81 : decode cX3_goesOnInRight 81 = .ok (.goto 4, 3) := by decide +kernel
theorem dX3_goesOnInRight_84 : decode cX3_goesOnInRight 84 = .ok (.iconst 0, 1) := by decide +kernel
theorem dX3_goesOnInRight_85 : decode cX3_goesOnInRight 85 = .ok (.ireturn, 1) := by decide +kernel
theorem dX3_isDigit_0 : decode cX3_isDigit 0 = .ok (.iload_n 0, 1) := by decide +kernel
theorem dX3_isDigit_1 : decode cX3_isDigit 1 = .ok (.bipush 49, 2) := by decide +kernel
theorem dX3_isDigit_3 : decode cX3_isDigit 3 = .ok (.if_icmp .lt 13, 3) := by decide +kernel
theorem dX3_isDigit_6 : decode cX3_isDigit 6 = .ok (.iload_n 0, 1) := by decide +kernel
theorem dX3_isDigit_7 : decode cX3_isDigit 7 = .ok (.bipush 57, 2) := by decide +kernel
theorem dX3_isDigit_9 : decode cX3_isDigit 9 = .ok (.if_icmp .gt 7, 3) := by decide +kernel
theorem dX3_isDigit_12 : decode cX3_isDigit 12 = .ok (.iconst 1, 1) := by decide +kernel
theorem dX3_isDigit_13 : decode cX3_isDigit 13 = .ok (.goto 4, 3) := by decide +kernel
theorem dX3_isDigit_16 : decode cX3_isDigit 16 = .ok (.iconst 0, 1) := by decide +kernel
theorem dX3_isDigit_17 : decode cX3_isDigit 17 = .ok (.ireturn, 1) := by decide +kernel
theorem dX3_kindOf_0 : decode cX3_kindOf 0 = .ok (.iload_n 0, 1) := by decide +kernel
theorem dX3_kindOf_1 : decode cX3_kindOf 1 = .ok (.lookupswitch 41 #[(68, 39), (76, 37), (80, 35)], 35) := by decide +kernel
theorem dX3_kindOf_36 : decode cX3_kindOf 36 = .ok (.iconst 0, 1) := by decide +kernel
theorem dX3_kindOf_37 : decode cX3_kindOf 37 = .ok (.ireturn, 1) := by decide +kernel
theorem dX3_kindOf_38 : decode cX3_kindOf 38 = .ok (.iconst 1, 1) := by decide +kernel
theorem dX3_kindOf_39 : decode cX3_kindOf 39 = .ok (.ireturn, 1) := by decide +kernel
theorem dX3_kindOf_40 : decode cX3_kindOf 40 = .ok (.iconst 2, 1) := by decide +kernel
theorem dX3_kindOf_41 : decode cX3_kindOf 41 = .ok (.ireturn, 1) := by decide +kernel
theorem dX3_kindOf_42 : decode cX3_kindOf 42 = .ok (.bipush (-9), 2) := by decide +kernel
theorem dX3_kindOf_44 : decode cX3_kindOf 44 = .ok (.ireturn, 1) := by decide +kernel
theorem dX3_anchorOf_0 : decode cX3_anchorOf 0 = .ok (.iload_n 0, 1) := by decide +kernel
theorem dX3_anchorOf_1 : decode cX3_anchorOf 1 = .ok (.bipush 45, 2) := by decide +kernel
theorem dX3_anchorOf_3 : decode cX3_anchorOf 3 = .ok (.if_icmp .ne 5, 3) := by decide +kernel
theorem dX3_anchorOf_6 : decode cX3_anchorOf 6 = .ok (.iconst 4, 1) := by decide +kernel
theorem dX3_anchorOf_7 : decode cX3_anchorOf 7 = .ok (.ireturn, 1) := by decide +kernel
theorem dX3_anchorOf_8 : decode cX3_anchorOf 8 = .ok (.iload_n 0, 1) := by decide +kernel
theorem dX3_anchorOf_9 : decode cX3_anchorOf 9 = .ok (.bipush 97, 2) := by decide +kernel
theorem dX3_anchorOf_11 : decode cX3_anchorOf 11 = .ok (.if_icmp .lt 16, 3) := by decide +kernel
theorem dX3_anchorOf_14 : decode cX3_anchorOf 14 = .ok (.iload_n 0, 1) := by decide +kernel
theorem dX3_anchorOf_15 : decode cX3_anchorOf 15 = .ok (.bipush 100, 2) := by decide +kernel
theorem dX3_anchorOf_17 : decode cX3_anchorOf 17 = .ok (.if_icmp .gt 10, 3) := by decide +kernel
theorem dX3_anchorOf_20 : decode cX3_anchorOf 20 = .ok (.iload_n 0, 1) := by decide +kernel
theorem dX3_anchorOf_21 : decode cX3_anchorOf 21 = .ok (.bipush 97, 2) := by decide +kernel
theorem dX3_anchorOf_23 : decode cX3_anchorOf 23 = .ok (.isub, 1) := by decide +kernel
theorem dX3_anchorOf_24 : decode cX3_anchorOf 24 = .ok (.goto 5, 3) := by decide +kernel
theorem dX3_anchorOf_27 : decode cX3_anchorOf 27 = .ok (.bipush (-9), 2) := by decide +kernel
theorem dX3_anchorOf_29 : decode cX3_anchorOf 29 = .ok (.ireturn, 1) := by decide +kernel
theorem dX4_init_0 : decode cX4_init 0 = .ok (.aload_n 0, 1) := by decide +kernel
theorem dX4_init_1 : decode cX4_init 1 = .ok (.invokespecial 5, 3) := by decide +kernel
theorem dX4_init_4 : decode cX4_init 4 = .ok (.aload_n 0, 1) := by decide +kernel
theorem dX4_init_5 : decode cX4_init 5 = .ok (.iconst 4, 1) := by decide +kernel
theorem dX4_init_6 : decode cX4_init 6 = .ok (.anewarray 11, 3) := by decide +kernel
theorem dX4_init_9 : decode cX4_init 9 = .ok (.putfield 13, 3) := by decide +kernel
theorem dX4_init_12 : decode cX4_init 12 = .ok (.aload_n 0, 1) := by decide +kernel
theorem dX4_init_13 : decode cX4_init 13 = .ok (.new 17, 3) := by decide +kernel
theorem dX4_init_16 : decode cX4_init 16 = .ok (.dup, 1) := by decide +kernel
theorem dX4_init_17 : decode cX4_init 17 = .ok (.invokespecial 19, 3) := by decide +kernel
theorem dX4_init_20 : decode cX4_init 20 = .ok (.putfield 20, 3) := by decide +kernel
theorem dX4_init_23 : decode cX4_init 23 = .ok (.aload_n 0, 1) := by decide +kernel
theorem dX4_init_24 : decode cX4_init 24 = .ok (.new 17, 3) := by decide +kernel
theorem dX4_init_27 : decode cX4_init 27 = .ok (.dup, 1) := by decide +kernel
theorem dX4_init_28 : decode cX4_init 28 = .ok (.invokespecial 19, 3) := by decide +kernel
theorem dX4_init_31 : decode cX4_init 31 = .ok (.putfield 24, 3) := by decide +kernel
theorem dX4_init_34 : decode cX4_init 34 = .ok (.aload_n 0, 1) := by decide +kernel
theorem dX4_init_35 : decode cX4_init 35 = .ok (.new 27, 3) := by decide +kernel
theorem dX4_init_38 : decode cX4_init 38 = .ok (.dup, 1) := by decide +kernel
theorem dX4_init_39 : decode cX4_init 39 = .ok (.invokespecial 29, 3) := by decide +kernel
theorem dX4_init_42 : decode cX4_init 42 = .ok (.putfield 30, 3) := by decide +kernel
theorem dX4_init_45 : decode cX4_init 45 = .ok (.aload_n 0, 1) := by decide +kernel
theorem dX4_init_46 : decode cX4_init 46 = .ok (.new 27, 3) := by decide +kernel
theorem dX4_init_49 : decode cX4_init 49 = .ok (.dup, 1) := by decide +kernel
theorem dX4_init_50 : decode cX4_init 50 = .ok (.invokespecial 29, 3) := by decide +kernel
theorem dX4_init_53 : decode cX4_init 53 = .ok (.putfield 34, 3) := by decide +kernel
theorem dX4_init_56 : decode cX4_init 56 = .ok (.aload_n 0, 1) := by decide +kernel
theorem dX4_init_57 : decode cX4_init 57 = .ok (.new 37, 3) := by decide +kernel
theorem dX4_init_60 : decode cX4_init 60 = .ok (.dup, 1) := by decide +kernel
theorem dX4_init_61 : decode cX4_init 61 = .ok (.invokespecial 39, 3) := by decide +kernel
theorem dX4_init_64 : decode cX4_init 64 = .ok (.putfield 40, 3) := by decide +kernel
theorem dX4_init_67 : decode cX4_init 67 = .ok (.aload_n 0, 1) := by decide +kernel
theorem dX4_init_68 : decode cX4_init 68 = .ok (.bipush 8, 2) := by decide +kernel
theorem dX4_init_70 : decode cX4_init 70 = .ok (.newarray .int, 2) := by decide +kernel
theorem dX4_init_72 : decode cX4_init 72 = .ok (.putfield 44, 3) := by decide +kernel
theorem dX4_init_75 : decode cX4_init 75 = .ok (.aload_n 0, 1) := by decide +kernel
theorem dX4_init_76 : decode cX4_init 76 = .ok (.bipush 8, 2) := by decide +kernel
theorem dX4_init_78 : decode cX4_init 78 = .ok (.newarray .int, 2) := by decide +kernel
theorem dX4_init_80 : decode cX4_init 80 = .ok (.putfield 48, 3) := by decide +kernel
theorem dX4_init_83 : decode cX4_init 83 = .ok (.iconst 0, 1) := by decide +kernel
theorem dX4_init_84 : decode cX4_init 84 = .ok (.istore_n 1, 1) := by decide +kernel
theorem dX4_init_85 : decode cX4_init 85 = .ok (.iload_n 1, 1) := by decide +kernel
theorem dX4_init_86 : decode cX4_init 86 = .ok (.iconst 4, 1) := by decide +kernel
theorem dX4_init_87 : decode cX4_init 87 = .ok (.if_icmp .ge 22, 3) := by decide +kernel
theorem dX4_init_90 : decode cX4_init 90 = .ok (.aload_n 0, 1) := by decide +kernel
theorem dX4_init_91 : decode cX4_init 91 = .ok (.getfield 13, 3) := by decide +kernel
theorem dX4_init_94 : decode cX4_init 94 = .ok (.iload_n 1, 1) := by decide +kernel
theorem dX4_init_95 : decode cX4_init 95 = .ok (.new 11, 3) := by decide +kernel
theorem dX4_init_98 : decode cX4_init 98 = .ok (.dup, 1) := by decide +kernel
theorem dX4_init_99 : decode cX4_init 99 = .ok (.invokespecial 51, 3) := by decide +kernel
theorem dX4_init_102 : decode cX4_init 102 = .ok (.aastore, 1) := by decide +kernel
theorem dX4_init_103 : decode cX4_init 103 = .ok (.iinc 1 1, 3) := by decide +kernel
theorem dX4_init_106 : decode cX4_init 106 = .ok (.goto (-21), 3) := by decide +kernel
theorem dX4_init_109 : decode cX4_init 109 = .ok (.return_, 1) := by decide +kernel
theorem dX4_books_0 : decode cX4_books 0 = .ok (.aload_n 0, 1) := by decide +kernel
theorem dX4_books_1 : decode cX4_books 1 = .ok (.iconst 0, 1) := by decide +kernel
theorem dX4_books_2 : decode cX4_books 2 = .ok (.putfield 52, 3) := by decide +kernel
theorem dX4_books_5 : decode cX4_books 5 = .ok (.iload_n 1, 1) := by decide +kernel
theorem dX4_books_6 : decode cX4_books 6 = .ok (.invokestatic 56, 3) := by decide +kernel
theorem dX4_books_9 : decode cX4_books 9 = .ok (.ifCond .ne 5, 3) := by decide +kernel
theorem dX4_books_12 : decode cX4_books 12 = .ok (.iconst (-1), 1) := by decide +kernel
theorem dX4_books_13 : decode cX4_books 13 = .ok (.ireturn, 1) := by decide +kernel
theorem dX4_books_14 : decode cX4_books 14 = .ok (.iload_n 2, 1) := by decide +kernel
theorem dX4_books_15 : decode cX4_books 15 = .ok (.invokestatic 60, 3) := by decide +kernel
theorem dX4_books_18 : decode cX4_books 18 = .ok (.ifCond .ne 6, 3) := by decide +kernel
theorem dX4_books_21 : decode cX4_books 21 = .ok (.bipush (-2), 2) := by decide +kernel
theorem dX4_books_23 : decode cX4_books 23 = .ok (.ireturn, 1) := by decide +kernel
theorem dX4_books_24 : decode cX4_books 24 = .ok (.aload_n 0, 1) := by decide +kernel
theorem dX4_books_25 : decode cX4_books 25 = .ok (.getfield 13, 3) := by decide +kernel
theorem dX4_books_28 : decode cX4_books 28 = .ok (.iload_n 1, 1) := by decide +kernel
theorem dX4_books_29 : decode cX4_books 29 = .ok (.aaload, 1) := by decide +kernel
theorem dX4_books_30 : decode cX4_books 30 = .ok (.astore 5, 2) := by decide +kernel
theorem dX4_books_32 : decode cX4_books 32 = .ok (.aload 5, 2) := by decide +kernel
theorem dX4_books_34 : decode cX4_books 34 = .ok (.iload_n 2, 1) := by decide +kernel
theorem dX4_books_35 : decode cX4_books 35 = .ok (.invokevirtual 63, 3) := by decide +kernel
theorem dX4_books_38 : decode cX4_books 38 = .ok (.istore 6, 2) := by decide +kernel
theorem dX4_books_40 : decode cX4_books 40 = .ok (.iload 6, 2) := by decide +kernel
theorem dX4_books_42 : decode cX4_books 42 = .ok (.ifCond .ne 11, 3) := by decide +kernel
theorem dX4_books_45 : decode cX4_books 45 = .ok (.iload 4, 2) := by decide +kernel
theorem dX4_books_47 : decode cX4_books 47 = .ok (.ifCond .ge 6, 3) := by decide +kernel
theorem dX4_books_50 : decode cX4_books 50 = .ok (.iconst 4, 1) := by decide +kernel
theorem dX4_books_51 : decode cX4_books 51 = .ok (.istore 6, 2) := by decide +kernel
theorem dX4_books_53 : decode cX4_books 53 = .ok (.iload 6, 2) := by decide +kernel
theorem dX4_books_55 : decode cX4_books 55 = .ok (.ifCond .ne 17, 3) := by decide +kernel
theorem dX4_books_58 : decode cX4_books 58 = .ok (.aload 5, 2) := by decide +kernel
theorem dX4_books_60 : decode cX4_books 60 = .ok (.iload_n 3, 1) := by decide +kernel
theorem dX4_books_61 : decode cX4_books 61 = .ok (.iload 4, 2) := by decide +kernel
theorem dX4_books_63 : decode cX4_books 63 = .ok (.invokevirtual 67, 3) := by decide +kernel
theorem dX4_books_66 : decode cX4_books 66 = .ok (.ifCond .ne 6, 3) := by decide +kernel
theorem dX4_books_69 : decode cX4_books 69 = .ok (.iconst 3, 1) := by decide +kernel
theorem dX4_books_70 : decode cX4_books 70 = .ok (.istore 6, 2) := by decide +kernel
theorem dX4_books_72 : decode cX4_books 72 = .ok (.iload 6, 2) := by decide +kernel
theorem dX4_books_74 : decode cX4_books 74 = .ok (.ifCond .eq 10, 3) := by decide +kernel
theorem dX4_books_77 : decode cX4_books 77 = .ok (.aload_n 0, 1) := by decide +kernel
theorem dX4_books_78 : decode cX4_books 78 = .ok (.iload 6, 2) := by decide +kernel
theorem dX4_books_80 : decode cX4_books 80 = .ok (.invokevirtual 71, 3) := by decide +kernel
theorem dX4_books_83 : decode cX4_books 83 = .ok (.ireturn, 1) := by decide +kernel
theorem dX4_books_84 : decode cX4_books 84 = .ok (.aload_n 0, 1) := by decide +kernel
theorem dX4_books_85 : decode cX4_books 85 = .ok (.getfield 40, 3) := by decide +kernel
theorem dX4_books_88 : decode cX4_books 88 = .ok (.aload 5, 2) := by decide +kernel
theorem dX4_books_90 : decode cX4_books 90 = .ok (.iload_n 3, 1) := by decide +kernel
theorem dX4_books_91 : decode cX4_books 91 = .ok (.iload 4, 2) := by decide +kernel
theorem dX4_books_93 : decode cX4_books 93 = .ok (.aload_n 0, 1) := by decide +kernel
theorem dX4_books_94 : decode cX4_books 94 = .ok (.getfield 24, 3) := by decide +kernel
theorem dX4_books_97 : decode cX4_books 97 = .ok (.invokevirtual 74, 3) := by decide +kernel
theorem dX4_books_100 : decode cX4_books 100 = .ok (.istore 7, 2) := by decide +kernel
theorem dX4_books_102 : decode cX4_books 102 = .ok (.iload 7, 2) := by decide +kernel
theorem dX4_books_104 : decode cX4_books 104 = .ok (.bipush (-9), 2) := by decide +kernel
theorem dX4_books_106 : decode cX4_books 106 = .ok (.if_icmp .eq 9, 3) := by decide +kernel
theorem dX4_books_109 : decode cX4_books 109 = .ok (.bipush (-100), 2) := by decide +kernel
theorem dX4_books_111 : decode cX4_books 111 = .ok (.iload 7, 2) := by decide +kernel
theorem dX4_books_113 : decode cX4_books 113 = .ok (.isub, 1) := by decide +kernel
theorem dX4_books_114 : decode cX4_books 114 = .ok (.ireturn, 1) := by decide +kernel
theorem dX4_books_115 : decode cX4_books 115 = .ok (.aload_n 0, 1) := by decide +kernel
theorem dX4_books_116 : decode cX4_books 116 = .ok (.getfield 20, 3) := by decide +kernel
theorem dX4_books_119 : decode cX4_books 119 = .ok (.aload_n 0, 1) := by decide +kernel
theorem dX4_books_120 : decode cX4_books 120 = .ok (.getfield 24, 3) := by decide +kernel
theorem dX4_books_123 : decode cX4_books 123 = .ok (.invokevirtual 78, 3) := by decide +kernel
theorem dX4_books_126 : decode cX4_books 126 = .ok (.aload_n 0, 1) := by decide +kernel
theorem dX4_books_127 : decode cX4_books 127 = .ok (.iconst 0, 1) := by decide +kernel
theorem dX4_books_128 : decode cX4_books 128 = .ok (.putfield 82, 3) := by decide +kernel
theorem dX4_books_131 : decode cX4_books 131 = .ok (.aload_n 0, 1) := by decide +kernel
theorem dX4_books_132 : decode cX4_books 132 = .ok (.iconst 0, 1) := by decide +kernel
theorem dX4_books_133 : decode cX4_books 133 = .ok (.putfield 85, 3) := by decide +kernel
theorem dX4_books_136 : decode cX4_books 136 = .ok (.aload_n 0, 1) := by decide +kernel
theorem dX4_books_137 : decode cX4_books 137 = .ok (.getfield 20, 3) := by decide +kernel
theorem dX4_books_140 : decode cX4_books 140 = .ok (.getfield 89, 3) := by decide +kernel
theorem dX4_books_143 : decode cX4_books 143 = .ok (.aload_n 0, 1) := by decide +kernel
theorem dX4_books_144 : decode cX4_books 144 = .ok (.getfield 20, 3) := by decide +kernel
theorem dX4_books_147 : decode cX4_books 147 = .ok (.getfield 92, 3) := by decide +kernel
theorem dX4_books_150 : decode cX4_books 150 = .ok (.iadd, 1) := by decide +kernel
theorem dX4_books_151 : decode cX4_books 151 = .ok (.ireturn, 1) := by decide +kernel
theorem dX4_ofLeft_0 : decode cX4_ofLeft 0 = .ok (.aload_n 0, 1) := by decide +kernel
theorem dX4_ofLeft_1 : decode cX4_ofLeft 1 = .ok (.getfield 20, 3) := by decide +kernel
theorem dX4_ofLeft_4 : decode cX4_ofLeft 4 = .ok (.iload_n 1, 1) := by decide +kernel
theorem dX4_ofLeft_5 : decode cX4_ofLeft 5 = .ok (.invokevirtual 95, 3) := by decide +kernel
theorem dX4_ofLeft_8 : decode cX4_ofLeft 8 = .ok (.ifCond .ne 5, 3) := by decide +kernel
theorem dX4_ofLeft_11 : decode cX4_ofLeft 11 = .ok (.iconst (-1), 1) := by decide +kernel
theorem dX4_ofLeft_12 : decode cX4_ofLeft 12 = .ok (.ireturn, 1) := by decide +kernel
theorem dX4_ofLeft_13 : decode cX4_ofLeft 13 = .ok (.iload_n 2, 1) := by decide +kernel
theorem dX4_ofLeft_14 : decode cX4_ofLeft 14 = .ok (.tableswitch 82 0 4 #[34, 44, 54, 63, 73], 34) := by decide +kernel
theorem dX4_ofLeft_48 : decode cX4_ofLeft 48 = .ok (.aload_n 0, 1) := by decide +kernel
theorem dX4_ofLeft_49 : decode cX4_ofLeft 49 = .ok (.getfield 20, 3) := by decide +kernel
theorem dX4_ofLeft_52 : decode cX4_ofLeft 52 = .ok (.getfield 98, 3) := by decide +kernel
theorem dX4_ofLeft_55 : decode cX4_ofLeft 55 = .ok (.iload_n 1, 1) := by decide +kernel
theorem dX4_ofLeft_56 : decode cX4_ofLeft 56 = .ok (.iaload, 1) := by decide +kernel
theorem dX4_ofLeft_57 : decode cX4_ofLeft 57 = .ok (.ireturn, 1) := by decide +kernel
theorem dX4_ofLeft_58 : decode cX4_ofLeft 58 = .ok (.aload_n 0, 1) := by decide +kernel
theorem dX4_ofLeft_59 : decode cX4_ofLeft 59 = .ok (.getfield 20, 3) := by decide +kernel
theorem dX4_ofLeft_62 : decode cX4_ofLeft 62 = .ok (.getfield 101, 3) := by decide +kernel
theorem dX4_ofLeft_65 : decode cX4_ofLeft 65 = .ok (.iload_n 1, 1) := by decide +kernel
theorem dX4_ofLeft_66 : decode cX4_ofLeft 66 = .ok (.iaload, 1) := by decide +kernel
theorem dX4_ofLeft_67 : decode cX4_ofLeft 67 = .ok (.ireturn, 1) := by decide +kernel
theorem dX4_ofLeft_68 : decode cX4_ofLeft 68 = .ok (.aload_n 0, 1) := by decide +kernel
theorem dX4_ofLeft_69 : decode cX4_ofLeft 69 = .ok (.getfield 20, 3) := by decide +kernel
theorem dX4_ofLeft_72 : decode cX4_ofLeft 72 = .ok (.iload_n 1, 1) := by decide +kernel
theorem dX4_ofLeft_73 : decode cX4_ofLeft 73 = .ok (.invokevirtual 104, 3) := by decide +kernel
theorem dX4_ofLeft_76 : decode cX4_ofLeft 76 = .ok (.ireturn, 1) := by decide +kernel
theorem dX4_ofLeft_77 : decode cX4_ofLeft 77 = .ok (.aload_n 0, 1) := by decide +kernel
theorem dX4_ofLeft_78 : decode cX4_ofLeft 78 = .ok (.getfield 20, 3) := by decide +kernel
theorem dX4_ofLeft_81 : decode cX4_ofLeft 81 = .ok (.getfield 107, 3) := by decide +kernel
theorem dX4_ofLeft_84 : decode cX4_ofLeft 84 = .ok (.iload_n 1, 1) := by decide +kernel
theorem dX4_ofLeft_85 : decode cX4_ofLeft 85 = .ok (.iaload, 1) := by decide +kernel
theorem dX4_ofLeft_86 : decode cX4_ofLeft 86 = .ok (.ireturn, 1) := by decide +kernel
theorem dX4_ofLeft_87 : decode cX4_ofLeft 87 = .ok (.aload_n 0, 1) := by decide +kernel
theorem dX4_ofLeft_88 : decode cX4_ofLeft 88 = .ok (.invokevirtual 110, 3) := by decide +kernel
theorem dX4_ofLeft_91 : decode cX4_ofLeft 91 = .ok (.iload_n 1, 1) := by decide +kernel
theorem dX4_ofLeft_92 : decode cX4_ofLeft 92 = .ok (.invokevirtual 114, 3) := by decide +kernel
theorem dX4_ofLeft_95 : decode cX4_ofLeft 95 = .ok (.ireturn, 1) := by decide +kernel
theorem dX4_ofLeft_96 : decode cX4_ofLeft 96 = .ok (.bipush (-2), 2) := by decide +kernel
theorem dX4_ofLeft_98 : decode cX4_ofLeft 98 = .ok (.ireturn, 1) := by decide +kernel
theorem dX4_ofRight_0 : decode cX4_ofRight 0 = .ok (.aload_n 0, 1) := by decide +kernel
theorem dX4_ofRight_1 : decode cX4_ofRight 1 = .ok (.getfield 20, 3) := by decide +kernel
theorem dX4_ofRight_4 : decode cX4_ofRight 4 = .ok (.iload_n 1, 1) := by decide +kernel
theorem dX4_ofRight_5 : decode cX4_ofRight 5 = .ok (.invokevirtual 117, 3) := by decide +kernel
theorem dX4_ofRight_8 : decode cX4_ofRight 8 = .ok (.ifCond .ne 5, 3) := by decide +kernel
theorem dX4_ofRight_11 : decode cX4_ofRight 11 = .ok (.iconst (-1), 1) := by decide +kernel
theorem dX4_ofRight_12 : decode cX4_ofRight 12 = .ok (.ireturn, 1) := by decide +kernel
theorem dX4_ofRight_13 : decode cX4_ofRight 13 = .ok (.iload_n 2, 1) := by decide +kernel
theorem dX4_ofRight_14 : decode cX4_ofRight 14 = .ok (.tableswitch 55 0 2 #[26, 36, 46], 26) := by decide +kernel
theorem dX4_ofRight_40 : decode cX4_ofRight 40 = .ok (.aload_n 0, 1) := by decide +kernel
theorem dX4_ofRight_41 : decode cX4_ofRight 41 = .ok (.getfield 20, 3) := by decide +kernel
theorem dX4_ofRight_44 : decode cX4_ofRight 44 = .ok (.getfield 120, 3) := by decide +kernel
theorem dX4_ofRight_47 : decode cX4_ofRight 47 = .ok (.iload_n 1, 1) := by decide +kernel
theorem dX4_ofRight_48 : decode cX4_ofRight 48 = .ok (.iaload, 1) := by decide +kernel
theorem dX4_ofRight_49 : decode cX4_ofRight 49 = .ok (.ireturn, 1) := by decide +kernel
theorem dX4_ofRight_50 : decode cX4_ofRight 50 = .ok (.aload_n 0, 1) := by decide +kernel
theorem dX4_ofRight_51 : decode cX4_ofRight 51 = .ok (.getfield 20, 3) := by decide +kernel
theorem dX4_ofRight_54 : decode cX4_ofRight 54 = .ok (.getfield 123, 3) := by decide +kernel
theorem dX4_ofRight_57 : decode cX4_ofRight 57 = .ok (.iload_n 1, 1) := by decide +kernel
theorem dX4_ofRight_58 : decode cX4_ofRight 58 = .ok (.iaload, 1) := by decide +kernel
theorem dX4_ofRight_59 : decode cX4_ofRight 59 = .ok (.ireturn, 1) := by decide +kernel
theorem dX4_ofRight_60 : decode cX4_ofRight 60 = .ok (.aload_n 0, 1) := by decide +kernel
theorem dX4_ofRight_61 : decode cX4_ofRight 61 = .ok (.invokevirtual 110, 3) := by decide +kernel
theorem dX4_ofRight_64 : decode cX4_ofRight 64 = .ok (.iload_n 1, 1) := by decide +kernel
theorem dX4_ofRight_65 : decode cX4_ofRight 65 = .ok (.invokevirtual 126, 3) := by decide +kernel
theorem dX4_ofRight_68 : decode cX4_ofRight 68 = .ok (.ireturn, 1) := by decide +kernel
theorem dX4_ofRight_69 : decode cX4_ofRight 69 = .ok (.bipush (-2), 2) := by decide +kernel
theorem dX4_ofRight_71 : decode cX4_ofRight 71 = .ok (.ireturn, 1) := by decide +kernel
theorem dX4_letters_0 : decode cX4_letters 0 = .ok (.iload_n 1, 1) := by decide +kernel
theorem dX4_letters_1 : decode cX4_letters 1 = .ok (.ifCond .eq 11, 3) := by decide +kernel
theorem dX4_letters_4 : decode cX4_letters 4 = .ok (.iload_n 1, 1) := by decide +kernel
theorem dX4_letters_5 : decode cX4_letters 5 = .ok (.iconst 1, 1) := by decide +kernel
theorem dX4_letters_6 : decode cX4_letters 6 = .ok (.if_icmp .eq 6, 3) := by decide +kernel
theorem dX4_letters_9 : decode cX4_letters 9 = .ok (.bipush (-2), 2) := by decide +kernel
theorem dX4_letters_11 : decode cX4_letters 11 = .ok (.ireturn, 1) := by decide +kernel
theorem dX4_letters_12 : decode cX4_letters 12 = .ok (.iload_n 1, 1) := by decide +kernel
theorem dX4_letters_13 : decode cX4_letters 13 = .ok (.ifCond .ne 17, 3) := by decide +kernel
theorem dX4_letters_16 : decode cX4_letters 16 = .ok (.aload_n 0, 1) := by decide +kernel
theorem dX4_letters_17 : decode cX4_letters 17 = .ok (.getfield 20, 3) := by decide +kernel
theorem dX4_letters_20 : decode cX4_letters 20 = .ok (.iload_n 2, 1) := by decide +kernel
theorem dX4_letters_21 : decode cX4_letters 21 = .ok (.invokevirtual 95, 3) := by decide +kernel
theorem dX4_letters_24 : decode cX4_letters 24 = .ok (.ifCond .ne 19, 3) := by decide +kernel
theorem dX4_letters_27 : decode cX4_letters 27 = .ok (.goto 14, 3) := by decide +kernel
theorem dX4_letters_30 : decode cX4_letters 30 = .ok (.aload_n 0, 1) := by decide +kernel
theorem dX4_letters_31 : decode cX4_letters 31 = .ok (.getfield 20, 3) := by decide +kernel
theorem dX4_letters_34 : decode cX4_letters 34 = .ok (.iload_n 2, 1) := by decide +kernel
theorem dX4_letters_35 : decode cX4_letters 35 = .ok (.invokevirtual 117, 3) := by decide +kernel
theorem dX4_letters_38 : decode cX4_letters 38 = .ok (.ifCond .ne 5, 3) := by decide +kernel
theorem dX4_letters_41 : decode cX4_letters 41 = .ok (.iconst (-1), 1) := by decide +kernel
theorem dX4_letters_42 : decode cX4_letters 42 = .ok (.ireturn, 1) := by decide +kernel
theorem dX4_letters_43 : decode cX4_letters 43 = .ok (.iload_n 3, 1) := by decide +kernel
theorem dX4_letters_44 : decode cX4_letters 44 = .ok (.invokestatic 129, 3) := by decide +kernel
theorem dX4_letters_47 : decode cX4_letters 47 = .ok (.ifCond .ne 6, 3) := by decide +kernel
theorem dX4_letters_50 : decode cX4_letters 50 = .ok (.bipush (-2), 2) := by decide +kernel
theorem dX4_letters_52 : decode cX4_letters 52 = .ok (.ireturn, 1) := by decide +kernel
theorem dX4_letters_53 : decode cX4_letters 53 = .ok (.iload_n 1, 1) := by decide +kernel
theorem dX4_letters_54 : decode cX4_letters 54 = .ok (.ifCond .ne 13, 3) := by decide +kernel
theorem dX4_letters_57 : decode cX4_letters 57 = .ok (.aload_n 0, 1) := by decide +kernel
theorem dX4_letters_58 : decode cX4_letters 58 = .ok (.getfield 20, 3) := by decide +kernel
theorem dX4_letters_61 : decode cX4_letters 61 = .ok (.getfield 101, 3) := by decide +kernel
theorem dX4_letters_64 : decode cX4_letters 64 = .ok (.goto 10, 3) := by decide +kernel
theorem dX4_letters_67 : decode cX4_letters 67 = .ok (.aload_n 0, 1) := by decide +kernel
theorem dX4_letters_68 : decode cX4_letters 68 = .ok (.getfield 20, 3) := by decide +kernel
theorem dX4_letters_71 : decode cX4_letters 71 = .ok (.getfield 120, 3) := by decide +kernel
theorem dX4_letters_74 : decode cX4_letters 74 = .ok (.astore 4, 2) := by decide +kernel
theorem dX4_letters_76 : decode cX4_letters 76 = .ok (.aload 4, 2) := by decide +kernel
theorem dX4_letters_78 : decode cX4_letters 78 = .ok (.iload_n 2, 1) := by decide +kernel
theorem dX4_letters_79 : decode cX4_letters 79 = .ok (.iaload, 1) := by decide +kernel
theorem dX4_letters_80 : decode cX4_letters 80 = .ok (.istore 5, 2) := by decide +kernel
theorem dX4_letters_82 : decode cX4_letters 82 = .ok (.aload 4, 2) := by decide +kernel
theorem dX4_letters_84 : decode cX4_letters 84 = .ok (.iload_n 2, 1) := by decide +kernel
theorem dX4_letters_85 : decode cX4_letters 85 = .ok (.iload_n 3, 1) := by decide +kernel
theorem dX4_letters_86 : decode cX4_letters 86 = .ok (.iastore, 1) := by decide +kernel
theorem dX4_letters_87 : decode cX4_letters 87 = .ok (.aload_n 0, 1) := by decide +kernel
theorem dX4_letters_88 : decode cX4_letters 88 = .ok (.iconst 0, 1) := by decide +kernel
theorem dX4_letters_89 : decode cX4_letters 89 = .ok (.putfield 85, 3) := by decide +kernel
theorem dX4_letters_92 : decode cX4_letters 92 = .ok (.iload 5, 2) := by decide +kernel
theorem dX4_letters_94 : decode cX4_letters 94 = .ok (.ireturn, 1) := by decide +kernel
theorem dX4_price_0 : decode cX4_price 0 = .ok (.iload_n 1, 1) := by decide +kernel
theorem dX4_price_1 : decode cX4_price 1 = .ok (.ifCond .lt 8, 3) := by decide +kernel
theorem dX4_price_4 : decode cX4_price 4 = .ok (.iload_n 1, 1) := by decide +kernel
theorem dX4_price_5 : decode cX4_price 5 = .ok (.iconst 2, 1) := by decide +kernel
theorem dX4_price_6 : decode cX4_price 6 = .ok (.if_icmp .le 6, 3) := by decide +kernel
theorem dX4_price_9 : decode cX4_price 9 = .ok (.bipush (-2), 2) := by decide +kernel
theorem dX4_price_11 : decode cX4_price 11 = .ok (.ireturn, 1) := by decide +kernel
theorem dX4_price_12 : decode cX4_price 12 = .ok (.aload_n 0, 1) := by decide +kernel
theorem dX4_price_13 : decode cX4_price 13 = .ok (.getfield 20, 3) := by decide +kernel
theorem dX4_price_16 : decode cX4_price 16 = .ok (.invokevirtual 132, 3) := by decide +kernel
theorem dX4_price_19 : decode cX4_price 19 = .ok (.ifCond .ne 6, 3) := by decide +kernel
theorem dX4_price_22 : decode cX4_price 22 = .ok (.bipush (-3), 2) := by decide +kernel
theorem dX4_price_24 : decode cX4_price 24 = .ok (.ireturn, 1) := by decide +kernel
theorem dX4_price_25 : decode cX4_price 25 = .ok (.iload_n 1, 1) := by decide +kernel
theorem dX4_price_26 : decode cX4_price 26 = .ok (.iload_n 2, 1) := by decide +kernel
theorem dX4_price_27 : decode cX4_price 27 = .ok (.invokestatic 136, 3) := by decide +kernel
theorem dX4_price_30 : decode cX4_price 30 = .ok (.ifCond .ne 6, 3) := by decide +kernel
theorem dX4_price_33 : decode cX4_price 33 = .ok (.bipush (-2), 2) := by decide +kernel
theorem dX4_price_35 : decode cX4_price 35 = .ok (.ireturn, 1) := by decide +kernel
theorem dX4_price_36 : decode cX4_price 36 = .ok (.aload_n 0, 1) := by decide +kernel
theorem dX4_price_37 : decode cX4_price 37 = .ok (.getfield 20, 3) := by decide +kernel
theorem dX4_price_40 : decode cX4_price 40 = .ok (.iload_n 1, 1) := by decide +kernel
theorem dX4_price_41 : decode cX4_price 41 = .ok (.invokevirtual 139, 3) := by decide +kernel
theorem dX4_price_44 : decode cX4_price 44 = .ok (.istore_n 3, 1) := by decide +kernel
theorem dX4_price_45 : decode cX4_price 45 = .ok (.aload_n 0, 1) := by decide +kernel
theorem dX4_price_46 : decode cX4_price 46 = .ok (.getfield 20, 3) := by decide +kernel
theorem dX4_price_49 : decode cX4_price 49 = .ok (.iload_n 1, 1) := by decide +kernel
theorem dX4_price_50 : decode cX4_price 50 = .ok (.iload_n 2, 1) := by decide +kernel
theorem dX4_price_51 : decode cX4_price 51 = .ok (.invokevirtual 142, 3) := by decide +kernel
theorem dX4_price_54 : decode cX4_price 54 = .ok (.aload_n 0, 1) := by decide +kernel
theorem dX4_price_55 : decode cX4_price 55 = .ok (.iconst 0, 1) := by decide +kernel
theorem dX4_price_56 : decode cX4_price 56 = .ok (.putfield 85, 3) := by decide +kernel
theorem dX4_price_59 : decode cX4_price 59 = .ok (.iload_n 3, 1) := by decide +kernel
theorem dX4_price_60 : decode cX4_price 60 = .ok (.ireturn, 1) := by decide +kernel
theorem dX4_move_0 : decode cX4_move 0 = .ok (.iload_n 2, 1) := by decide +kernel
theorem dX4_move_1 : decode cX4_move 1 = .ok (.iconst 1, 1) := by decide +kernel
theorem dX4_move_2 : decode cX4_move 2 = .ok (.if_icmp .ge 6, 3) := by decide +kernel
theorem dX4_move_5 : decode cX4_move 5 = .ok (.bipush (-2), 2) := by decide +kernel
theorem dX4_move_7 : decode cX4_move 7 = .ok (.ireturn, 1) := by decide +kernel
theorem dX4_move_8 : decode cX4_move 8 = .ok (.aload_n 0, 1) := by decide +kernel
theorem dX4_move_9 : decode cX4_move 9 = .ok (.getfield 20, 3) := by decide +kernel
theorem dX4_move_12 : decode cX4_move 12 = .ok (.iload_n 1, 1) := by decide +kernel
theorem dX4_move_13 : decode cX4_move 13 = .ok (.invokevirtual 117, 3) := by decide +kernel
theorem dX4_move_16 : decode cX4_move 16 = .ok (.ifCond .eq 16, 3) := by decide +kernel
theorem dX4_move_19 : decode cX4_move 19 = .ok (.iload_n 2, 1) := by decide +kernel
theorem dX4_move_20 : decode cX4_move 20 = .ok (.aload_n 0, 1) := by decide +kernel
theorem dX4_move_21 : decode cX4_move 21 = .ok (.getfield 20, 3) := by decide +kernel
theorem dX4_move_24 : decode cX4_move 24 = .ok (.getfield 92, 3) := by decide +kernel
theorem dX4_move_27 : decode cX4_move 27 = .ok (.iload_n 1, 1) := by decide +kernel
theorem dX4_move_28 : decode cX4_move 28 = .ok (.isub, 1) := by decide +kernel
theorem dX4_move_29 : decode cX4_move 29 = .ok (.if_icmp .le 5, 3) := by decide +kernel
theorem dX4_move_32 : decode cX4_move 32 = .ok (.iconst (-1), 1) := by decide +kernel
theorem dX4_move_33 : decode cX4_move 33 = .ok (.ireturn, 1) := by decide +kernel
theorem dX4_move_34 : decode cX4_move 34 = .ok (.iload_n 3, 1) := by decide +kernel
theorem dX4_move_35 : decode cX4_move 35 = .ok (.ifCond .lt 16, 3) := by decide +kernel
theorem dX4_move_38 : decode cX4_move 38 = .ok (.iload_n 3, 1) := by decide +kernel
theorem dX4_move_39 : decode cX4_move 39 = .ok (.aload_n 0, 1) := by decide +kernel
theorem dX4_move_40 : decode cX4_move 40 = .ok (.getfield 20, 3) := by decide +kernel
theorem dX4_move_43 : decode cX4_move 43 = .ok (.getfield 92, 3) := by decide +kernel
theorem dX4_move_46 : decode cX4_move 46 = .ok (.iload_n 2, 1) := by decide +kernel
theorem dX4_move_47 : decode cX4_move 47 = .ok (.isub, 1) := by decide +kernel
theorem dX4_move_48 : decode cX4_move 48 = .ok (.if_icmp .le 6, 3) := by decide +kernel
theorem dX4_move_51 : decode cX4_move 51 = .ok (.bipush (-2), 2) := by decide +kernel
theorem dX4_move_53 : decode cX4_move 53 = .ok (.ireturn, 1) := by decide +kernel
theorem dX4_move_54 : decode cX4_move 54 = .ok (.aload_n 0, 1) := by decide +kernel
theorem dX4_move_55 : decode cX4_move 55 = .ok (.getfield 24, 3) := by decide +kernel
theorem dX4_move_58 : decode cX4_move 58 = .ok (.aload_n 0, 1) := by decide +kernel
theorem dX4_move_59 : decode cX4_move 59 = .ok (.getfield 20, 3) := by decide +kernel
theorem dX4_move_62 : decode cX4_move 62 = .ok (.invokevirtual 78, 3) := by decide +kernel
theorem dX4_move_65 : decode cX4_move 65 = .ok (.aload_n 0, 1) := by decide +kernel
theorem dX4_move_66 : decode cX4_move 66 = .ok (.getfield 20, 3) := by decide +kernel
theorem dX4_move_69 : decode cX4_move 69 = .ok (.aload_n 0, 1) := by decide +kernel
theorem dX4_move_70 : decode cX4_move 70 = .ok (.getfield 24, 3) := by decide +kernel
theorem dX4_move_73 : decode cX4_move 73 = .ok (.iload_n 1, 1) := by decide +kernel
theorem dX4_move_74 : decode cX4_move 74 = .ok (.iload_n 2, 1) := by decide +kernel
theorem dX4_move_75 : decode cX4_move 75 = .ok (.iload_n 3, 1) := by decide +kernel
theorem dX4_move_76 : decode cX4_move 76 = .ok (.invokevirtual 146, 3) := by decide +kernel
theorem dX4_move_79 : decode cX4_move 79 = .ok (.aload_n 0, 1) := by decide +kernel
theorem dX4_move_80 : decode cX4_move 80 = .ok (.iconst 0, 1) := by decide +kernel
theorem dX4_move_81 : decode cX4_move 81 = .ok (.putfield 85, 3) := by decide +kernel
theorem dX4_move_84 : decode cX4_move 84 = .ok (.iload_n 2, 1) := by decide +kernel
theorem dX4_move_85 : decode cX4_move 85 = .ok (.ireturn, 1) := by decide +kernel
theorem dX4_best_0 : decode cX4_best 0 = .ok (.iload_n 1, 1) := by decide +kernel
theorem dX4_best_1 : decode cX4_best 1 = .ok (.ifCond .lt 8, 3) := by decide +kernel
theorem dX4_best_4 : decode cX4_best 4 = .ok (.iload_n 1, 1) := by decide +kernel
theorem dX4_best_5 : decode cX4_best 5 = .ok (.iconst 3, 1) := by decide +kernel
theorem dX4_best_6 : decode cX4_best 6 = .ok (.if_icmp .le 6, 3) := by decide +kernel
theorem dX4_best_9 : decode cX4_best 9 = .ok (.bipush (-2), 2) := by decide +kernel
theorem dX4_best_11 : decode cX4_best 11 = .ok (.ireturn, 1) := by decide +kernel
theorem dX4_best_12 : decode cX4_best 12 = .ok (.aload_n 0, 1) := by decide +kernel
theorem dX4_best_13 : decode cX4_best 13 = .ok (.getfield 20, 3) := by decide +kernel
theorem dX4_best_16 : decode cX4_best 16 = .ok (.invokevirtual 132, 3) := by decide +kernel
theorem dX4_best_19 : decode cX4_best 19 = .ok (.ifCond .eq 14, 3) := by decide +kernel
theorem dX4_best_22 : decode cX4_best 22 = .ok (.aload_n 0, 1) := by decide +kernel
theorem dX4_best_23 : decode cX4_best 23 = .ok (.invokevirtual 110, 3) := by decide +kernel
theorem dX4_best_26 : decode cX4_best 26 = .ok (.iload_n 1, 1) := by decide +kernel
theorem dX4_best_27 : decode cX4_best 27 = .ok (.invokevirtual 150, 3) := by decide +kernel
theorem dX4_best_30 : decode cX4_best 30 = .ok (.goto 5, 3) := by decide +kernel
theorem dX4_best_33 : decode cX4_best 33 = .ok (.bipush (-3), 2) := by decide +kernel
theorem dX4_best_35 : decode cX4_best 35 = .ok (.ireturn, 1) := by decide +kernel
theorem dX4_ofPair_0 : decode cX4_ofPair 0 = .ok (.aload_n 0, 1) := by decide +kernel
theorem dX4_ofPair_1 : decode cX4_ofPair 1 = .ok (.invokevirtual 110, 3) := by decide +kernel
theorem dX4_ofPair_4 : decode cX4_ofPair 4 = .ok (.astore_n 3, 1) := by decide +kernel
theorem dX4_ofPair_5 : decode cX4_ofPair 5 = .ok (.iload_n 1, 1) := by decide +kernel
theorem dX4_ofPair_6 : decode cX4_ofPair 6 = .ok (.ifCond .lt 11, 3) := by decide +kernel
end
section
theorem dX4_ofPair_9 : decode cX4_ofPair 9 = .ok (.iload_n 1, 1) := by decide +kernel
theorem dX4_ofPair_10 : decode cX4_ofPair 10 = .ok (.aload_n 3, 1) := by decide +kernel
theorem dX4_ofPair_11 : decode cX4_ofPair 11 = .ok (.getfield 153, 3) := by decide +kernel
theorem dX4_ofPair_14 : decode cX4_ofPair 14 = .ok (.if_icmp .lt 5, 3) := by decide +kernel
theorem dX4_ofPair_17 : decode cX4_ofPair 17 = .ok (.iconst (-1), 1) := by decide +kernel
theorem dX4_ofPair_18 : decode cX4_ofPair 18 = .ok (.ireturn, 1) := by decide +kernel
theorem dX4_ofPair_19 : decode cX4_ofPair 19 = .ok (.iload_n 2, 1) := by decide +kernel
theorem dX4_ofPair_20 : decode cX4_ofPair 20 = .ok (.tableswitch 59 0 3 #[32, 39, 46, 53], 32) := by decide +kernel
theorem dX4_ofPair_52 : decode cX4_ofPair 52 = .ok (.aload_n 3, 1) := by decide +kernel
theorem dX4_ofPair_53 : decode cX4_ofPair 53 = .ok (.getfield 156, 3) := by decide +kernel
theorem dX4_ofPair_56 : decode cX4_ofPair 56 = .ok (.iload_n 1, 1) := by decide +kernel
theorem dX4_ofPair_57 : decode cX4_ofPair 57 = .ok (.iaload, 1) := by decide +kernel
theorem dX4_ofPair_58 : decode cX4_ofPair 58 = .ok (.ireturn, 1) := by decide +kernel
theorem dX4_ofPair_59 : decode cX4_ofPair 59 = .ok (.aload_n 3, 1) := by decide +kernel
theorem dX4_ofPair_60 : decode cX4_ofPair 60 = .ok (.getfield 159, 3) := by decide +kernel
theorem dX4_ofPair_63 : decode cX4_ofPair 63 = .ok (.iload_n 1, 1) := by decide +kernel
theorem dX4_ofPair_64 : decode cX4_ofPair 64 = .ok (.iaload, 1) := by decide +kernel
theorem dX4_ofPair_65 : decode cX4_ofPair 65 = .ok (.ireturn, 1) := by decide +kernel
theorem dX4_ofPair_66 : decode cX4_ofPair 66 = .ok (.aload_n 3, 1) := by decide +kernel
theorem dX4_ofPair_67 : decode cX4_ofPair 67 = .ok (.getfield 162, 3) := by decide +kernel
theorem dX4_ofPair_70 : decode cX4_ofPair 70 = .ok (.iload_n 1, 1) := by decide +kernel
theorem dX4_ofPair_71 : decode cX4_ofPair 71 = .ok (.iaload, 1) := by decide +kernel
theorem dX4_ofPair_72 : decode cX4_ofPair 72 = .ok (.ireturn, 1) := by decide +kernel
theorem dX4_ofPair_73 : decode cX4_ofPair 73 = .ok (.aload_n 3, 1) := by decide +kernel
theorem dX4_ofPair_74 : decode cX4_ofPair 74 = .ok (.iload_n 1, 1) := by decide +kernel
theorem dX4_ofPair_75 : decode cX4_ofPair 75 = .ok (.invokevirtual 165, 3) := by decide +kernel
theorem dX4_ofPair_78 : decode cX4_ofPair 78 = .ok (.ireturn, 1) := by decide +kernel
theorem dX4_ofPair_79 : decode cX4_ofPair 79 = .ok (.bipush (-2), 2) := by decide +kernel
theorem dX4_ofPair_81 : decode cX4_ofPair 81 = .ok (.ireturn, 1) := by decide +kernel
theorem dX4_cost_0 : decode cX4_cost 0 = .ok (.iload_n 1, 1) := by decide +kernel
theorem dX4_cost_1 : decode cX4_cost 1 = .ok (.invokestatic 168, 3) := by decide +kernel
theorem dX4_cost_4 : decode cX4_cost 4 = .ok (.ifCond .ne 6, 3) := by decide +kernel
theorem dX4_cost_7 : decode cX4_cost 7 = .ok (.bipush (-2), 2) := by decide +kernel
theorem dX4_cost_9 : decode cX4_cost 9 = .ok (.ireturn, 1) := by decide +kernel
theorem dX4_cost_10 : decode cX4_cost 10 = .ok (.aload_n 0, 1) := by decide +kernel
theorem dX4_cost_11 : decode cX4_cost 11 = .ok (.getfield 20, 3) := by decide +kernel
theorem dX4_cost_14 : decode cX4_cost 14 = .ok (.iload_n 1, 1) := by decide +kernel
theorem dX4_cost_15 : decode cX4_cost 15 = .ok (.iload_n 2, 1) := by decide +kernel
theorem dX4_cost_16 : decode cX4_cost 16 = .ok (.iload_n 3, 1) := by decide +kernel
theorem dX4_cost_17 : decode cX4_cost 17 = .ok (.invokevirtual 171, 3) := by decide +kernel
theorem dX4_cost_20 : decode cX4_cost 20 = .ok (.ifCond .eq 16, 3) := by decide +kernel
theorem dX4_cost_23 : decode cX4_cost 23 = .ok (.aload_n 0, 1) := by decide +kernel
theorem dX4_cost_24 : decode cX4_cost 24 = .ok (.getfield 20, 3) := by decide +kernel
theorem dX4_cost_27 : decode cX4_cost 27 = .ok (.iload_n 1, 1) := by decide +kernel
theorem dX4_cost_28 : decode cX4_cost 28 = .ok (.iload_n 2, 1) := by decide +kernel
theorem dX4_cost_29 : decode cX4_cost 29 = .ok (.iload_n 3, 1) := by decide +kernel
theorem dX4_cost_30 : decode cX4_cost 30 = .ok (.invokevirtual 175, 3) := by decide +kernel
theorem dX4_cost_33 : decode cX4_cost 33 = .ok (.goto 4, 3) := by decide +kernel
theorem dX4_cost_36 : decode cX4_cost 36 = .ok (.iconst (-1), 1) := by decide +kernel
theorem dX4_cost_37 : decode cX4_cost 37 = .ok (.ireturn, 1) := by decide +kernel
theorem dX4_day_0 : decode cX4_day 0 = .ok (.aload_n 0, 1) := by decide +kernel
theorem dX4_day_1 : decode cX4_day 1 = .ok (.iconst 0, 1) := by decide +kernel
theorem dX4_day_2 : decode cX4_day 2 = .ok (.putfield 52, 3) := by decide +kernel
theorem dX4_day_5 : decode cX4_day 5 = .ok (.iload_n 1, 1) := by decide +kernel
theorem dX4_day_6 : decode cX4_day 6 = .ok (.invokestatic 56, 3) := by decide +kernel
theorem dX4_day_9 : decode cX4_day 9 = .ok (.ifCond .ne 5, 3) := by decide +kernel
theorem dX4_day_12 : decode cX4_day 12 = .ok (.iconst (-1), 1) := by decide +kernel
theorem dX4_day_13 : decode cX4_day 13 = .ok (.ireturn, 1) := by decide +kernel
theorem dX4_day_14 : decode cX4_day 14 = .ok (.iload_n 2, 1) := by decide +kernel
theorem dX4_day_15 : decode cX4_day 15 = .ok (.invokestatic 60, 3) := by decide +kernel
theorem dX4_day_18 : decode cX4_day 18 = .ok (.ifCond .eq 23, 3) := by decide +kernel
theorem dX4_day_21 : decode cX4_day 21 = .ok (.iload 4, 2) := by decide +kernel
theorem dX4_day_23 : decode cX4_day 23 = .ok (.ifCond .lt 18, 3) := by decide +kernel
theorem dX4_day_26 : decode cX4_day 26 = .ok (.iload 4, 2) := by decide +kernel
theorem dX4_day_28 : decode cX4_day 28 = .ok (.bipush 20, 2) := by decide +kernel
theorem dX4_day_30 : decode cX4_day 30 = .ok (.if_icmp .gt 11, 3) := by decide +kernel
theorem dX4_day_33 : decode cX4_day 33 = .ok (.iload 5, 2) := by decide +kernel
theorem dX4_day_35 : decode cX4_day 35 = .ok (.invokestatic 179, 3) := by decide +kernel
theorem dX4_day_38 : decode cX4_day 38 = .ok (.ifCond .ne 6, 3) := by decide +kernel
theorem dX4_day_41 : decode cX4_day 41 = .ok (.bipush (-2), 2) := by decide +kernel
theorem dX4_day_43 : decode cX4_day 43 = .ok (.ireturn, 1) := by decide +kernel
theorem dX4_day_44 : decode cX4_day 44 = .ok (.aload_n 0, 1) := by decide +kernel
theorem dX4_day_45 : decode cX4_day 45 = .ok (.getfield 13, 3) := by decide +kernel
theorem dX4_day_48 : decode cX4_day 48 = .ok (.iload_n 1, 1) := by decide +kernel
theorem dX4_day_49 : decode cX4_day 49 = .ok (.aaload, 1) := by decide +kernel
theorem dX4_day_50 : decode cX4_day 50 = .ok (.astore 6, 2) := by decide +kernel
theorem dX4_day_52 : decode cX4_day 52 = .ok (.aload 6, 2) := by decide +kernel
theorem dX4_day_54 : decode cX4_day 54 = .ok (.iload_n 2, 1) := by decide +kernel
theorem dX4_day_55 : decode cX4_day 55 = .ok (.invokevirtual 63, 3) := by decide +kernel
theorem dX4_day_58 : decode cX4_day 58 = .ok (.istore 7, 2) := by decide +kernel
theorem dX4_day_60 : decode cX4_day 60 = .ok (.iload 7, 2) := by decide +kernel
theorem dX4_day_62 : decode cX4_day 62 = .ok (.ifCond .ne 19, 3) := by decide +kernel
theorem dX4_day_65 : decode cX4_day 65 = .ok (.aload 6, 2) := by decide +kernel
theorem dX4_day_67 : decode cX4_day 67 = .ok (.iload_n 3, 1) := by decide +kernel
theorem dX4_day_68 : decode cX4_day 68 = .ok (.iconst 2, 1) := by decide +kernel
theorem dX4_day_69 : decode cX4_day 69 = .ok (.iload 4, 2) := by decide +kernel
theorem dX4_day_71 : decode cX4_day 71 = .ok (.imul, 1) := by decide +kernel
theorem dX4_day_72 : decode cX4_day 72 = .ok (.invokevirtual 67, 3) := by decide +kernel
theorem dX4_day_75 : decode cX4_day 75 = .ok (.ifCond .ne 6, 3) := by decide +kernel
theorem dX4_day_78 : decode cX4_day 78 = .ok (.iconst 3, 1) := by decide +kernel
theorem dX4_day_79 : decode cX4_day 79 = .ok (.istore 7, 2) := by decide +kernel
theorem dX4_day_81 : decode cX4_day 81 = .ok (.iload 7, 2) := by decide +kernel
theorem dX4_day_83 : decode cX4_day 83 = .ok (.ifCond .eq 10, 3) := by decide +kernel
theorem dX4_day_86 : decode cX4_day 86 = .ok (.aload_n 0, 1) := by decide +kernel
theorem dX4_day_87 : decode cX4_day 87 = .ok (.iload 7, 2) := by decide +kernel
theorem dX4_day_89 : decode cX4_day 89 = .ok (.invokevirtual 71, 3) := by decide +kernel
theorem dX4_day_92 : decode cX4_day 92 = .ok (.ireturn, 1) := by decide +kernel
theorem dX4_day_93 : decode cX4_day 93 = .ok (.aload_n 0, 1) := by decide +kernel
theorem dX4_day_94 : decode cX4_day 94 = .ok (.getfield 20, 3) := by decide +kernel
theorem dX4_day_97 : decode cX4_day 97 = .ok (.invokevirtual 132, 3) := by decide +kernel
theorem dX4_day_100 : decode cX4_day 100 = .ok (.ifCond .ne 6, 3) := by decide +kernel
theorem dX4_day_103 : decode cX4_day 103 = .ok (.bipush (-3), 2) := by decide +kernel
theorem dX4_day_105 : decode cX4_day 105 = .ok (.ireturn, 1) := by decide +kernel
theorem dX4_day_106 : decode cX4_day 106 = .ok (.aload 6, 2) := by decide +kernel
theorem dX4_day_108 : decode cX4_day 108 = .ok (.iload_n 3, 1) := by decide +kernel
theorem dX4_day_109 : decode cX4_day 109 = .ok (.iload 4, 2) := by decide +kernel
theorem dX4_day_111 : decode cX4_day 111 = .ok (.invokestatic 182, 3) := by decide +kernel
theorem dX4_day_114 : decode cX4_day 114 = .ok (.ifCond .ne 6, 3) := by decide +kernel
theorem dX4_day_117 : decode cX4_day 117 = .ok (.bipush (-2), 2) := by decide +kernel
theorem dX4_day_119 : decode cX4_day 119 = .ok (.ireturn, 1) := by decide +kernel
theorem dX4_day_120 : decode cX4_day 120 = .ok (.aload_n 0, 1) := by decide +kernel
theorem dX4_day_121 : decode cX4_day 121 = .ok (.aload_n 0, 1) := by decide +kernel
theorem dX4_day_122 : decode cX4_day 122 = .ok (.aload 6, 2) := by decide +kernel
theorem dX4_day_124 : decode cX4_day 124 = .ok (.iload_n 3, 1) := by decide +kernel
theorem dX4_day_125 : decode cX4_day 125 = .ok (.iload 4, 2) := by decide +kernel
theorem dX4_day_127 : decode cX4_day 127 = .ok (.invokevirtual 186, 3) := by decide +kernel
theorem dX4_day_130 : decode cX4_day 130 = .ok (.iload 5, 2) := by decide +kernel
theorem dX4_day_132 : decode cX4_day 132 = .ok (.invokevirtual 190, 3) := by decide +kernel
theorem dX4_day_135 : decode cX4_day 135 = .ok (.ireturn, 1) := by decide +kernel
theorem dX4_by_0 : decode cX4_by 0 = .ok (.iconst 2, 1) := by decide +kernel
theorem dX4_by_1 : decode cX4_by 1 = .ok (.iload_n 1, 1) := by decide +kernel
theorem dX4_by_2 : decode cX4_by 2 = .ok (.invokestatic 136, 3) := by decide +kernel
theorem dX4_by_5 : decode cX4_by 5 = .ok (.ifCond .ne 6, 3) := by decide +kernel
theorem dX4_by_8 : decode cX4_by 8 = .ok (.bipush (-2), 2) := by decide +kernel
theorem dX4_by_10 : decode cX4_by 10 = .ok (.ireturn, 1) := by decide +kernel
theorem dX4_by_11 : decode cX4_by 11 = .ok (.aload_n 0, 1) := by decide +kernel
theorem dX4_by_12 : decode cX4_by 12 = .ok (.getfield 20, 3) := by decide +kernel
theorem dX4_by_15 : decode cX4_by 15 = .ok (.invokevirtual 132, 3) := by decide +kernel
theorem dX4_by_18 : decode cX4_by 18 = .ok (.ifCond .ne 6, 3) := by decide +kernel
theorem dX4_by_21 : decode cX4_by 21 = .ok (.bipush (-3), 2) := by decide +kernel
theorem dX4_by_23 : decode cX4_by 23 = .ok (.ireturn, 1) := by decide +kernel
theorem dX4_by_24 : decode cX4_by 24 = .ok (.aload_n 0, 1) := by decide +kernel
theorem dX4_by_25 : decode cX4_by 25 = .ok (.getfield 34, 3) := by decide +kernel
theorem dX4_by_28 : decode cX4_by 28 = .ok (.aload_n 0, 1) := by decide +kernel
theorem dX4_by_29 : decode cX4_by 29 = .ok (.getfield 20, 3) := by decide +kernel
theorem dX4_by_32 : decode cX4_by 32 = .ok (.invokevirtual 194, 3) := by decide +kernel
theorem dX4_by_35 : decode cX4_by 35 = .ok (.aload_n 0, 1) := by decide +kernel
theorem dX4_by_36 : decode cX4_by 36 = .ok (.getfield 34, 3) := by decide +kernel
theorem dX4_by_39 : decode cX4_by 39 = .ok (.iload_n 1, 1) := by decide +kernel
theorem dX4_by_40 : decode cX4_by 40 = .ok (.invokevirtual 197, 3) := by decide +kernel
theorem dX4_by_43 : decode cX4_by 43 = .ok (.ireturn, 1) := by decide +kernel
theorem dX4_enough_0 : decode cX4_enough 0 = .ok (.aload_n 0, 1) := by decide +kernel
theorem dX4_enough_1 : decode cX4_enough 1 = .ok (.getfield 20, 3) := by decide +kernel
theorem dX4_enough_4 : decode cX4_enough 4 = .ok (.invokevirtual 132, 3) := by decide +kernel
theorem dX4_enough_7 : decode cX4_enough 7 = .ok (.ifCond .ne 6, 3) := by decide +kernel
theorem dX4_enough_10 : decode cX4_enough 10 = .ok (.bipush (-3), 2) := by decide +kernel
theorem dX4_enough_12 : decode cX4_enough 12 = .ok (.ireturn, 1) := by decide +kernel
theorem dX4_enough_13 : decode cX4_enough 13 = .ok (.aload_n 0, 1) := by decide +kernel
theorem dX4_enough_14 : decode cX4_enough 14 = .ok (.getfield 34, 3) := by decide +kernel
theorem dX4_enough_17 : decode cX4_enough 17 = .ok (.aload_n 0, 1) := by decide +kernel
theorem dX4_enough_18 : decode cX4_enough 18 = .ok (.getfield 20, 3) := by decide +kernel
theorem dX4_enough_21 : decode cX4_enough 21 = .ok (.invokevirtual 194, 3) := by decide +kernel
theorem dX4_enough_24 : decode cX4_enough 24 = .ok (.aload_n 0, 1) := by decide +kernel
theorem dX4_enough_25 : decode cX4_enough 25 = .ok (.getfield 34, 3) := by decide +kernel
theorem dX4_enough_28 : decode cX4_enough 28 = .ok (.bipush 7, 2) := by decide +kernel
theorem dX4_enough_30 : decode cX4_enough 30 = .ok (.invokevirtual 197, 3) := by decide +kernel
theorem dX4_enough_33 : decode cX4_enough 33 = .ok (.istore_n 1, 1) := by decide +kernel
theorem dX4_enough_34 : decode cX4_enough 34 = .ok (.iconst 0, 1) := by decide +kernel
theorem dX4_enough_35 : decode cX4_enough 35 = .ok (.istore_n 2, 1) := by decide +kernel
theorem dX4_enough_36 : decode cX4_enough 36 = .ok (.iload_n 2, 1) := by decide +kernel
theorem dX4_enough_37 : decode cX4_enough 37 = .ok (.bipush 7, 2) := by decide +kernel
theorem dX4_enough_39 : decode cX4_enough 39 = .ok (.if_icmp .ge 21, 3) := by decide +kernel
theorem dX4_enough_42 : decode cX4_enough 42 = .ok (.aload_n 0, 1) := by decide +kernel
theorem dX4_enough_43 : decode cX4_enough 43 = .ok (.getfield 34, 3) := by decide +kernel
theorem dX4_enough_46 : decode cX4_enough 46 = .ok (.iload_n 2, 1) := by decide +kernel
theorem dX4_enough_47 : decode cX4_enough 47 = .ok (.invokevirtual 197, 3) := by decide +kernel
theorem dX4_enough_50 : decode cX4_enough 50 = .ok (.iload_n 1, 1) := by decide +kernel
theorem dX4_enough_51 : decode cX4_enough 51 = .ok (.if_icmp .eq 9, 3) := by decide +kernel
theorem dX4_enough_54 : decode cX4_enough 54 = .ok (.iinc 2 1, 3) := by decide +kernel
theorem dX4_enough_57 : decode cX4_enough 57 = .ok (.goto (-21), 3) := by decide +kernel
theorem dX4_enough_60 : decode cX4_enough 60 = .ok (.iload_n 2, 1) := by decide +kernel
theorem dX4_enough_61 : decode cX4_enough 61 = .ok (.ireturn, 1) := by decide +kernel
theorem dX4_reading_0 : decode cX4_reading 0 = .ok (.aload_n 0, 1) := by decide +kernel
theorem dX4_reading_1 : decode cX4_reading 1 = .ok (.getfield 20, 3) := by decide +kernel
theorem dX4_reading_4 : decode cX4_reading 4 = .ok (.invokevirtual 132, 3) := by decide +kernel
theorem dX4_reading_7 : decode cX4_reading 7 = .ok (.ifCond .ne 6, 3) := by decide +kernel
theorem dX4_reading_10 : decode cX4_reading 10 = .ok (.bipush (-3), 2) := by decide +kernel
theorem dX4_reading_12 : decode cX4_reading 12 = .ok (.ireturn, 1) := by decide +kernel
theorem dX4_reading_13 : decode cX4_reading 13 = .ok (.iconst 2, 1) := by decide +kernel
theorem dX4_reading_14 : decode cX4_reading 14 = .ok (.iload_n 1, 1) := by decide +kernel
theorem dX4_reading_15 : decode cX4_reading 15 = .ok (.invokestatic 136, 3) := by decide +kernel
theorem dX4_reading_18 : decode cX4_reading 18 = .ok (.ifCond .eq 20, 3) := by decide +kernel
theorem dX4_reading_21 : decode cX4_reading 21 = .ok (.iload_n 2, 1) := by decide +kernel
theorem dX4_reading_22 : decode cX4_reading 22 = .ok (.bipush (-9), 2) := by decide +kernel
theorem dX4_reading_24 : decode cX4_reading 24 = .ok (.if_icmp .eq 17, 3) := by decide +kernel
theorem dX4_reading_27 : decode cX4_reading 27 = .ok (.iload_n 2, 1) := by decide +kernel
theorem dX4_reading_28 : decode cX4_reading 28 = .ok (.ifCond .lt 10, 3) := by decide +kernel
theorem dX4_reading_31 : decode cX4_reading 31 = .ok (.iload_n 2, 1) := by decide +kernel
theorem dX4_reading_32 : decode cX4_reading 32 = .ok (.sipush 500, 3) := by decide +kernel
theorem dX4_reading_35 : decode cX4_reading 35 = .ok (.if_icmp .le 6, 3) := by decide +kernel
theorem dX4_reading_38 : decode cX4_reading 38 = .ok (.bipush (-2), 2) := by decide +kernel
theorem dX4_reading_40 : decode cX4_reading 40 = .ok (.ireturn, 1) := by decide +kernel
theorem dX4_reading_41 : decode cX4_reading 41 = .ok (.aload_n 0, 1) := by decide +kernel
theorem dX4_reading_42 : decode cX4_reading 42 = .ok (.getfield 82, 3) := by decide +kernel
theorem dX4_reading_45 : decode cX4_reading 45 = .ok (.bipush 8, 2) := by decide +kernel
theorem dX4_reading_47 : decode cX4_reading 47 = .ok (.if_icmp .lt 6, 3) := by decide +kernel
theorem dX4_reading_50 : decode cX4_reading 50 = .ok (.bipush (-4), 2) := by decide +kernel
theorem dX4_reading_52 : decode cX4_reading 52 = .ok (.ireturn, 1) := by decide +kernel
theorem dX4_reading_53 : decode cX4_reading 53 = .ok (.aload_n 0, 1) := by decide +kernel
theorem dX4_reading_54 : decode cX4_reading 54 = .ok (.getfield 44, 3) := by decide +kernel
theorem dX4_reading_57 : decode cX4_reading 57 = .ok (.aload_n 0, 1) := by decide +kernel
theorem dX4_reading_58 : decode cX4_reading 58 = .ok (.getfield 82, 3) := by decide +kernel
theorem dX4_reading_61 : decode cX4_reading 61 = .ok (.iload_n 1, 1) := by decide +kernel
theorem dX4_reading_62 : decode cX4_reading 62 = .ok (.iastore, 1) := by decide +kernel
theorem dX4_reading_63 : decode cX4_reading 63 = .ok (.aload_n 0, 1) := by decide +kernel
theorem dX4_reading_64 : decode cX4_reading 64 = .ok (.getfield 48, 3) := by decide +kernel
theorem dX4_reading_67 : decode cX4_reading 67 = .ok (.aload_n 0, 1) := by decide +kernel
theorem dX4_reading_68 : decode cX4_reading 68 = .ok (.getfield 82, 3) := by decide +kernel
theorem dX4_reading_71 : decode cX4_reading 71 = .ok (.iload_n 2, 1) := by decide +kernel
theorem dX4_reading_72 : decode cX4_reading 72 = .ok (.iastore, 1) := by decide +kernel
theorem dX4_reading_73 : decode cX4_reading 73 = .ok (.aload_n 0, 1) := by decide +kernel
theorem dX4_reading_74 : decode cX4_reading 74 = .ok (.dup, 1) := by decide +kernel
theorem dX4_reading_75 : decode cX4_reading 75 = .ok (.getfield 82, 3) := by decide +kernel
theorem dX4_reading_78 : decode cX4_reading 78 = .ok (.iconst 1, 1) := by decide +kernel
theorem dX4_reading_79 : decode cX4_reading 79 = .ok (.iadd, 1) := by decide +kernel
theorem dX4_reading_80 : decode cX4_reading 80 = .ok (.putfield 82, 3) := by decide +kernel
theorem dX4_reading_83 : decode cX4_reading 83 = .ok (.aload_n 0, 1) := by decide +kernel
theorem dX4_reading_84 : decode cX4_reading 84 = .ok (.getfield 82, 3) := by decide +kernel
theorem dX4_reading_87 : decode cX4_reading 87 = .ok (.iconst 1, 1) := by decide +kernel
theorem dX4_reading_88 : decode cX4_reading 88 = .ok (.isub, 1) := by decide +kernel
theorem dX4_reading_89 : decode cX4_reading 89 = .ok (.ireturn, 1) := by decide +kernel
theorem dX4_back_0 : decode cX4_back 0 = .ok (.iload_n 1, 1) := by decide +kernel
theorem dX4_back_1 : decode cX4_back 1 = .ok (.ifCond .lt 11, 3) := by decide +kernel
theorem dX4_back_4 : decode cX4_back 4 = .ok (.iload_n 1, 1) := by decide +kernel
theorem dX4_back_5 : decode cX4_back 5 = .ok (.aload_n 0, 1) := by decide +kernel
theorem dX4_back_6 : decode cX4_back 6 = .ok (.getfield 82, 3) := by decide +kernel
theorem dX4_back_9 : decode cX4_back 9 = .ok (.if_icmp .le 6, 3) := by decide +kernel
theorem dX4_back_12 : decode cX4_back 12 = .ok (.bipush (-2), 2) := by decide +kernel
theorem dX4_back_14 : decode cX4_back 14 = .ok (.ireturn, 1) := by decide +kernel
theorem dX4_back_15 : decode cX4_back 15 = .ok (.aload_n 0, 1) := by decide +kernel
theorem dX4_back_16 : decode cX4_back 16 = .ok (.dup, 1) := by decide +kernel
theorem dX4_back_17 : decode cX4_back 17 = .ok (.getfield 82, 3) := by decide +kernel
theorem dX4_back_20 : decode cX4_back 20 = .ok (.iload_n 1, 1) := by decide +kernel
theorem dX4_back_21 : decode cX4_back 21 = .ok (.isub, 1) := by decide +kernel
theorem dX4_back_22 : decode cX4_back 22 = .ok (.putfield 82, 3) := by decide +kernel
theorem dX4_back_25 : decode cX4_back 25 = .ok (.aload_n 0, 1) := by decide +kernel
theorem dX4_back_26 : decode cX4_back 26 = .ok (.getfield 82, 3) := by decide +kernel
theorem dX4_back_29 : decode cX4_back 29 = .ok (.ireturn, 1) := by decide +kernel
theorem dX4_kinds_0 : decode cX4_kinds 0 = .ok (.aload_n 0, 1) := by decide +kernel
theorem dX4_kinds_1 : decode cX4_kinds 1 = .ok (.getfield 20, 3) := by decide +kernel
theorem dX4_kinds_4 : decode cX4_kinds 4 = .ok (.iload_n 1, 1) := by decide +kernel
theorem dX4_kinds_5 : decode cX4_kinds 5 = .ok (.invokevirtual 95, 3) := by decide +kernel
theorem dX4_kinds_8 : decode cX4_kinds 8 = .ok (.ifCond .ne 5, 3) := by decide +kernel
theorem dX4_kinds_11 : decode cX4_kinds 11 = .ok (.iconst (-1), 1) := by decide +kernel
theorem dX4_kinds_12 : decode cX4_kinds 12 = .ok (.ireturn, 1) := by decide +kernel
theorem dX4_kinds_13 : decode cX4_kinds 13 = .ok (.aload_n 0, 1) := by decide +kernel
theorem dX4_kinds_14 : decode cX4_kinds 14 = .ok (.getfield 24, 3) := by decide +kernel
theorem dX4_kinds_17 : decode cX4_kinds 17 = .ok (.aload_n 0, 1) := by decide +kernel
theorem dX4_kinds_18 : decode cX4_kinds 18 = .ok (.getfield 20, 3) := by decide +kernel
theorem dX4_kinds_21 : decode cX4_kinds 21 = .ok (.invokevirtual 78, 3) := by decide +kernel
theorem dX4_kinds_24 : decode cX4_kinds 24 = .ok (.iconst 0, 1) := by decide +kernel
theorem dX4_kinds_25 : decode cX4_kinds 25 = .ok (.istore_n 2, 1) := by decide +kernel
theorem dX4_kinds_26 : decode cX4_kinds 26 = .ok (.iconst 0, 1) := by decide +kernel
theorem dX4_kinds_27 : decode cX4_kinds 27 = .ok (.istore_n 3, 1) := by decide +kernel
theorem dX4_kinds_28 : decode cX4_kinds 28 = .ok (.iload_n 3, 1) := by decide +kernel
theorem dX4_kinds_29 : decode cX4_kinds 29 = .ok (.iconst 3, 1) := by decide +kernel
theorem dX4_kinds_30 : decode cX4_kinds 30 = .ok (.if_icmp .ge 32, 3) := by decide +kernel
theorem dX4_kinds_33 : decode cX4_kinds 33 = .ok (.aload_n 0, 1) := by decide +kernel
theorem dX4_kinds_34 : decode cX4_kinds 34 = .ok (.getfield 24, 3) := by decide +kernel
theorem dX4_kinds_37 : decode cX4_kinds 37 = .ok (.getfield 98, 3) := by decide +kernel
theorem dX4_kinds_40 : decode cX4_kinds 40 = .ok (.iload_n 1, 1) := by decide +kernel
theorem dX4_kinds_41 : decode cX4_kinds 41 = .ok (.iload_n 3, 1) := by decide +kernel
theorem dX4_kinds_42 : decode cX4_kinds 42 = .ok (.iastore, 1) := by decide +kernel
theorem dX4_kinds_43 : decode cX4_kinds 43 = .ok (.aload_n 0, 1) := by decide +kernel
theorem dX4_kinds_44 : decode cX4_kinds 44 = .ok (.invokevirtual 200, 3) := by decide +kernel
theorem dX4_kinds_47 : decode cX4_kinds 47 = .ok (.ifCond .eq 9, 3) := by decide +kernel
theorem dX4_kinds_50 : decode cX4_kinds 50 = .ok (.iload_n 2, 1) := by decide +kernel
theorem dX4_kinds_51 : decode cX4_kinds 51 = .ok (.iconst 1, 1) := by decide +kernel
theorem dX4_kinds_52 : decode cX4_kinds 52 = .ok (.iload_n 3, 1) := by decide +kernel
theorem dX4_kinds_53 : decode cX4_kinds 53 = .ok (.ishl, 1) := by decide +kernel
theorem dX4_kinds_54 : decode cX4_kinds 54 = .ok (.ior, 1) := by decide +kernel
theorem dX4_kinds_55 : decode cX4_kinds 55 = .ok (.istore_n 2, 1) := by decide +kernel
theorem dX4_kinds_56 : decode cX4_kinds 56 = .ok (.iinc 3 1, 3) := by decide +kernel
theorem dX4_kinds_59 : decode cX4_kinds 59 = .ok (.goto (-31), 3) := by decide +kernel
theorem dX4_kinds_62 : decode cX4_kinds 62 = .ok (.iload_n 2, 1) := by decide +kernel
theorem dX4_kinds_63 : decode cX4_kinds 63 = .ok (.ireturn, 1) := by decide +kernel
theorem dX4_letterings_0 : decode cX4_letterings 0 = .ok (.aload_n 0, 1) := by decide +kernel
theorem dX4_letterings_1 : decode cX4_letterings 1 = .ok (.getfield 20, 3) := by decide +kernel
theorem dX4_letterings_4 : decode cX4_letterings 4 = .ok (.iload_n 1, 1) := by decide +kernel
theorem dX4_letterings_5 : decode cX4_letterings 5 = .ok (.invokevirtual 95, 3) := by decide +kernel
theorem dX4_letterings_8 : decode cX4_letterings 8 = .ok (.ifCond .ne 5, 3) := by decide +kernel
theorem dX4_letterings_11 : decode cX4_letterings 11 = .ok (.iconst (-1), 1) := by decide +kernel
theorem dX4_letterings_12 : decode cX4_letterings 12 = .ok (.ireturn, 1) := by decide +kernel
theorem dX4_letterings_13 : decode cX4_letterings 13 = .ok (.aload_n 0, 1) := by decide +kernel
theorem dX4_letterings_14 : decode cX4_letterings 14 = .ok (.getfield 24, 3) := by decide +kernel
theorem dX4_letterings_17 : decode cX4_letterings 17 = .ok (.aload_n 0, 1) := by decide +kernel
theorem dX4_letterings_18 : decode cX4_letterings 18 = .ok (.getfield 20, 3) := by decide +kernel
theorem dX4_letterings_21 : decode cX4_letterings 21 = .ok (.invokevirtual 78, 3) := by decide +kernel
theorem dX4_letterings_24 : decode cX4_letterings 24 = .ok (.iconst 0, 1) := by decide +kernel
theorem dX4_letterings_25 : decode cX4_letterings 25 = .ok (.istore_n 2, 1) := by decide +kernel
theorem dX4_letterings_26 : decode cX4_letterings 26 = .ok (.iconst 1, 1) := by decide +kernel
theorem dX4_letterings_27 : decode cX4_letterings 27 = .ok (.istore_n 3, 1) := by decide +kernel
theorem dX4_letterings_28 : decode cX4_letterings 28 = .ok (.iload_n 3, 1) := by decide +kernel
theorem dX4_letterings_29 : decode cX4_letterings 29 = .ok (.bipush 9, 2) := by decide +kernel
theorem dX4_letterings_31 : decode cX4_letterings 31 = .ok (.if_icmp .gt 32, 3) := by decide +kernel
theorem dX4_letterings_34 : decode cX4_letterings 34 = .ok (.aload_n 0, 1) := by decide +kernel
theorem dX4_letterings_35 : decode cX4_letterings 35 = .ok (.getfield 24, 3) := by decide +kernel
theorem dX4_letterings_38 : decode cX4_letterings 38 = .ok (.getfield 101, 3) := by decide +kernel
theorem dX4_letterings_41 : decode cX4_letterings 41 = .ok (.iload_n 1, 1) := by decide +kernel
theorem dX4_letterings_42 : decode cX4_letterings 42 = .ok (.iload_n 3, 1) := by decide +kernel
theorem dX4_letterings_43 : decode cX4_letterings 43 = .ok (.iastore, 1) := by decide +kernel
theorem dX4_letterings_44 : decode cX4_letterings 44 = .ok (.aload_n 0, 1) := by decide +kernel
theorem dX4_letterings_45 : decode cX4_letterings 45 = .ok (.invokevirtual 200, 3) := by decide +kernel
theorem dX4_letterings_48 : decode cX4_letterings 48 = .ok (.ifCond .eq 9, 3) := by decide +kernel
theorem dX4_letterings_51 : decode cX4_letterings 51 = .ok (.iload_n 2, 1) := by decide +kernel
theorem dX4_letterings_52 : decode cX4_letterings 52 = .ok (.iconst 1, 1) := by decide +kernel
theorem dX4_letterings_53 : decode cX4_letterings 53 = .ok (.iload_n 3, 1) := by decide +kernel
theorem dX4_letterings_54 : decode cX4_letterings 54 = .ok (.ishl, 1) := by decide +kernel
theorem dX4_letterings_55 : decode cX4_letterings 55 = .ok (.ior, 1) := by decide +kernel
theorem dX4_letterings_56 : decode cX4_letterings 56 = .ok (.istore_n 2, 1) := by decide +kernel
theorem dX4_letterings_57 : decode cX4_letterings 57 = .ok (.iinc 3 1, 3) := by decide +kernel
theorem dX4_letterings_60 : decode cX4_letterings 60 = .ok (.goto (-32), 3) := by decide +kernel
theorem dX4_letterings_63 : decode cX4_letterings 63 = .ok (.iload_n 2, 1) := by decide +kernel
theorem dX4_letterings_64 : decode cX4_letterings 64 = .ok (.ireturn, 1) := by decide +kernel
theorem dX4_odds_0 : decode cX4_odds 0 = .ok (.iload_n 1, 1) := by decide +kernel
theorem dX4_odds_1 : decode cX4_odds 1 = .ok (.invokestatic 168, 3) := by decide +kernel
theorem dX4_odds_4 : decode cX4_odds 4 = .ok (.ifCond .eq 12, 3) := by decide +kernel
theorem dX4_odds_7 : decode cX4_odds 7 = .ok (.iload_n 2, 1) := by decide +kernel
theorem dX4_odds_8 : decode cX4_odds 8 = .ok (.ifCond .lt 8, 3) := by decide +kernel
theorem dX4_odds_11 : decode cX4_odds 11 = .ok (.iload_n 2, 1) := by decide +kernel
theorem dX4_odds_12 : decode cX4_odds 12 = .ok (.iconst 1, 1) := by decide +kernel
theorem dX4_odds_13 : decode cX4_odds 13 = .ok (.if_icmp .le 7, 3) := by decide +kernel
theorem dX4_odds_16 : decode cX4_odds 16 = .ok (.ldc2_w 203, 3) := by decide +kernel
theorem dX4_odds_19 : decode cX4_odds 19 = .ok (.lreturn, 1) := by decide +kernel
theorem dX4_odds_20 : decode cX4_odds 20 = .ok (.aload_n 0, 1) := by decide +kernel
theorem dX4_odds_21 : decode cX4_odds 21 = .ok (.invokevirtual 110, 3) := by decide +kernel
theorem dX4_odds_24 : decode cX4_odds 24 = .ok (.astore_n 3, 1) := by decide +kernel
theorem dX4_odds_25 : decode cX4_odds 25 = .ok (.aload_n 3, 1) := by decide +kernel
theorem dX4_odds_26 : decode cX4_odds 26 = .ok (.getfield 153, 3) := by decide +kernel
theorem dX4_odds_29 : decode cX4_odds 29 = .ok (.istore 4, 2) := by decide +kernel
theorem dX4_odds_31 : decode cX4_odds 31 = .ok (.iload 4, 2) := by decide +kernel
theorem dX4_odds_33 : decode cX4_odds 33 = .ok (.iconst 1, 1) := by decide +kernel
theorem dX4_odds_34 : decode cX4_odds 34 = .ok (.if_icmp .ge 7, 3) := by decide +kernel
theorem dX4_odds_37 : decode cX4_odds 37 = .ok (.ldc2_w 203, 3) := by decide +kernel
theorem dX4_odds_40 : decode cX4_odds 40 = .ok (.lreturn, 1) := by decide +kernel
theorem dX4_odds_41 : decode cX4_odds 41 = .ok (.aload_n 3, 1) := by decide +kernel
theorem dX4_odds_42 : decode cX4_odds 42 = .ok (.iload_n 1, 1) := by decide +kernel
theorem dX4_odds_43 : decode cX4_odds 43 = .ok (.invokevirtual 205, 3) := by decide +kernel
theorem dX4_odds_46 : decode cX4_odds 46 = .ok (.istore 5, 2) := by decide +kernel
theorem dX4_odds_48 : decode cX4_odds 48 = .ok (.iload 5, 2) := by decide +kernel
theorem dX4_odds_50 : decode cX4_odds 50 = .ok (.iload 4, 2) := by decide +kernel
theorem dX4_odds_52 : decode cX4_odds 52 = .ok (.invokestatic 208, 3) := by decide +kernel
theorem dX4_odds_55 : decode cX4_odds 55 = .ok (.istore 6, 2) := by decide +kernel
theorem dX4_odds_57 : decode cX4_odds 57 = .ok (.iload_n 2, 1) := by decide +kernel
theorem dX4_odds_58 : decode cX4_odds 58 = .ok (.ifCond .ne 12, 3) := by decide +kernel
theorem dX4_odds_61 : decode cX4_odds 61 = .ok (.iload 5, 2) := by decide +kernel
theorem dX4_odds_63 : decode cX4_odds 63 = .ok (.iload 6, 2) := by decide +kernel
theorem dX4_odds_65 : decode cX4_odds 65 = .ok (.idiv, 1) := by decide +kernel
theorem dX4_odds_66 : decode cX4_odds 66 = .ok (.i2l, 1) := by decide +kernel
theorem dX4_odds_67 : decode cX4_odds 67 = .ok (.goto 9, 3) := by decide +kernel
theorem dX4_odds_70 : decode cX4_odds 70 = .ok (.iload 4, 2) := by decide +kernel
theorem dX4_odds_72 : decode cX4_odds 72 = .ok (.iload 6, 2) := by decide +kernel
theorem dX4_odds_74 : decode cX4_odds 74 = .ok (.idiv, 1) := by decide +kernel
theorem dX4_odds_75 : decode cX4_odds 75 = .ok (.i2l, 1) := by decide +kernel
theorem dX4_odds_76 : decode cX4_odds 76 = .ok (.lreturn, 1) := by decide +kernel
theorem dX4_sheet_0 : decode cX4_sheet 0 = .ok (.aload_n 0, 1) := by decide +kernel
theorem dX4_sheet_1 : decode cX4_sheet 1 = .ok (.iconst 0, 1) := by decide +kernel
theorem dX4_sheet_2 : decode cX4_sheet 2 = .ok (.putfield 52, 3) := by decide +kernel
theorem dX4_sheet_5 : decode cX4_sheet 5 = .ok (.iload_n 1, 1) := by decide +kernel
theorem dX4_sheet_6 : decode cX4_sheet 6 = .ok (.invokestatic 56, 3) := by decide +kernel
theorem dX4_sheet_9 : decode cX4_sheet 9 = .ok (.ifCond .ne 5, 3) := by decide +kernel
theorem dX4_sheet_12 : decode cX4_sheet 12 = .ok (.iconst (-1), 1) := by decide +kernel
theorem dX4_sheet_13 : decode cX4_sheet 13 = .ok (.ireturn, 1) := by decide +kernel
theorem dX4_sheet_14 : decode cX4_sheet 14 = .ok (.iload_n 2, 1) := by decide +kernel
theorem dX4_sheet_15 : decode cX4_sheet 15 = .ok (.invokestatic 60, 3) := by decide +kernel
theorem dX4_sheet_18 : decode cX4_sheet 18 = .ok (.ifCond .eq 9, 3) := by decide +kernel
theorem dX4_sheet_21 : decode cX4_sheet 21 = .ok (.iload_n 3, 1) := by decide +kernel
theorem dX4_sheet_22 : decode cX4_sheet 22 = .ok (.bipush 60, 2) := by decide +kernel
theorem dX4_sheet_24 : decode cX4_sheet 24 = .ok (.if_icmp .le 6, 3) := by decide +kernel
theorem dX4_sheet_27 : decode cX4_sheet 27 = .ok (.bipush (-2), 2) := by decide +kernel
theorem dX4_sheet_29 : decode cX4_sheet 29 = .ok (.ireturn, 1) := by decide +kernel
theorem dX4_sheet_30 : decode cX4_sheet 30 = .ok (.iload_n 3, 1) := by decide +kernel
theorem dX4_sheet_31 : decode cX4_sheet 31 = .ok (.ifCond .ge 9, 3) := by decide +kernel
theorem dX4_sheet_34 : decode cX4_sheet 34 = .ok (.aload_n 0, 1) := by decide +kernel
theorem dX4_sheet_35 : decode cX4_sheet 35 = .ok (.iconst 4, 1) := by decide +kernel
theorem dX4_sheet_36 : decode cX4_sheet 36 = .ok (.invokevirtual 71, 3) := by decide +kernel
theorem dX4_sheet_39 : decode cX4_sheet 39 = .ok (.ireturn, 1) := by decide +kernel
theorem dX4_sheet_40 : decode cX4_sheet 40 = .ok (.aload_n 0, 1) := by decide +kernel
theorem dX4_sheet_41 : decode cX4_sheet 41 = .ok (.getfield 13, 3) := by decide +kernel
theorem dX4_sheet_44 : decode cX4_sheet 44 = .ok (.iload_n 1, 1) := by decide +kernel
theorem dX4_sheet_45 : decode cX4_sheet 45 = .ok (.aaload, 1) := by decide +kernel
theorem dX4_sheet_46 : decode cX4_sheet 46 = .ok (.iload_n 2, 1) := by decide +kernel
theorem dX4_sheet_47 : decode cX4_sheet 47 = .ok (.iload_n 3, 1) := by decide +kernel
theorem dX4_sheet_48 : decode cX4_sheet 48 = .ok (.invokevirtual 211, 3) := by decide +kernel
theorem dX4_sheet_51 : decode cX4_sheet 51 = .ok (.iconst 1, 1) := by decide +kernel
theorem dX4_sheet_52 : decode cX4_sheet 52 = .ok (.ireturn, 1) := by decide +kernel
theorem dX4_lose_0 : decode cX4_lose 0 = .ok (.iload_n 1, 1) := by decide +kernel
theorem dX4_lose_1 : decode cX4_lose 1 = .ok (.invokestatic 56, 3) := by decide +kernel
theorem dX4_lose_4 : decode cX4_lose 4 = .ok (.ifCond .ne 5, 3) := by decide +kernel
theorem dX4_lose_7 : decode cX4_lose 7 = .ok (.iconst (-1), 1) := by decide +kernel
theorem dX4_lose_8 : decode cX4_lose 8 = .ok (.ireturn, 1) := by decide +kernel
theorem dX4_lose_9 : decode cX4_lose 9 = .ok (.aload_n 0, 1) := by decide +kernel
theorem dX4_lose_10 : decode cX4_lose 10 = .ok (.getfield 13, 3) := by decide +kernel
theorem dX4_lose_13 : decode cX4_lose 13 = .ok (.iload_n 1, 1) := by decide +kernel
theorem dX4_lose_14 : decode cX4_lose 14 = .ok (.aaload, 1) := by decide +kernel
theorem dX4_lose_15 : decode cX4_lose 15 = .ok (.getfield 214, 3) := by decide +kernel
theorem dX4_lose_18 : decode cX4_lose 18 = .ok (.istore_n 2, 1) := by decide +kernel
theorem dX4_lose_19 : decode cX4_lose 19 = .ok (.aload_n 0, 1) := by decide +kernel
theorem dX4_lose_20 : decode cX4_lose 20 = .ok (.getfield 13, 3) := by decide +kernel
theorem dX4_lose_23 : decode cX4_lose 23 = .ok (.iload_n 1, 1) := by decide +kernel
theorem dX4_lose_24 : decode cX4_lose 24 = .ok (.aaload, 1) := by decide +kernel
theorem dX4_lose_25 : decode cX4_lose 25 = .ok (.iconst 0, 1) := by decide +kernel
theorem dX4_lose_26 : decode cX4_lose 26 = .ok (.putfield 214, 3) := by decide +kernel
theorem dX4_lose_29 : decode cX4_lose 29 = .ok (.iload_n 2, 1) := by decide +kernel
theorem dX4_lose_30 : decode cX4_lose 30 = .ok (.ifCond .eq 7, 3) := by decide +kernel
theorem dX4_lose_33 : decode cX4_lose 33 = .ok (.iconst 1, 1) := by decide +kernel
theorem dX4_lose_34 : decode cX4_lose 34 = .ok (.goto 4, 3) := by decide +kernel
theorem dX4_lose_37 : decode cX4_lose 37 = .ok (.iconst 0, 1) := by decide +kernel
theorem dX4_lose_38 : decode cX4_lose 38 = .ok (.ireturn, 1) := by decide +kernel
theorem dX4_put_0 : decode cX4_put 0 = .ok (.aload_n 0, 1) := by decide +kernel
theorem dX4_put_1 : decode cX4_put 1 = .ok (.iconst 0, 1) := by decide +kernel
theorem dX4_put_2 : decode cX4_put 2 = .ok (.putfield 52, 3) := by decide +kernel
theorem dX4_put_5 : decode cX4_put 5 = .ok (.iload_n 1, 1) := by decide +kernel
theorem dX4_put_6 : decode cX4_put 6 = .ok (.invokestatic 56, 3) := by decide +kernel
theorem dX4_put_9 : decode cX4_put 9 = .ok (.ifCond .ne 5, 3) := by decide +kernel
theorem dX4_put_12 : decode cX4_put 12 = .ok (.iconst (-1), 1) := by decide +kernel
theorem dX4_put_13 : decode cX4_put 13 = .ok (.ireturn, 1) := by decide +kernel
theorem dX4_put_14 : decode cX4_put 14 = .ok (.aload_n 0, 1) := by decide +kernel
theorem dX4_put_15 : decode cX4_put 15 = .ok (.getfield 13, 3) := by decide +kernel
theorem dX4_put_18 : decode cX4_put 18 = .ok (.iload_n 1, 1) := by decide +kernel
theorem dX4_put_19 : decode cX4_put 19 = .ok (.aaload, 1) := by decide +kernel
theorem dX4_put_20 : decode cX4_put 20 = .ok (.astore 4, 2) := by decide +kernel
theorem dX4_put_22 : decode cX4_put 22 = .ok (.aload 4, 2) := by decide +kernel
theorem dX4_put_24 : decode cX4_put 24 = .ok (.getfield 214, 3) := by decide +kernel
theorem dX4_put_27 : decode cX4_put 27 = .ok (.ifCond .ne 9, 3) := by decide +kernel
theorem dX4_put_30 : decode cX4_put 30 = .ok (.aload_n 0, 1) := by decide +kernel
theorem dX4_put_31 : decode cX4_put 31 = .ok (.iconst 1, 1) := by decide +kernel
theorem dX4_put_32 : decode cX4_put 32 = .ok (.invokevirtual 71, 3) := by decide +kernel
theorem dX4_put_35 : decode cX4_put 35 = .ok (.ireturn, 1) := by decide +kernel
theorem dX4_put_36 : decode cX4_put 36 = .ok (.aload 4, 2) := by decide +kernel
theorem dX4_put_38 : decode cX4_put 38 = .ok (.iload_n 2, 1) := by decide +kernel
theorem dX4_put_39 : decode cX4_put 39 = .ok (.iconst 1, 1) := by decide +kernel
theorem dX4_put_40 : decode cX4_put 40 = .ok (.invokevirtual 67, 3) := by decide +kernel
theorem dX4_put_43 : decode cX4_put 43 = .ok (.ifCond .ne 9, 3) := by decide +kernel
theorem dX4_put_46 : decode cX4_put 46 = .ok (.aload_n 0, 1) := by decide +kernel
theorem dX4_put_47 : decode cX4_put 47 = .ok (.iconst 3, 1) := by decide +kernel
theorem dX4_put_48 : decode cX4_put 48 = .ok (.invokevirtual 71, 3) := by decide +kernel
theorem dX4_put_51 : decode cX4_put 51 = .ok (.ireturn, 1) := by decide +kernel
theorem dX4_put_52 : decode cX4_put 52 = .ok (.aload 4, 2) := by decide +kernel
theorem dX4_put_54 : decode cX4_put 54 = .ok (.getfield 217, 3) := by decide +kernel
theorem dX4_put_57 : decode cX4_put 57 = .ok (.iload_n 2, 1) := by decide +kernel
theorem dX4_put_58 : decode cX4_put 58 = .ok (.aload 4, 2) := by decide +kernel
theorem dX4_put_60 : decode cX4_put 60 = .ok (.iload_n 3, 1) := by decide +kernel
theorem dX4_put_61 : decode cX4_put 61 = .ok (.invokevirtual 220, 3) := by decide +kernel
theorem dX4_put_64 : decode cX4_put 64 = .ok (.iastore, 1) := by decide +kernel
theorem dX4_put_65 : decode cX4_put 65 = .ok (.iconst 1, 1) := by decide +kernel
theorem dX4_put_66 : decode cX4_put 66 = .ok (.ireturn, 1) := by decide +kernel
theorem dX4_cell_0 : decode cX4_cell 0 = .ok (.aload_n 0, 1) := by decide +kernel
theorem dX4_cell_1 : decode cX4_cell 1 = .ok (.iconst 0, 1) := by decide +kernel
theorem dX4_cell_2 : decode cX4_cell 2 = .ok (.putfield 52, 3) := by decide +kernel
theorem dX4_cell_5 : decode cX4_cell 5 = .ok (.iload_n 1, 1) := by decide +kernel
theorem dX4_cell_6 : decode cX4_cell 6 = .ok (.invokestatic 56, 3) := by decide +kernel
theorem dX4_cell_9 : decode cX4_cell 9 = .ok (.ifCond .eq 10, 3) := by decide +kernel
theorem dX4_cell_12 : decode cX4_cell 12 = .ok (.iload_n 3, 1) := by decide +kernel
theorem dX4_cell_13 : decode cX4_cell 13 = .ok (.invokestatic 60, 3) := by decide +kernel
theorem dX4_cell_16 : decode cX4_cell 16 = .ok (.ifCond .ne 7, 3) := by decide +kernel
theorem dX4_cell_19 : decode cX4_cell 19 = .ok (.ldc2_w 203, 3) := by decide +kernel
theorem dX4_cell_22 : decode cX4_cell 22 = .ok (.lreturn, 1) := by decide +kernel
theorem dX4_cell_23 : decode cX4_cell 23 = .ok (.aload_n 0, 1) := by decide +kernel
theorem dX4_cell_24 : decode cX4_cell 24 = .ok (.getfield 13, 3) := by decide +kernel
theorem dX4_cell_27 : decode cX4_cell 27 = .ok (.iload_n 1, 1) := by decide +kernel
theorem dX4_cell_28 : decode cX4_cell 28 = .ok (.aaload, 1) := by decide +kernel
theorem dX4_cell_29 : decode cX4_cell 29 = .ok (.astore 4, 2) := by decide +kernel
theorem dX4_cell_31 : decode cX4_cell 31 = .ok (.aload_n 0, 1) := by decide +kernel
theorem dX4_cell_32 : decode cX4_cell 32 = .ok (.aload 4, 2) := by decide +kernel
theorem dX4_cell_34 : decode cX4_cell 34 = .ok (.iload_n 3, 1) := by decide +kernel
theorem dX4_cell_35 : decode cX4_cell 35 = .ok (.invokevirtual 63, 3) := by decide +kernel
theorem dX4_cell_38 : decode cX4_cell 38 = .ok (.putfield 52, 3) := by decide +kernel
theorem dX4_cell_41 : decode cX4_cell 41 = .ok (.aload_n 0, 1) := by decide +kernel
theorem dX4_cell_42 : decode cX4_cell 42 = .ok (.getfield 52, 3) := by decide +kernel
theorem dX4_cell_45 : decode cX4_cell 45 = .ok (.ifCond .ne 18, 3) := by decide +kernel
theorem dX4_cell_48 : decode cX4_cell 48 = .ok (.aload 4, 2) := by decide +kernel
theorem dX4_cell_50 : decode cX4_cell 50 = .ok (.iload_n 2, 1) := by decide +kernel
theorem dX4_cell_51 : decode cX4_cell 51 = .ok (.iconst 1, 1) := by decide +kernel
theorem dX4_cell_52 : decode cX4_cell 52 = .ok (.invokevirtual 67, 3) := by decide +kernel
theorem dX4_cell_55 : decode cX4_cell 55 = .ok (.ifCond .ne 8, 3) := by decide +kernel
theorem dX4_cell_58 : decode cX4_cell 58 = .ok (.aload_n 0, 1) := by decide +kernel
theorem dX4_cell_59 : decode cX4_cell 59 = .ok (.iconst 3, 1) := by decide +kernel
theorem dX4_cell_60 : decode cX4_cell 60 = .ok (.putfield 52, 3) := by decide +kernel
theorem dX4_cell_63 : decode cX4_cell 63 = .ok (.aload_n 0, 1) := by decide +kernel
theorem dX4_cell_64 : decode cX4_cell 64 = .ok (.getfield 52, 3) := by decide +kernel
theorem dX4_cell_67 : decode cX4_cell 67 = .ok (.ifCond .ne 14, 3) := by decide +kernel
theorem dX4_cell_70 : decode cX4_cell 70 = .ok (.aload 4, 2) := by decide +kernel
theorem dX4_cell_72 : decode cX4_cell 72 = .ok (.getfield 217, 3) := by decide +kernel
theorem dX4_cell_75 : decode cX4_cell 75 = .ok (.iload_n 2, 1) := by decide +kernel
theorem dX4_cell_76 : decode cX4_cell 76 = .ok (.iaload, 1) := by decide +kernel
theorem dX4_cell_77 : decode cX4_cell 77 = .ok (.i2l, 1) := by decide +kernel
theorem dX4_cell_78 : decode cX4_cell 78 = .ok (.goto 6, 3) := by decide +kernel
theorem dX4_cell_81 : decode cX4_cell 81 = .ok (.ldc2_w 203, 3) := by decide +kernel
theorem dX4_cell_84 : decode cX4_cell 84 = .ok (.lreturn, 1) := by decide +kernel
theorem dX4_copy_0 : decode cX4_copy 0 = .ok (.aload_n 0, 1) := by decide +kernel
theorem dX4_copy_1 : decode cX4_copy 1 = .ok (.iconst 0, 1) := by decide +kernel
theorem dX4_copy_2 : decode cX4_copy 2 = .ok (.putfield 52, 3) := by decide +kernel
theorem dX4_copy_5 : decode cX4_copy 5 = .ok (.iload_n 1, 1) := by decide +kernel
theorem dX4_copy_6 : decode cX4_copy 6 = .ok (.invokestatic 56, 3) := by decide +kernel
theorem dX4_copy_9 : decode cX4_copy 9 = .ok (.ifCond .eq 10, 3) := by decide +kernel
theorem dX4_copy_12 : decode cX4_copy 12 = .ok (.iload_n 3, 1) := by decide +kernel
theorem dX4_copy_13 : decode cX4_copy 13 = .ok (.invokestatic 56, 3) := by decide +kernel
theorem dX4_copy_16 : decode cX4_copy 16 = .ok (.ifCond .ne 5, 3) := by decide +kernel
theorem dX4_copy_19 : decode cX4_copy 19 = .ok (.iconst (-1), 1) := by decide +kernel
theorem dX4_copy_20 : decode cX4_copy 20 = .ok (.ireturn, 1) := by decide +kernel
theorem dX4_copy_21 : decode cX4_copy 21 = .ok (.aload_n 0, 1) := by decide +kernel
theorem dX4_copy_22 : decode cX4_copy 22 = .ok (.getfield 13, 3) := by decide +kernel
theorem dX4_copy_25 : decode cX4_copy 25 = .ok (.iload_n 1, 1) := by decide +kernel
theorem dX4_copy_26 : decode cX4_copy 26 = .ok (.aaload, 1) := by decide +kernel
theorem dX4_copy_27 : decode cX4_copy 27 = .ok (.astore 6, 2) := by decide +kernel
theorem dX4_copy_29 : decode cX4_copy 29 = .ok (.aload_n 0, 1) := by decide +kernel
theorem dX4_copy_30 : decode cX4_copy 30 = .ok (.getfield 13, 3) := by decide +kernel
theorem dX4_copy_33 : decode cX4_copy 33 = .ok (.iload_n 3, 1) := by decide +kernel
theorem dX4_copy_34 : decode cX4_copy 34 = .ok (.aaload, 1) := by decide +kernel
theorem dX4_copy_35 : decode cX4_copy 35 = .ok (.astore 7, 2) := by decide +kernel
theorem dX4_copy_37 : decode cX4_copy 37 = .ok (.aload 6, 2) := by decide +kernel
theorem dX4_copy_39 : decode cX4_copy 39 = .ok (.getfield 214, 3) := by decide +kernel
theorem dX4_copy_42 : decode cX4_copy 42 = .ok (.ifCond .eq 11, 3) := by decide +kernel
theorem dX4_copy_45 : decode cX4_copy 45 = .ok (.aload 7, 2) := by decide +kernel
theorem dX4_copy_47 : decode cX4_copy 47 = .ok (.getfield 214, 3) := by decide +kernel
theorem dX4_copy_50 : decode cX4_copy 50 = .ok (.ifCond .ne 9, 3) := by decide +kernel
theorem dX4_copy_53 : decode cX4_copy 53 = .ok (.aload_n 0, 1) := by decide +kernel
theorem dX4_copy_54 : decode cX4_copy 54 = .ok (.iconst 1, 1) := by decide +kernel
theorem dX4_copy_55 : decode cX4_copy 55 = .ok (.invokevirtual 71, 3) := by decide +kernel
theorem dX4_copy_58 : decode cX4_copy 58 = .ok (.ireturn, 1) := by decide +kernel
theorem dX4_copy_59 : decode cX4_copy 59 = .ok (.aload 6, 2) := by decide +kernel
theorem dX4_copy_61 : decode cX4_copy 61 = .ok (.getfield 223, 3) := by decide +kernel
theorem dX4_copy_64 : decode cX4_copy 64 = .ok (.aload 7, 2) := by decide +kernel
theorem dX4_copy_66 : decode cX4_copy 66 = .ok (.getfield 223, 3) := by decide +kernel
theorem dX4_copy_69 : decode cX4_copy 69 = .ok (.if_icmp .eq 9, 3) := by decide +kernel
theorem dX4_copy_72 : decode cX4_copy 72 = .ok (.aload_n 0, 1) := by decide +kernel
theorem dX4_copy_73 : decode cX4_copy 73 = .ok (.iconst 2, 1) := by decide +kernel
theorem dX4_copy_74 : decode cX4_copy 74 = .ok (.invokevirtual 71, 3) := by decide +kernel
theorem dX4_copy_77 : decode cX4_copy 77 = .ok (.ireturn, 1) := by decide +kernel
theorem dX4_copy_78 : decode cX4_copy 78 = .ok (.aload 6, 2) := by decide +kernel
theorem dX4_copy_80 : decode cX4_copy 80 = .ok (.iload_n 2, 1) := by decide +kernel
theorem dX4_copy_81 : decode cX4_copy 81 = .ok (.iload 5, 2) := by decide +kernel
theorem dX4_copy_83 : decode cX4_copy 83 = .ok (.invokevirtual 67, 3) := by decide +kernel
theorem dX4_copy_86 : decode cX4_copy 86 = .ok (.ifCond .eq 15, 3) := by decide +kernel
theorem dX4_copy_89 : decode cX4_copy 89 = .ok (.aload 7, 2) := by decide +kernel
theorem dX4_copy_91 : decode cX4_copy 91 = .ok (.iload 4, 2) := by decide +kernel
theorem dX4_copy_93 : decode cX4_copy 93 = .ok (.iload 5, 2) := by decide +kernel
theorem dX4_copy_95 : decode cX4_copy 95 = .ok (.invokevirtual 67, 3) := by decide +kernel
theorem dX4_copy_98 : decode cX4_copy 98 = .ok (.ifCond .ne 9, 3) := by decide +kernel
theorem dX4_copy_101 : decode cX4_copy 101 = .ok (.aload_n 0, 1) := by decide +kernel
theorem dX4_copy_102 : decode cX4_copy 102 = .ok (.iconst 3, 1) := by decide +kernel
theorem dX4_copy_103 : decode cX4_copy 103 = .ok (.invokevirtual 71, 3) := by decide +kernel
theorem dX4_copy_106 : decode cX4_copy 106 = .ok (.ireturn, 1) := by decide +kernel
theorem dX4_copy_107 : decode cX4_copy 107 = .ok (.aload 6, 2) := by decide +kernel
theorem dX4_copy_109 : decode cX4_copy 109 = .ok (.getfield 217, 3) := by decide +kernel
theorem dX4_copy_112 : decode cX4_copy 112 = .ok (.iload_n 2, 1) := by decide +kernel
theorem dX4_copy_113 : decode cX4_copy 113 = .ok (.aload 7, 2) := by decide +kernel
theorem dX4_copy_115 : decode cX4_copy 115 = .ok (.getfield 217, 3) := by decide +kernel
theorem dX4_copy_118 : decode cX4_copy 118 = .ok (.iload 4, 2) := by decide +kernel
theorem dX4_copy_120 : decode cX4_copy 120 = .ok (.iload 5, 2) := by decide +kernel
theorem dX4_copy_122 : decode cX4_copy 122 = .ok (.invokestatic 226, 3) := by decide +kernel
theorem dX4_copy_125 : decode cX4_copy 125 = .ok (.iload 5, 2) := by decide +kernel
theorem dX4_copy_127 : decode cX4_copy 127 = .ok (.ireturn, 1) := by decide +kernel
theorem dX4_tell_0 : decode cX4_tell 0 = .ok (.aload_n 0, 1) := by decide +kernel
theorem dX4_tell_1 : decode cX4_tell 1 = .ok (.getfield 20, 3) := by decide +kernel
theorem dX4_tell_4 : decode cX4_tell 4 = .ok (.iload_n 1, 1) := by decide +kernel
theorem dX4_tell_5 : decode cX4_tell 5 = .ok (.invokevirtual 95, 3) := by decide +kernel
theorem dX4_tell_8 : decode cX4_tell 8 = .ok (.ifCond .ne 5, 3) := by decide +kernel
theorem dX4_tell_11 : decode cX4_tell 11 = .ok (.iconst (-1), 1) := by decide +kernel
theorem dX4_tell_12 : decode cX4_tell 12 = .ok (.ireturn, 1) := by decide +kernel
theorem dX4_tell_13 : decode cX4_tell 13 = .ok (.aload_n 0, 1) := by decide +kernel
theorem dX4_tell_14 : decode cX4_tell 14 = .ok (.getfield 20, 3) := by decide +kernel
theorem dX4_tell_17 : decode cX4_tell 17 = .ok (.getfield 98, 3) := by decide +kernel
theorem dX4_tell_20 : decode cX4_tell 20 = .ok (.iload_n 1, 1) := by decide +kernel
theorem dX4_tell_21 : decode cX4_tell 21 = .ok (.iaload, 1) := by decide +kernel
theorem dX4_tell_22 : decode cX4_tell 22 = .ok (.lookupswitch 38 #[(1, 32), (2, 26)], 26) := by decide +kernel
theorem dX4_tell_48 : decode cX4_tell 48 = .ok (.aload_n 0, 1) := by decide +kernel
theorem dX4_tell_49 : decode cX4_tell 49 = .ok (.iload_n 1, 1) := by decide +kernel
theorem dX4_tell_50 : decode cX4_tell 50 = .ok (.invokevirtual 232, 3) := by decide +kernel
theorem dX4_tell_53 : decode cX4_tell 53 = .ok (.ireturn, 1) := by decide +kernel
theorem dX4_tell_54 : decode cX4_tell 54 = .ok (.aload_n 0, 1) := by decide +kernel
theorem dX4_tell_55 : decode cX4_tell 55 = .ok (.iload_n 1, 1) := by decide +kernel
theorem dX4_tell_56 : decode cX4_tell 56 = .ok (.invokevirtual 235, 3) := by decide +kernel
theorem dX4_tell_59 : decode cX4_tell 59 = .ok (.ireturn, 1) := by decide +kernel
theorem dX4_tell_60 : decode cX4_tell 60 = .ok (.aload_n 0, 1) := by decide +kernel
theorem dX4_tell_61 : decode cX4_tell 61 = .ok (.iload_n 1, 1) := by decide +kernel
theorem dX4_tell_62 : decode cX4_tell 62 = .ok (.invokevirtual 238, 3) := by decide +kernel
theorem dX4_tell_65 : decode cX4_tell 65 = .ok (.ireturn, 1) := by decide +kernel
theorem dX4_read_0 : decode cX4_read 0 = .ok (.aload_n 0, 1) := by decide +kernel
theorem dX4_read_1 : decode cX4_read 1 = .ok (.getfield 20, 3) := by decide +kernel
theorem dX4_read_4 : decode cX4_read 4 = .ok (.iload_n 1, 1) := by decide +kernel
theorem dX4_read_5 : decode cX4_read 5 = .ok (.invokevirtual 95, 3) := by decide +kernel
theorem dX4_read_8 : decode cX4_read 8 = .ok (.ifCond .ne 5, 3) := by decide +kernel
theorem dX4_read_11 : decode cX4_read 11 = .ok (.iconst (-1), 1) := by decide +kernel
theorem dX4_read_12 : decode cX4_read 12 = .ok (.ireturn, 1) := by decide +kernel
theorem dX4_read_13 : decode cX4_read 13 = .ok (.aload_n 0, 1) := by decide +kernel
theorem dX4_read_14 : decode cX4_read 14 = .ok (.getfield 20, 3) := by decide +kernel
theorem dX4_read_17 : decode cX4_read 17 = .ok (.getfield 98, 3) := by decide +kernel
theorem dX4_read_20 : decode cX4_read 20 = .ok (.iload_n 1, 1) := by decide +kernel
theorem dX4_read_21 : decode cX4_read 21 = .ok (.iaload, 1) := by decide +kernel
theorem dX4_read_22 : decode cX4_read 22 = .ok (.iconst 2, 1) := by decide +kernel
theorem dX4_read_23 : decode cX4_read 23 = .ok (.if_icmp .ne 11, 3) := by decide +kernel
theorem dX4_read_26 : decode cX4_read 26 = .ok (.aload_n 0, 1) := by decide +kernel
theorem dX4_read_27 : decode cX4_read 27 = .ok (.iload_n 1, 1) := by decide +kernel
theorem dX4_read_28 : decode cX4_read 28 = .ok (.invokevirtual 241, 3) := by decide +kernel
theorem dX4_read_31 : decode cX4_read 31 = .ok (.goto 8, 3) := by decide +kernel
theorem dX4_read_34 : decode cX4_read 34 = .ok (.aload_n 0, 1) := by decide +kernel
theorem dX4_read_35 : decode cX4_read 35 = .ok (.iload_n 1, 1) := by decide +kernel
theorem dX4_read_36 : decode cX4_read 36 = .ok (.invokevirtual 244, 3) := by decide +kernel
theorem dX4_read_39 : decode cX4_read 39 = .ok (.ireturn, 1) := by decide +kernel
theorem dX4_as_0 : decode cX4_as 0 = .ok (.aload_n 0, 1) := by decide +kernel
theorem dX4_as_1 : decode cX4_as 1 = .ok (.iconst 0, 1) := by decide +kernel
theorem dX4_as_2 : decode cX4_as 2 = .ok (.putfield 52, 3) := by decide +kernel
theorem dX4_as_5 : decode cX4_as 5 = .ok (.aload_n 0, 1) := by decide +kernel
theorem dX4_as_6 : decode cX4_as 6 = .ok (.getfield 20, 3) := by decide +kernel
theorem dX4_as_9 : decode cX4_as 9 = .ok (.iload_n 1, 1) := by decide +kernel
theorem dX4_as_10 : decode cX4_as 10 = .ok (.invokevirtual 95, 3) := by decide +kernel
theorem dX4_as_13 : decode cX4_as 13 = .ok (.ifCond .ne 5, 3) := by decide +kernel
theorem dX4_as_16 : decode cX4_as 16 = .ok (.iconst (-1), 1) := by decide +kernel
theorem dX4_as_17 : decode cX4_as 17 = .ok (.ireturn, 1) := by decide +kernel
theorem dX4_as_18 : decode cX4_as 18 = .ok (.iload_n 2, 1) := by decide +kernel
theorem dX4_as_19 : decode cX4_as 19 = .ok (.ifCond .lt 8, 3) := by decide +kernel
theorem dX4_as_22 : decode cX4_as 22 = .ok (.iload_n 2, 1) := by decide +kernel
theorem dX4_as_23 : decode cX4_as 23 = .ok (.iconst 2, 1) := by decide +kernel
theorem dX4_as_24 : decode cX4_as 24 = .ok (.if_icmp .le 6, 3) := by decide +kernel
theorem dX4_as_27 : decode cX4_as 27 = .ok (.bipush (-2), 2) := by decide +kernel
theorem dX4_as_29 : decode cX4_as 29 = .ok (.ireturn, 1) := by decide +kernel
theorem dX4_as_30 : decode cX4_as 30 = .ok (.aload_n 0, 1) := by decide +kernel
theorem dX4_as_31 : decode cX4_as 31 = .ok (.getfield 20, 3) := by decide +kernel
theorem dX4_as_34 : decode cX4_as 34 = .ok (.getfield 98, 3) := by decide +kernel
theorem dX4_as_37 : decode cX4_as 37 = .ok (.iload_n 1, 1) := by decide +kernel
theorem dX4_as_38 : decode cX4_as 38 = .ok (.iaload, 1) := by decide +kernel
theorem dX4_as_39 : decode cX4_as 39 = .ok (.iload_n 2, 1) := by decide +kernel
theorem dX4_as_40 : decode cX4_as 40 = .ok (.if_icmp .lt 7, 3) := by decide +kernel
theorem dX4_as_43 : decode cX4_as 43 = .ok (.iconst 1, 1) := by decide +kernel
theorem dX4_as_44 : decode cX4_as 44 = .ok (.goto 8, 3) := by decide +kernel
theorem dX4_as_47 : decode cX4_as 47 = .ok (.aload_n 0, 1) := by decide +kernel
theorem dX4_as_48 : decode cX4_as 48 = .ok (.iconst 2, 1) := by decide +kernel
theorem dX4_as_49 : decode cX4_as 49 = .ok (.invokevirtual 71, 3) := by decide +kernel
theorem dX4_as_52 : decode cX4_as 52 = .ok (.ireturn, 1) := by decide +kernel
theorem dX4_trace_0 : decode cX4_trace 0 = .ok (.aload_n 0, 1) := by decide +kernel
theorem dX4_trace_1 : decode cX4_trace 1 = .ok (.getfield 247, 3) := by decide +kernel
theorem dX4_trace_4 : decode cX4_trace 4 = .ok (.ireturn, 1) := by decide +kernel
theorem dX4_fault_0 : decode cX4_fault 0 = .ok (.aload_n 0, 1) := by decide +kernel
theorem dX4_fault_1 : decode cX4_fault 1 = .ok (.getfield 52, 3) := by decide +kernel
theorem dX4_fault_4 : decode cX4_fault 4 = .ok (.ireturn, 1) := by decide +kernel
theorem dX4_many_0 : decode cX4_many 0 = .ok (.iload_n 1, 1) := by decide +kernel
theorem dX4_many_1 : decode cX4_many 1 = .ok (.tableswitch 84 0 5 #[39, 47, 55, 63, 71, 79], 39) := by decide +kernel
theorem dX4_many_40 : decode cX4_many 40 = .ok (.aload_n 0, 1) := by decide +kernel
theorem dX4_many_41 : decode cX4_many 41 = .ok (.getfield 20, 3) := by decide +kernel
theorem dX4_many_44 : decode cX4_many 44 = .ok (.getfield 89, 3) := by decide +kernel
theorem dX4_many_47 : decode cX4_many 47 = .ok (.ireturn, 1) := by decide +kernel
theorem dX4_many_48 : decode cX4_many 48 = .ok (.aload_n 0, 1) := by decide +kernel
theorem dX4_many_49 : decode cX4_many 49 = .ok (.getfield 20, 3) := by decide +kernel
theorem dX4_many_52 : decode cX4_many 52 = .ok (.getfield 92, 3) := by decide +kernel
theorem dX4_many_55 : decode cX4_many 55 = .ok (.ireturn, 1) := by decide +kernel
theorem dX4_many_56 : decode cX4_many 56 = .ok (.aload_n 0, 1) := by decide +kernel
theorem dX4_many_57 : decode cX4_many 57 = .ok (.getfield 20, 3) := by decide +kernel
theorem dX4_many_60 : decode cX4_many 60 = .ok (.getfield 250, 3) := by decide +kernel
theorem dX4_many_63 : decode cX4_many 63 = .ok (.ireturn, 1) := by decide +kernel
theorem dX4_many_64 : decode cX4_many 64 = .ok (.aload_n 0, 1) := by decide +kernel
theorem dX4_many_65 : decode cX4_many 65 = .ok (.getfield 20, 3) := by decide +kernel
theorem dX4_many_68 : decode cX4_many 68 = .ok (.getfield 253, 3) := by decide +kernel
theorem dX4_many_71 : decode cX4_many 71 = .ok (.ireturn, 1) := by decide +kernel
theorem dX4_many_72 : decode cX4_many 72 = .ok (.aload_n 0, 1) := by decide +kernel
theorem dX4_many_73 : decode cX4_many 73 = .ok (.getfield 20, 3) := by decide +kernel
theorem dX4_many_76 : decode cX4_many 76 = .ok (.getfield 256, 3) := by decide +kernel
theorem dX4_many_79 : decode cX4_many 79 = .ok (.ireturn, 1) := by decide +kernel
theorem dX4_many_80 : decode cX4_many 80 = .ok (.aload_n 0, 1) := by decide +kernel
theorem dX4_many_81 : decode cX4_many 81 = .ok (.getfield 82, 3) := by decide +kernel
theorem dX4_many_84 : decode cX4_many 84 = .ok (.ireturn, 1) := by decide +kernel
theorem dX4_many_85 : decode cX4_many 85 = .ok (.bipush (-2), 2) := by decide +kernel
theorem dX4_many_87 : decode cX4_many 87 = .ok (.ireturn, 1) := by decide +kernel
theorem dX4_isSheet_0 : decode cX4_isSheet 0 = .ok (.iload_n 0, 1) := by decide +kernel
theorem dX4_isSheet_1 : decode cX4_isSheet 1 = .ok (.ifCond .lt 12, 3) := by decide +kernel
theorem dX4_isSheet_4 : decode cX4_isSheet 4 = .ok (.iload_n 0, 1) := by decide +kernel
theorem dX4_isSheet_5 : decode cX4_isSheet 5 = .ok (.iconst 4, 1) := by decide +kernel
theorem dX4_isSheet_6 : decode cX4_isSheet 6 = .ok (.if_icmp .ge 7, 3) := by decide +kernel
theorem dX4_isSheet_9 : decode cX4_isSheet 9 = .ok (.iconst 1, 1) := by decide +kernel
theorem dX4_isSheet_10 : decode cX4_isSheet 10 = .ok (.goto 4, 3) := by decide +kernel
theorem dX4_isSheet_13 : decode cX4_isSheet 13 = .ok (.iconst 0, 1) := by decide +kernel
theorem dX4_isSheet_14 : decode cX4_isSheet 14 = .ok (.ireturn, 1) := by decide +kernel
theorem dX4_isLane_0 : decode cX4_isLane 0 = .ok (.iload_n 0, 1) := by decide +kernel
theorem dX4_isLane_1 : decode cX4_isLane 1 = .ok (.ifCond .lt 12, 3) := by decide +kernel
theorem dX4_isLane_4 : decode cX4_isLane 4 = .ok (.iload_n 0, 1) := by decide +kernel
theorem dX4_isLane_5 : decode cX4_isLane 5 = .ok (.iconst 3, 1) := by decide +kernel
theorem dX4_isLane_6 : decode cX4_isLane 6 = .ok (.if_icmp .ge 7, 3) := by decide +kernel
theorem dX4_isLane_9 : decode cX4_isLane 9 = .ok (.iconst 1, 1) := by decide +kernel
theorem dX4_isLane_10 : decode cX4_isLane 10 = .ok (.goto 4, 3) := by decide +kernel
theorem dX4_isLane_13 : decode cX4_isLane 13 = .ok (.iconst 0, 1) := by decide +kernel
theorem dX4_isLane_14 : decode cX4_isLane 14 = .ok (.ireturn, 1) := by decide +kernel
theorem dX4_isSort_0 : decode cX4_isSort 0 = .ok (.iload_n 0, 1) := by decide +kernel
theorem dX4_isSort_1 : decode cX4_isSort 1 = .ok (.ifCond .lt 12, 3) := by decide +kernel
theorem dX4_isSort_4 : decode cX4_isSort 4 = .ok (.iload_n 0, 1) := by decide +kernel
theorem dX4_isSort_5 : decode cX4_isSort 5 = .ok (.iconst 5, 1) := by decide +kernel
theorem dX4_isSort_6 : decode cX4_isSort 6 = .ok (.if_icmp .ge 7, 3) := by decide +kernel
theorem dX4_isSort_9 : decode cX4_isSort 9 = .ok (.iconst 1, 1) := by decide +kernel
theorem dX4_isSort_10 : decode cX4_isSort 10 = .ok (.goto 4, 3) := by decide +kernel
theorem dX4_isSort_13 : decode cX4_isSort 13 = .ok (.iconst 0, 1) := by decide +kernel
theorem dX4_isSort_14 : decode cX4_isSort 14 = .ok (.ireturn, 1) := by decide +kernel
theorem dX4_isLetters_0 : decode cX4_isLetters 0 = .ok (.iload_n 0, 1) := by decide +kernel
theorem dX4_isLetters_1 : decode cX4_isLetters 1 = .ok (.iconst 1, 1) := by decide +kernel
theorem dX4_isLetters_2 : decode cX4_isLetters 2 = .ok (.if_icmp .lt 13, 3) := by decide +kernel
theorem dX4_isLetters_5 : decode cX4_isLetters 5 = .ok (.iload_n 0, 1) := by decide +kernel
theorem dX4_isLetters_6 : decode cX4_isLetters 6 = .ok (.bipush 9, 2) := by decide +kernel
theorem dX4_isLetters_8 : decode cX4_isLetters 8 = .ok (.if_icmp .gt 7, 3) := by decide +kernel
theorem dX4_isLetters_11 : decode cX4_isLetters 11 = .ok (.iconst 1, 1) := by decide +kernel
theorem dX4_isLetters_12 : decode cX4_isLetters 12 = .ok (.goto 4, 3) := by decide +kernel
theorem dX4_isLetters_15 : decode cX4_isLetters 15 = .ok (.iconst 0, 1) := by decide +kernel
theorem dX4_isLetters_16 : decode cX4_isLetters 16 = .ok (.ireturn, 1) := by decide +kernel
theorem dX4_isPrice_0 : decode cX4_isPrice 0 = .ok (.iload_n 1, 1) := by decide +kernel
theorem dX4_isPrice_1 : decode cX4_isPrice 1 = .ok (.ifCond .lt 23, 3) := by decide +kernel
theorem dX4_isPrice_4 : decode cX4_isPrice 4 = .ok (.iload_n 1, 1) := by decide +kernel
theorem dX4_isPrice_5 : decode cX4_isPrice 5 = .ok (.iload_n 0, 1) := by decide +kernel
theorem dX4_isPrice_6 : decode cX4_isPrice 6 = .ok (.iconst 2, 1) := by decide +kernel
theorem dX4_isPrice_7 : decode cX4_isPrice 7 = .ok (.if_icmp .ne 8, 3) := by decide +kernel
theorem dX4_isPrice_10 : decode cX4_isPrice 10 = .ok (.bipush 7, 2) := by decide +kernel
theorem dX4_isPrice_12 : decode cX4_isPrice 12 = .ok (.goto 5, 3) := by decide +kernel
theorem dX4_isPrice_15 : decode cX4_isPrice 15 = .ok (.bipush 9, 2) := by decide +kernel
theorem dX4_isPrice_17 : decode cX4_isPrice 17 = .ok (.if_icmp .gt 7, 3) := by decide +kernel
theorem dX4_isPrice_20 : decode cX4_isPrice 20 = .ok (.iconst 1, 1) := by decide +kernel
theorem dX4_isPrice_21 : decode cX4_isPrice 21 = .ok (.goto 4, 3) := by decide +kernel
theorem dX4_isPrice_24 : decode cX4_isPrice 24 = .ok (.iconst 0, 1) := by decide +kernel
theorem dX4_isPrice_25 : decode cX4_isPrice 25 = .ok (.ireturn, 1) := by decide +kernel
theorem dX4_isAskedOfDay_0 : decode cX4_isAskedOfDay 0 = .ok (.iload_n 0, 1) := by decide +kernel
theorem dX4_isAskedOfDay_1 : decode cX4_isAskedOfDay 1 = .ok (.ifCond .lt 8, 3) := by decide +kernel
theorem dX4_isAskedOfDay_4 : decode cX4_isAskedOfDay 4 = .ok (.iload_n 0, 1) := by decide +kernel
theorem dX4_isAskedOfDay_5 : decode cX4_isAskedOfDay 5 = .ok (.iconst 4, 1) := by decide +kernel
theorem dX4_isAskedOfDay_6 : decode cX4_isAskedOfDay 6 = .ok (.if_icmp .le 15, 3) := by decide +kernel
theorem dX4_isAskedOfDay_9 : decode cX4_isAskedOfDay 9 = .ok (.iload_n 0, 1) := by decide +kernel
theorem dX4_isAskedOfDay_10 : decode cX4_isAskedOfDay 10 = .ok (.bipush 10, 2) := by decide +kernel
theorem dX4_isAskedOfDay_12 : decode cX4_isAskedOfDay 12 = .ok (.if_icmp .lt 13, 3) := by decide +kernel
theorem dX4_isAskedOfDay_15 : decode cX4_isAskedOfDay 15 = .ok (.iload_n 0, 1) := by decide +kernel
theorem dX4_isAskedOfDay_16 : decode cX4_isAskedOfDay 16 = .ok (.bipush 17, 2) := by decide +kernel
theorem dX4_isAskedOfDay_18 : decode cX4_isAskedOfDay 18 = .ok (.if_icmp .ge 7, 3) := by decide +kernel
theorem dX4_isAskedOfDay_21 : decode cX4_isAskedOfDay 21 = .ok (.iconst 1, 1) := by decide +kernel
theorem dX4_isAskedOfDay_22 : decode cX4_isAskedOfDay 22 = .ok (.goto 4, 3) := by decide +kernel
theorem dX4_isAskedOfDay_25 : decode cX4_isAskedOfDay 25 = .ok (.iconst 0, 1) := by decide +kernel
theorem dX4_isAskedOfDay_26 : decode cX4_isAskedOfDay 26 = .ok (.ireturn, 1) := by decide +kernel
theorem dX4_isAct_0 : decode cX4_isAct 0 = .ok (.iload_n 1, 1) := by decide +kernel
theorem dX4_isAct_1 : decode cX4_isAct 1 = .ok (.bipush 20, 2) := by decide +kernel
theorem dX4_isAct_3 : decode cX4_isAct 3 = .ok (.if_icmp .lt 18, 3) := by decide +kernel
theorem dX4_isAct_6 : decode cX4_isAct 6 = .ok (.iload_n 1, 1) := by decide +kernel
theorem dX4_isAct_7 : decode cX4_isAct 7 = .ok (.bipush 22, 2) := by decide +kernel
theorem dX4_isAct_9 : decode cX4_isAct 9 = .ok (.if_icmp .gt 12, 3) := by decide +kernel
theorem dX4_isAct_12 : decode cX4_isAct 12 = .ok (.iload_n 1, 1) := by decide +kernel
theorem dX4_isAct_13 : decode cX4_isAct 13 = .ok (.bipush 20, 2) := by decide +kernel
theorem dX4_isAct_15 : decode cX4_isAct 15 = .ok (.isub, 1) := by decide +kernel
theorem dX4_isAct_16 : decode cX4_isAct 16 = .ok (.iload_n 0, 1) := by decide +kernel
theorem dX4_isAct_17 : decode cX4_isAct 17 = .ok (.invokestatic 136, 3) := by decide +kernel
theorem dX4_isAct_20 : decode cX4_isAct 20 = .ok (.ireturn, 1) := by decide +kernel
theorem dX4_isAct_21 : decode cX4_isAct 21 = .ok (.iload_n 1, 1) := by decide +kernel
theorem dX4_isAct_22 : decode cX4_isAct 22 = .ok (.ifCond .lt 13, 3) := by decide +kernel
theorem dX4_isAct_25 : decode cX4_isAct 25 = .ok (.iload_n 1, 1) := by decide +kernel
theorem dX4_isAct_26 : decode cX4_isAct 26 = .ok (.bipush 7, 2) := by decide +kernel
theorem dX4_isAct_28 : decode cX4_isAct 28 = .ok (.if_icmp .ge 7, 3) := by decide +kernel
theorem dX4_isAct_31 : decode cX4_isAct 31 = .ok (.iconst 1, 1) := by decide +kernel
theorem dX4_isAct_32 : decode cX4_isAct 32 = .ok (.goto 4, 3) := by decide +kernel
theorem dX4_isAct_35 : decode cX4_isAct 35 = .ok (.iconst 0, 1) := by decide +kernel
theorem dX4_isAct_36 : decode cX4_isAct 36 = .ok (.istore_n 2, 1) := by decide +kernel
theorem dX4_isAct_37 : decode cX4_isAct 37 = .ok (.iload_n 1, 1) := by decide +kernel
theorem dX4_isAct_38 : decode cX4_isAct 38 = .ok (.bipush 10, 2) := by decide +kernel
theorem dX4_isAct_40 : decode cX4_isAct 40 = .ok (.if_icmp .lt 13, 3) := by decide +kernel
theorem dX4_isAct_43 : decode cX4_isAct 43 = .ok (.iload_n 1, 1) := by decide +kernel
theorem dX4_isAct_44 : decode cX4_isAct 44 = .ok (.bipush 17, 2) := by decide +kernel
theorem dX4_isAct_46 : decode cX4_isAct 46 = .ok (.if_icmp .ge 7, 3) := by decide +kernel
theorem dX4_isAct_49 : decode cX4_isAct 49 = .ok (.iconst 1, 1) := by decide +kernel
theorem dX4_isAct_50 : decode cX4_isAct 50 = .ok (.goto 4, 3) := by decide +kernel
theorem dX4_isAct_53 : decode cX4_isAct 53 = .ok (.iconst 0, 1) := by decide +kernel
theorem dX4_isAct_54 : decode cX4_isAct 54 = .ok (.istore_n 3, 1) := by decide +kernel
theorem dX4_isAct_55 : decode cX4_isAct 55 = .ok (.iload_n 2, 1) := by decide +kernel
theorem dX4_isAct_56 : decode cX4_isAct 56 = .ok (.ifCond .ne 7, 3) := by decide +kernel
theorem dX4_isAct_59 : decode cX4_isAct 59 = .ok (.iload_n 3, 1) := by decide +kernel
theorem dX4_isAct_60 : decode cX4_isAct 60 = .ok (.ifCond .eq 14, 3) := by decide +kernel
theorem dX4_isAct_63 : decode cX4_isAct 63 = .ok (.iload_n 0, 1) := by decide +kernel
theorem dX4_isAct_64 : decode cX4_isAct 64 = .ok (.invokestatic 129, 3) := by decide +kernel
theorem dX4_isAct_67 : decode cX4_isAct 67 = .ok (.ifCond .eq 7, 3) := by decide +kernel
theorem dX4_isAct_70 : decode cX4_isAct 70 = .ok (.iconst 1, 1) := by decide +kernel
theorem dX4_isAct_71 : decode cX4_isAct 71 = .ok (.goto 4, 3) := by decide +kernel
theorem dX4_isAct_74 : decode cX4_isAct 74 = .ok (.iconst 0, 1) := by decide +kernel
theorem dX4_isAct_75 : decode cX4_isAct 75 = .ok (.ireturn, 1) := by decide +kernel
theorem dX4_areActs_0 : decode cX4_areActs 0 = .ok (.iconst 0, 1) := by decide +kernel
theorem dX4_areActs_1 : decode cX4_areActs 1 = .ok (.istore_n 3, 1) := by decide +kernel
theorem dX4_areActs_2 : decode cX4_areActs 2 = .ok (.iload_n 3, 1) := by decide +kernel
theorem dX4_areActs_3 : decode cX4_areActs 3 = .ok (.iload_n 2, 1) := by decide +kernel
theorem dX4_areActs_4 : decode cX4_areActs 4 = .ok (.if_icmp .ge 39, 3) := by decide +kernel
theorem dX4_areActs_7 : decode cX4_areActs 7 = .ok (.aload_n 0, 1) := by decide +kernel
theorem dX4_areActs_8 : decode cX4_areActs 8 = .ok (.getfield 217, 3) := by decide +kernel
theorem dX4_areActs_11 : decode cX4_areActs 11 = .ok (.iload_n 1, 1) := by decide +kernel
theorem dX4_areActs_12 : decode cX4_areActs 12 = .ok (.iconst 2, 1) := by decide +kernel
theorem dX4_areActs_13 : decode cX4_areActs 13 = .ok (.iload_n 3, 1) := by decide +kernel
theorem dX4_areActs_14 : decode cX4_areActs 14 = .ok (.imul, 1) := by decide +kernel
theorem dX4_areActs_15 : decode cX4_areActs 15 = .ok (.iadd, 1) := by decide +kernel
theorem dX4_areActs_16 : decode cX4_areActs 16 = .ok (.iaload, 1) := by decide +kernel
theorem dX4_areActs_17 : decode cX4_areActs 17 = .ok (.aload_n 0, 1) := by decide +kernel
theorem dX4_areActs_18 : decode cX4_areActs 18 = .ok (.getfield 217, 3) := by decide +kernel
theorem dX4_areActs_21 : decode cX4_areActs 21 = .ok (.iload_n 1, 1) := by decide +kernel
theorem dX4_areActs_22 : decode cX4_areActs 22 = .ok (.iconst 2, 1) := by decide +kernel
theorem dX4_areActs_23 : decode cX4_areActs 23 = .ok (.iload_n 3, 1) := by decide +kernel
theorem dX4_areActs_24 : decode cX4_areActs 24 = .ok (.imul, 1) := by decide +kernel
theorem dX4_areActs_25 : decode cX4_areActs 25 = .ok (.iadd, 1) := by decide +kernel
theorem dX4_areActs_26 : decode cX4_areActs 26 = .ok (.iconst 1, 1) := by decide +kernel
theorem dX4_areActs_27 : decode cX4_areActs 27 = .ok (.iadd, 1) := by decide +kernel
theorem dX4_areActs_28 : decode cX4_areActs 28 = .ok (.iaload, 1) := by decide +kernel
theorem dX4_areActs_29 : decode cX4_areActs 29 = .ok (.invokestatic 259, 3) := by decide +kernel
theorem dX4_areActs_32 : decode cX4_areActs 32 = .ok (.ifCond .ne 5, 3) := by decide +kernel
theorem dX4_areActs_35 : decode cX4_areActs 35 = .ok (.iconst 0, 1) := by decide +kernel
theorem dX4_areActs_36 : decode cX4_areActs 36 = .ok (.ireturn, 1) := by decide +kernel
theorem dX4_areActs_37 : decode cX4_areActs 37 = .ok (.iinc 3 1, 3) := by decide +kernel
theorem dX4_areActs_40 : decode cX4_areActs 40 = .ok (.goto (-38), 3) := by decide +kernel
theorem dX4_areActs_43 : decode cX4_areActs 43 = .ok (.iconst 1, 1) := by decide +kernel
theorem dX4_areActs_44 : decode cX4_areActs 44 = .ok (.ireturn, 1) := by decide +kernel
theorem dX4_failed_0 : decode cX4_failed 0 = .ok (.aload_n 0, 1) := by decide +kernel
theorem dX4_failed_1 : decode cX4_failed 1 = .ok (.iload_n 1, 1) := by decide +kernel
theorem dX4_failed_2 : decode cX4_failed 2 = .ok (.putfield 52, 3) := by decide +kernel
theorem dX4_failed_5 : decode cX4_failed 5 = .ok (.bipush (-10), 2) := by decide +kernel
theorem dX4_failed_7 : decode cX4_failed 7 = .ok (.iload_n 1, 1) := by decide +kernel
theorem dX4_failed_8 : decode cX4_failed 8 = .ok (.isub, 1) := by decide +kernel
theorem dX4_failed_9 : decode cX4_failed 9 = .ok (.ireturn, 1) := by decide +kernel
theorem dX4_alignmentOfNow_0 : decode cX4_alignmentOfNow 0 = .ok (.aload_n 0, 1) := by decide +kernel
theorem dX4_alignmentOfNow_1 : decode cX4_alignmentOfNow 1 = .ok (.getfield 85, 3) := by decide +kernel
theorem dX4_alignmentOfNow_4 : decode cX4_alignmentOfNow 4 = .ok (.ifCond .ne 19, 3) := by decide +kernel
theorem dX4_alignmentOfNow_7 : decode cX4_alignmentOfNow 7 = .ok (.aload_n 0, 1) := by decide +kernel
theorem dX4_alignmentOfNow_8 : decode cX4_alignmentOfNow 8 = .ok (.getfield 30, 3) := by decide +kernel
theorem dX4_alignmentOfNow_11 : decode cX4_alignmentOfNow 11 = .ok (.aload_n 0, 1) := by decide +kernel
theorem dX4_alignmentOfNow_12 : decode cX4_alignmentOfNow 12 = .ok (.getfield 20, 3) := by decide +kernel
theorem dX4_alignmentOfNow_15 : decode cX4_alignmentOfNow 15 = .ok (.invokevirtual 262, 3) := by decide +kernel
theorem dX4_alignmentOfNow_18 : decode cX4_alignmentOfNow 18 = .ok (.aload_n 0, 1) := by decide +kernel
theorem dX4_alignmentOfNow_19 : decode cX4_alignmentOfNow 19 = .ok (.iconst 1, 1) := by decide +kernel
theorem dX4_alignmentOfNow_20 : decode cX4_alignmentOfNow 20 = .ok (.putfield 85, 3) := by decide +kernel
theorem dX4_alignmentOfNow_23 : decode cX4_alignmentOfNow 23 = .ok (.aload_n 0, 1) := by decide +kernel
theorem dX4_alignmentOfNow_24 : decode cX4_alignmentOfNow 24 = .ok (.getfield 30, 3) := by decide +kernel
theorem dX4_alignmentOfNow_27 : decode cX4_alignmentOfNow 27 = .ok (.areturn, 1) := by decide +kernel
theorem dX4_supposeDay_0 : decode cX4_supposeDay 0 = .ok (.aload_n 0, 1) := by decide +kernel
theorem dX4_supposeDay_1 : decode cX4_supposeDay 1 = .ok (.getfield 24, 3) := by decide +kernel
theorem dX4_supposeDay_4 : decode cX4_supposeDay 4 = .ok (.aload_n 0, 1) := by decide +kernel
theorem dX4_supposeDay_5 : decode cX4_supposeDay 5 = .ok (.getfield 20, 3) := by decide +kernel
theorem dX4_supposeDay_8 : decode cX4_supposeDay 8 = .ok (.invokevirtual 78, 3) := by decide +kernel
theorem dX4_supposeDay_11 : decode cX4_supposeDay 11 = .ok (.iconst 0, 1) := by decide +kernel
theorem dX4_supposeDay_12 : decode cX4_supposeDay 12 = .ok (.istore 4, 2) := by decide +kernel
theorem dX4_supposeDay_14 : decode cX4_supposeDay 14 = .ok (.iload 4, 2) := by decide +kernel
theorem dX4_supposeDay_16 : decode cX4_supposeDay 16 = .ok (.iload_n 3, 1) := by decide +kernel
theorem dX4_supposeDay_17 : decode cX4_supposeDay 17 = .ok (.if_icmp .ge 46, 3) := by decide +kernel
theorem dX4_supposeDay_20 : decode cX4_supposeDay 20 = .ok (.aload_n 0, 1) := by decide +kernel
theorem dX4_supposeDay_21 : decode cX4_supposeDay 21 = .ok (.getfield 24, 3) := by decide +kernel
theorem dX4_supposeDay_24 : decode cX4_supposeDay 24 = .ok (.aload_n 1, 1) := by decide +kernel
theorem dX4_supposeDay_25 : decode cX4_supposeDay 25 = .ok (.getfield 217, 3) := by decide +kernel
theorem dX4_supposeDay_28 : decode cX4_supposeDay 28 = .ok (.iload_n 2, 1) := by decide +kernel
theorem dX4_supposeDay_29 : decode cX4_supposeDay 29 = .ok (.iconst 2, 1) := by decide +kernel
theorem dX4_supposeDay_30 : decode cX4_supposeDay 30 = .ok (.iload 4, 2) := by decide +kernel
theorem dX4_supposeDay_32 : decode cX4_supposeDay 32 = .ok (.imul, 1) := by decide +kernel
theorem dX4_supposeDay_33 : decode cX4_supposeDay 33 = .ok (.iadd, 1) := by decide +kernel
theorem dX4_supposeDay_34 : decode cX4_supposeDay 34 = .ok (.iaload, 1) := by decide +kernel
theorem dX4_supposeDay_35 : decode cX4_supposeDay 35 = .ok (.aload_n 1, 1) := by decide +kernel
theorem dX4_supposeDay_36 : decode cX4_supposeDay 36 = .ok (.getfield 217, 3) := by decide +kernel
theorem dX4_supposeDay_39 : decode cX4_supposeDay 39 = .ok (.iload_n 2, 1) := by decide +kernel
theorem dX4_supposeDay_40 : decode cX4_supposeDay 40 = .ok (.iconst 2, 1) := by decide +kernel
theorem dX4_supposeDay_41 : decode cX4_supposeDay 41 = .ok (.iload 4, 2) := by decide +kernel
theorem dX4_supposeDay_43 : decode cX4_supposeDay 43 = .ok (.imul, 1) := by decide +kernel
theorem dX4_supposeDay_44 : decode cX4_supposeDay 44 = .ok (.iadd, 1) := by decide +kernel
theorem dX4_supposeDay_45 : decode cX4_supposeDay 45 = .ok (.iconst 1, 1) := by decide +kernel
theorem dX4_supposeDay_46 : decode cX4_supposeDay 46 = .ok (.iadd, 1) := by decide +kernel
theorem dX4_supposeDay_47 : decode cX4_supposeDay 47 = .ok (.iaload, 1) := by decide +kernel
theorem dX4_supposeDay_48 : decode cX4_supposeDay 48 = .ok (.invokevirtual 265, 3) := by decide +kernel
theorem dX4_supposeDay_51 : decode cX4_supposeDay 51 = .ok (.ifCond .ne 6, 3) := by decide +kernel
theorem dX4_supposeDay_54 : decode cX4_supposeDay 54 = .ok (.iload 4, 2) := by decide +kernel
theorem dX4_supposeDay_56 : decode cX4_supposeDay 56 = .ok (.ireturn, 1) := by decide +kernel
theorem dX4_supposeDay_57 : decode cX4_supposeDay 57 = .ok (.iinc 4 1, 3) := by decide +kernel
theorem dX4_supposeDay_60 : decode cX4_supposeDay 60 = .ok (.goto (-46), 3) := by decide +kernel
theorem dX4_supposeDay_63 : decode cX4_supposeDay 63 = .ok (.bipush (-9), 2) := by decide +kernel
theorem dX4_supposeDay_65 : decode cX4_supposeDay 65 = .ok (.ireturn, 1) := by decide +kernel
theorem dX4_answerOfDay_0 : decode cX4_answerOfDay 0 = .ok (.iload_n 2, 1) := by decide +kernel
theorem dX4_answerOfDay_1 : decode cX4_answerOfDay 1 = .ok (.iconst 1, 1) := by decide +kernel
theorem dX4_answerOfDay_2 : decode cX4_answerOfDay 2 = .ok (.if_icmp .ne 5, 3) := by decide +kernel
theorem dX4_answerOfDay_5 : decode cX4_answerOfDay 5 = .ok (.iload_n 1, 1) := by decide +kernel
theorem dX4_answerOfDay_6 : decode cX4_answerOfDay 6 = .ok (.ireturn, 1) := by decide +kernel
theorem dX4_answerOfDay_7 : decode cX4_answerOfDay 7 = .ok (.iload_n 1, 1) := by decide +kernel
theorem dX4_answerOfDay_8 : decode cX4_answerOfDay 8 = .ok (.bipush (-9), 2) := by decide +kernel
theorem dX4_answerOfDay_10 : decode cX4_answerOfDay 10 = .ok (.if_icmp .eq 8, 3) := by decide +kernel
theorem dX4_answerOfDay_13 : decode cX4_answerOfDay 13 = .ok (.bipush (-100), 2) := by decide +kernel
theorem dX4_answerOfDay_15 : decode cX4_answerOfDay 15 = .ok (.iload_n 1, 1) := by decide +kernel
theorem dX4_answerOfDay_16 : decode cX4_answerOfDay 16 = .ok (.isub, 1) := by decide +kernel
theorem dX4_answerOfDay_17 : decode cX4_answerOfDay 17 = .ok (.ireturn, 1) := by decide +kernel
theorem dX4_answerOfDay_18 : decode cX4_answerOfDay 18 = .ok (.iload_n 2, 1) := by decide +kernel
theorem dX4_answerOfDay_19 : decode cX4_answerOfDay 19 = .ok (.bipush 10, 2) := by decide +kernel
theorem dX4_answerOfDay_21 : decode cX4_answerOfDay 21 = .ok (.if_icmp .lt 20, 3) := by decide +kernel
theorem dX4_answerOfDay_24 : decode cX4_answerOfDay 24 = .ok (.aload_n 0, 1) := by decide +kernel
theorem dX4_answerOfDay_25 : decode cX4_answerOfDay 25 = .ok (.getfield 24, 3) := by decide +kernel
theorem dX4_answerOfDay_28 : decode cX4_answerOfDay 28 = .ok (.iload_n 2, 1) := by decide +kernel
theorem dX4_answerOfDay_29 : decode cX4_answerOfDay 29 = .ok (.bipush 10, 2) := by decide +kernel
theorem dX4_answerOfDay_31 : decode cX4_answerOfDay 31 = .ok (.isub, 1) := by decide +kernel
theorem dX4_answerOfDay_32 : decode cX4_answerOfDay 32 = .ok (.invokevirtual 95, 3) := by decide +kernel
theorem dX4_answerOfDay_35 : decode cX4_answerOfDay 35 = .ok (.ifCond .ne 6, 3) := by decide +kernel
theorem dX4_answerOfDay_38 : decode cX4_answerOfDay 38 = .ok (.bipush (-9), 2) := by decide +kernel
theorem dX4_answerOfDay_40 : decode cX4_answerOfDay 40 = .ok (.ireturn, 1) := by decide +kernel
theorem dX4_answerOfDay_41 : decode cX4_answerOfDay 41 = .ok (.aload_n 0, 1) := by decide +kernel
theorem dX4_answerOfDay_42 : decode cX4_answerOfDay 42 = .ok (.getfield 34, 3) := by decide +kernel
theorem dX4_answerOfDay_45 : decode cX4_answerOfDay 45 = .ok (.aload_n 0, 1) := by decide +kernel
theorem dX4_answerOfDay_46 : decode cX4_answerOfDay 46 = .ok (.getfield 24, 3) := by decide +kernel
theorem dX4_answerOfDay_49 : decode cX4_answerOfDay 49 = .ok (.invokevirtual 262, 3) := by decide +kernel
theorem dX4_answerOfDay_52 : decode cX4_answerOfDay 52 = .ok (.iload_n 2, 1) := by decide +kernel
theorem dX4_answerOfDay_53 : decode cX4_answerOfDay 53 = .ok (.bipush 10, 2) := by decide +kernel
theorem dX4_answerOfDay_55 : decode cX4_answerOfDay 55 = .ok (.if_icmp .lt 15, 3) := by decide +kernel
theorem dX4_answerOfDay_58 : decode cX4_answerOfDay 58 = .ok (.aload_n 0, 1) := by decide +kernel
theorem dX4_answerOfDay_59 : decode cX4_answerOfDay 59 = .ok (.getfield 34, 3) := by decide +kernel
theorem dX4_answerOfDay_62 : decode cX4_answerOfDay 62 = .ok (.iload_n 2, 1) := by decide +kernel
theorem dX4_answerOfDay_63 : decode cX4_answerOfDay 63 = .ok (.bipush 10, 2) := by decide +kernel
theorem dX4_answerOfDay_65 : decode cX4_answerOfDay 65 = .ok (.isub, 1) := by decide +kernel
theorem dX4_answerOfDay_66 : decode cX4_answerOfDay 66 = .ok (.invokevirtual 114, 3) := by decide +kernel
theorem dX4_answerOfDay_69 : decode cX4_answerOfDay 69 = .ok (.ireturn, 1) := by decide +kernel
theorem dX4_answerOfDay_70 : decode cX4_answerOfDay 70 = .ok (.aload_n 0, 1) := by decide +kernel
theorem dX4_answerOfDay_71 : decode cX4_answerOfDay 71 = .ok (.getfield 34, 3) := by decide +kernel
theorem dX4_answerOfDay_74 : decode cX4_answerOfDay 74 = .ok (.iload_n 2, 1) := by decide +kernel
theorem dX4_answerOfDay_75 : decode cX4_answerOfDay 75 = .ok (.ifCond .ne 7, 3) := by decide +kernel
theorem dX4_answerOfDay_78 : decode cX4_answerOfDay 78 = .ok (.iconst 0, 1) := by decide +kernel
theorem dX4_answerOfDay_79 : decode cX4_answerOfDay 79 = .ok (.goto 6, 3) := by decide +kernel
theorem dX4_answerOfDay_82 : decode cX4_answerOfDay 82 = .ok (.iload_n 2, 1) := by decide +kernel
theorem dX4_answerOfDay_83 : decode cX4_answerOfDay 83 = .ok (.iconst 1, 1) := by decide +kernel
theorem dX4_answerOfDay_84 : decode cX4_answerOfDay 84 = .ok (.isub, 1) := by decide +kernel
theorem dX4_answerOfDay_85 : decode cX4_answerOfDay 85 = .ok (.invokevirtual 150, 3) := by decide +kernel
theorem dX4_answerOfDay_88 : decode cX4_answerOfDay 88 = .ok (.ireturn, 1) := by decide +kernel
theorem dX4_readingsHoldIfSupposed_0 : decode cX4_readingsHoldIfSupposed 0 = .ok (.aload_n 0, 1) := by decide +kernel
theorem dX4_readingsHoldIfSupposed_1 : decode cX4_readingsHoldIfSupposed 1 = .ok (.getfield 34, 3) := by decide +kernel
theorem dX4_readingsHoldIfSupposed_4 : decode cX4_readingsHoldIfSupposed 4 = .ok (.aload_n 0, 1) := by decide +kernel
theorem dX4_readingsHoldIfSupposed_5 : decode cX4_readingsHoldIfSupposed 5 = .ok (.getfield 24, 3) := by decide +kernel
theorem dX4_readingsHoldIfSupposed_8 : decode cX4_readingsHoldIfSupposed 8 = .ok (.invokevirtual 194, 3) := by decide +kernel
theorem dX4_readingsHoldIfSupposed_11 : decode cX4_readingsHoldIfSupposed 11 = .ok (.iconst 0, 1) := by decide +kernel
theorem dX4_readingsHoldIfSupposed_12 : decode cX4_readingsHoldIfSupposed 12 = .ok (.istore_n 1, 1) := by decide +kernel
theorem dX4_readingsHoldIfSupposed_13 : decode cX4_readingsHoldIfSupposed 13 = .ok (.iload_n 1, 1) := by decide +kernel
theorem dX4_readingsHoldIfSupposed_14 : decode cX4_readingsHoldIfSupposed 14 = .ok (.aload_n 0, 1) := by decide +kernel
theorem dX4_readingsHoldIfSupposed_15 : decode cX4_readingsHoldIfSupposed 15 = .ok (.getfield 82, 3) := by decide +kernel
theorem dX4_readingsHoldIfSupposed_18 : decode cX4_readingsHoldIfSupposed 18 = .ok (.if_icmp .ge 33, 3) := by decide +kernel
theorem dX4_readingsHoldIfSupposed_21 : decode cX4_readingsHoldIfSupposed 21 = .ok (.aload_n 0, 1) := by decide +kernel
theorem dX4_readingsHoldIfSupposed_22 : decode cX4_readingsHoldIfSupposed 22 = .ok (.getfield 34, 3) := by decide +kernel
theorem dX4_readingsHoldIfSupposed_25 : decode cX4_readingsHoldIfSupposed 25 = .ok (.aload_n 0, 1) := by decide +kernel
theorem dX4_readingsHoldIfSupposed_26 : decode cX4_readingsHoldIfSupposed 26 = .ok (.getfield 44, 3) := by decide +kernel
theorem dX4_readingsHoldIfSupposed_29 : decode cX4_readingsHoldIfSupposed 29 = .ok (.iload_n 1, 1) := by decide +kernel
theorem dX4_readingsHoldIfSupposed_30 : decode cX4_readingsHoldIfSupposed 30 = .ok (.iaload, 1) := by decide +kernel
theorem dX4_readingsHoldIfSupposed_31 : decode cX4_readingsHoldIfSupposed 31 = .ok (.invokevirtual 197, 3) := by decide +kernel
theorem dX4_readingsHoldIfSupposed_34 : decode cX4_readingsHoldIfSupposed 34 = .ok (.aload_n 0, 1) := by decide +kernel
theorem dX4_readingsHoldIfSupposed_35 : decode cX4_readingsHoldIfSupposed 35 = .ok (.getfield 48, 3) := by decide +kernel
theorem dX4_readingsHoldIfSupposed_38 : decode cX4_readingsHoldIfSupposed 38 = .ok (.iload_n 1, 1) := by decide +kernel
theorem dX4_readingsHoldIfSupposed_39 : decode cX4_readingsHoldIfSupposed 39 = .ok (.iaload, 1) := by decide +kernel
theorem dX4_readingsHoldIfSupposed_40 : decode cX4_readingsHoldIfSupposed 40 = .ok (.if_icmp .eq 5, 3) := by decide +kernel
theorem dX4_readingsHoldIfSupposed_43 : decode cX4_readingsHoldIfSupposed 43 = .ok (.iconst 0, 1) := by decide +kernel
theorem dX4_readingsHoldIfSupposed_44 : decode cX4_readingsHoldIfSupposed 44 = .ok (.ireturn, 1) := by decide +kernel
theorem dX4_readingsHoldIfSupposed_45 : decode cX4_readingsHoldIfSupposed 45 = .ok (.iinc 1 1, 3) := by decide +kernel
theorem dX4_readingsHoldIfSupposed_48 : decode cX4_readingsHoldIfSupposed 48 = .ok (.goto (-35), 3) := by decide +kernel
theorem dX4_readingsHoldIfSupposed_51 : decode cX4_readingsHoldIfSupposed 51 = .ok (.iconst 1, 1) := by decide +kernel
theorem dX4_readingsHoldIfSupposed_52 : decode cX4_readingsHoldIfSupposed 52 = .ok (.ireturn, 1) := by decide +kernel
theorem dX4_commonDivisor_0 : decode cX4_commonDivisor 0 = .ok (.iload_n 1, 1) := by decide +kernel
theorem dX4_commonDivisor_1 : decode cX4_commonDivisor 1 = .ok (.istore_n 2, 1) := by decide +kernel
theorem dX4_commonDivisor_2 : decode cX4_commonDivisor 2 = .ok (.iload_n 2, 1) := by decide +kernel
theorem dX4_commonDivisor_3 : decode cX4_commonDivisor 3 = .ok (.iconst 1, 1) := by decide +kernel
theorem dX4_commonDivisor_4 : decode cX4_commonDivisor 4 = .ok (.if_icmp .le 21, 3) := by decide +kernel
theorem dX4_commonDivisor_7 : decode cX4_commonDivisor 7 = .ok (.iload_n 0, 1) := by decide +kernel
theorem dX4_commonDivisor_8 : decode cX4_commonDivisor 8 = .ok (.iload_n 2, 1) := by decide +kernel
theorem dX4_commonDivisor_9 : decode cX4_commonDivisor 9 = .ok (.irem, 1) := by decide +kernel
theorem dX4_commonDivisor_10 : decode cX4_commonDivisor 10 = .ok (.ifCond .ne 9, 3) := by decide +kernel
theorem dX4_commonDivisor_13 : decode cX4_commonDivisor 13 = .ok (.iload_n 1, 1) := by decide +kernel
theorem dX4_commonDivisor_14 : decode cX4_commonDivisor 14 = .ok (.iload_n 2, 1) := by decide +kernel
theorem dX4_commonDivisor_15 : decode cX4_commonDivisor 15 = .ok (.irem, 1) := by decide +kernel
theorem dX4_commonDivisor_16 : decode cX4_commonDivisor 16 = .ok (.ifCond .eq 9, 3) := by decide +kernel
theorem dX4_commonDivisor_19 : decode cX4_commonDivisor 19 = .ok (.iinc 2 (-1), 3) := by decide +kernel
theorem dX4_commonDivisor_22 : decode cX4_commonDivisor 22 = .ok (.goto (-20), 3) := by decide +kernel
theorem dX4_commonDivisor_25 : decode cX4_commonDivisor 25 = .ok (.iload_n 2, 1) := by decide +kernel
theorem dX4_commonDivisor_26 : decode cX4_commonDivisor 26 = .ok (.ireturn, 1) := by decide +kernel
theorem dX4_leaveTrace_0 : decode cX4_leaveTrace 0 = .ok (.aload_n 0, 1) := by decide +kernel
theorem dX4_leaveTrace_1 : decode cX4_leaveTrace 1 = .ok (.bipush 31, 2) := by decide +kernel
theorem dX4_leaveTrace_3 : decode cX4_leaveTrace 3 = .ok (.aload_n 0, 1) := by decide +kernel
theorem dX4_leaveTrace_4 : decode cX4_leaveTrace 4 = .ok (.getfield 247, 3) := by decide +kernel
theorem dX4_leaveTrace_7 : decode cX4_leaveTrace 7 = .ok (.imul, 1) := by decide +kernel
theorem dX4_leaveTrace_8 : decode cX4_leaveTrace 8 = .ok (.iload_n 1, 1) := by decide +kernel
theorem dX4_leaveTrace_9 : decode cX4_leaveTrace 9 = .ok (.iadd, 1) := by decide +kernel
theorem dX4_leaveTrace_10 : decode cX4_leaveTrace 10 = .ok (.putfield 247, 3) := by decide +kernel
theorem dX4_leaveTrace_13 : decode cX4_leaveTrace 13 = .ok (.return_, 1) := by decide +kernel
theorem dX4_plainBody_0 : decode cX4_plainBody 0 = .ok (.aload_n 0, 1) := by decide +kernel
theorem dX4_plainBody_1 : decode cX4_plainBody 1 = .ok (.iconst 1, 1) := by decide +kernel
theorem dX4_plainBody_2 : decode cX4_plainBody 2 = .ok (.invokevirtual 268, 3) := by decide +kernel
theorem dX4_plainBody_5 : decode cX4_plainBody 5 = .ok (.aload_n 0, 1) := by decide +kernel
theorem dX4_plainBody_6 : decode cX4_plainBody 6 = .ok (.getfield 20, 3) := by decide +kernel
theorem dX4_plainBody_9 : decode cX4_plainBody 9 = .ok (.getfield 101, 3) := by decide +kernel
theorem dX4_plainBody_12 : decode cX4_plainBody 12 = .ok (.iload_n 1, 1) := by decide +kernel
theorem dX4_plainBody_13 : decode cX4_plainBody 13 = .ok (.iaload, 1) := by decide +kernel
theorem dX4_plainBody_14 : decode cX4_plainBody 14 = .ok (.ireturn, 1) := by decide +kernel
theorem dX4_longBody_0 : decode cX4_longBody 0 = .ok (.aload_n 0, 1) := by decide +kernel
theorem dX4_longBody_1 : decode cX4_longBody 1 = .ok (.iconst 2, 1) := by decide +kernel
theorem dX4_longBody_2 : decode cX4_longBody 2 = .ok (.invokevirtual 268, 3) := by decide +kernel
theorem dX4_longBody_5 : decode cX4_longBody 5 = .ok (.aload_n 0, 1) := by decide +kernel
theorem dX4_longBody_6 : decode cX4_longBody 6 = .ok (.iload_n 1, 1) := by decide +kernel
theorem dX4_longBody_7 : decode cX4_longBody 7 = .ok (.invokevirtual 238, 3) := by decide +kernel
theorem dX4_longBody_10 : decode cX4_longBody 10 = .ok (.bipush 100, 2) := by decide +kernel
theorem dX4_longBody_12 : decode cX4_longBody 12 = .ok (.iadd, 1) := by decide +kernel
theorem dX4_longBody_13 : decode cX4_longBody 13 = .ok (.ireturn, 1) := by decide +kernel
theorem dX4_doubleBody_0 : decode cX4_doubleBody 0 = .ok (.aload_n 0, 1) := by decide +kernel
theorem dX4_doubleBody_1 : decode cX4_doubleBody 1 = .ok (.iconst 3, 1) := by decide +kernel
theorem dX4_doubleBody_2 : decode cX4_doubleBody 2 = .ok (.invokevirtual 268, 3) := by decide +kernel
theorem dX4_doubleBody_5 : decode cX4_doubleBody 5 = .ok (.aload_n 0, 1) := by decide +kernel
theorem dX4_doubleBody_6 : decode cX4_doubleBody 6 = .ok (.iload_n 1, 1) := by decide +kernel
theorem dX4_doubleBody_7 : decode cX4_doubleBody 7 = .ok (.invokevirtual 235, 3) := by decide +kernel
theorem dX4_doubleBody_10 : decode cX4_doubleBody 10 = .ok (.istore_n 2, 1) := by decide +kernel
theorem dX4_doubleBody_11 : decode cX4_doubleBody 11 = .ok (.iload_n 2, 1) := by decide +kernel
theorem dX4_doubleBody_12 : decode cX4_doubleBody 12 = .ok (.aload_n 0, 1) := by decide +kernel
theorem dX4_doubleBody_13 : decode cX4_doubleBody 13 = .ok (.iload_n 1, 1) := by decide +kernel
theorem dX4_doubleBody_14 : decode cX4_doubleBody 14 = .ok (.invokevirtual 238, 3) := by decide +kernel
theorem dX4_doubleBody_17 : decode cX4_doubleBody 17 = .ok (.iadd, 1) := by decide +kernel
theorem dX4_doubleBody_18 : decode cX4_doubleBody 18 = .ok (.ireturn, 1) := by decide +kernel
theorem dX4_lentBody_0 : decode cX4_lentBody 0 = .ok (.aload_n 0, 1) := by decide +kernel
theorem dX4_lentBody_1 : decode cX4_lentBody 1 = .ok (.iconst 4, 1) := by decide +kernel
theorem dX4_lentBody_2 : decode cX4_lentBody 2 = .ok (.invokevirtual 268, 3) := by decide +kernel
theorem dX4_lentBody_5 : decode cX4_lentBody 5 = .ok (.aload_n 0, 1) := by decide +kernel
theorem dX4_lentBody_6 : decode cX4_lentBody 6 = .ok (.getfield 20, 3) := by decide +kernel
theorem dX4_lentBody_9 : decode cX4_lentBody 9 = .ok (.getfield 107, 3) := by decide +kernel
theorem dX4_lentBody_12 : decode cX4_lentBody 12 = .ok (.iload_n 1, 1) := by decide +kernel
theorem dX4_lentBody_13 : decode cX4_lentBody 13 = .ok (.iaload, 1) := by decide +kernel
theorem dX4_lentBody_14 : decode cX4_lentBody 14 = .ok (.ireturn, 1) := by decide +kernel
theorem dX4_doublesOwnBody_0 : decode cX4_doublesOwnBody 0 = .ok (.aload_n 0, 1) := by decide +kernel
theorem dX4_doublesOwnBody_1 : decode cX4_doublesOwnBody 1 = .ok (.iconst 5, 1) := by decide +kernel
theorem dX4_doublesOwnBody_2 : decode cX4_doublesOwnBody 2 = .ok (.invokevirtual 268, 3) := by decide +kernel
theorem dX4_doublesOwnBody_5 : decode cX4_doublesOwnBody 5 = .ok (.aload_n 0, 1) := by decide +kernel
theorem dX4_doublesOwnBody_6 : decode cX4_doublesOwnBody 6 = .ok (.iload_n 1, 1) := by decide +kernel
theorem dX4_doublesOwnBody_7 : decode cX4_doublesOwnBody 7 = .ok (.invokevirtual 244, 3) := by decide +kernel
theorem dX4_doublesOwnBody_10 : decode cX4_doublesOwnBody 10 = .ok (.bipush 80, 2) := by decide +kernel
theorem dX4_doublesOwnBody_12 : decode cX4_doublesOwnBody 12 = .ok (.iadd, 1) := by decide +kernel
theorem dX4_doublesOwnBody_13 : decode cX4_doublesOwnBody 13 = .ok (.ireturn, 1) := by decide +kernel
theorem dX5_init_0 : decode cX5_init 0 = .ok (.aload_n 0, 1) := by decide +kernel
theorem dX5_init_1 : decode cX5_init 1 = .ok (.invokespecial 1, 3) := by decide +kernel
theorem dX5_init_4 : decode cX5_init 4 = .ok (.aload_n 0, 1) := by decide +kernel
theorem dX5_init_5 : decode cX5_init 5 = .ok (.iconst 4, 1) := by decide +kernel
theorem dX5_init_6 : decode cX5_init 6 = .ok (.newarray .int, 2) := by decide +kernel
theorem dX5_init_8 : decode cX5_init 8 = .ok (.dup, 1) := by decide +kernel
theorem dX5_init_9 : decode cX5_init 9 = .ok (.iconst 0, 1) := by decide +kernel
theorem dX5_init_10 : decode cX5_init 10 = .ok (.bipush (-9), 2) := by decide +kernel
theorem dX5_init_12 : decode cX5_init 12 = .ok (.iastore, 1) := by decide +kernel
theorem dX5_init_13 : decode cX5_init 13 = .ok (.dup, 1) := by decide +kernel
theorem dX5_init_14 : decode cX5_init 14 = .ok (.iconst 1, 1) := by decide +kernel
theorem dX5_init_15 : decode cX5_init 15 = .ok (.bipush (-9), 2) := by decide +kernel
theorem dX5_init_17 : decode cX5_init 17 = .ok (.iastore, 1) := by decide +kernel
theorem dX5_init_18 : decode cX5_init 18 = .ok (.dup, 1) := by decide +kernel
theorem dX5_init_19 : decode cX5_init 19 = .ok (.iconst 2, 1) := by decide +kernel
theorem dX5_init_20 : decode cX5_init 20 = .ok (.bipush (-9), 2) := by decide +kernel
theorem dX5_init_22 : decode cX5_init 22 = .ok (.iastore, 1) := by decide +kernel
theorem dX5_init_23 : decode cX5_init 23 = .ok (.dup, 1) := by decide +kernel
theorem dX5_init_24 : decode cX5_init 24 = .ok (.iconst 3, 1) := by decide +kernel
theorem dX5_init_25 : decode cX5_init 25 = .ok (.bipush (-9), 2) := by decide +kernel
theorem dX5_init_27 : decode cX5_init 27 = .ok (.iastore, 1) := by decide +kernel
theorem dX5_init_28 : decode cX5_init 28 = .ok (.putfield 9, 3) := by decide +kernel
theorem dX5_init_31 : decode cX5_init 31 = .ok (.aload_n 0, 1) := by decide +kernel
theorem dX5_init_32 : decode cX5_init 32 = .ok (.iconst 4, 1) := by decide +kernel
theorem dX5_init_33 : decode cX5_init 33 = .ok (.newarray .int, 2) := by decide +kernel
theorem dX5_init_35 : decode cX5_init 35 = .ok (.putfield 13, 3) := by decide +kernel
theorem dX5_init_38 : decode cX5_init 38 = .ok (.aload_n 0, 1) := by decide +kernel
theorem dX5_init_39 : decode cX5_init 39 = .ok (.sipush 240, 3) := by decide +kernel
theorem dX5_init_42 : decode cX5_init 42 = .ok (.newarray .int, 2) := by decide +kernel
theorem dX5_init_44 : decode cX5_init 44 = .ok (.putfield 16, 3) := by decide +kernel
theorem dX5_init_47 : decode cX5_init 47 = .ok (.aload_n 0, 1) := by decide +kernel
theorem dX5_init_48 : decode cX5_init 48 = .ok (.bipush 7, 2) := by decide +kernel
theorem dX5_init_50 : decode cX5_init 50 = .ok (.newarray .int, 2) := by decide +kernel
theorem dX5_init_52 : decode cX5_init 52 = .ok (.putfield 19, 3) := by decide +kernel
theorem dX5_init_55 : decode cX5_init 55 = .ok (.aload_n 0, 1) := by decide +kernel
theorem dX5_init_56 : decode cX5_init 56 = .ok (.bipush 7, 2) := by decide +kernel
theorem dX5_init_58 : decode cX5_init 58 = .ok (.newarray .int, 2) := by decide +kernel
theorem dX5_init_60 : decode cX5_init 60 = .ok (.putfield 22, 3) := by decide +kernel
theorem dX5_init_63 : decode cX5_init 63 = .ok (.aload_n 0, 1) := by decide +kernel
theorem dX5_init_64 : decode cX5_init 64 = .ok (.bipush 7, 2) := by decide +kernel
theorem dX5_init_66 : decode cX5_init 66 = .ok (.newarray .int, 2) := by decide +kernel
theorem dX5_init_68 : decode cX5_init 68 = .ok (.putfield 25, 3) := by decide +kernel
theorem dX5_init_71 : decode cX5_init 71 = .ok (.aload_n 0, 1) := by decide +kernel
theorem dX5_init_72 : decode cX5_init 72 = .ok (.bipush 7, 2) := by decide +kernel
theorem dX5_init_74 : decode cX5_init 74 = .ok (.newarray .int, 2) := by decide +kernel
theorem dX5_init_76 : decode cX5_init 76 = .ok (.putfield 28, 3) := by decide +kernel
theorem dX5_init_79 : decode cX5_init 79 = .ok (.aload_n 0, 1) := by decide +kernel
theorem dX5_init_80 : decode cX5_init 80 = .ok (.bipush 7, 2) := by decide +kernel
theorem dX5_init_82 : decode cX5_init 82 = .ok (.newarray .int, 2) := by decide +kernel
theorem dX5_init_84 : decode cX5_init 84 = .ok (.putfield 31, 3) := by decide +kernel
theorem dX5_init_87 : decode cX5_init 87 = .ok (.aload_n 0, 1) := by decide +kernel
theorem dX5_init_88 : decode cX5_init 88 = .ok (.bipush 7, 2) := by decide +kernel
theorem dX5_init_90 : decode cX5_init 90 = .ok (.newarray .int, 2) := by decide +kernel
theorem dX5_init_92 : decode cX5_init 92 = .ok (.putfield 34, 3) := by decide +kernel
theorem dX5_init_95 : decode cX5_init 95 = .ok (.aload_n 0, 1) := by decide +kernel
theorem dX5_init_96 : decode cX5_init 96 = .ok (.bipush 14, 2) := by decide +kernel
theorem dX5_init_98 : decode cX5_init 98 = .ok (.newarray .int, 2) := by decide +kernel
theorem dX5_init_100 : decode cX5_init 100 = .ok (.putfield 37, 3) := by decide +kernel
theorem dX5_init_103 : decode cX5_init 103 = .ok (.aload_n 0, 1) := by decide +kernel
theorem dX5_init_104 : decode cX5_init 104 = .ok (.bipush 14, 2) := by decide +kernel
theorem dX5_init_106 : decode cX5_init 106 = .ok (.newarray .int, 2) := by decide +kernel
theorem dX5_init_108 : decode cX5_init 108 = .ok (.putfield 40, 3) := by decide +kernel
theorem dX5_init_111 : decode cX5_init 111 = .ok (.aload_n 0, 1) := by decide +kernel
theorem dX5_init_112 : decode cX5_init 112 = .ok (.bipush 64, 2) := by decide +kernel
theorem dX5_init_114 : decode cX5_init 114 = .ok (.newarray .int, 2) := by decide +kernel
theorem dX5_init_116 : decode cX5_init 116 = .ok (.putfield 43, 3) := by decide +kernel
theorem dX5_init_119 : decode cX5_init 119 = .ok (.aload_n 0, 1) := by decide +kernel
theorem dX5_init_120 : decode cX5_init 120 = .ok (.bipush 64, 2) := by decide +kernel
theorem dX5_init_122 : decode cX5_init 122 = .ok (.newarray .int, 2) := by decide +kernel
theorem dX5_init_124 : decode cX5_init 124 = .ok (.putfield 46, 3) := by decide +kernel
theorem dX5_init_127 : decode cX5_init 127 = .ok (.aload_n 0, 1) := by decide +kernel
theorem dX5_init_128 : decode cX5_init 128 = .ok (.bipush 64, 2) := by decide +kernel
theorem dX5_init_130 : decode cX5_init 130 = .ok (.newarray .int, 2) := by decide +kernel
theorem dX5_init_132 : decode cX5_init 132 = .ok (.putfield 49, 3) := by decide +kernel
theorem dX5_init_135 : decode cX5_init 135 = .ok (.aload_n 0, 1) := by decide +kernel
theorem dX5_init_136 : decode cX5_init 136 = .ok (.bipush 14, 2) := by decide +kernel
theorem dX5_init_138 : decode cX5_init 138 = .ok (.newarray .int, 2) := by decide +kernel
theorem dX5_init_140 : decode cX5_init 140 = .ok (.putfield 52, 3) := by decide +kernel
theorem dX5_init_143 : decode cX5_init 143 = .ok (.aload_n 0, 1) := by decide +kernel
theorem dX5_init_144 : decode cX5_init 144 = .ok (.bipush 14, 2) := by decide +kernel
theorem dX5_init_146 : decode cX5_init 146 = .ok (.newarray .int, 2) := by decide +kernel
theorem dX5_init_148 : decode cX5_init 148 = .ok (.putfield 55, 3) := by decide +kernel
theorem dX5_init_151 : decode cX5_init 151 = .ok (.aload_n 0, 1) := by decide +kernel
theorem dX5_init_152 : decode cX5_init 152 = .ok (.bipush 14, 2) := by decide +kernel
theorem dX5_init_154 : decode cX5_init 154 = .ok (.newarray .int, 2) := by decide +kernel
theorem dX5_init_156 : decode cX5_init 156 = .ok (.putfield 58, 3) := by decide +kernel
theorem dX5_init_159 : decode cX5_init 159 = .ok (.aload_n 0, 1) := by decide +kernel
theorem dX5_init_160 : decode cX5_init 160 = .ok (.bipush 17, 2) := by decide +kernel
theorem dX5_init_162 : decode cX5_init 162 = .ok (.newarray .int, 2) := by decide +kernel
theorem dX5_init_164 : decode cX5_init 164 = .ok (.putfield 61, 3) := by decide +kernel
theorem dX5_init_167 : decode cX5_init 167 = .ok (.aload_n 0, 1) := by decide +kernel
theorem dX5_init_168 : decode cX5_init 168 = .ok (.bipush 8, 2) := by decide +kernel
theorem dX5_init_170 : decode cX5_init 170 = .ok (.newarray .int, 2) := by decide +kernel
theorem dX5_init_172 : decode cX5_init 172 = .ok (.putfield 64, 3) := by decide +kernel
theorem dX5_init_175 : decode cX5_init 175 = .ok (.aload_n 0, 1) := by decide +kernel
theorem dX5_init_176 : decode cX5_init 176 = .ok (.bipush 8, 2) := by decide +kernel
theorem dX5_init_178 : decode cX5_init 178 = .ok (.newarray .int, 2) := by decide +kernel
theorem dX5_init_180 : decode cX5_init 180 = .ok (.putfield 67, 3) := by decide +kernel
theorem dX5_init_183 : decode cX5_init 183 = .ok (.return_, 1) := by decide +kernel
theorem dX5_fails_0 : decode cX5_fails 0 = .ok (.aload_n 0, 1) := by decide +kernel
theorem dX5_fails_1 : decode cX5_fails 1 = .ok (.iload_n 1, 1) := by decide +kernel
theorem dX5_fails_2 : decode cX5_fails 2 = .ok (.putfield 70, 3) := by decide +kernel
theorem dX5_fails_5 : decode cX5_fails 5 = .ok (.bipush (-10), 2) := by decide +kernel
theorem dX5_fails_7 : decode cX5_fails 7 = .ok (.iload_n 1, 1) := by decide +kernel
theorem dX5_fails_8 : decode cX5_fails 8 = .ok (.isub, 1) := by decide +kernel
theorem dX5_fails_9 : decode cX5_fails 9 = .ok (.ireturn, 1) := by decide +kernel
theorem dX5_lost_0 : decode cX5_lost 0 = .ok (.aload_n 0, 1) := by decide +kernel
theorem dX5_lost_1 : decode cX5_lost 1 = .ok (.iload_n 1, 1) := by decide +kernel
theorem dX5_lost_2 : decode cX5_lost 2 = .ok (.putfield 70, 3) := by decide +kernel
theorem dX5_lost_5 : decode cX5_lost 5 = .ok (.ldc2_w 74, 3) := by decide +kernel
theorem dX5_lost_8 : decode cX5_lost 8 = .ok (.lreturn, 1) := by decide +kernel
theorem dX5_within_0 : decode cX5_within 0 = .ok (.iload_n 0, 1) := by decide +kernel
theorem dX5_within_1 : decode cX5_within 1 = .ok (.iload_n 1, 1) := by decide +kernel
theorem dX5_within_2 : decode cX5_within 2 = .ok (.if_icmp .lt 12, 3) := by decide +kernel
theorem dX5_within_5 : decode cX5_within 5 = .ok (.iload_n 0, 1) := by decide +kernel
theorem dX5_within_6 : decode cX5_within 6 = .ok (.iload_n 2, 1) := by decide +kernel
theorem dX5_within_7 : decode cX5_within 7 = .ok (.if_icmp .gt 7, 3) := by decide +kernel
theorem dX5_within_10 : decode cX5_within 10 = .ok (.iconst 1, 1) := by decide +kernel
theorem dX5_within_11 : decode cX5_within 11 = .ok (.goto 4, 3) := by decide +kernel
theorem dX5_within_14 : decode cX5_within 14 = .ok (.iconst 0, 1) := by decide +kernel
theorem dX5_within_15 : decode cX5_within 15 = .ok (.ireturn, 1) := by decide +kernel
theorem dX5_isSheet_0 : decode cX5_isSheet 0 = .ok (.iload_n 0, 1) := by decide +kernel
theorem dX5_isSheet_1 : decode cX5_isSheet 1 = .ok (.iconst 0, 1) := by decide +kernel
theorem dX5_isSheet_2 : decode cX5_isSheet 2 = .ok (.iconst 3, 1) := by decide +kernel
theorem dX5_isSheet_3 : decode cX5_isSheet 3 = .ok (.invokestatic 76, 3) := by decide +kernel
theorem dX5_isSheet_6 : decode cX5_isSheet 6 = .ok (.ireturn, 1) := by decide +kernel
theorem dX5_isSort_0 : decode cX5_isSort 0 = .ok (.iload_n 0, 1) := by decide +kernel
theorem dX5_isSort_1 : decode cX5_isSort 1 = .ok (.iconst 0, 1) := by decide +kernel
theorem dX5_isSort_2 : decode cX5_isSort 2 = .ok (.iconst 2, 1) := by decide +kernel
theorem dX5_isSort_3 : decode cX5_isSort 3 = .ok (.invokestatic 76, 3) := by decide +kernel
theorem dX5_isSort_6 : decode cX5_isSort 6 = .ok (.ireturn, 1) := by decide +kernel
theorem dX5_against_0 : decode cX5_against 0 = .ok (.aload_n 0, 1) := by decide +kernel
theorem dX5_against_1 : decode cX5_against 1 = .ok (.getfield 9, 3) := by decide +kernel
theorem dX5_against_4 : decode cX5_against 4 = .ok (.iload_n 1, 1) := by decide +kernel
theorem dX5_against_5 : decode cX5_against 5 = .ok (.iaload, 1) := by decide +kernel
theorem dX5_against_6 : decode cX5_against 6 = .ok (.bipush (-9), 2) := by decide +kernel
theorem dX5_against_8 : decode cX5_against 8 = .ok (.if_icmp .eq 15, 3) := by decide +kernel
theorem dX5_against_11 : decode cX5_against 11 = .ok (.aload_n 0, 1) := by decide +kernel
theorem dX5_against_12 : decode cX5_against 12 = .ok (.getfield 9, 3) := by decide +kernel
theorem dX5_against_15 : decode cX5_against 15 = .ok (.iload_n 1, 1) := by decide +kernel
theorem dX5_against_16 : decode cX5_against 16 = .ok (.iaload, 1) := by decide +kernel
theorem dX5_against_17 : decode cX5_against 17 = .ok (.iload_n 2, 1) := by decide +kernel
theorem dX5_against_18 : decode cX5_against 18 = .ok (.if_icmp .eq 5, 3) := by decide +kernel
theorem dX5_against_21 : decode cX5_against 21 = .ok (.iconst 2, 1) := by decide +kernel
theorem dX5_against_22 : decode cX5_against 22 = .ok (.ireturn, 1) := by decide +kernel
theorem dX5_against_23 : decode cX5_against 23 = .ok (.aload_n 0, 1) := by decide +kernel
theorem dX5_against_24 : decode cX5_against 24 = .ok (.getfield 9, 3) := by decide +kernel
theorem dX5_against_27 : decode cX5_against 27 = .ok (.iload_n 1, 1) := by decide +kernel
theorem dX5_against_28 : decode cX5_against 28 = .ok (.iaload, 1) := by decide +kernel
theorem dX5_against_29 : decode cX5_against 29 = .ok (.bipush (-9), 2) := by decide +kernel
theorem dX5_against_31 : decode cX5_against 31 = .ok (.if_icmp .ne 5, 3) := by decide +kernel
theorem dX5_against_34 : decode cX5_against 34 = .ok (.iconst 1, 1) := by decide +kernel
theorem dX5_against_35 : decode cX5_against 35 = .ok (.ireturn, 1) := by decide +kernel
theorem dX5_against_36 : decode cX5_against 36 = .ok (.iload 4, 2) := by decide +kernel
theorem dX5_against_38 : decode cX5_against 38 = .ok (.ifCond .ge 5, 3) := by decide +kernel
theorem dX5_against_41 : decode cX5_against 41 = .ok (.iconst 4, 1) := by decide +kernel
theorem dX5_against_42 : decode cX5_against 42 = .ok (.ireturn, 1) := by decide +kernel
theorem dX5_against_43 : decode cX5_against 43 = .ok (.iload_n 3, 1) := by decide +kernel
theorem dX5_against_44 : decode cX5_against 44 = .ok (.ifCond .lt 26, 3) := by decide +kernel
theorem dX5_against_47 : decode cX5_against 47 = .ok (.iload_n 3, 1) := by decide +kernel
theorem dX5_against_48 : decode cX5_against 48 = .ok (.aload_n 0, 1) := by decide +kernel
theorem dX5_against_49 : decode cX5_against 49 = .ok (.getfield 13, 3) := by decide +kernel
theorem dX5_against_52 : decode cX5_against 52 = .ok (.iload_n 1, 1) := by decide +kernel
theorem dX5_against_53 : decode cX5_against 53 = .ok (.iaload, 1) := by decide +kernel
theorem dX5_against_54 : decode cX5_against 54 = .ok (.if_icmp .gt 16, 3) := by decide +kernel
theorem dX5_against_57 : decode cX5_against 57 = .ok (.iload 4, 2) := by decide +kernel
theorem dX5_against_59 : decode cX5_against 59 = .ok (.aload_n 0, 1) := by decide +kernel
theorem dX5_against_60 : decode cX5_against 60 = .ok (.getfield 13, 3) := by decide +kernel
theorem dX5_against_63 : decode cX5_against 63 = .ok (.iload_n 1, 1) := by decide +kernel
theorem dX5_against_64 : decode cX5_against 64 = .ok (.iaload, 1) := by decide +kernel
theorem dX5_against_65 : decode cX5_against 65 = .ok (.iload_n 3, 1) := by decide +kernel
theorem dX5_against_66 : decode cX5_against 66 = .ok (.isub, 1) := by decide +kernel
theorem dX5_against_67 : decode cX5_against 67 = .ok (.if_icmp .le 7, 3) := by decide +kernel
theorem dX5_against_70 : decode cX5_against 70 = .ok (.iconst 3, 1) := by decide +kernel
theorem dX5_against_71 : decode cX5_against 71 = .ok (.goto 4, 3) := by decide +kernel
theorem dX5_against_74 : decode cX5_against 74 = .ok (.iconst 0, 1) := by decide +kernel
theorem dX5_against_75 : decode cX5_against 75 = .ok (.ireturn, 1) := by decide +kernel
theorem dX5_isLeft_0 : decode cX5_isLeft 0 = .ok (.iload_n 1, 1) := by decide +kernel
theorem dX5_isLeft_1 : decode cX5_isLeft 1 = .ok (.ifCond .lt 15, 3) := by decide +kernel
theorem dX5_isLeft_4 : decode cX5_isLeft 4 = .ok (.iload_n 1, 1) := by decide +kernel
theorem dX5_isLeft_5 : decode cX5_isLeft 5 = .ok (.aload_n 0, 1) := by decide +kernel
theorem dX5_isLeft_6 : decode cX5_isLeft 6 = .ok (.getfield 80, 3) := by decide +kernel
theorem dX5_isLeft_9 : decode cX5_isLeft 9 = .ok (.if_icmp .ge 7, 3) := by decide +kernel
theorem dX5_isLeft_12 : decode cX5_isLeft 12 = .ok (.iconst 1, 1) := by decide +kernel
theorem dX5_isLeft_13 : decode cX5_isLeft 13 = .ok (.goto 4, 3) := by decide +kernel
theorem dX5_isLeft_16 : decode cX5_isLeft 16 = .ok (.iconst 0, 1) := by decide +kernel
theorem dX5_isLeft_17 : decode cX5_isLeft 17 = .ok (.ireturn, 1) := by decide +kernel
theorem dX5_isRight_0 : decode cX5_isRight 0 = .ok (.iload_n 1, 1) := by decide +kernel
theorem dX5_isRight_1 : decode cX5_isRight 1 = .ok (.ifCond .lt 15, 3) := by decide +kernel
theorem dX5_isRight_4 : decode cX5_isRight 4 = .ok (.iload_n 1, 1) := by decide +kernel
theorem dX5_isRight_5 : decode cX5_isRight 5 = .ok (.aload_n 0, 1) := by decide +kernel
theorem dX5_isRight_6 : decode cX5_isRight 6 = .ok (.getfield 83, 3) := by decide +kernel
theorem dX5_isRight_9 : decode cX5_isRight 9 = .ok (.if_icmp .ge 7, 3) := by decide +kernel
theorem dX5_isRight_12 : decode cX5_isRight 12 = .ok (.iconst 1, 1) := by decide +kernel
theorem dX5_isRight_13 : decode cX5_isRight 13 = .ok (.goto 4, 3) := by decide +kernel
theorem dX5_isRight_16 : decode cX5_isRight 16 = .ok (.iconst 0, 1) := by decide +kernel
theorem dX5_isRight_17 : decode cX5_isRight 17 = .ok (.ireturn, 1) := by decide +kernel
theorem dX5_isSign_0 : decode cX5_isSign 0 = .ok (.aload_n 0, 1) := by decide +kernel
theorem dX5_isSign_1 : decode cX5_isSign 1 = .ok (.getfield 86, 3) := by decide +kernel
theorem dX5_isSign_4 : decode cX5_isSign 4 = .ok (.iload_n 1, 1) := by decide +kernel
theorem dX5_isSign_5 : decode cX5_isSign 5 = .ok (.if_icmp .ge 16, 3) := by decide +kernel
theorem dX5_isSign_8 : decode cX5_isSign 8 = .ok (.aload_n 0, 1) := by decide +kernel
theorem dX5_isSign_9 : decode cX5_isSign 9 = .ok (.getfield 16, 3) := by decide +kernel
theorem dX5_isSign_12 : decode cX5_isSign 12 = .ok (.aload_n 0, 1) := by decide +kernel
theorem dX5_isSign_13 : decode cX5_isSign 13 = .ok (.getfield 86, 3) := by decide +kernel
theorem dX5_isSign_16 : decode cX5_isSign 16 = .ok (.iaload, 1) := by decide +kernel
theorem dX5_isSign_17 : decode cX5_isSign 17 = .ok (.iload_n 2, 1) := by decide +kernel
theorem dX5_isSign_18 : decode cX5_isSign 18 = .ok (.if_icmp .eq 5, 3) := by decide +kernel
theorem dX5_isSign_21 : decode cX5_isSign 21 = .ok (.iconst 0, 1) := by decide +kernel
theorem dX5_isSign_22 : decode cX5_isSign 22 = .ok (.ireturn, 1) := by decide +kernel
theorem dX5_isSign_23 : decode cX5_isSign 23 = .ok (.aload_n 0, 1) := by decide +kernel
theorem dX5_isSign_24 : decode cX5_isSign 24 = .ok (.dup, 1) := by decide +kernel
theorem dX5_isSign_25 : decode cX5_isSign 25 = .ok (.getfield 86, 3) := by decide +kernel
theorem dX5_isSign_28 : decode cX5_isSign 28 = .ok (.iconst 1, 1) := by decide +kernel
theorem dX5_isSign_29 : decode cX5_isSign 29 = .ok (.iadd, 1) := by decide +kernel
theorem dX5_isSign_30 : decode cX5_isSign 30 = .ok (.putfield 86, 3) := by decide +kernel
theorem dX5_isSign_33 : decode cX5_isSign 33 = .ok (.iconst 1, 1) := by decide +kernel
theorem dX5_isSign_34 : decode cX5_isSign 34 = .ok (.ireturn, 1) := by decide +kernel
theorem dX5_books_0 : decode cX5_books 0 = .ok (.aload_n 0, 1) := by decide +kernel
theorem dX5_books_1 : decode cX5_books 1 = .ok (.iconst 0, 1) := by decide +kernel
theorem dX5_books_2 : decode cX5_books 2 = .ok (.putfield 70, 3) := by decide +kernel
theorem dX5_books_5 : decode cX5_books 5 = .ok (.iload_n 1, 1) := by decide +kernel
theorem dX5_books_6 : decode cX5_books 6 = .ok (.invokestatic 89, 3) := by decide +kernel
theorem dX5_books_9 : decode cX5_books 9 = .ok (.ifCond .ne 5, 3) := by decide +kernel
theorem dX5_books_12 : decode cX5_books 12 = .ok (.iconst (-1), 1) := by decide +kernel
theorem dX5_books_13 : decode cX5_books 13 = .ok (.ireturn, 1) := by decide +kernel
theorem dX5_books_14 : decode cX5_books 14 = .ok (.iload_n 2, 1) := by decide +kernel
theorem dX5_books_15 : decode cX5_books 15 = .ok (.invokestatic 93, 3) := by decide +kernel
theorem dX5_books_18 : decode cX5_books 18 = .ok (.ifCond .ne 6, 3) := by decide +kernel
theorem dX5_books_21 : decode cX5_books 21 = .ok (.bipush (-2), 2) := by decide +kernel
theorem dX5_books_23 : decode cX5_books 23 = .ok (.ireturn, 1) := by decide +kernel
theorem dX5_books_24 : decode cX5_books 24 = .ok (.aload_n 0, 1) := by decide +kernel
theorem dX5_books_25 : decode cX5_books 25 = .ok (.iload_n 1, 1) := by decide +kernel
theorem dX5_books_26 : decode cX5_books 26 = .ok (.iload_n 2, 1) := by decide +kernel
theorem dX5_books_27 : decode cX5_books 27 = .ok (.iload_n 3, 1) := by decide +kernel
theorem dX5_books_28 : decode cX5_books 28 = .ok (.iload 4, 2) := by decide +kernel
theorem dX5_books_30 : decode cX5_books 30 = .ok (.invokevirtual 96, 3) := by decide +kernel
theorem dX5_books_33 : decode cX5_books 33 = .ok (.istore 5, 2) := by decide +kernel
theorem dX5_books_35 : decode cX5_books 35 = .ok (.iload 5, 2) := by decide +kernel
theorem dX5_books_37 : decode cX5_books 37 = .ok (.ifCond .eq 10, 3) := by decide +kernel
theorem dX5_books_40 : decode cX5_books 40 = .ok (.aload_n 0, 1) := by decide +kernel
theorem dX5_books_41 : decode cX5_books 41 = .ok (.iload 5, 2) := by decide +kernel
theorem dX5_books_43 : decode cX5_books 43 = .ok (.invokevirtual 100, 3) := by decide +kernel
theorem dX5_books_46 : decode cX5_books 46 = .ok (.ireturn, 1) := by decide +kernel
theorem dX5_books_47 : decode cX5_books 47 = .ok (.bipush 60, 2) := by decide +kernel
theorem dX5_books_49 : decode cX5_books 49 = .ok (.iload_n 1, 1) := by decide +kernel
theorem dX5_books_50 : decode cX5_books 50 = .ok (.imul, 1) := by decide +kernel
theorem dX5_books_51 : decode cX5_books 51 = .ok (.iload_n 3, 1) := by decide +kernel
theorem dX5_books_52 : decode cX5_books 52 = .ok (.iadd, 1) := by decide +kernel
theorem dX5_books_53 : decode cX5_books 53 = .ok (.istore 6, 2) := by decide +kernel
theorem dX5_books_55 : decode cX5_books 55 = .ok (.aload_n 0, 1) := by decide +kernel
theorem dX5_books_56 : decode cX5_books 56 = .ok (.iload 6, 2) := by decide +kernel
theorem dX5_books_58 : decode cX5_books 58 = .ok (.putfield 86, 3) := by decide +kernel
theorem dX5_books_61 : decode cX5_books 61 = .ok (.aload_n 0, 1) := by decide +kernel
theorem dX5_books_62 : decode cX5_books 62 = .ok (.iload 6, 2) := by decide +kernel
theorem dX5_books_64 : decode cX5_books 64 = .ok (.iload 4, 2) := by decide +kernel
theorem dX5_books_66 : decode cX5_books 66 = .ok (.iadd, 1) := by decide +kernel
theorem dX5_books_67 : decode cX5_books 67 = .ok (.invokevirtual 104, 3) := by decide +kernel
theorem dX5_books_70 : decode cX5_books 70 = .ok (.ifCond .ne 14, 3) := by decide +kernel
theorem dX5_books_73 : decode cX5_books 73 = .ok (.bipush (-100), 2) := by decide +kernel
theorem dX5_books_75 : decode cX5_books 75 = .ok (.aload_n 0, 1) := by decide +kernel
theorem dX5_books_76 : decode cX5_books 76 = .ok (.getfield 86, 3) := by decide +kernel
theorem dX5_books_79 : decode cX5_books 79 = .ok (.iload 6, 2) := by decide +kernel
theorem dX5_books_81 : decode cX5_books 81 = .ok (.isub, 1) := by decide +kernel
theorem dX5_books_82 : decode cX5_books 82 = .ok (.isub, 1) := by decide +kernel
theorem dX5_books_83 : decode cX5_books 83 = .ok (.ireturn, 1) := by decide +kernel
theorem dX5_books_84 : decode cX5_books 84 = .ok (.aload_n 0, 1) := by decide +kernel
theorem dX5_books_85 : decode cX5_books 85 = .ok (.aload_n 0, 1) := by decide +kernel
theorem dX5_books_86 : decode cX5_books 86 = .ok (.getfield 107, 3) := by decide +kernel
theorem dX5_books_89 : decode cX5_books 89 = .ok (.putfield 80, 3) := by decide +kernel
theorem dX5_books_92 : decode cX5_books 92 = .ok (.aload_n 0, 1) := by decide +kernel
theorem dX5_books_93 : decode cX5_books 93 = .ok (.aload_n 0, 1) := by decide +kernel
theorem dX5_books_94 : decode cX5_books 94 = .ok (.getfield 110, 3) := by decide +kernel
theorem dX5_books_97 : decode cX5_books 97 = .ok (.putfield 83, 3) := by decide +kernel
theorem dX5_books_100 : decode cX5_books 100 = .ok (.iconst 0, 1) := by decide +kernel
theorem dX5_books_101 : decode cX5_books 101 = .ok (.istore 7, 2) := by decide +kernel
theorem dX5_books_103 : decode cX5_books 103 = .ok (.iload 7, 2) := by decide +kernel
theorem dX5_books_105 : decode cX5_books 105 = .ok (.bipush 7, 2) := by decide +kernel
theorem dX5_books_107 : decode cX5_books 107 = .ok (.if_icmp .ge 85, 3) := by decide +kernel
theorem dX5_books_110 : decode cX5_books 110 = .ok (.aload_n 0, 1) := by decide +kernel
theorem dX5_books_111 : decode cX5_books 111 = .ok (.getfield 19, 3) := by decide +kernel
theorem dX5_books_114 : decode cX5_books 114 = .ok (.iload 7, 2) := by decide +kernel
theorem dX5_books_116 : decode cX5_books 116 = .ok (.aload_n 0, 1) := by decide +kernel
theorem dX5_books_117 : decode cX5_books 117 = .ok (.getfield 34, 3) := by decide +kernel
theorem dX5_books_120 : decode cX5_books 120 = .ok (.iload 7, 2) := by decide +kernel
theorem dX5_books_122 : decode cX5_books 122 = .ok (.iaload, 1) := by decide +kernel
theorem dX5_books_123 : decode cX5_books 123 = .ok (.iastore, 1) := by decide +kernel
theorem dX5_books_124 : decode cX5_books 124 = .ok (.aload_n 0, 1) := by decide +kernel
theorem dX5_books_125 : decode cX5_books 125 = .ok (.getfield 22, 3) := by decide +kernel
theorem dX5_books_128 : decode cX5_books 128 = .ok (.iload 7, 2) := by decide +kernel
theorem dX5_books_130 : decode cX5_books 130 = .ok (.aload_n 0, 1) := by decide +kernel
theorem dX5_books_131 : decode cX5_books 131 = .ok (.getfield 37, 3) := by decide +kernel
theorem dX5_books_134 : decode cX5_books 134 = .ok (.iload 7, 2) := by decide +kernel
theorem dX5_books_136 : decode cX5_books 136 = .ok (.iaload, 1) := by decide +kernel
theorem dX5_books_137 : decode cX5_books 137 = .ok (.iastore, 1) := by decide +kernel
theorem dX5_books_138 : decode cX5_books 138 = .ok (.aload_n 0, 1) := by decide +kernel
theorem dX5_books_139 : decode cX5_books 139 = .ok (.getfield 25, 3) := by decide +kernel
theorem dX5_books_142 : decode cX5_books 142 = .ok (.iload 7, 2) := by decide +kernel
theorem dX5_books_144 : decode cX5_books 144 = .ok (.aload_n 0, 1) := by decide +kernel
theorem dX5_books_145 : decode cX5_books 145 = .ok (.getfield 40, 3) := by decide +kernel
theorem dX5_books_148 : decode cX5_books 148 = .ok (.iload 7, 2) := by decide +kernel
theorem dX5_books_150 : decode cX5_books 150 = .ok (.iaload, 1) := by decide +kernel
theorem dX5_books_151 : decode cX5_books 151 = .ok (.iastore, 1) := by decide +kernel
theorem dX5_books_152 : decode cX5_books 152 = .ok (.aload_n 0, 1) := by decide +kernel
theorem dX5_books_153 : decode cX5_books 153 = .ok (.getfield 28, 3) := by decide +kernel
theorem dX5_books_156 : decode cX5_books 156 = .ok (.iload 7, 2) := by decide +kernel
theorem dX5_books_158 : decode cX5_books 158 = .ok (.aload_n 0, 1) := by decide +kernel
theorem dX5_books_159 : decode cX5_books 159 = .ok (.getfield 37, 3) := by decide +kernel
theorem dX5_books_162 : decode cX5_books 162 = .ok (.bipush 7, 2) := by decide +kernel
theorem dX5_books_164 : decode cX5_books 164 = .ok (.iload 7, 2) := by decide +kernel
theorem dX5_books_166 : decode cX5_books 166 = .ok (.iadd, 1) := by decide +kernel
theorem dX5_books_167 : decode cX5_books 167 = .ok (.iaload, 1) := by decide +kernel
theorem dX5_books_168 : decode cX5_books 168 = .ok (.iastore, 1) := by decide +kernel
theorem dX5_books_169 : decode cX5_books 169 = .ok (.aload_n 0, 1) := by decide +kernel
theorem dX5_books_170 : decode cX5_books 170 = .ok (.getfield 31, 3) := by decide +kernel
theorem dX5_books_173 : decode cX5_books 173 = .ok (.iload 7, 2) := by decide +kernel
theorem dX5_books_175 : decode cX5_books 175 = .ok (.aload_n 0, 1) := by decide +kernel
theorem dX5_books_176 : decode cX5_books 176 = .ok (.getfield 40, 3) := by decide +kernel
theorem dX5_books_179 : decode cX5_books 179 = .ok (.bipush 7, 2) := by decide +kernel
theorem dX5_books_181 : decode cX5_books 181 = .ok (.iload 7, 2) := by decide +kernel
theorem dX5_books_183 : decode cX5_books 183 = .ok (.iadd, 1) := by decide +kernel
theorem dX5_books_184 : decode cX5_books 184 = .ok (.iaload, 1) := by decide +kernel
theorem dX5_books_185 : decode cX5_books 185 = .ok (.iastore, 1) := by decide +kernel
theorem dX5_books_186 : decode cX5_books 186 = .ok (.iinc 7 1, 3) := by decide +kernel
theorem dX5_books_189 : decode cX5_books 189 = .ok (.goto (-86), 3) := by decide +kernel
theorem dX5_books_192 : decode cX5_books 192 = .ok (.aload_n 0, 1) := by decide +kernel
theorem dX5_books_193 : decode cX5_books 193 = .ok (.iconst 4, 1) := by decide +kernel
theorem dX5_books_194 : decode cX5_books 194 = .ok (.putfield 113, 3) := by decide +kernel
theorem dX5_books_197 : decode cX5_books 197 = .ok (.aload_n 0, 1) := by decide +kernel
theorem dX5_books_198 : decode cX5_books 198 = .ok (.iconst 1, 1) := by decide +kernel
theorem dX5_books_199 : decode cX5_books 199 = .ok (.putfield 116, 3) := by decide +kernel
theorem dX5_books_202 : decode cX5_books 202 = .ok (.aload_n 0, 1) := by decide +kernel
theorem dX5_books_203 : decode cX5_books 203 = .ok (.bipush 7, 2) := by decide +kernel
theorem dX5_books_205 : decode cX5_books 205 = .ok (.putfield 119, 3) := by decide +kernel
theorem dX5_books_208 : decode cX5_books 208 = .ok (.aload_n 0, 1) := by decide +kernel
theorem dX5_books_209 : decode cX5_books 209 = .ok (.iconst 0, 1) := by decide +kernel
theorem dX5_books_210 : decode cX5_books 210 = .ok (.putfield 122, 3) := by decide +kernel
theorem dX5_books_213 : decode cX5_books 213 = .ok (.aload_n 0, 1) := by decide +kernel
theorem dX5_books_214 : decode cX5_books 214 = .ok (.getfield 80, 3) := by decide +kernel
theorem dX5_books_217 : decode cX5_books 217 = .ok (.aload_n 0, 1) := by decide +kernel
theorem dX5_books_218 : decode cX5_books 218 = .ok (.getfield 83, 3) := by decide +kernel
theorem dX5_books_221 : decode cX5_books 221 = .ok (.iadd, 1) := by decide +kernel
theorem dX5_books_222 : decode cX5_books 222 = .ok (.ireturn, 1) := by decide +kernel
theorem dX5_readAll_0 : decode cX5_readAll 0 = .ok (.aload_n 0, 1) := by decide +kernel
theorem dX5_readAll_1 : decode cX5_readAll 1 = .ok (.iconst 0, 1) := by decide +kernel
theorem dX5_readAll_2 : decode cX5_readAll 2 = .ok (.putfield 107, 3) := by decide +kernel
theorem dX5_readAll_5 : decode cX5_readAll 5 = .ok (.aload_n 0, 1) := by decide +kernel
theorem dX5_readAll_6 : decode cX5_readAll 6 = .ok (.iconst 0, 1) := by decide +kernel
theorem dX5_readAll_7 : decode cX5_readAll 7 = .ok (.putfield 110, 3) := by decide +kernel
theorem dX5_readAll_10 : decode cX5_readAll 10 = .ok (.aload_n 0, 1) := by decide +kernel
theorem dX5_readAll_11 : decode cX5_readAll 11 = .ok (.iload_n 1, 1) := by decide +kernel
theorem dX5_readAll_12 : decode cX5_readAll 12 = .ok (.bipush 98, 2) := by decide +kernel
theorem dX5_readAll_14 : decode cX5_readAll 14 = .ok (.invokevirtual 125, 3) := by decide +kernel
theorem dX5_readAll_17 : decode cX5_readAll 17 = .ok (.ifCond .ne 5, 3) := by decide +kernel
theorem dX5_readAll_20 : decode cX5_readAll 20 = .ok (.iconst 0, 1) := by decide +kernel
theorem dX5_readAll_21 : decode cX5_readAll 21 = .ok (.ireturn, 1) := by decide +kernel
theorem dX5_readAll_22 : decode cX5_readAll 22 = .ok (.aload_n 0, 1) := by decide +kernel
theorem dX5_readAll_23 : decode cX5_readAll 23 = .ok (.getfield 107, 3) := by decide +kernel
theorem dX5_readAll_26 : decode cX5_readAll 26 = .ok (.ifCond .eq 34, 3) := by decide +kernel
theorem dX5_readAll_29 : decode cX5_readAll 29 = .ok (.aload_n 0, 1) := by decide +kernel
theorem dX5_readAll_30 : decode cX5_readAll 30 = .ok (.getfield 107, 3) := by decide +kernel
theorem dX5_readAll_33 : decode cX5_readAll 33 = .ok (.bipush 7, 2) := by decide +kernel
theorem dX5_readAll_35 : decode cX5_readAll 35 = .ok (.if_icmp .ge 70, 3) := by decide +kernel
theorem dX5_readAll_38 : decode cX5_readAll 38 = .ok (.aload_n 0, 1) := by decide +kernel
theorem dX5_readAll_39 : decode cX5_readAll 39 = .ok (.getfield 86, 3) := by decide +kernel
theorem dX5_readAll_42 : decode cX5_readAll 42 = .ok (.iload_n 1, 1) := by decide +kernel
theorem dX5_readAll_43 : decode cX5_readAll 43 = .ok (.if_icmp .ge 62, 3) := by decide +kernel
theorem dX5_readAll_46 : decode cX5_readAll 46 = .ok (.aload_n 0, 1) := by decide +kernel
theorem dX5_readAll_47 : decode cX5_readAll 47 = .ok (.getfield 16, 3) := by decide +kernel
theorem dX5_readAll_50 : decode cX5_readAll 50 = .ok (.aload_n 0, 1) := by decide +kernel
theorem dX5_readAll_51 : decode cX5_readAll 51 = .ok (.getfield 86, 3) := by decide +kernel
theorem dX5_readAll_54 : decode cX5_readAll 54 = .ok (.iaload, 1) := by decide +kernel
theorem dX5_readAll_55 : decode cX5_readAll 55 = .ok (.bipush 59, 2) := by decide +kernel
theorem dX5_readAll_57 : decode cX5_readAll 57 = .ok (.if_icmp .ne 48, 3) := by decide +kernel
theorem dX5_readAll_60 : decode cX5_readAll 60 = .ok (.aload_n 0, 1) := by decide +kernel
theorem dX5_readAll_61 : decode cX5_readAll 61 = .ok (.iload_n 1, 1) := by decide +kernel
theorem dX5_readAll_62 : decode cX5_readAll 62 = .ok (.bipush 59, 2) := by decide +kernel
theorem dX5_readAll_64 : decode cX5_readAll 64 = .ok (.invokevirtual 125, 3) := by decide +kernel
theorem dX5_readAll_67 : decode cX5_readAll 67 = .ok (.ifCond .eq 23, 3) := by decide +kernel
theorem dX5_readAll_70 : decode cX5_readAll 70 = .ok (.aload_n 0, 1) := by decide +kernel
theorem dX5_readAll_71 : decode cX5_readAll 71 = .ok (.iload_n 1, 1) := by decide +kernel
theorem dX5_readAll_72 : decode cX5_readAll 72 = .ok (.invokevirtual 129, 3) := by decide +kernel
theorem dX5_readAll_75 : decode cX5_readAll 75 = .ok (.ifCond .eq 15, 3) := by decide +kernel
theorem dX5_readAll_78 : decode cX5_readAll 78 = .ok (.aload_n 0, 1) := by decide +kernel
theorem dX5_readAll_79 : decode cX5_readAll 79 = .ok (.iload_n 1, 1) := by decide +kernel
theorem dX5_readAll_80 : decode cX5_readAll 80 = .ok (.aload_n 0, 1) := by decide +kernel
theorem dX5_readAll_81 : decode cX5_readAll 81 = .ok (.getfield 107, 3) := by decide +kernel
theorem dX5_readAll_84 : decode cX5_readAll 84 = .ok (.invokevirtual 132, 3) := by decide +kernel
theorem dX5_readAll_87 : decode cX5_readAll 87 = .ok (.ifCond .ne 5, 3) := by decide +kernel
theorem dX5_readAll_90 : decode cX5_readAll 90 = .ok (.iconst 0, 1) := by decide +kernel
theorem dX5_readAll_91 : decode cX5_readAll 91 = .ok (.ireturn, 1) := by decide +kernel
theorem dX5_readAll_92 : decode cX5_readAll 92 = .ok (.aload_n 0, 1) := by decide +kernel
theorem dX5_readAll_93 : decode cX5_readAll 93 = .ok (.dup, 1) := by decide +kernel
theorem dX5_readAll_94 : decode cX5_readAll 94 = .ok (.getfield 107, 3) := by decide +kernel
theorem dX5_readAll_97 : decode cX5_readAll 97 = .ok (.iconst 1, 1) := by decide +kernel
theorem dX5_readAll_98 : decode cX5_readAll 98 = .ok (.iadd, 1) := by decide +kernel
theorem dX5_readAll_99 : decode cX5_readAll 99 = .ok (.putfield 107, 3) := by decide +kernel
theorem dX5_readAll_102 : decode cX5_readAll 102 = .ok (.goto (-80), 3) := by decide +kernel
theorem dX5_readAll_105 : decode cX5_readAll 105 = .ok (.aload_n 0, 1) := by decide +kernel
theorem dX5_readAll_106 : decode cX5_readAll 106 = .ok (.getfield 110, 3) := by decide +kernel
theorem dX5_readAll_109 : decode cX5_readAll 109 = .ok (.ifCond .eq 20, 3) := by decide +kernel
theorem dX5_readAll_112 : decode cX5_readAll 112 = .ok (.aload_n 0, 1) := by decide +kernel
theorem dX5_readAll_113 : decode cX5_readAll 113 = .ok (.getfield 110, 3) := by decide +kernel
theorem dX5_readAll_116 : decode cX5_readAll 116 = .ok (.bipush 7, 2) := by decide +kernel
theorem dX5_readAll_118 : decode cX5_readAll 118 = .ok (.if_icmp .ge 51, 3) := by decide +kernel
theorem dX5_readAll_121 : decode cX5_readAll 121 = .ok (.aload_n 0, 1) := by decide +kernel
theorem dX5_readAll_122 : decode cX5_readAll 122 = .ok (.getfield 86, 3) := by decide +kernel
theorem dX5_readAll_125 : decode cX5_readAll 125 = .ok (.iload_n 1, 1) := by decide +kernel
theorem dX5_readAll_126 : decode cX5_readAll 126 = .ok (.if_icmp .ge 43, 3) := by decide +kernel
theorem dX5_readAll_129 : decode cX5_readAll 129 = .ok (.aload_n 0, 1) := by decide +kernel
theorem dX5_readAll_130 : decode cX5_readAll 130 = .ok (.iload_n 1, 1) := by decide +kernel
theorem dX5_readAll_131 : decode cX5_readAll 131 = .ok (.bipush 44, 2) := by decide +kernel
theorem dX5_readAll_133 : decode cX5_readAll 133 = .ok (.invokevirtual 125, 3) := by decide +kernel
theorem dX5_readAll_136 : decode cX5_readAll 136 = .ok (.ifCond .eq 18, 3) := by decide +kernel
theorem dX5_readAll_139 : decode cX5_readAll 139 = .ok (.aload_n 0, 1) := by decide +kernel
theorem dX5_readAll_140 : decode cX5_readAll 140 = .ok (.iload_n 1, 1) := by decide +kernel
theorem dX5_readAll_141 : decode cX5_readAll 141 = .ok (.bipush 7, 2) := by decide +kernel
theorem dX5_readAll_143 : decode cX5_readAll 143 = .ok (.aload_n 0, 1) := by decide +kernel
theorem dX5_readAll_144 : decode cX5_readAll 144 = .ok (.getfield 110, 3) := by decide +kernel
theorem dX5_readAll_147 : decode cX5_readAll 147 = .ok (.iadd, 1) := by decide +kernel
theorem dX5_readAll_148 : decode cX5_readAll 148 = .ok (.invokevirtual 132, 3) := by decide +kernel
theorem dX5_readAll_151 : decode cX5_readAll 151 = .ok (.ifCond .ne 5, 3) := by decide +kernel
theorem dX5_readAll_154 : decode cX5_readAll 154 = .ok (.iconst 0, 1) := by decide +kernel
theorem dX5_readAll_155 : decode cX5_readAll 155 = .ok (.ireturn, 1) := by decide +kernel
theorem dX5_readAll_156 : decode cX5_readAll 156 = .ok (.aload_n 0, 1) := by decide +kernel
theorem dX5_readAll_157 : decode cX5_readAll 157 = .ok (.dup, 1) := by decide +kernel
theorem dX5_readAll_158 : decode cX5_readAll 158 = .ok (.getfield 110, 3) := by decide +kernel
theorem dX5_readAll_161 : decode cX5_readAll 161 = .ok (.iconst 1, 1) := by decide +kernel
theorem dX5_readAll_162 : decode cX5_readAll 162 = .ok (.iadd, 1) := by decide +kernel
theorem dX5_readAll_163 : decode cX5_readAll 163 = .ok (.putfield 110, 3) := by decide +kernel
theorem dX5_readAll_166 : decode cX5_readAll 166 = .ok (.goto (-61), 3) := by decide +kernel
theorem dX5_readAll_169 : decode cX5_readAll 169 = .ok (.aload_n 0, 1) := by decide +kernel
theorem dX5_readAll_170 : decode cX5_readAll 170 = .ok (.getfield 86, 3) := by decide +kernel
theorem dX5_readAll_173 : decode cX5_readAll 173 = .ok (.iload_n 1, 1) := by decide +kernel
theorem dX5_readAll_174 : decode cX5_readAll 174 = .ok (.if_icmp .ne 7, 3) := by decide +kernel
theorem dX5_readAll_177 : decode cX5_readAll 177 = .ok (.iconst 1, 1) := by decide +kernel
theorem dX5_readAll_178 : decode cX5_readAll 178 = .ok (.goto 4, 3) := by decide +kernel
theorem dX5_readAll_181 : decode cX5_readAll 181 = .ok (.iconst 0, 1) := by decide +kernel
theorem dX5_readAll_182 : decode cX5_readAll 182 = .ok (.ireturn, 1) := by decide +kernel
theorem dX5_readKindNext_0 : decode cX5_readKindNext 0 = .ok (.aload_n 0, 1) := by decide +kernel
theorem dX5_readKindNext_1 : decode cX5_readKindNext 1 = .ok (.getfield 86, 3) := by decide +kernel
theorem dX5_readKindNext_4 : decode cX5_readKindNext 4 = .ok (.iload_n 1, 1) := by decide +kernel
theorem dX5_readKindNext_5 : decode cX5_readKindNext 5 = .ok (.if_icmp .ge 15, 3) := by decide +kernel
theorem dX5_readKindNext_8 : decode cX5_readKindNext 8 = .ok (.aload_n 0, 1) := by decide +kernel
theorem dX5_readKindNext_9 : decode cX5_readKindNext 9 = .ok (.getfield 16, 3) := by decide +kernel
theorem dX5_readKindNext_12 : decode cX5_readKindNext 12 = .ok (.aload_n 0, 1) := by decide +kernel
theorem dX5_readKindNext_13 : decode cX5_readKindNext 13 = .ok (.getfield 86, 3) := by decide +kernel
theorem dX5_readKindNext_16 : decode cX5_readKindNext 16 = .ok (.iaload, 1) := by decide +kernel
theorem dX5_readKindNext_17 : decode cX5_readKindNext 17 = .ok (.goto 4, 3) := by decide +kernel
theorem dX5_readKindNext_20 : decode cX5_readKindNext 20 = .ok (.iconst 0, 1) := by decide +kernel
theorem dX5_readKindNext_21 : decode cX5_readKindNext 21 = .ok (.istore_n 2, 1) := by decide +kernel
theorem dX5_readKindNext_22 : decode cX5_readKindNext 22 = .ok (.aload_n 0, 1) := by decide +kernel
theorem dX5_readKindNext_23 : decode cX5_readKindNext 23 = .ok (.getfield 34, 3) := by decide +kernel
theorem dX5_readKindNext_26 : decode cX5_readKindNext 26 = .ok (.aload_n 0, 1) := by decide +kernel
theorem dX5_readKindNext_27 : decode cX5_readKindNext 27 = .ok (.getfield 107, 3) := by decide +kernel
theorem dX5_readKindNext_30 : decode cX5_readKindNext 30 = .ok (.iload_n 2, 1) := by decide +kernel
theorem dX5_readKindNext_31 : decode cX5_readKindNext 31 = .ok (.bipush 80, 2) := by decide +kernel
theorem dX5_readKindNext_33 : decode cX5_readKindNext 33 = .ok (.if_icmp .ne 7, 3) := by decide +kernel
theorem dX5_readKindNext_36 : decode cX5_readKindNext 36 = .ok (.iconst 0, 1) := by decide +kernel
theorem dX5_readKindNext_37 : decode cX5_readKindNext 37 = .ok (.goto 25, 3) := by decide +kernel
theorem dX5_readKindNext_40 : decode cX5_readKindNext 40 = .ok (.iload_n 2, 1) := by decide +kernel
theorem dX5_readKindNext_41 : decode cX5_readKindNext 41 = .ok (.bipush 76, 2) := by decide +kernel
theorem dX5_readKindNext_43 : decode cX5_readKindNext 43 = .ok (.if_icmp .ne 7, 3) := by decide +kernel
theorem dX5_readKindNext_46 : decode cX5_readKindNext 46 = .ok (.iconst 1, 1) := by decide +kernel
theorem dX5_readKindNext_47 : decode cX5_readKindNext 47 = .ok (.goto 15, 3) := by decide +kernel
theorem dX5_readKindNext_50 : decode cX5_readKindNext 50 = .ok (.iload_n 2, 1) := by decide +kernel
theorem dX5_readKindNext_51 : decode cX5_readKindNext 51 = .ok (.bipush 68, 2) := by decide +kernel
theorem dX5_readKindNext_53 : decode cX5_readKindNext 53 = .ok (.if_icmp .ne 7, 3) := by decide +kernel
theorem dX5_readKindNext_56 : decode cX5_readKindNext 56 = .ok (.iconst 2, 1) := by decide +kernel
theorem dX5_readKindNext_57 : decode cX5_readKindNext 57 = .ok (.goto 5, 3) := by decide +kernel
theorem dX5_readKindNext_60 : decode cX5_readKindNext 60 = .ok (.bipush (-9), 2) := by decide +kernel
theorem dX5_readKindNext_62 : decode cX5_readKindNext 62 = .ok (.iastore, 1) := by decide +kernel
theorem dX5_readKindNext_63 : decode cX5_readKindNext 63 = .ok (.aload_n 0, 1) := by decide +kernel
theorem dX5_readKindNext_64 : decode cX5_readKindNext 64 = .ok (.getfield 34, 3) := by decide +kernel
theorem dX5_readKindNext_67 : decode cX5_readKindNext 67 = .ok (.aload_n 0, 1) := by decide +kernel
theorem dX5_readKindNext_68 : decode cX5_readKindNext 68 = .ok (.getfield 107, 3) := by decide +kernel
theorem dX5_readKindNext_71 : decode cX5_readKindNext 71 = .ok (.iaload, 1) := by decide +kernel
theorem dX5_readKindNext_72 : decode cX5_readKindNext 72 = .ok (.bipush (-9), 2) := by decide +kernel
theorem dX5_readKindNext_74 : decode cX5_readKindNext 74 = .ok (.if_icmp .ne 5, 3) := by decide +kernel
theorem dX5_readKindNext_77 : decode cX5_readKindNext 77 = .ok (.iconst 0, 1) := by decide +kernel
theorem dX5_readKindNext_78 : decode cX5_readKindNext 78 = .ok (.ireturn, 1) := by decide +kernel
theorem dX5_readKindNext_79 : decode cX5_readKindNext 79 = .ok (.aload_n 0, 1) := by decide +kernel
theorem dX5_readKindNext_80 : decode cX5_readKindNext 80 = .ok (.dup, 1) := by decide +kernel
theorem dX5_readKindNext_81 : decode cX5_readKindNext 81 = .ok (.getfield 86, 3) := by decide +kernel
theorem dX5_readKindNext_84 : decode cX5_readKindNext 84 = .ok (.iconst 1, 1) := by decide +kernel
theorem dX5_readKindNext_85 : decode cX5_readKindNext 85 = .ok (.iadd, 1) := by decide +kernel
theorem dX5_readKindNext_86 : decode cX5_readKindNext 86 = .ok (.putfield 86, 3) := by decide +kernel
theorem dX5_readKindNext_89 : decode cX5_readKindNext 89 = .ok (.iconst 1, 1) := by decide +kernel
theorem dX5_readKindNext_90 : decode cX5_readKindNext 90 = .ok (.ireturn, 1) := by decide +kernel
theorem dX5_readSentence_0 : decode cX5_readSentence 0 = .ok (.aload_n 0, 1) := by decide +kernel
theorem dX5_readSentence_1 : decode cX5_readSentence 1 = .ok (.getfield 86, 3) := by decide +kernel
theorem dX5_readSentence_4 : decode cX5_readSentence 4 = .ok (.iload_n 1, 1) := by decide +kernel
theorem dX5_readSentence_5 : decode cX5_readSentence 5 = .ok (.if_icmp .ge 22, 3) := by decide +kernel
theorem dX5_readSentence_8 : decode cX5_readSentence 8 = .ok (.aload_n 0, 1) := by decide +kernel
theorem dX5_readSentence_9 : decode cX5_readSentence 9 = .ok (.getfield 16, 3) := by decide +kernel
theorem dX5_readSentence_12 : decode cX5_readSentence 12 = .ok (.aload_n 0, 1) := by decide +kernel
theorem dX5_readSentence_13 : decode cX5_readSentence 13 = .ok (.getfield 86, 3) := by decide +kernel
theorem dX5_readSentence_16 : decode cX5_readSentence 16 = .ok (.iaload, 1) := by decide +kernel
theorem dX5_readSentence_17 : decode cX5_readSentence 17 = .ok (.bipush 49, 2) := by decide +kernel
theorem dX5_readSentence_19 : decode cX5_readSentence 19 = .ok (.bipush 57, 2) := by decide +kernel
theorem dX5_readSentence_21 : decode cX5_readSentence 21 = .ok (.invokestatic 76, 3) := by decide +kernel
theorem dX5_readSentence_24 : decode cX5_readSentence 24 = .ok (.ifCond .ne 5, 3) := by decide +kernel
theorem dX5_readSentence_27 : decode cX5_readSentence 27 = .ok (.iconst 0, 1) := by decide +kernel
theorem dX5_readSentence_28 : decode cX5_readSentence 28 = .ok (.ireturn, 1) := by decide +kernel
theorem dX5_readSentence_29 : decode cX5_readSentence 29 = .ok (.aload_n 0, 1) := by decide +kernel
theorem dX5_readSentence_30 : decode cX5_readSentence 30 = .ok (.getfield 37, 3) := by decide +kernel
theorem dX5_readSentence_33 : decode cX5_readSentence 33 = .ok (.iload_n 2, 1) := by decide +kernel
theorem dX5_readSentence_34 : decode cX5_readSentence 34 = .ok (.aload_n 0, 1) := by decide +kernel
theorem dX5_readSentence_35 : decode cX5_readSentence 35 = .ok (.getfield 16, 3) := by decide +kernel
theorem dX5_readSentence_38 : decode cX5_readSentence 38 = .ok (.aload_n 0, 1) := by decide +kernel
theorem dX5_readSentence_39 : decode cX5_readSentence 39 = .ok (.getfield 86, 3) := by decide +kernel
theorem dX5_readSentence_42 : decode cX5_readSentence 42 = .ok (.iaload, 1) := by decide +kernel
theorem dX5_readSentence_43 : decode cX5_readSentence 43 = .ok (.bipush 48, 2) := by decide +kernel
theorem dX5_readSentence_45 : decode cX5_readSentence 45 = .ok (.isub, 1) := by decide +kernel
theorem dX5_readSentence_46 : decode cX5_readSentence 46 = .ok (.iastore, 1) := by decide +kernel
theorem dX5_readSentence_47 : decode cX5_readSentence 47 = .ok (.aload_n 0, 1) := by decide +kernel
theorem dX5_readSentence_48 : decode cX5_readSentence 48 = .ok (.dup, 1) := by decide +kernel
theorem dX5_readSentence_49 : decode cX5_readSentence 49 = .ok (.getfield 86, 3) := by decide +kernel
theorem dX5_readSentence_52 : decode cX5_readSentence 52 = .ok (.iconst 1, 1) := by decide +kernel
theorem dX5_readSentence_53 : decode cX5_readSentence 53 = .ok (.iadd, 1) := by decide +kernel
theorem dX5_readSentence_54 : decode cX5_readSentence 54 = .ok (.putfield 86, 3) := by decide +kernel
theorem dX5_readSentence_57 : decode cX5_readSentence 57 = .ok (.aload_n 0, 1) := by decide +kernel
theorem dX5_readSentence_58 : decode cX5_readSentence 58 = .ok (.getfield 86, 3) := by decide +kernel
theorem dX5_readSentence_61 : decode cX5_readSentence 61 = .ok (.iload_n 1, 1) := by decide +kernel
theorem dX5_readSentence_62 : decode cX5_readSentence 62 = .ok (.if_icmp .ge 36, 3) := by decide +kernel
theorem dX5_readSentence_65 : decode cX5_readSentence 65 = .ok (.aload_n 0, 1) := by decide +kernel
theorem dX5_readSentence_66 : decode cX5_readSentence 66 = .ok (.getfield 16, 3) := by decide +kernel
theorem dX5_readSentence_69 : decode cX5_readSentence 69 = .ok (.aload_n 0, 1) := by decide +kernel
theorem dX5_readSentence_70 : decode cX5_readSentence 70 = .ok (.getfield 86, 3) := by decide +kernel
theorem dX5_readSentence_73 : decode cX5_readSentence 73 = .ok (.iaload, 1) := by decide +kernel
theorem dX5_readSentence_74 : decode cX5_readSentence 74 = .ok (.bipush 45, 2) := by decide +kernel
theorem dX5_readSentence_76 : decode cX5_readSentence 76 = .ok (.if_icmp .eq 24, 3) := by decide +kernel
theorem dX5_readSentence_79 : decode cX5_readSentence 79 = .ok (.aload_n 0, 1) := by decide +kernel
theorem dX5_readSentence_80 : decode cX5_readSentence 80 = .ok (.getfield 16, 3) := by decide +kernel
theorem dX5_readSentence_83 : decode cX5_readSentence 83 = .ok (.aload_n 0, 1) := by decide +kernel
theorem dX5_readSentence_84 : decode cX5_readSentence 84 = .ok (.getfield 86, 3) := by decide +kernel
theorem dX5_readSentence_87 : decode cX5_readSentence 87 = .ok (.iaload, 1) := by decide +kernel
theorem dX5_readSentence_88 : decode cX5_readSentence 88 = .ok (.bipush 97, 2) := by decide +kernel
theorem dX5_readSentence_90 : decode cX5_readSentence 90 = .ok (.bipush 100, 2) := by decide +kernel
theorem dX5_readSentence_92 : decode cX5_readSentence 92 = .ok (.invokestatic 76, 3) := by decide +kernel
theorem dX5_readSentence_95 : decode cX5_readSentence 95 = .ok (.ifCond .ne 5, 3) := by decide +kernel
theorem dX5_readSentence_98 : decode cX5_readSentence 98 = .ok (.iconst 0, 1) := by decide +kernel
theorem dX5_readSentence_99 : decode cX5_readSentence 99 = .ok (.ireturn, 1) := by decide +kernel
theorem dX5_readSentence_100 : decode cX5_readSentence 100 = .ok (.aload_n 0, 1) := by decide +kernel
theorem dX5_readSentence_101 : decode cX5_readSentence 101 = .ok (.getfield 40, 3) := by decide +kernel
theorem dX5_readSentence_104 : decode cX5_readSentence 104 = .ok (.iload_n 2, 1) := by decide +kernel
theorem dX5_readSentence_105 : decode cX5_readSentence 105 = .ok (.aload_n 0, 1) := by decide +kernel
theorem dX5_readSentence_106 : decode cX5_readSentence 106 = .ok (.getfield 16, 3) := by decide +kernel
theorem dX5_readSentence_109 : decode cX5_readSentence 109 = .ok (.aload_n 0, 1) := by decide +kernel
theorem dX5_readSentence_110 : decode cX5_readSentence 110 = .ok (.getfield 86, 3) := by decide +kernel
theorem dX5_readSentence_113 : decode cX5_readSentence 113 = .ok (.iaload, 1) := by decide +kernel
theorem dX5_readSentence_114 : decode cX5_readSentence 114 = .ok (.bipush 45, 2) := by decide +kernel
theorem dX5_readSentence_116 : decode cX5_readSentence 116 = .ok (.if_icmp .ne 7, 3) := by decide +kernel
theorem dX5_readSentence_119 : decode cX5_readSentence 119 = .ok (.iconst 4, 1) := by decide +kernel
theorem dX5_readSentence_120 : decode cX5_readSentence 120 = .ok (.goto 15, 3) := by decide +kernel
theorem dX5_readSentence_123 : decode cX5_readSentence 123 = .ok (.aload_n 0, 1) := by decide +kernel
theorem dX5_readSentence_124 : decode cX5_readSentence 124 = .ok (.getfield 16, 3) := by decide +kernel
theorem dX5_readSentence_127 : decode cX5_readSentence 127 = .ok (.aload_n 0, 1) := by decide +kernel
theorem dX5_readSentence_128 : decode cX5_readSentence 128 = .ok (.getfield 86, 3) := by decide +kernel
theorem dX5_readSentence_131 : decode cX5_readSentence 131 = .ok (.iaload, 1) := by decide +kernel
theorem dX5_readSentence_132 : decode cX5_readSentence 132 = .ok (.bipush 97, 2) := by decide +kernel
theorem dX5_readSentence_134 : decode cX5_readSentence 134 = .ok (.isub, 1) := by decide +kernel
theorem dX5_readSentence_135 : decode cX5_readSentence 135 = .ok (.iastore, 1) := by decide +kernel
theorem dX5_readSentence_136 : decode cX5_readSentence 136 = .ok (.aload_n 0, 1) := by decide +kernel
theorem dX5_readSentence_137 : decode cX5_readSentence 137 = .ok (.dup, 1) := by decide +kernel
theorem dX5_readSentence_138 : decode cX5_readSentence 138 = .ok (.getfield 86, 3) := by decide +kernel
theorem dX5_readSentence_141 : decode cX5_readSentence 141 = .ok (.iconst 1, 1) := by decide +kernel
theorem dX5_readSentence_142 : decode cX5_readSentence 142 = .ok (.iadd, 1) := by decide +kernel
theorem dX5_readSentence_143 : decode cX5_readSentence 143 = .ok (.putfield 86, 3) := by decide +kernel
theorem dX5_readSentence_146 : decode cX5_readSentence 146 = .ok (.iconst 1, 1) := by decide +kernel
theorem dX5_readSentence_147 : decode cX5_readSentence 147 = .ok (.ireturn, 1) := by decide +kernel
theorem dX5_lengthOf_0 : decode cX5_lengthOf 0 = .ok (.aload_n 0, 1) := by decide +kernel
theorem dX5_lengthOf_1 : decode cX5_lengthOf 1 = .ok (.getfield 19, 3) := by decide +kernel
theorem dX5_lengthOf_4 : decode cX5_lengthOf 4 = .ok (.iload_n 1, 1) := by decide +kernel
theorem dX5_lengthOf_5 : decode cX5_lengthOf 5 = .ok (.iaload, 1) := by decide +kernel
theorem dX5_lengthOf_6 : decode cX5_lengthOf 6 = .ok (.ifCond .ne 12, 3) := by decide +kernel
theorem dX5_lengthOf_9 : decode cX5_lengthOf 9 = .ok (.aload_n 0, 1) := by decide +kernel
theorem dX5_lengthOf_10 : decode cX5_lengthOf 10 = .ok (.getfield 22, 3) := by decide +kernel
theorem dX5_lengthOf_13 : decode cX5_lengthOf 13 = .ok (.iload_n 1, 1) := by decide +kernel
theorem dX5_lengthOf_14 : decode cX5_lengthOf 14 = .ok (.iaload, 1) := by decide +kernel
theorem dX5_lengthOf_15 : decode cX5_lengthOf 15 = .ok (.goto 32, 3) := by decide +kernel
theorem dX5_lengthOf_18 : decode cX5_lengthOf 18 = .ok (.aload_n 0, 1) := by decide +kernel
theorem dX5_lengthOf_19 : decode cX5_lengthOf 19 = .ok (.getfield 19, 3) := by decide +kernel
theorem dX5_lengthOf_22 : decode cX5_lengthOf 22 = .ok (.iload_n 1, 1) := by decide +kernel
theorem dX5_lengthOf_23 : decode cX5_lengthOf 23 = .ok (.iaload, 1) := by decide +kernel
theorem dX5_lengthOf_24 : decode cX5_lengthOf 24 = .ok (.iconst 1, 1) := by decide +kernel
theorem dX5_lengthOf_25 : decode cX5_lengthOf 25 = .ok (.if_icmp .ne 14, 3) := by decide +kernel
theorem dX5_lengthOf_28 : decode cX5_lengthOf 28 = .ok (.aload_n 0, 1) := by decide +kernel
theorem dX5_lengthOf_29 : decode cX5_lengthOf 29 = .ok (.getfield 22, 3) := by decide +kernel
theorem dX5_lengthOf_32 : decode cX5_lengthOf 32 = .ok (.iload_n 1, 1) := by decide +kernel
theorem dX5_lengthOf_33 : decode cX5_lengthOf 33 = .ok (.iaload, 1) := by decide +kernel
theorem dX5_lengthOf_34 : decode cX5_lengthOf 34 = .ok (.iconst 1, 1) := by decide +kernel
theorem dX5_lengthOf_35 : decode cX5_lengthOf 35 = .ok (.iadd, 1) := by decide +kernel
theorem dX5_lengthOf_36 : decode cX5_lengthOf 36 = .ok (.goto 11, 3) := by decide +kernel
theorem dX5_lengthOf_39 : decode cX5_lengthOf 39 = .ok (.iconst 2, 1) := by decide +kernel
theorem dX5_lengthOf_40 : decode cX5_lengthOf 40 = .ok (.aload_n 0, 1) := by decide +kernel
theorem dX5_lengthOf_41 : decode cX5_lengthOf 41 = .ok (.getfield 22, 3) := by decide +kernel
theorem dX5_lengthOf_44 : decode cX5_lengthOf 44 = .ok (.iload_n 1, 1) := by decide +kernel
theorem dX5_lengthOf_45 : decode cX5_lengthOf 45 = .ok (.iaload, 1) := by decide +kernel
theorem dX5_lengthOf_46 : decode cX5_lengthOf 46 = .ok (.imul, 1) := by decide +kernel
theorem dX5_lengthOf_47 : decode cX5_lengthOf 47 = .ok (.ireturn, 1) := by decide +kernel
theorem dX5_leftsOf_0 : decode cX5_leftsOf 0 = .ok (.iload_n 0, 1) := by decide +kernel
theorem dX5_leftsOf_1 : decode cX5_leftsOf 1 = .ok (.iconst 2, 1) := by decide +kernel
theorem dX5_leftsOf_2 : decode cX5_leftsOf 2 = .ok (.if_icmp .ne 7, 3) := by decide +kernel
theorem dX5_leftsOf_5 : decode cX5_leftsOf 5 = .ok (.iconst 0, 1) := by decide +kernel
theorem dX5_leftsOf_6 : decode cX5_leftsOf 6 = .ok (.goto 13, 3) := by decide +kernel
theorem dX5_leftsOf_9 : decode cX5_leftsOf 9 = .ok (.iload_n 0, 1) := by decide +kernel
theorem dX5_leftsOf_10 : decode cX5_leftsOf 10 = .ok (.iconst 3, 1) := by decide +kernel
theorem dX5_leftsOf_11 : decode cX5_leftsOf 11 = .ok (.if_icmp .ne 7, 3) := by decide +kernel
theorem dX5_leftsOf_14 : decode cX5_leftsOf 14 = .ok (.iconst 2, 1) := by decide +kernel
theorem dX5_leftsOf_15 : decode cX5_leftsOf 15 = .ok (.goto 4, 3) := by decide +kernel
theorem dX5_leftsOf_18 : decode cX5_leftsOf 18 = .ok (.iconst 1, 1) := by decide +kernel
theorem dX5_leftsOf_19 : decode cX5_leftsOf 19 = .ok (.ireturn, 1) := by decide +kernel
theorem dX5_rightsOf_0 : decode cX5_rightsOf 0 = .ok (.iload_n 0, 1) := by decide +kernel
theorem dX5_rightsOf_1 : decode cX5_rightsOf 1 = .ok (.iconst 1, 1) := by decide +kernel
theorem dX5_rightsOf_2 : decode cX5_rightsOf 2 = .ok (.if_icmp .ne 7, 3) := by decide +kernel
theorem dX5_rightsOf_5 : decode cX5_rightsOf 5 = .ok (.iconst 0, 1) := by decide +kernel
theorem dX5_rightsOf_6 : decode cX5_rightsOf 6 = .ok (.goto 13, 3) := by decide +kernel
theorem dX5_rightsOf_9 : decode cX5_rightsOf 9 = .ok (.iload_n 0, 1) := by decide +kernel
theorem dX5_rightsOf_10 : decode cX5_rightsOf 10 = .ok (.iconst 4, 1) := by decide +kernel
theorem dX5_rightsOf_11 : decode cX5_rightsOf 11 = .ok (.if_icmp .ne 7, 3) := by decide +kernel
theorem dX5_rightsOf_14 : decode cX5_rightsOf 14 = .ok (.iconst 2, 1) := by decide +kernel
theorem dX5_rightsOf_15 : decode cX5_rightsOf 15 = .ok (.goto 4, 3) := by decide +kernel
theorem dX5_rightsOf_18 : decode cX5_rightsOf 18 = .ok (.iconst 1, 1) := by decide +kernel
theorem dX5_rightsOf_19 : decode cX5_rightsOf 19 = .ok (.ireturn, 1) := by decide +kernel
theorem dX5_anchorSet_0 : decode cX5_anchorSet 0 = .ok (.iload_n 0, 1) := by decide +kernel
theorem dX5_anchorSet_1 : decode cX5_anchorSet 1 = .ok (.iconst 4, 1) := by decide +kernel
theorem dX5_anchorSet_2 : decode cX5_anchorSet 2 = .ok (.if_icmp .ne 7, 3) := by decide +kernel
theorem dX5_anchorSet_5 : decode cX5_anchorSet 5 = .ok (.iconst 0, 1) := by decide +kernel
theorem dX5_anchorSet_6 : decode cX5_anchorSet 6 = .ok (.goto 6, 3) := by decide +kernel
theorem dX5_anchorSet_9 : decode cX5_anchorSet 9 = .ok (.iconst 1, 1) := by decide +kernel
theorem dX5_anchorSet_10 : decode cX5_anchorSet 10 = .ok (.iload_n 0, 1) := by decide +kernel
theorem dX5_anchorSet_11 : decode cX5_anchorSet 11 = .ok (.ishl, 1) := by decide +kernel
theorem dX5_anchorSet_12 : decode cX5_anchorSet 12 = .ok (.ireturn, 1) := by decide +kernel
theorem dX5_costOf_0 : decode cX5_costOf 0 = .ok (.iload_n 1, 1) := by decide +kernel
theorem dX5_costOf_1 : decode cX5_costOf 1 = .ok (.iconst 1, 1) := by decide +kernel
theorem dX5_costOf_2 : decode cX5_costOf 2 = .ok (.if_icmp .ne 14, 3) := by decide +kernel
theorem dX5_costOf_5 : decode cX5_costOf 5 = .ok (.aload_n 0, 1) := by decide +kernel
theorem dX5_costOf_6 : decode cX5_costOf 6 = .ok (.getfield 113, 3) := by decide +kernel
theorem dX5_costOf_9 : decode cX5_costOf 9 = .ok (.aload_n 0, 1) := by decide +kernel
theorem dX5_costOf_10 : decode cX5_costOf 10 = .ok (.iload_n 2, 1) := by decide +kernel
theorem dX5_costOf_11 : decode cX5_costOf 11 = .ok (.invokevirtual 135, 3) := by decide +kernel
theorem dX5_costOf_14 : decode cX5_costOf 14 = .ok (.iadd, 1) := by decide +kernel
theorem dX5_costOf_15 : decode cX5_costOf 15 = .ok (.ireturn, 1) := by decide +kernel
theorem dX5_costOf_16 : decode cX5_costOf 16 = .ok (.iload_n 1, 1) := by decide +kernel
theorem dX5_costOf_17 : decode cX5_costOf 17 = .ok (.iconst 2, 1) := by decide +kernel
theorem dX5_costOf_18 : decode cX5_costOf 18 = .ok (.if_icmp .ne 15, 3) := by decide +kernel
theorem dX5_costOf_21 : decode cX5_costOf 21 = .ok (.aload_n 0, 1) := by decide +kernel
theorem dX5_costOf_22 : decode cX5_costOf 22 = .ok (.getfield 113, 3) := by decide +kernel
theorem dX5_costOf_25 : decode cX5_costOf 25 = .ok (.aload_n 0, 1) := by decide +kernel
theorem dX5_costOf_26 : decode cX5_costOf 26 = .ok (.getfield 28, 3) := by decide +kernel
theorem dX5_costOf_29 : decode cX5_costOf 29 = .ok (.iload_n 3, 1) := by decide +kernel
theorem dX5_costOf_30 : decode cX5_costOf 30 = .ok (.iaload, 1) := by decide +kernel
theorem dX5_costOf_31 : decode cX5_costOf 31 = .ok (.iadd, 1) := by decide +kernel
theorem dX5_costOf_32 : decode cX5_costOf 32 = .ok (.ireturn, 1) := by decide +kernel
theorem dX5_costOf_33 : decode cX5_costOf 33 = .ok (.iconst 0, 1) := by decide +kernel
theorem dX5_costOf_34 : decode cX5_costOf 34 = .ok (.istore 4, 2) := by decide +kernel
theorem dX5_costOf_36 : decode cX5_costOf 36 = .ok (.iconst 0, 1) := by decide +kernel
theorem dX5_costOf_37 : decode cX5_costOf 37 = .ok (.istore 5, 2) := by decide +kernel
theorem dX5_costOf_39 : decode cX5_costOf 39 = .ok (.iconst 0, 1) := by decide +kernel
theorem dX5_costOf_40 : decode cX5_costOf 40 = .ok (.istore 6, 2) := by decide +kernel
theorem dX5_costOf_42 : decode cX5_costOf 42 = .ok (.iload_n 2, 1) := by decide +kernel
theorem dX5_costOf_43 : decode cX5_costOf 43 = .ok (.istore 7, 2) := by decide +kernel
theorem dX5_costOf_45 : decode cX5_costOf 45 = .ok (.iload 7, 2) := by decide +kernel
theorem dX5_costOf_47 : decode cX5_costOf 47 = .ok (.iload_n 2, 1) := by decide +kernel
theorem dX5_costOf_48 : decode cX5_costOf 48 = .ok (.iload_n 1, 1) := by decide +kernel
theorem dX5_costOf_49 : decode cX5_costOf 49 = .ok (.invokestatic 138, 3) := by decide +kernel
theorem dX5_costOf_52 : decode cX5_costOf 52 = .ok (.iadd, 1) := by decide +kernel
theorem dX5_costOf_53 : decode cX5_costOf 53 = .ok (.if_icmp .ge 35, 3) := by decide +kernel
theorem dX5_costOf_56 : decode cX5_costOf 56 = .ok (.iload 4, 2) := by decide +kernel
theorem dX5_costOf_58 : decode cX5_costOf 58 = .ok (.aload_n 0, 1) := by decide +kernel
theorem dX5_costOf_59 : decode cX5_costOf 59 = .ok (.iload 7, 2) := by decide +kernel
theorem dX5_costOf_61 : decode cX5_costOf 61 = .ok (.invokevirtual 135, 3) := by decide +kernel
theorem dX5_costOf_64 : decode cX5_costOf 64 = .ok (.iadd, 1) := by decide +kernel
theorem dX5_costOf_65 : decode cX5_costOf 65 = .ok (.istore 4, 2) := by decide +kernel
theorem dX5_costOf_67 : decode cX5_costOf 67 = .ok (.iload 5, 2) := by decide +kernel
theorem dX5_costOf_69 : decode cX5_costOf 69 = .ok (.aload_n 0, 1) := by decide +kernel
theorem dX5_costOf_70 : decode cX5_costOf 70 = .ok (.getfield 25, 3) := by decide +kernel
theorem dX5_costOf_73 : decode cX5_costOf 73 = .ok (.iload 7, 2) := by decide +kernel
theorem dX5_costOf_75 : decode cX5_costOf 75 = .ok (.iaload, 1) := by decide +kernel
theorem dX5_costOf_76 : decode cX5_costOf 76 = .ok (.invokestatic 141, 3) := by decide +kernel
theorem dX5_costOf_79 : decode cX5_costOf 79 = .ok (.ior, 1) := by decide +kernel
theorem dX5_costOf_80 : decode cX5_costOf 80 = .ok (.istore 5, 2) := by decide +kernel
theorem dX5_costOf_82 : decode cX5_costOf 82 = .ok (.iinc 7 1, 3) := by decide +kernel
end
section
theorem dX5_costOf_85 : decode cX5_costOf 85 = .ok (.goto (-40), 3) := by decide +kernel
theorem dX5_costOf_88 : decode cX5_costOf 88 = .ok (.iload_n 3, 1) := by decide +kernel
theorem dX5_costOf_89 : decode cX5_costOf 89 = .ok (.istore 7, 2) := by decide +kernel
theorem dX5_costOf_91 : decode cX5_costOf 91 = .ok (.iload 7, 2) := by decide +kernel
theorem dX5_costOf_93 : decode cX5_costOf 93 = .ok (.iload_n 3, 1) := by decide +kernel
theorem dX5_costOf_94 : decode cX5_costOf 94 = .ok (.iload_n 1, 1) := by decide +kernel
theorem dX5_costOf_95 : decode cX5_costOf 95 = .ok (.invokestatic 144, 3) := by decide +kernel
theorem dX5_costOf_98 : decode cX5_costOf 98 = .ok (.iadd, 1) := by decide +kernel
theorem dX5_costOf_99 : decode cX5_costOf 99 = .ok (.if_icmp .ge 36, 3) := by decide +kernel
theorem dX5_costOf_102 : decode cX5_costOf 102 = .ok (.iload 4, 2) := by decide +kernel
theorem dX5_costOf_104 : decode cX5_costOf 104 = .ok (.aload_n 0, 1) := by decide +kernel
theorem dX5_costOf_105 : decode cX5_costOf 105 = .ok (.getfield 28, 3) := by decide +kernel
theorem dX5_costOf_108 : decode cX5_costOf 108 = .ok (.iload 7, 2) := by decide +kernel
theorem dX5_costOf_110 : decode cX5_costOf 110 = .ok (.iaload, 1) := by decide +kernel
theorem dX5_costOf_111 : decode cX5_costOf 111 = .ok (.isub, 1) := by decide +kernel
theorem dX5_costOf_112 : decode cX5_costOf 112 = .ok (.istore 4, 2) := by decide +kernel
theorem dX5_costOf_114 : decode cX5_costOf 114 = .ok (.iload 6, 2) := by decide +kernel
theorem dX5_costOf_116 : decode cX5_costOf 116 = .ok (.aload_n 0, 1) := by decide +kernel
theorem dX5_costOf_117 : decode cX5_costOf 117 = .ok (.getfield 31, 3) := by decide +kernel
theorem dX5_costOf_120 : decode cX5_costOf 120 = .ok (.iload 7, 2) := by decide +kernel
theorem dX5_costOf_122 : decode cX5_costOf 122 = .ok (.iaload, 1) := by decide +kernel
theorem dX5_costOf_123 : decode cX5_costOf 123 = .ok (.invokestatic 141, 3) := by decide +kernel
theorem dX5_costOf_126 : decode cX5_costOf 126 = .ok (.ior, 1) := by decide +kernel
theorem dX5_costOf_127 : decode cX5_costOf 127 = .ok (.istore 6, 2) := by decide +kernel
theorem dX5_costOf_129 : decode cX5_costOf 129 = .ok (.iinc 7 1, 3) := by decide +kernel
theorem dX5_costOf_132 : decode cX5_costOf 132 = .ok (.goto (-41), 3) := by decide +kernel
theorem dX5_costOf_135 : decode cX5_costOf 135 = .ok (.iload 4, 2) := by decide +kernel
theorem dX5_costOf_137 : decode cX5_costOf 137 = .ok (.ifCond .ge 9, 3) := by decide +kernel
theorem dX5_costOf_140 : decode cX5_costOf 140 = .ok (.iload 4, 2) := by decide +kernel
theorem dX5_costOf_142 : decode cX5_costOf 142 = .ok (.ineg, 1) := by decide +kernel
theorem dX5_costOf_143 : decode cX5_costOf 143 = .ok (.goto 5, 3) := by decide +kernel
theorem dX5_costOf_146 : decode cX5_costOf 146 = .ok (.iload 4, 2) := by decide +kernel
theorem dX5_costOf_148 : decode cX5_costOf 148 = .ok (.iload 5, 2) := by decide +kernel
theorem dX5_costOf_150 : decode cX5_costOf 150 = .ok (.iload 6, 2) := by decide +kernel
theorem dX5_costOf_152 : decode cX5_costOf 152 = .ok (.if_icmp .ne 7, 3) := by decide +kernel
theorem dX5_costOf_155 : decode cX5_costOf 155 = .ok (.iconst 0, 1) := by decide +kernel
theorem dX5_costOf_156 : decode cX5_costOf 156 = .ok (.goto 4, 3) := by decide +kernel
theorem dX5_costOf_159 : decode cX5_costOf 159 = .ok (.iconst 3, 1) := by decide +kernel
theorem dX5_costOf_160 : decode cX5_costOf 160 = .ok (.iadd, 1) := by decide +kernel
theorem dX5_costOf_161 : decode cX5_costOf 161 = .ok (.iload_n 1, 1) := by decide +kernel
theorem dX5_costOf_162 : decode cX5_costOf 162 = .ok (.iconst 2, 1) := by decide +kernel
theorem dX5_costOf_163 : decode cX5_costOf 163 = .ok (.if_icmp .le 10, 3) := by decide +kernel
theorem dX5_costOf_166 : decode cX5_costOf 166 = .ok (.aload_n 0, 1) := by decide +kernel
theorem dX5_costOf_167 : decode cX5_costOf 167 = .ok (.getfield 116, 3) := by decide +kernel
theorem dX5_costOf_170 : decode cX5_costOf 170 = .ok (.goto 4, 3) := by decide +kernel
theorem dX5_costOf_173 : decode cX5_costOf 173 = .ok (.iconst 0, 1) := by decide +kernel
theorem dX5_costOf_174 : decode cX5_costOf 174 = .ok (.iadd, 1) := by decide +kernel
theorem dX5_costOf_175 : decode cX5_costOf 175 = .ok (.ireturn, 1) := by decide +kernel
theorem dX5_isStand_0 : decode cX5_isStand 0 = .ok (.iload_n 1, 1) := by decide +kernel
theorem dX5_isStand_1 : decode cX5_isStand 1 = .ok (.aload_n 0, 1) := by decide +kernel
theorem dX5_isStand_2 : decode cX5_isStand 2 = .ok (.getfield 80, 3) := by decide +kernel
theorem dX5_isStand_5 : decode cX5_isStand 5 = .ok (.if_icmp .gt 29, 3) := by decide +kernel
theorem dX5_isStand_8 : decode cX5_isStand 8 = .ok (.iload_n 2, 1) := by decide +kernel
theorem dX5_isStand_9 : decode cX5_isStand 9 = .ok (.aload_n 0, 1) := by decide +kernel
theorem dX5_isStand_10 : decode cX5_isStand 10 = .ok (.getfield 83, 3) := by decide +kernel
theorem dX5_isStand_13 : decode cX5_isStand 13 = .ok (.if_icmp .gt 21, 3) := by decide +kernel
theorem dX5_isStand_16 : decode cX5_isStand 16 = .ok (.iload_n 1, 1) := by decide +kernel
theorem dX5_isStand_17 : decode cX5_isStand 17 = .ok (.iload_n 2, 1) := by decide +kernel
theorem dX5_isStand_18 : decode cX5_isStand 18 = .ok (.isub, 1) := by decide +kernel
theorem dX5_isStand_19 : decode cX5_isStand 19 = .ok (.iload_n 3, 1) := by decide +kernel
theorem dX5_isStand_20 : decode cX5_isStand 20 = .ok (.if_icmp .gt 14, 3) := by decide +kernel
theorem dX5_isStand_23 : decode cX5_isStand 23 = .ok (.iload_n 2, 1) := by decide +kernel
theorem dX5_isStand_24 : decode cX5_isStand 24 = .ok (.iload_n 1, 1) := by decide +kernel
theorem dX5_isStand_25 : decode cX5_isStand 25 = .ok (.isub, 1) := by decide +kernel
theorem dX5_isStand_26 : decode cX5_isStand 26 = .ok (.iload_n 3, 1) := by decide +kernel
theorem dX5_isStand_27 : decode cX5_isStand 27 = .ok (.if_icmp .gt 7, 3) := by decide +kernel
theorem dX5_isStand_30 : decode cX5_isStand 30 = .ok (.iconst 1, 1) := by decide +kernel
theorem dX5_isStand_31 : decode cX5_isStand 31 = .ok (.goto 4, 3) := by decide +kernel
theorem dX5_isStand_34 : decode cX5_isStand 34 = .ok (.iconst 0, 1) := by decide +kernel
theorem dX5_isStand_35 : decode cX5_isStand 35 = .ok (.ireturn, 1) := by decide +kernel
theorem dX5_comes_0 : decode cX5_comes 0 = .ok (.iload_n 2, 1) := by decide +kernel
theorem dX5_comes_1 : decode cX5_comes 1 = .ok (.ldc 147, 2) := by decide +kernel
theorem dX5_comes_3 : decode cX5_comes 3 = .ok (.if_icmp .lt 4, 3) := by decide +kernel
theorem dX5_comes_6 : decode cX5_comes 6 = .ok (.return_, 1) := by decide +kernel
theorem dX5_comes_7 : decode cX5_comes 7 = .ok (.iload_n 2, 1) := by decide +kernel
theorem dX5_comes_8 : decode cX5_comes 8 = .ok (.aload_n 0, 1) := by decide +kernel
theorem dX5_comes_9 : decode cX5_comes 9 = .ok (.getfield 43, 3) := by decide +kernel
theorem dX5_comes_12 : decode cX5_comes 12 = .ok (.iload_n 1, 1) := by decide +kernel
theorem dX5_comes_13 : decode cX5_comes 13 = .ok (.iaload, 1) := by decide +kernel
theorem dX5_comes_14 : decode cX5_comes 14 = .ok (.if_icmp .ge 32, 3) := by decide +kernel
theorem dX5_comes_17 : decode cX5_comes 17 = .ok (.aload_n 0, 1) := by decide +kernel
theorem dX5_comes_18 : decode cX5_comes 18 = .ok (.getfield 46, 3) := by decide +kernel
theorem dX5_comes_21 : decode cX5_comes 21 = .ok (.iload_n 1, 1) := by decide +kernel
theorem dX5_comes_22 : decode cX5_comes 22 = .ok (.aload_n 0, 1) := by decide +kernel
theorem dX5_comes_23 : decode cX5_comes 23 = .ok (.getfield 43, 3) := by decide +kernel
theorem dX5_comes_26 : decode cX5_comes 26 = .ok (.iload_n 1, 1) := by decide +kernel
theorem dX5_comes_27 : decode cX5_comes 27 = .ok (.iaload, 1) := by decide +kernel
theorem dX5_comes_28 : decode cX5_comes 28 = .ok (.iastore, 1) := by decide +kernel
theorem dX5_comes_29 : decode cX5_comes 29 = .ok (.aload_n 0, 1) := by decide +kernel
theorem dX5_comes_30 : decode cX5_comes 30 = .ok (.getfield 43, 3) := by decide +kernel
theorem dX5_comes_33 : decode cX5_comes 33 = .ok (.iload_n 1, 1) := by decide +kernel
theorem dX5_comes_34 : decode cX5_comes 34 = .ok (.iload_n 2, 1) := by decide +kernel
theorem dX5_comes_35 : decode cX5_comes 35 = .ok (.iastore, 1) := by decide +kernel
theorem dX5_comes_36 : decode cX5_comes 36 = .ok (.aload_n 0, 1) := by decide +kernel
theorem dX5_comes_37 : decode cX5_comes 37 = .ok (.getfield 49, 3) := by decide +kernel
theorem dX5_comes_40 : decode cX5_comes 40 = .ok (.iload_n 1, 1) := by decide +kernel
theorem dX5_comes_41 : decode cX5_comes 41 = .ok (.iload_n 3, 1) := by decide +kernel
theorem dX5_comes_42 : decode cX5_comes 42 = .ok (.iastore, 1) := by decide +kernel
theorem dX5_comes_43 : decode cX5_comes 43 = .ok (.goto 50, 3) := by decide +kernel
theorem dX5_comes_46 : decode cX5_comes 46 = .ok (.iload_n 2, 1) := by decide +kernel
theorem dX5_comes_47 : decode cX5_comes 47 = .ok (.aload_n 0, 1) := by decide +kernel
theorem dX5_comes_48 : decode cX5_comes 48 = .ok (.getfield 43, 3) := by decide +kernel
theorem dX5_comes_51 : decode cX5_comes 51 = .ok (.iload_n 1, 1) := by decide +kernel
theorem dX5_comes_52 : decode cX5_comes 52 = .ok (.iaload, 1) := by decide +kernel
theorem dX5_comes_53 : decode cX5_comes 53 = .ok (.if_icmp .ne 23, 3) := by decide +kernel
theorem dX5_comes_56 : decode cX5_comes 56 = .ok (.aload_n 0, 1) := by decide +kernel
theorem dX5_comes_57 : decode cX5_comes 57 = .ok (.getfield 49, 3) := by decide +kernel
theorem dX5_comes_60 : decode cX5_comes 60 = .ok (.iload_n 1, 1) := by decide +kernel
theorem dX5_comes_61 : decode cX5_comes 61 = .ok (.dup2, 1) := by decide +kernel
theorem dX5_comes_62 : decode cX5_comes 62 = .ok (.iaload, 1) := by decide +kernel
theorem dX5_comes_63 : decode cX5_comes 63 = .ok (.iload_n 3, 1) := by decide +kernel
theorem dX5_comes_64 : decode cX5_comes 64 = .ok (.iadd, 1) := by decide +kernel
theorem dX5_comes_65 : decode cX5_comes 65 = .ok (.iastore, 1) := by decide +kernel
theorem dX5_comes_66 : decode cX5_comes 66 = .ok (.aload_n 0, 1) := by decide +kernel
theorem dX5_comes_67 : decode cX5_comes 67 = .ok (.getfield 46, 3) := by decide +kernel
theorem dX5_comes_70 : decode cX5_comes 70 = .ok (.iload_n 1, 1) := by decide +kernel
theorem dX5_comes_71 : decode cX5_comes 71 = .ok (.iload_n 2, 1) := by decide +kernel
theorem dX5_comes_72 : decode cX5_comes 72 = .ok (.iastore, 1) := by decide +kernel
theorem dX5_comes_73 : decode cX5_comes 73 = .ok (.goto 20, 3) := by decide +kernel
theorem dX5_comes_76 : decode cX5_comes 76 = .ok (.iload_n 2, 1) := by decide +kernel
theorem dX5_comes_77 : decode cX5_comes 77 = .ok (.aload_n 0, 1) := by decide +kernel
theorem dX5_comes_78 : decode cX5_comes 78 = .ok (.getfield 46, 3) := by decide +kernel
theorem dX5_comes_81 : decode cX5_comes 81 = .ok (.iload_n 1, 1) := by decide +kernel
theorem dX5_comes_82 : decode cX5_comes 82 = .ok (.iaload, 1) := by decide +kernel
theorem dX5_comes_83 : decode cX5_comes 83 = .ok (.if_icmp .ge 10, 3) := by decide +kernel
theorem dX5_comes_86 : decode cX5_comes 86 = .ok (.aload_n 0, 1) := by decide +kernel
theorem dX5_comes_87 : decode cX5_comes 87 = .ok (.getfield 46, 3) := by decide +kernel
theorem dX5_comes_90 : decode cX5_comes 90 = .ok (.iload_n 1, 1) := by decide +kernel
theorem dX5_comes_91 : decode cX5_comes 91 = .ok (.iload_n 2, 1) := by decide +kernel
theorem dX5_comes_92 : decode cX5_comes 92 = .ok (.iastore, 1) := by decide +kernel
theorem dX5_comes_93 : decode cX5_comes 93 = .ok (.return_, 1) := by decide +kernel
theorem dX5_findStand_0 : decode cX5_findStand 0 = .ok (.bipush 8, 2) := by decide +kernel
theorem dX5_findStand_2 : decode cX5_findStand 2 = .ok (.iload_n 1, 1) := by decide +kernel
theorem dX5_findStand_3 : decode cX5_findStand 3 = .ok (.imul, 1) := by decide +kernel
theorem dX5_findStand_4 : decode cX5_findStand 4 = .ok (.iload_n 2, 1) := by decide +kernel
theorem dX5_findStand_5 : decode cX5_findStand 5 = .ok (.iadd, 1) := by decide +kernel
theorem dX5_findStand_6 : decode cX5_findStand 6 = .ok (.istore 4, 2) := by decide +kernel
theorem dX5_findStand_8 : decode cX5_findStand 8 = .ok (.aload_n 0, 1) := by decide +kernel
theorem dX5_findStand_9 : decode cX5_findStand 9 = .ok (.getfield 43, 3) := by decide +kernel
theorem dX5_findStand_12 : decode cX5_findStand 12 = .ok (.iload 4, 2) := by decide +kernel
theorem dX5_findStand_14 : decode cX5_findStand 14 = .ok (.ldc 147, 2) := by decide +kernel
theorem dX5_findStand_16 : decode cX5_findStand 16 = .ok (.iastore, 1) := by decide +kernel
theorem dX5_findStand_17 : decode cX5_findStand 17 = .ok (.aload_n 0, 1) := by decide +kernel
theorem dX5_findStand_18 : decode cX5_findStand 18 = .ok (.getfield 46, 3) := by decide +kernel
theorem dX5_findStand_21 : decode cX5_findStand 21 = .ok (.iload 4, 2) := by decide +kernel
theorem dX5_findStand_23 : decode cX5_findStand 23 = .ok (.ldc 147, 2) := by decide +kernel
theorem dX5_findStand_25 : decode cX5_findStand 25 = .ok (.iastore, 1) := by decide +kernel
theorem dX5_findStand_26 : decode cX5_findStand 26 = .ok (.aload_n 0, 1) := by decide +kernel
theorem dX5_findStand_27 : decode cX5_findStand 27 = .ok (.getfield 49, 3) := by decide +kernel
theorem dX5_findStand_30 : decode cX5_findStand 30 = .ok (.iload 4, 2) := by decide +kernel
theorem dX5_findStand_32 : decode cX5_findStand 32 = .ok (.iconst 0, 1) := by decide +kernel
theorem dX5_findStand_33 : decode cX5_findStand 33 = .ok (.iastore, 1) := by decide +kernel
theorem dX5_findStand_34 : decode cX5_findStand 34 = .ok (.aload_n 0, 1) := by decide +kernel
theorem dX5_findStand_35 : decode cX5_findStand 35 = .ok (.iload_n 1, 1) := by decide +kernel
theorem dX5_findStand_36 : decode cX5_findStand 36 = .ok (.iload_n 2, 1) := by decide +kernel
theorem dX5_findStand_37 : decode cX5_findStand 37 = .ok (.iload_n 3, 1) := by decide +kernel
theorem dX5_findStand_38 : decode cX5_findStand 38 = .ok (.invokevirtual 148, 3) := by decide +kernel
theorem dX5_findStand_41 : decode cX5_findStand 41 = .ok (.ifCond .ne 4, 3) := by decide +kernel
theorem dX5_findStand_44 : decode cX5_findStand 44 = .ok (.return_, 1) := by decide +kernel
theorem dX5_findStand_45 : decode cX5_findStand 45 = .ok (.iload_n 1, 1) := by decide +kernel
theorem dX5_findStand_46 : decode cX5_findStand 46 = .ok (.aload_n 0, 1) := by decide +kernel
theorem dX5_findStand_47 : decode cX5_findStand 47 = .ok (.getfield 80, 3) := by decide +kernel
theorem dX5_findStand_50 : decode cX5_findStand 50 = .ok (.if_icmp .ne 28, 3) := by decide +kernel
theorem dX5_findStand_53 : decode cX5_findStand 53 = .ok (.iload_n 2, 1) := by decide +kernel
theorem dX5_findStand_54 : decode cX5_findStand 54 = .ok (.aload_n 0, 1) := by decide +kernel
theorem dX5_findStand_55 : decode cX5_findStand 55 = .ok (.getfield 83, 3) := by decide +kernel
theorem dX5_findStand_58 : decode cX5_findStand 58 = .ok (.if_icmp .ne 20, 3) := by decide +kernel
theorem dX5_findStand_61 : decode cX5_findStand 61 = .ok (.aload_n 0, 1) := by decide +kernel
theorem dX5_findStand_62 : decode cX5_findStand 62 = .ok (.getfield 43, 3) := by decide +kernel
theorem dX5_findStand_65 : decode cX5_findStand 65 = .ok (.iload 4, 2) := by decide +kernel
theorem dX5_findStand_67 : decode cX5_findStand 67 = .ok (.iconst 0, 1) := by decide +kernel
theorem dX5_findStand_68 : decode cX5_findStand 68 = .ok (.iastore, 1) := by decide +kernel
theorem dX5_findStand_69 : decode cX5_findStand 69 = .ok (.aload_n 0, 1) := by decide +kernel
theorem dX5_findStand_70 : decode cX5_findStand 70 = .ok (.getfield 49, 3) := by decide +kernel
theorem dX5_findStand_73 : decode cX5_findStand 73 = .ok (.iload 4, 2) := by decide +kernel
theorem dX5_findStand_75 : decode cX5_findStand 75 = .ok (.iconst 1, 1) := by decide +kernel
theorem dX5_findStand_76 : decode cX5_findStand 76 = .ok (.iastore, 1) := by decide +kernel
theorem dX5_findStand_77 : decode cX5_findStand 77 = .ok (.return_, 1) := by decide +kernel
theorem dX5_findStand_78 : decode cX5_findStand 78 = .ok (.iconst 0, 1) := by decide +kernel
theorem dX5_findStand_79 : decode cX5_findStand 79 = .ok (.istore 5, 2) := by decide +kernel
theorem dX5_findStand_81 : decode cX5_findStand 81 = .ok (.iload 5, 2) := by decide +kernel
theorem dX5_findStand_83 : decode cX5_findStand 83 = .ok (.iconst 5, 1) := by decide +kernel
theorem dX5_findStand_84 : decode cX5_findStand 84 = .ok (.if_icmp .ge 121, 3) := by decide +kernel
theorem dX5_findStand_87 : decode cX5_findStand 87 = .ok (.iload_n 1, 1) := by decide +kernel
theorem dX5_findStand_88 : decode cX5_findStand 88 = .ok (.iload 5, 2) := by decide +kernel
theorem dX5_findStand_90 : decode cX5_findStand 90 = .ok (.invokestatic 138, 3) := by decide +kernel
theorem dX5_findStand_93 : decode cX5_findStand 93 = .ok (.iadd, 1) := by decide +kernel
theorem dX5_findStand_94 : decode cX5_findStand 94 = .ok (.istore 6, 2) := by decide +kernel
theorem dX5_findStand_96 : decode cX5_findStand 96 = .ok (.iload_n 2, 1) := by decide +kernel
theorem dX5_findStand_97 : decode cX5_findStand 97 = .ok (.iload 5, 2) := by decide +kernel
theorem dX5_findStand_99 : decode cX5_findStand 99 = .ok (.invokestatic 144, 3) := by decide +kernel
theorem dX5_findStand_102 : decode cX5_findStand 102 = .ok (.iadd, 1) := by decide +kernel
theorem dX5_findStand_103 : decode cX5_findStand 103 = .ok (.istore 7, 2) := by decide +kernel
theorem dX5_findStand_105 : decode cX5_findStand 105 = .ok (.aload_n 0, 1) := by decide +kernel
theorem dX5_findStand_106 : decode cX5_findStand 106 = .ok (.iload 6, 2) := by decide +kernel
theorem dX5_findStand_108 : decode cX5_findStand 108 = .ok (.iload 7, 2) := by decide +kernel
theorem dX5_findStand_110 : decode cX5_findStand 110 = .ok (.iload_n 3, 1) := by decide +kernel
theorem dX5_findStand_111 : decode cX5_findStand 111 = .ok (.invokevirtual 148, 3) := by decide +kernel
theorem dX5_findStand_114 : decode cX5_findStand 114 = .ok (.ifCond .eq 85, 3) := by decide +kernel
theorem dX5_findStand_117 : decode cX5_findStand 117 = .ok (.bipush 8, 2) := by decide +kernel
theorem dX5_findStand_119 : decode cX5_findStand 119 = .ok (.iload 6, 2) := by decide +kernel
theorem dX5_findStand_121 : decode cX5_findStand 121 = .ok (.imul, 1) := by decide +kernel
theorem dX5_findStand_122 : decode cX5_findStand 122 = .ok (.iload 7, 2) := by decide +kernel
theorem dX5_findStand_124 : decode cX5_findStand 124 = .ok (.iadd, 1) := by decide +kernel
theorem dX5_findStand_125 : decode cX5_findStand 125 = .ok (.istore 8, 2) := by decide +kernel
theorem dX5_findStand_127 : decode cX5_findStand 127 = .ok (.aload_n 0, 1) := by decide +kernel
theorem dX5_findStand_128 : decode cX5_findStand 128 = .ok (.iload 5, 2) := by decide +kernel
theorem dX5_findStand_130 : decode cX5_findStand 130 = .ok (.iload_n 1, 1) := by decide +kernel
theorem dX5_findStand_131 : decode cX5_findStand 131 = .ok (.iload_n 2, 1) := by decide +kernel
theorem dX5_findStand_132 : decode cX5_findStand 132 = .ok (.invokevirtual 151, 3) := by decide +kernel
theorem dX5_findStand_135 : decode cX5_findStand 135 = .ok (.istore 9, 2) := by decide +kernel
theorem dX5_findStand_137 : decode cX5_findStand 137 = .ok (.aload_n 0, 1) := by decide +kernel
theorem dX5_findStand_138 : decode cX5_findStand 138 = .ok (.iload 4, 2) := by decide +kernel
theorem dX5_findStand_140 : decode cX5_findStand 140 = .ok (.iload 9, 2) := by decide +kernel
theorem dX5_findStand_142 : decode cX5_findStand 142 = .ok (.aload_n 0, 1) := by decide +kernel
theorem dX5_findStand_143 : decode cX5_findStand 143 = .ok (.getfield 43, 3) := by decide +kernel
theorem dX5_findStand_146 : decode cX5_findStand 146 = .ok (.iload 8, 2) := by decide +kernel
theorem dX5_findStand_148 : decode cX5_findStand 148 = .ok (.iaload, 1) := by decide +kernel
theorem dX5_findStand_149 : decode cX5_findStand 149 = .ok (.iadd, 1) := by decide +kernel
theorem dX5_findStand_150 : decode cX5_findStand 150 = .ok (.aload_n 0, 1) := by decide +kernel
theorem dX5_findStand_151 : decode cX5_findStand 151 = .ok (.getfield 49, 3) := by decide +kernel
theorem dX5_findStand_154 : decode cX5_findStand 154 = .ok (.iload 8, 2) := by decide +kernel
theorem dX5_findStand_156 : decode cX5_findStand 156 = .ok (.iaload, 1) := by decide +kernel
theorem dX5_findStand_157 : decode cX5_findStand 157 = .ok (.invokevirtual 155, 3) := by decide +kernel
theorem dX5_findStand_160 : decode cX5_findStand 160 = .ok (.aload_n 0, 1) := by decide +kernel
theorem dX5_findStand_161 : decode cX5_findStand 161 = .ok (.iload 4, 2) := by decide +kernel
theorem dX5_findStand_163 : decode cX5_findStand 163 = .ok (.aload_n 0, 1) := by decide +kernel
theorem dX5_findStand_164 : decode cX5_findStand 164 = .ok (.getfield 46, 3) := by decide +kernel
theorem dX5_findStand_167 : decode cX5_findStand 167 = .ok (.iload 8, 2) := by decide +kernel
theorem dX5_findStand_169 : decode cX5_findStand 169 = .ok (.iaload, 1) := by decide +kernel
theorem dX5_findStand_170 : decode cX5_findStand 170 = .ok (.aload_n 0, 1) := by decide +kernel
theorem dX5_findStand_171 : decode cX5_findStand 171 = .ok (.getfield 43, 3) := by decide +kernel
theorem dX5_findStand_174 : decode cX5_findStand 174 = .ok (.iload 8, 2) := by decide +kernel
theorem dX5_findStand_176 : decode cX5_findStand 176 = .ok (.iaload, 1) := by decide +kernel
theorem dX5_findStand_177 : decode cX5_findStand 177 = .ok (.if_icmp .ne 8, 3) := by decide +kernel
theorem dX5_findStand_180 : decode cX5_findStand 180 = .ok (.ldc 147, 2) := by decide +kernel
theorem dX5_findStand_182 : decode cX5_findStand 182 = .ok (.goto 13, 3) := by decide +kernel
theorem dX5_findStand_185 : decode cX5_findStand 185 = .ok (.iload 9, 2) := by decide +kernel
theorem dX5_findStand_187 : decode cX5_findStand 187 = .ok (.aload_n 0, 1) := by decide +kernel
theorem dX5_findStand_188 : decode cX5_findStand 188 = .ok (.getfield 46, 3) := by decide +kernel
theorem dX5_findStand_191 : decode cX5_findStand 191 = .ok (.iload 8, 2) := by decide +kernel
theorem dX5_findStand_193 : decode cX5_findStand 193 = .ok (.iaload, 1) := by decide +kernel
theorem dX5_findStand_194 : decode cX5_findStand 194 = .ok (.iadd, 1) := by decide +kernel
theorem dX5_findStand_195 : decode cX5_findStand 195 = .ok (.iconst 1, 1) := by decide +kernel
theorem dX5_findStand_196 : decode cX5_findStand 196 = .ok (.invokevirtual 155, 3) := by decide +kernel
theorem dX5_findStand_199 : decode cX5_findStand 199 = .ok (.iinc 5 1, 3) := by decide +kernel
theorem dX5_findStand_202 : decode cX5_findStand 202 = .ok (.goto (-121), 3) := by decide +kernel
theorem dX5_findStand_205 : decode cX5_findStand 205 = .ok (.aload_n 0, 1) := by decide +kernel
theorem dX5_findStand_206 : decode cX5_findStand 206 = .ok (.getfield 46, 3) := by decide +kernel
theorem dX5_findStand_209 : decode cX5_findStand 209 = .ok (.iload 4, 2) := by decide +kernel
theorem dX5_findStand_211 : decode cX5_findStand 211 = .ok (.aload_n 0, 1) := by decide +kernel
theorem dX5_findStand_212 : decode cX5_findStand 212 = .ok (.getfield 49, 3) := by decide +kernel
theorem dX5_findStand_215 : decode cX5_findStand 215 = .ok (.iload 4, 2) := by decide +kernel
theorem dX5_findStand_217 : decode cX5_findStand 217 = .ok (.iaload, 1) := by decide +kernel
theorem dX5_findStand_218 : decode cX5_findStand 218 = .ok (.iconst 1, 1) := by decide +kernel
theorem dX5_findStand_219 : decode cX5_findStand 219 = .ok (.if_icmp .le 13, 3) := by decide +kernel
theorem dX5_findStand_222 : decode cX5_findStand 222 = .ok (.aload_n 0, 1) := by decide +kernel
theorem dX5_findStand_223 : decode cX5_findStand 223 = .ok (.getfield 43, 3) := by decide +kernel
theorem dX5_findStand_226 : decode cX5_findStand 226 = .ok (.iload 4, 2) := by decide +kernel
theorem dX5_findStand_228 : decode cX5_findStand 228 = .ok (.iaload, 1) := by decide +kernel
theorem dX5_findStand_229 : decode cX5_findStand 229 = .ok (.goto 10, 3) := by decide +kernel
theorem dX5_findStand_232 : decode cX5_findStand 232 = .ok (.aload_n 0, 1) := by decide +kernel
theorem dX5_findStand_233 : decode cX5_findStand 233 = .ok (.getfield 46, 3) := by decide +kernel
theorem dX5_findStand_236 : decode cX5_findStand 236 = .ok (.iload 4, 2) := by decide +kernel
theorem dX5_findStand_238 : decode cX5_findStand 238 = .ok (.iaload, 1) := by decide +kernel
theorem dX5_findStand_239 : decode cX5_findStand 239 = .ok (.iastore, 1) := by decide +kernel
theorem dX5_findStand_240 : decode cX5_findStand 240 = .ok (.return_, 1) := by decide +kernel
theorem dX5_findAll_0 : decode cX5_findAll 0 = .ok (.aload_n 0, 1) := by decide +kernel
theorem dX5_findAll_1 : decode cX5_findAll 1 = .ok (.getfield 80, 3) := by decide +kernel
theorem dX5_findAll_4 : decode cX5_findAll 4 = .ok (.istore_n 2, 1) := by decide +kernel
theorem dX5_findAll_5 : decode cX5_findAll 5 = .ok (.iload_n 2, 1) := by decide +kernel
theorem dX5_findAll_6 : decode cX5_findAll 6 = .ok (.ifCond .lt 31, 3) := by decide +kernel
theorem dX5_findAll_9 : decode cX5_findAll 9 = .ok (.aload_n 0, 1) := by decide +kernel
theorem dX5_findAll_10 : decode cX5_findAll 10 = .ok (.getfield 83, 3) := by decide +kernel
theorem dX5_findAll_13 : decode cX5_findAll 13 = .ok (.istore_n 3, 1) := by decide +kernel
theorem dX5_findAll_14 : decode cX5_findAll 14 = .ok (.iload_n 3, 1) := by decide +kernel
theorem dX5_findAll_15 : decode cX5_findAll 15 = .ok (.ifCond .lt 16, 3) := by decide +kernel
theorem dX5_findAll_18 : decode cX5_findAll 18 = .ok (.aload_n 0, 1) := by decide +kernel
theorem dX5_findAll_19 : decode cX5_findAll 19 = .ok (.iload_n 2, 1) := by decide +kernel
theorem dX5_findAll_20 : decode cX5_findAll 20 = .ok (.iload_n 3, 1) := by decide +kernel
theorem dX5_findAll_21 : decode cX5_findAll 21 = .ok (.iload_n 1, 1) := by decide +kernel
theorem dX5_findAll_22 : decode cX5_findAll 22 = .ok (.invokevirtual 159, 3) := by decide +kernel
theorem dX5_findAll_25 : decode cX5_findAll 25 = .ok (.iinc 3 (-1), 3) := by decide +kernel
theorem dX5_findAll_28 : decode cX5_findAll 28 = .ok (.goto (-14), 3) := by decide +kernel
theorem dX5_findAll_31 : decode cX5_findAll 31 = .ok (.iinc 2 (-1), 3) := by decide +kernel
theorem dX5_findAll_34 : decode cX5_findAll 34 = .ok (.goto (-29), 3) := by decide +kernel
theorem dX5_findAll_37 : decode cX5_findAll 37 = .ok (.aload_n 0, 1) := by decide +kernel
theorem dX5_findAll_38 : decode cX5_findAll 38 = .ok (.getfield 43, 3) := by decide +kernel
theorem dX5_findAll_41 : decode cX5_findAll 41 = .ok (.iconst 0, 1) := by decide +kernel
theorem dX5_findAll_42 : decode cX5_findAll 42 = .ok (.iaload, 1) := by decide +kernel
theorem dX5_findAll_43 : decode cX5_findAll 43 = .ok (.ldc 147, 2) := by decide +kernel
theorem dX5_findAll_45 : decode cX5_findAll 45 = .ok (.if_icmp .lt 8, 3) := by decide +kernel
theorem dX5_findAll_48 : decode cX5_findAll 48 = .ok (.bipush (-9), 2) := by decide +kernel
theorem dX5_findAll_50 : decode cX5_findAll 50 = .ok (.goto 9, 3) := by decide +kernel
theorem dX5_findAll_53 : decode cX5_findAll 53 = .ok (.aload_n 0, 1) := by decide +kernel
theorem dX5_findAll_54 : decode cX5_findAll 54 = .ok (.getfield 43, 3) := by decide +kernel
theorem dX5_findAll_57 : decode cX5_findAll 57 = .ok (.iconst 0, 1) := by decide +kernel
theorem dX5_findAll_58 : decode cX5_findAll 58 = .ok (.iaload, 1) := by decide +kernel
theorem dX5_findAll_59 : decode cX5_findAll 59 = .ok (.ireturn, 1) := by decide +kernel
theorem dX5_findBest_0 : decode cX5_findBest 0 = .ok (.aload_n 0, 1) := by decide +kernel
theorem dX5_findBest_1 : decode cX5_findBest 1 = .ok (.aload_n 0, 1) := by decide +kernel
theorem dX5_findBest_2 : decode cX5_findBest 2 = .ok (.getfield 119, 3) := by decide +kernel
theorem dX5_findBest_5 : decode cX5_findBest 5 = .ok (.invokevirtual 162, 3) := by decide +kernel
theorem dX5_findBest_8 : decode cX5_findBest 8 = .ok (.istore_n 1, 1) := by decide +kernel
theorem dX5_findBest_9 : decode cX5_findBest 9 = .ok (.aload_n 0, 1) := by decide +kernel
theorem dX5_findBest_10 : decode cX5_findBest 10 = .ok (.iconst 0, 1) := by decide +kernel
theorem dX5_findBest_11 : decode cX5_findBest 11 = .ok (.putfield 165, 3) := by decide +kernel
theorem dX5_findBest_14 : decode cX5_findBest 14 = .ok (.iconst 0, 1) := by decide +kernel
theorem dX5_findBest_15 : decode cX5_findBest 15 = .ok (.istore_n 2, 1) := by decide +kernel
theorem dX5_findBest_16 : decode cX5_findBest 16 = .ok (.iconst 0, 1) := by decide +kernel
theorem dX5_findBest_17 : decode cX5_findBest 17 = .ok (.istore_n 3, 1) := by decide +kernel
theorem dX5_findBest_18 : decode cX5_findBest 18 = .ok (.iload_n 1, 1) := by decide +kernel
theorem dX5_findBest_19 : decode cX5_findBest 19 = .ok (.bipush (-9), 2) := by decide +kernel
theorem dX5_findBest_21 : decode cX5_findBest 21 = .ok (.if_icmp .eq 99, 3) := by decide +kernel
theorem dX5_findBest_24 : decode cX5_findBest 24 = .ok (.iload_n 2, 1) := by decide +kernel
theorem dX5_findBest_25 : decode cX5_findBest 25 = .ok (.aload_n 0, 1) := by decide +kernel
theorem dX5_findBest_26 : decode cX5_findBest 26 = .ok (.getfield 80, 3) := by decide +kernel
theorem dX5_findBest_29 : decode cX5_findBest 29 = .ok (.if_icmp .lt 11, 3) := by decide +kernel
theorem dX5_findBest_32 : decode cX5_findBest 32 = .ok (.iload_n 3, 1) := by decide +kernel
theorem dX5_findBest_33 : decode cX5_findBest 33 = .ok (.aload_n 0, 1) := by decide +kernel
theorem dX5_findBest_34 : decode cX5_findBest 34 = .ok (.getfield 83, 3) := by decide +kernel
theorem dX5_findBest_37 : decode cX5_findBest 37 = .ok (.if_icmp .ge 83, 3) := by decide +kernel
theorem dX5_findBest_40 : decode cX5_findBest 40 = .ok (.iconst 0, 1) := by decide +kernel
theorem dX5_findBest_41 : decode cX5_findBest 41 = .ok (.istore 4, 2) := by decide +kernel
theorem dX5_findBest_43 : decode cX5_findBest 43 = .ok (.aload_n 0, 1) := by decide +kernel
theorem dX5_findBest_44 : decode cX5_findBest 44 = .ok (.iload 4, 2) := by decide +kernel
theorem dX5_findBest_46 : decode cX5_findBest 46 = .ok (.iload_n 2, 1) := by decide +kernel
theorem dX5_findBest_47 : decode cX5_findBest 47 = .ok (.iload_n 3, 1) := by decide +kernel
theorem dX5_findBest_48 : decode cX5_findBest 48 = .ok (.invokevirtual 168, 3) := by decide +kernel
theorem dX5_findBest_51 : decode cX5_findBest 51 = .ok (.ifCond .ne 9, 3) := by decide +kernel
theorem dX5_findBest_54 : decode cX5_findBest 54 = .ok (.iinc 4 1, 3) := by decide +kernel
theorem dX5_findBest_57 : decode cX5_findBest 57 = .ok (.goto (-14), 3) := by decide +kernel
theorem dX5_findBest_60 : decode cX5_findBest 60 = .ok (.aload_n 0, 1) := by decide +kernel
theorem dX5_findBest_61 : decode cX5_findBest 61 = .ok (.getfield 52, 3) := by decide +kernel
theorem dX5_findBest_64 : decode cX5_findBest 64 = .ok (.aload_n 0, 1) := by decide +kernel
theorem dX5_findBest_65 : decode cX5_findBest 65 = .ok (.getfield 165, 3) := by decide +kernel
theorem dX5_findBest_68 : decode cX5_findBest 68 = .ok (.iload 4, 2) := by decide +kernel
theorem dX5_findBest_70 : decode cX5_findBest 70 = .ok (.iastore, 1) := by decide +kernel
theorem dX5_findBest_71 : decode cX5_findBest 71 = .ok (.aload_n 0, 1) := by decide +kernel
theorem dX5_findBest_72 : decode cX5_findBest 72 = .ok (.getfield 55, 3) := by decide +kernel
theorem dX5_findBest_75 : decode cX5_findBest 75 = .ok (.aload_n 0, 1) := by decide +kernel
theorem dX5_findBest_76 : decode cX5_findBest 76 = .ok (.getfield 165, 3) := by decide +kernel
theorem dX5_findBest_79 : decode cX5_findBest 79 = .ok (.iload_n 2, 1) := by decide +kernel
theorem dX5_findBest_80 : decode cX5_findBest 80 = .ok (.iastore, 1) := by decide +kernel
theorem dX5_findBest_81 : decode cX5_findBest 81 = .ok (.aload_n 0, 1) := by decide +kernel
theorem dX5_findBest_82 : decode cX5_findBest 82 = .ok (.getfield 58, 3) := by decide +kernel
theorem dX5_findBest_85 : decode cX5_findBest 85 = .ok (.aload_n 0, 1) := by decide +kernel
theorem dX5_findBest_86 : decode cX5_findBest 86 = .ok (.getfield 165, 3) := by decide +kernel
theorem dX5_findBest_89 : decode cX5_findBest 89 = .ok (.iload_n 3, 1) := by decide +kernel
theorem dX5_findBest_90 : decode cX5_findBest 90 = .ok (.iastore, 1) := by decide +kernel
theorem dX5_findBest_91 : decode cX5_findBest 91 = .ok (.aload_n 0, 1) := by decide +kernel
theorem dX5_findBest_92 : decode cX5_findBest 92 = .ok (.dup, 1) := by decide +kernel
theorem dX5_findBest_93 : decode cX5_findBest 93 = .ok (.getfield 165, 3) := by decide +kernel
theorem dX5_findBest_96 : decode cX5_findBest 96 = .ok (.iconst 1, 1) := by decide +kernel
theorem dX5_findBest_97 : decode cX5_findBest 97 = .ok (.iadd, 1) := by decide +kernel
theorem dX5_findBest_98 : decode cX5_findBest 98 = .ok (.putfield 165, 3) := by decide +kernel
theorem dX5_findBest_101 : decode cX5_findBest 101 = .ok (.iload_n 2, 1) := by decide +kernel
theorem dX5_findBest_102 : decode cX5_findBest 102 = .ok (.iload 4, 2) := by decide +kernel
theorem dX5_findBest_104 : decode cX5_findBest 104 = .ok (.invokestatic 138, 3) := by decide +kernel
theorem dX5_findBest_107 : decode cX5_findBest 107 = .ok (.iadd, 1) := by decide +kernel
theorem dX5_findBest_108 : decode cX5_findBest 108 = .ok (.istore_n 2, 1) := by decide +kernel
theorem dX5_findBest_109 : decode cX5_findBest 109 = .ok (.iload_n 3, 1) := by decide +kernel
theorem dX5_findBest_110 : decode cX5_findBest 110 = .ok (.iload 4, 2) := by decide +kernel
theorem dX5_findBest_112 : decode cX5_findBest 112 = .ok (.invokestatic 144, 3) := by decide +kernel
theorem dX5_findBest_115 : decode cX5_findBest 115 = .ok (.iadd, 1) := by decide +kernel
theorem dX5_findBest_116 : decode cX5_findBest 116 = .ok (.istore_n 3, 1) := by decide +kernel
theorem dX5_findBest_117 : decode cX5_findBest 117 = .ok (.goto (-99), 3) := by decide +kernel
theorem dX5_findBest_120 : decode cX5_findBest 120 = .ok (.iload_n 1, 1) := by decide +kernel
theorem dX5_findBest_121 : decode cX5_findBest 121 = .ok (.ireturn, 1) := by decide +kernel
theorem dX5_isOnBest_0 : decode cX5_isOnBest 0 = .ok (.iload_n 2, 1) := by decide +kernel
theorem dX5_isOnBest_1 : decode cX5_isOnBest 1 = .ok (.iload_n 1, 1) := by decide +kernel
theorem dX5_isOnBest_2 : decode cX5_isOnBest 2 = .ok (.invokestatic 138, 3) := by decide +kernel
theorem dX5_isOnBest_5 : decode cX5_isOnBest 5 = .ok (.iadd, 1) := by decide +kernel
theorem dX5_isOnBest_6 : decode cX5_isOnBest 6 = .ok (.istore 4, 2) := by decide +kernel
theorem dX5_isOnBest_8 : decode cX5_isOnBest 8 = .ok (.iload_n 3, 1) := by decide +kernel
theorem dX5_isOnBest_9 : decode cX5_isOnBest 9 = .ok (.iload_n 1, 1) := by decide +kernel
theorem dX5_isOnBest_10 : decode cX5_isOnBest 10 = .ok (.invokestatic 144, 3) := by decide +kernel
theorem dX5_isOnBest_13 : decode cX5_isOnBest 13 = .ok (.iadd, 1) := by decide +kernel
theorem dX5_isOnBest_14 : decode cX5_isOnBest 14 = .ok (.istore 5, 2) := by decide +kernel
theorem dX5_isOnBest_16 : decode cX5_isOnBest 16 = .ok (.aload_n 0, 1) := by decide +kernel
theorem dX5_isOnBest_17 : decode cX5_isOnBest 17 = .ok (.iload 4, 2) := by decide +kernel
theorem dX5_isOnBest_19 : decode cX5_isOnBest 19 = .ok (.iload 5, 2) := by decide +kernel
theorem dX5_isOnBest_21 : decode cX5_isOnBest 21 = .ok (.aload_n 0, 1) := by decide +kernel
theorem dX5_isOnBest_22 : decode cX5_isOnBest 22 = .ok (.getfield 119, 3) := by decide +kernel
theorem dX5_isOnBest_25 : decode cX5_isOnBest 25 = .ok (.invokevirtual 148, 3) := by decide +kernel
theorem dX5_isOnBest_28 : decode cX5_isOnBest 28 = .ok (.ifCond .eq 42, 3) := by decide +kernel
theorem dX5_isOnBest_31 : decode cX5_isOnBest 31 = .ok (.aload_n 0, 1) := by decide +kernel
theorem dX5_isOnBest_32 : decode cX5_isOnBest 32 = .ok (.iload_n 1, 1) := by decide +kernel
theorem dX5_isOnBest_33 : decode cX5_isOnBest 33 = .ok (.iload_n 2, 1) := by decide +kernel
theorem dX5_isOnBest_34 : decode cX5_isOnBest 34 = .ok (.iload_n 3, 1) := by decide +kernel
theorem dX5_isOnBest_35 : decode cX5_isOnBest 35 = .ok (.invokevirtual 151, 3) := by decide +kernel
theorem dX5_isOnBest_38 : decode cX5_isOnBest 38 = .ok (.aload_n 0, 1) := by decide +kernel
theorem dX5_isOnBest_39 : decode cX5_isOnBest 39 = .ok (.getfield 43, 3) := by decide +kernel
theorem dX5_isOnBest_42 : decode cX5_isOnBest 42 = .ok (.bipush 8, 2) := by decide +kernel
theorem dX5_isOnBest_44 : decode cX5_isOnBest 44 = .ok (.iload 4, 2) := by decide +kernel
theorem dX5_isOnBest_46 : decode cX5_isOnBest 46 = .ok (.imul, 1) := by decide +kernel
theorem dX5_isOnBest_47 : decode cX5_isOnBest 47 = .ok (.iload 5, 2) := by decide +kernel
theorem dX5_isOnBest_49 : decode cX5_isOnBest 49 = .ok (.iadd, 1) := by decide +kernel
theorem dX5_isOnBest_50 : decode cX5_isOnBest 50 = .ok (.iaload, 1) := by decide +kernel
theorem dX5_isOnBest_51 : decode cX5_isOnBest 51 = .ok (.iadd, 1) := by decide +kernel
theorem dX5_isOnBest_52 : decode cX5_isOnBest 52 = .ok (.aload_n 0, 1) := by decide +kernel
theorem dX5_isOnBest_53 : decode cX5_isOnBest 53 = .ok (.getfield 43, 3) := by decide +kernel
theorem dX5_isOnBest_56 : decode cX5_isOnBest 56 = .ok (.bipush 8, 2) := by decide +kernel
theorem dX5_isOnBest_58 : decode cX5_isOnBest 58 = .ok (.iload_n 2, 1) := by decide +kernel
theorem dX5_isOnBest_59 : decode cX5_isOnBest 59 = .ok (.imul, 1) := by decide +kernel
theorem dX5_isOnBest_60 : decode cX5_isOnBest 60 = .ok (.iload_n 3, 1) := by decide +kernel
theorem dX5_isOnBest_61 : decode cX5_isOnBest 61 = .ok (.iadd, 1) := by decide +kernel
theorem dX5_isOnBest_62 : decode cX5_isOnBest 62 = .ok (.iaload, 1) := by decide +kernel
theorem dX5_isOnBest_63 : decode cX5_isOnBest 63 = .ok (.if_icmp .ne 7, 3) := by decide +kernel
theorem dX5_isOnBest_66 : decode cX5_isOnBest 66 = .ok (.iconst 1, 1) := by decide +kernel
theorem dX5_isOnBest_67 : decode cX5_isOnBest 67 = .ok (.goto 4, 3) := by decide +kernel
theorem dX5_isOnBest_70 : decode cX5_isOnBest 70 = .ok (.iconst 0, 1) := by decide +kernel
theorem dX5_isOnBest_71 : decode cX5_isOnBest 71 = .ok (.ireturn, 1) := by decide +kernel
theorem dX5_pairedWith_0 : decode cX5_pairedWith 0 = .ok (.iconst 0, 1) := by decide +kernel
theorem dX5_pairedWith_1 : decode cX5_pairedWith 1 = .ok (.istore_n 3, 1) := by decide +kernel
theorem dX5_pairedWith_2 : decode cX5_pairedWith 2 = .ok (.iconst 0, 1) := by decide +kernel
theorem dX5_pairedWith_3 : decode cX5_pairedWith 3 = .ok (.istore 4, 2) := by decide +kernel
theorem dX5_pairedWith_5 : decode cX5_pairedWith 5 = .ok (.iload 4, 2) := by decide +kernel
theorem dX5_pairedWith_7 : decode cX5_pairedWith 7 = .ok (.aload_n 0, 1) := by decide +kernel
theorem dX5_pairedWith_8 : decode cX5_pairedWith 8 = .ok (.getfield 165, 3) := by decide +kernel
theorem dX5_pairedWith_11 : decode cX5_pairedWith 11 = .ok (.if_icmp .ge 144, 3) := by decide +kernel
theorem dX5_pairedWith_14 : decode cX5_pairedWith 14 = .ok (.iload_n 1, 1) := by decide +kernel
theorem dX5_pairedWith_15 : decode cX5_pairedWith 15 = .ok (.ifCond .ne 13, 3) := by decide +kernel
theorem dX5_pairedWith_18 : decode cX5_pairedWith 18 = .ok (.aload_n 0, 1) := by decide +kernel
theorem dX5_pairedWith_19 : decode cX5_pairedWith 19 = .ok (.getfield 55, 3) := by decide +kernel
theorem dX5_pairedWith_22 : decode cX5_pairedWith 22 = .ok (.iload 4, 2) := by decide +kernel
theorem dX5_pairedWith_24 : decode cX5_pairedWith 24 = .ok (.iaload, 1) := by decide +kernel
theorem dX5_pairedWith_25 : decode cX5_pairedWith 25 = .ok (.goto 10, 3) := by decide +kernel
theorem dX5_pairedWith_28 : decode cX5_pairedWith 28 = .ok (.aload_n 0, 1) := by decide +kernel
theorem dX5_pairedWith_29 : decode cX5_pairedWith 29 = .ok (.getfield 58, 3) := by decide +kernel
theorem dX5_pairedWith_32 : decode cX5_pairedWith 32 = .ok (.iload 4, 2) := by decide +kernel
theorem dX5_pairedWith_34 : decode cX5_pairedWith 34 = .ok (.iaload, 1) := by decide +kernel
theorem dX5_pairedWith_35 : decode cX5_pairedWith 35 = .ok (.istore 5, 2) := by decide +kernel
theorem dX5_pairedWith_37 : decode cX5_pairedWith 37 = .ok (.iload_n 1, 1) := by decide +kernel
theorem dX5_pairedWith_38 : decode cX5_pairedWith 38 = .ok (.ifCond .ne 16, 3) := by decide +kernel
theorem dX5_pairedWith_41 : decode cX5_pairedWith 41 = .ok (.aload_n 0, 1) := by decide +kernel
theorem dX5_pairedWith_42 : decode cX5_pairedWith 42 = .ok (.getfield 52, 3) := by decide +kernel
theorem dX5_pairedWith_45 : decode cX5_pairedWith 45 = .ok (.iload 4, 2) := by decide +kernel
theorem dX5_pairedWith_47 : decode cX5_pairedWith 47 = .ok (.iaload, 1) := by decide +kernel
theorem dX5_pairedWith_48 : decode cX5_pairedWith 48 = .ok (.invokestatic 138, 3) := by decide +kernel
theorem dX5_pairedWith_51 : decode cX5_pairedWith 51 = .ok (.goto 13, 3) := by decide +kernel
theorem dX5_pairedWith_54 : decode cX5_pairedWith 54 = .ok (.aload_n 0, 1) := by decide +kernel
theorem dX5_pairedWith_55 : decode cX5_pairedWith 55 = .ok (.getfield 52, 3) := by decide +kernel
theorem dX5_pairedWith_58 : decode cX5_pairedWith 58 = .ok (.iload 4, 2) := by decide +kernel
theorem dX5_pairedWith_60 : decode cX5_pairedWith 60 = .ok (.iaload, 1) := by decide +kernel
theorem dX5_pairedWith_61 : decode cX5_pairedWith 61 = .ok (.invokestatic 144, 3) := by decide +kernel
theorem dX5_pairedWith_64 : decode cX5_pairedWith 64 = .ok (.istore 6, 2) := by decide +kernel
theorem dX5_pairedWith_66 : decode cX5_pairedWith 66 = .ok (.iload_n 1, 1) := by decide +kernel
theorem dX5_pairedWith_67 : decode cX5_pairedWith 67 = .ok (.ifCond .ne 13, 3) := by decide +kernel
theorem dX5_pairedWith_70 : decode cX5_pairedWith 70 = .ok (.aload_n 0, 1) := by decide +kernel
theorem dX5_pairedWith_71 : decode cX5_pairedWith 71 = .ok (.getfield 58, 3) := by decide +kernel
theorem dX5_pairedWith_74 : decode cX5_pairedWith 74 = .ok (.iload 4, 2) := by decide +kernel
theorem dX5_pairedWith_76 : decode cX5_pairedWith 76 = .ok (.iaload, 1) := by decide +kernel
theorem dX5_pairedWith_77 : decode cX5_pairedWith 77 = .ok (.goto 10, 3) := by decide +kernel
theorem dX5_pairedWith_80 : decode cX5_pairedWith 80 = .ok (.aload_n 0, 1) := by decide +kernel
theorem dX5_pairedWith_81 : decode cX5_pairedWith 81 = .ok (.getfield 55, 3) := by decide +kernel
theorem dX5_pairedWith_84 : decode cX5_pairedWith 84 = .ok (.iload 4, 2) := by decide +kernel
theorem dX5_pairedWith_86 : decode cX5_pairedWith 86 = .ok (.iaload, 1) := by decide +kernel
theorem dX5_pairedWith_87 : decode cX5_pairedWith 87 = .ok (.istore 7, 2) := by decide +kernel
theorem dX5_pairedWith_89 : decode cX5_pairedWith 89 = .ok (.iload_n 1, 1) := by decide +kernel
theorem dX5_pairedWith_90 : decode cX5_pairedWith 90 = .ok (.ifCond .ne 16, 3) := by decide +kernel
theorem dX5_pairedWith_93 : decode cX5_pairedWith 93 = .ok (.aload_n 0, 1) := by decide +kernel
theorem dX5_pairedWith_94 : decode cX5_pairedWith 94 = .ok (.getfield 52, 3) := by decide +kernel
theorem dX5_pairedWith_97 : decode cX5_pairedWith 97 = .ok (.iload 4, 2) := by decide +kernel
theorem dX5_pairedWith_99 : decode cX5_pairedWith 99 = .ok (.iaload, 1) := by decide +kernel
theorem dX5_pairedWith_100 : decode cX5_pairedWith 100 = .ok (.invokestatic 144, 3) := by decide +kernel
theorem dX5_pairedWith_103 : decode cX5_pairedWith 103 = .ok (.goto 13, 3) := by decide +kernel
theorem dX5_pairedWith_106 : decode cX5_pairedWith 106 = .ok (.aload_n 0, 1) := by decide +kernel
theorem dX5_pairedWith_107 : decode cX5_pairedWith 107 = .ok (.getfield 52, 3) := by decide +kernel
theorem dX5_pairedWith_110 : decode cX5_pairedWith 110 = .ok (.iload 4, 2) := by decide +kernel
theorem dX5_pairedWith_112 : decode cX5_pairedWith 112 = .ok (.iaload, 1) := by decide +kernel
theorem dX5_pairedWith_113 : decode cX5_pairedWith 113 = .ok (.invokestatic 138, 3) := by decide +kernel
theorem dX5_pairedWith_116 : decode cX5_pairedWith 116 = .ok (.istore 8, 2) := by decide +kernel
theorem dX5_pairedWith_118 : decode cX5_pairedWith 118 = .ok (.iload_n 3, 1) := by decide +kernel
theorem dX5_pairedWith_119 : decode cX5_pairedWith 119 = .ok (.iload_n 2, 1) := by decide +kernel
theorem dX5_pairedWith_120 : decode cX5_pairedWith 120 = .ok (.iload 5, 2) := by decide +kernel
theorem dX5_pairedWith_122 : decode cX5_pairedWith 122 = .ok (.if_icmp .lt 24, 3) := by decide +kernel
theorem dX5_pairedWith_125 : decode cX5_pairedWith 125 = .ok (.iload_n 2, 1) := by decide +kernel
theorem dX5_pairedWith_126 : decode cX5_pairedWith 126 = .ok (.iload 5, 2) := by decide +kernel
theorem dX5_pairedWith_128 : decode cX5_pairedWith 128 = .ok (.iload 6, 2) := by decide +kernel
theorem dX5_pairedWith_130 : decode cX5_pairedWith 130 = .ok (.iadd, 1) := by decide +kernel
theorem dX5_pairedWith_131 : decode cX5_pairedWith 131 = .ok (.if_icmp .ge 15, 3) := by decide +kernel
theorem dX5_pairedWith_134 : decode cX5_pairedWith 134 = .ok (.iconst 1, 1) := by decide +kernel
theorem dX5_pairedWith_135 : decode cX5_pairedWith 135 = .ok (.iload 8, 2) := by decide +kernel
theorem dX5_pairedWith_137 : decode cX5_pairedWith 137 = .ok (.ishl, 1) := by decide +kernel
theorem dX5_pairedWith_138 : decode cX5_pairedWith 138 = .ok (.iconst 1, 1) := by decide +kernel
theorem dX5_pairedWith_139 : decode cX5_pairedWith 139 = .ok (.isub, 1) := by decide +kernel
theorem dX5_pairedWith_140 : decode cX5_pairedWith 140 = .ok (.iload 7, 2) := by decide +kernel
theorem dX5_pairedWith_142 : decode cX5_pairedWith 142 = .ok (.ishl, 1) := by decide +kernel
theorem dX5_pairedWith_143 : decode cX5_pairedWith 143 = .ok (.goto 4, 3) := by decide +kernel
theorem dX5_pairedWith_146 : decode cX5_pairedWith 146 = .ok (.iconst 0, 1) := by decide +kernel
theorem dX5_pairedWith_147 : decode cX5_pairedWith 147 = .ok (.ior, 1) := by decide +kernel
theorem dX5_pairedWith_148 : decode cX5_pairedWith 148 = .ok (.istore_n 3, 1) := by decide +kernel
theorem dX5_pairedWith_149 : decode cX5_pairedWith 149 = .ok (.iinc 4 1, 3) := by decide +kernel
theorem dX5_pairedWith_152 : decode cX5_pairedWith 152 = .ok (.goto (-147), 3) := by decide +kernel
theorem dX5_pairedWith_155 : decode cX5_pairedWith 155 = .ok (.iload_n 3, 1) := by decide +kernel
theorem dX5_pairedWith_156 : decode cX5_pairedWith 156 = .ok (.ireturn, 1) := by decide +kernel
theorem dX5_ofLeft_0 : decode cX5_ofLeft 0 = .ok (.aload_n 0, 1) := by decide +kernel
theorem dX5_ofLeft_1 : decode cX5_ofLeft 1 = .ok (.iload_n 1, 1) := by decide +kernel
theorem dX5_ofLeft_2 : decode cX5_ofLeft 2 = .ok (.invokevirtual 171, 3) := by decide +kernel
theorem dX5_ofLeft_5 : decode cX5_ofLeft 5 = .ok (.ifCond .ne 5, 3) := by decide +kernel
theorem dX5_ofLeft_8 : decode cX5_ofLeft 8 = .ok (.iconst (-1), 1) := by decide +kernel
theorem dX5_ofLeft_9 : decode cX5_ofLeft 9 = .ok (.ireturn, 1) := by decide +kernel
theorem dX5_ofLeft_10 : decode cX5_ofLeft 10 = .ok (.iload_n 2, 1) := by decide +kernel
theorem dX5_ofLeft_11 : decode cX5_ofLeft 11 = .ok (.tableswitch 72 0 4 #[33, 40, 47, 53, 60], 33) := by decide +kernel
theorem dX5_ofLeft_44 : decode cX5_ofLeft 44 = .ok (.aload_n 0, 1) := by decide +kernel
theorem dX5_ofLeft_45 : decode cX5_ofLeft 45 = .ok (.getfield 19, 3) := by decide +kernel
theorem dX5_ofLeft_48 : decode cX5_ofLeft 48 = .ok (.iload_n 1, 1) := by decide +kernel
theorem dX5_ofLeft_49 : decode cX5_ofLeft 49 = .ok (.iaload, 1) := by decide +kernel
theorem dX5_ofLeft_50 : decode cX5_ofLeft 50 = .ok (.ireturn, 1) := by decide +kernel
theorem dX5_ofLeft_51 : decode cX5_ofLeft 51 = .ok (.aload_n 0, 1) := by decide +kernel
theorem dX5_ofLeft_52 : decode cX5_ofLeft 52 = .ok (.getfield 22, 3) := by decide +kernel
theorem dX5_ofLeft_55 : decode cX5_ofLeft 55 = .ok (.iload_n 1, 1) := by decide +kernel
theorem dX5_ofLeft_56 : decode cX5_ofLeft 56 = .ok (.iaload, 1) := by decide +kernel
theorem dX5_ofLeft_57 : decode cX5_ofLeft 57 = .ok (.ireturn, 1) := by decide +kernel
theorem dX5_ofLeft_58 : decode cX5_ofLeft 58 = .ok (.aload_n 0, 1) := by decide +kernel
theorem dX5_ofLeft_59 : decode cX5_ofLeft 59 = .ok (.iload_n 1, 1) := by decide +kernel
theorem dX5_ofLeft_60 : decode cX5_ofLeft 60 = .ok (.invokevirtual 135, 3) := by decide +kernel
theorem dX5_ofLeft_63 : decode cX5_ofLeft 63 = .ok (.ireturn, 1) := by decide +kernel
theorem dX5_ofLeft_64 : decode cX5_ofLeft 64 = .ok (.aload_n 0, 1) := by decide +kernel
theorem dX5_ofLeft_65 : decode cX5_ofLeft 65 = .ok (.getfield 25, 3) := by decide +kernel
theorem dX5_ofLeft_68 : decode cX5_ofLeft 68 = .ok (.iload_n 1, 1) := by decide +kernel
theorem dX5_ofLeft_69 : decode cX5_ofLeft 69 = .ok (.iaload, 1) := by decide +kernel
theorem dX5_ofLeft_70 : decode cX5_ofLeft 70 = .ok (.ireturn, 1) := by decide +kernel
theorem dX5_ofLeft_71 : decode cX5_ofLeft 71 = .ok (.aload_n 0, 1) := by decide +kernel
theorem dX5_ofLeft_72 : decode cX5_ofLeft 72 = .ok (.invokevirtual 174, 3) := by decide +kernel
theorem dX5_ofLeft_75 : decode cX5_ofLeft 75 = .ok (.pop, 1) := by decide +kernel
theorem dX5_ofLeft_76 : decode cX5_ofLeft 76 = .ok (.aload_n 0, 1) := by decide +kernel
theorem dX5_ofLeft_77 : decode cX5_ofLeft 77 = .ok (.iconst 0, 1) := by decide +kernel
theorem dX5_ofLeft_78 : decode cX5_ofLeft 78 = .ok (.iload_n 1, 1) := by decide +kernel
theorem dX5_ofLeft_79 : decode cX5_ofLeft 79 = .ok (.invokevirtual 178, 3) := by decide +kernel
theorem dX5_ofLeft_82 : decode cX5_ofLeft 82 = .ok (.ireturn, 1) := by decide +kernel
theorem dX5_ofLeft_83 : decode cX5_ofLeft 83 = .ok (.bipush (-2), 2) := by decide +kernel
theorem dX5_ofLeft_85 : decode cX5_ofLeft 85 = .ok (.ireturn, 1) := by decide +kernel
theorem dX5_ofRight_0 : decode cX5_ofRight 0 = .ok (.aload_n 0, 1) := by decide +kernel
theorem dX5_ofRight_1 : decode cX5_ofRight 1 = .ok (.iload_n 1, 1) := by decide +kernel
theorem dX5_ofRight_2 : decode cX5_ofRight 2 = .ok (.invokevirtual 182, 3) := by decide +kernel
theorem dX5_ofRight_5 : decode cX5_ofRight 5 = .ok (.ifCond .ne 5, 3) := by decide +kernel
theorem dX5_ofRight_8 : decode cX5_ofRight 8 = .ok (.iconst (-1), 1) := by decide +kernel
theorem dX5_ofRight_9 : decode cX5_ofRight 9 = .ok (.ireturn, 1) := by decide +kernel
theorem dX5_ofRight_10 : decode cX5_ofRight 10 = .ok (.iload_n 2, 1) := by decide +kernel
theorem dX5_ofRight_11 : decode cX5_ofRight 11 = .ok (.iconst 2, 1) := by decide +kernel
theorem dX5_ofRight_12 : decode cX5_ofRight 12 = .ok (.if_icmp .ne 15, 3) := by decide +kernel
theorem dX5_ofRight_15 : decode cX5_ofRight 15 = .ok (.aload_n 0, 1) := by decide +kernel
theorem dX5_ofRight_16 : decode cX5_ofRight 16 = .ok (.invokevirtual 174, 3) := by decide +kernel
theorem dX5_ofRight_19 : decode cX5_ofRight 19 = .ok (.pop, 1) := by decide +kernel
theorem dX5_ofRight_20 : decode cX5_ofRight 20 = .ok (.aload_n 0, 1) := by decide +kernel
theorem dX5_ofRight_21 : decode cX5_ofRight 21 = .ok (.iconst 1, 1) := by decide +kernel
theorem dX5_ofRight_22 : decode cX5_ofRight 22 = .ok (.iload_n 1, 1) := by decide +kernel
theorem dX5_ofRight_23 : decode cX5_ofRight 23 = .ok (.invokevirtual 178, 3) := by decide +kernel
theorem dX5_ofRight_26 : decode cX5_ofRight 26 = .ok (.ireturn, 1) := by decide +kernel
theorem dX5_ofRight_27 : decode cX5_ofRight 27 = .ok (.iload_n 2, 1) := by decide +kernel
theorem dX5_ofRight_28 : decode cX5_ofRight 28 = .ok (.ifCond .ne 12, 3) := by decide +kernel
theorem dX5_ofRight_31 : decode cX5_ofRight 31 = .ok (.aload_n 0, 1) := by decide +kernel
theorem dX5_ofRight_32 : decode cX5_ofRight 32 = .ok (.getfield 28, 3) := by decide +kernel
theorem dX5_ofRight_35 : decode cX5_ofRight 35 = .ok (.iload_n 1, 1) := by decide +kernel
theorem dX5_ofRight_36 : decode cX5_ofRight 36 = .ok (.iaload, 1) := by decide +kernel
theorem dX5_ofRight_37 : decode cX5_ofRight 37 = .ok (.goto 19, 3) := by decide +kernel
theorem dX5_ofRight_40 : decode cX5_ofRight 40 = .ok (.iload_n 2, 1) := by decide +kernel
theorem dX5_ofRight_41 : decode cX5_ofRight 41 = .ok (.iconst 1, 1) := by decide +kernel
theorem dX5_ofRight_42 : decode cX5_ofRight 42 = .ok (.if_icmp .ne 12, 3) := by decide +kernel
theorem dX5_ofRight_45 : decode cX5_ofRight 45 = .ok (.aload_n 0, 1) := by decide +kernel
theorem dX5_ofRight_46 : decode cX5_ofRight 46 = .ok (.getfield 31, 3) := by decide +kernel
theorem dX5_ofRight_49 : decode cX5_ofRight 49 = .ok (.iload_n 1, 1) := by decide +kernel
theorem dX5_ofRight_50 : decode cX5_ofRight 50 = .ok (.iaload, 1) := by decide +kernel
theorem dX5_ofRight_51 : decode cX5_ofRight 51 = .ok (.goto 5, 3) := by decide +kernel
theorem dX5_ofRight_54 : decode cX5_ofRight 54 = .ok (.bipush (-2), 2) := by decide +kernel
theorem dX5_ofRight_56 : decode cX5_ofRight 56 = .ok (.ireturn, 1) := by decide +kernel
theorem dX5_letters_0 : decode cX5_letters 0 = .ok (.iload_n 1, 1) := by decide +kernel
theorem dX5_letters_1 : decode cX5_letters 1 = .ok (.iconst 0, 1) := by decide +kernel
theorem dX5_letters_2 : decode cX5_letters 2 = .ok (.iconst 1, 1) := by decide +kernel
theorem dX5_letters_3 : decode cX5_letters 3 = .ok (.invokestatic 76, 3) := by decide +kernel
theorem dX5_letters_6 : decode cX5_letters 6 = .ok (.ifCond .ne 6, 3) := by decide +kernel
theorem dX5_letters_9 : decode cX5_letters 9 = .ok (.bipush (-2), 2) := by decide +kernel
theorem dX5_letters_11 : decode cX5_letters 11 = .ok (.ireturn, 1) := by decide +kernel
theorem dX5_letters_12 : decode cX5_letters 12 = .ok (.iload_n 1, 1) := by decide +kernel
theorem dX5_letters_13 : decode cX5_letters 13 = .ok (.ifCond .ne 14, 3) := by decide +kernel
theorem dX5_letters_16 : decode cX5_letters 16 = .ok (.aload_n 0, 1) := by decide +kernel
theorem dX5_letters_17 : decode cX5_letters 17 = .ok (.iload_n 2, 1) := by decide +kernel
theorem dX5_letters_18 : decode cX5_letters 18 = .ok (.invokevirtual 171, 3) := by decide +kernel
theorem dX5_letters_21 : decode cX5_letters 21 = .ok (.ifCond .ne 16, 3) := by decide +kernel
theorem dX5_letters_24 : decode cX5_letters 24 = .ok (.goto 11, 3) := by decide +kernel
theorem dX5_letters_27 : decode cX5_letters 27 = .ok (.aload_n 0, 1) := by decide +kernel
theorem dX5_letters_28 : decode cX5_letters 28 = .ok (.iload_n 2, 1) := by decide +kernel
theorem dX5_letters_29 : decode cX5_letters 29 = .ok (.invokevirtual 182, 3) := by decide +kernel
theorem dX5_letters_32 : decode cX5_letters 32 = .ok (.ifCond .ne 5, 3) := by decide +kernel
theorem dX5_letters_35 : decode cX5_letters 35 = .ok (.iconst (-1), 1) := by decide +kernel
theorem dX5_letters_36 : decode cX5_letters 36 = .ok (.ireturn, 1) := by decide +kernel
theorem dX5_letters_37 : decode cX5_letters 37 = .ok (.iload_n 3, 1) := by decide +kernel
theorem dX5_letters_38 : decode cX5_letters 38 = .ok (.iconst 1, 1) := by decide +kernel
theorem dX5_letters_39 : decode cX5_letters 39 = .ok (.bipush 9, 2) := by decide +kernel
theorem dX5_letters_41 : decode cX5_letters 41 = .ok (.invokestatic 76, 3) := by decide +kernel
theorem dX5_letters_44 : decode cX5_letters 44 = .ok (.ifCond .ne 6, 3) := by decide +kernel
theorem dX5_letters_47 : decode cX5_letters 47 = .ok (.bipush (-2), 2) := by decide +kernel
theorem dX5_letters_49 : decode cX5_letters 49 = .ok (.ireturn, 1) := by decide +kernel
theorem dX5_letters_50 : decode cX5_letters 50 = .ok (.iload_n 1, 1) := by decide +kernel
theorem dX5_letters_51 : decode cX5_letters 51 = .ok (.ifCond .ne 12, 3) := by decide +kernel
theorem dX5_letters_54 : decode cX5_letters 54 = .ok (.aload_n 0, 1) := by decide +kernel
theorem dX5_letters_55 : decode cX5_letters 55 = .ok (.getfield 22, 3) := by decide +kernel
theorem dX5_letters_58 : decode cX5_letters 58 = .ok (.iload_n 2, 1) := by decide +kernel
theorem dX5_letters_59 : decode cX5_letters 59 = .ok (.iaload, 1) := by decide +kernel
theorem dX5_letters_60 : decode cX5_letters 60 = .ok (.goto 9, 3) := by decide +kernel
theorem dX5_letters_63 : decode cX5_letters 63 = .ok (.aload_n 0, 1) := by decide +kernel
theorem dX5_letters_64 : decode cX5_letters 64 = .ok (.getfield 28, 3) := by decide +kernel
theorem dX5_letters_67 : decode cX5_letters 67 = .ok (.iload_n 2, 1) := by decide +kernel
theorem dX5_letters_68 : decode cX5_letters 68 = .ok (.iaload, 1) := by decide +kernel
theorem dX5_letters_69 : decode cX5_letters 69 = .ok (.istore 4, 2) := by decide +kernel
theorem dX5_letters_71 : decode cX5_letters 71 = .ok (.iload_n 1, 1) := by decide +kernel
theorem dX5_letters_72 : decode cX5_letters 72 = .ok (.ifCond .ne 13, 3) := by decide +kernel
theorem dX5_letters_75 : decode cX5_letters 75 = .ok (.aload_n 0, 1) := by decide +kernel
theorem dX5_letters_76 : decode cX5_letters 76 = .ok (.getfield 22, 3) := by decide +kernel
theorem dX5_letters_79 : decode cX5_letters 79 = .ok (.iload_n 2, 1) := by decide +kernel
theorem dX5_letters_80 : decode cX5_letters 80 = .ok (.iload_n 3, 1) := by decide +kernel
theorem dX5_letters_81 : decode cX5_letters 81 = .ok (.iastore, 1) := by decide +kernel
theorem dX5_letters_82 : decode cX5_letters 82 = .ok (.goto 10, 3) := by decide +kernel
theorem dX5_letters_85 : decode cX5_letters 85 = .ok (.aload_n 0, 1) := by decide +kernel
theorem dX5_letters_86 : decode cX5_letters 86 = .ok (.getfield 28, 3) := by decide +kernel
theorem dX5_letters_89 : decode cX5_letters 89 = .ok (.iload_n 2, 1) := by decide +kernel
theorem dX5_letters_90 : decode cX5_letters 90 = .ok (.iload_n 3, 1) := by decide +kernel
theorem dX5_letters_91 : decode cX5_letters 91 = .ok (.iastore, 1) := by decide +kernel
theorem dX5_letters_92 : decode cX5_letters 92 = .ok (.iload 4, 2) := by decide +kernel
theorem dX5_letters_94 : decode cX5_letters 94 = .ok (.ireturn, 1) := by decide +kernel
theorem dX5_price_0 : decode cX5_price 0 = .ok (.iload_n 1, 1) := by decide +kernel
theorem dX5_price_1 : decode cX5_price 1 = .ok (.iconst 0, 1) := by decide +kernel
theorem dX5_price_2 : decode cX5_price 2 = .ok (.iconst 2, 1) := by decide +kernel
theorem dX5_price_3 : decode cX5_price 3 = .ok (.invokestatic 76, 3) := by decide +kernel
theorem dX5_price_6 : decode cX5_price 6 = .ok (.ifCond .ne 6, 3) := by decide +kernel
theorem dX5_price_9 : decode cX5_price 9 = .ok (.bipush (-2), 2) := by decide +kernel
theorem dX5_price_11 : decode cX5_price 11 = .ok (.ireturn, 1) := by decide +kernel
theorem dX5_price_12 : decode cX5_price 12 = .ok (.aload_n 0, 1) := by decide +kernel
theorem dX5_price_13 : decode cX5_price 13 = .ok (.getfield 80, 3) := by decide +kernel
theorem dX5_price_16 : decode cX5_price 16 = .ok (.ifCond .ne 6, 3) := by decide +kernel
theorem dX5_price_19 : decode cX5_price 19 = .ok (.bipush (-3), 2) := by decide +kernel
theorem dX5_price_21 : decode cX5_price 21 = .ok (.ireturn, 1) := by decide +kernel
theorem dX5_price_22 : decode cX5_price 22 = .ok (.iload_n 2, 1) := by decide +kernel
theorem dX5_price_23 : decode cX5_price 23 = .ok (.iconst 0, 1) := by decide +kernel
theorem dX5_price_24 : decode cX5_price 24 = .ok (.iload_n 1, 1) := by decide +kernel
theorem dX5_price_25 : decode cX5_price 25 = .ok (.iconst 2, 1) := by decide +kernel
theorem dX5_price_26 : decode cX5_price 26 = .ok (.if_icmp .ne 8, 3) := by decide +kernel
theorem dX5_price_29 : decode cX5_price 29 = .ok (.bipush 7, 2) := by decide +kernel
theorem dX5_price_31 : decode cX5_price 31 = .ok (.goto 5, 3) := by decide +kernel
theorem dX5_price_34 : decode cX5_price 34 = .ok (.bipush 9, 2) := by decide +kernel
theorem dX5_price_36 : decode cX5_price 36 = .ok (.invokestatic 76, 3) := by decide +kernel
theorem dX5_price_39 : decode cX5_price 39 = .ok (.ifCond .ne 6, 3) := by decide +kernel
theorem dX5_price_42 : decode cX5_price 42 = .ok (.bipush (-2), 2) := by decide +kernel
theorem dX5_price_44 : decode cX5_price 44 = .ok (.ireturn, 1) := by decide +kernel
theorem dX5_price_45 : decode cX5_price 45 = .ok (.iload_n 1, 1) := by decide +kernel
theorem dX5_price_46 : decode cX5_price 46 = .ok (.ifCond .ne 10, 3) := by decide +kernel
theorem dX5_price_49 : decode cX5_price 49 = .ok (.aload_n 0, 1) := by decide +kernel
theorem dX5_price_50 : decode cX5_price 50 = .ok (.getfield 113, 3) := by decide +kernel
theorem dX5_price_53 : decode cX5_price 53 = .ok (.goto 19, 3) := by decide +kernel
theorem dX5_price_56 : decode cX5_price 56 = .ok (.iload_n 1, 1) := by decide +kernel
theorem dX5_price_57 : decode cX5_price 57 = .ok (.iconst 1, 1) := by decide +kernel
theorem dX5_price_58 : decode cX5_price 58 = .ok (.if_icmp .ne 10, 3) := by decide +kernel
theorem dX5_price_61 : decode cX5_price 61 = .ok (.aload_n 0, 1) := by decide +kernel
theorem dX5_price_62 : decode cX5_price 62 = .ok (.getfield 116, 3) := by decide +kernel
theorem dX5_price_65 : decode cX5_price 65 = .ok (.goto 7, 3) := by decide +kernel
theorem dX5_price_68 : decode cX5_price 68 = .ok (.aload_n 0, 1) := by decide +kernel
theorem dX5_price_69 : decode cX5_price 69 = .ok (.getfield 119, 3) := by decide +kernel
theorem dX5_price_72 : decode cX5_price 72 = .ok (.istore_n 3, 1) := by decide +kernel
theorem dX5_price_73 : decode cX5_price 73 = .ok (.aload_n 0, 1) := by decide +kernel
theorem dX5_price_74 : decode cX5_price 74 = .ok (.iload_n 1, 1) := by decide +kernel
theorem dX5_price_75 : decode cX5_price 75 = .ok (.ifCond .ne 7, 3) := by decide +kernel
theorem dX5_price_78 : decode cX5_price 78 = .ok (.iload_n 2, 1) := by decide +kernel
theorem dX5_price_79 : decode cX5_price 79 = .ok (.goto 7, 3) := by decide +kernel
theorem dX5_price_82 : decode cX5_price 82 = .ok (.aload_n 0, 1) := by decide +kernel
theorem dX5_price_83 : decode cX5_price 83 = .ok (.getfield 113, 3) := by decide +kernel
theorem dX5_price_86 : decode cX5_price 86 = .ok (.putfield 113, 3) := by decide +kernel
theorem dX5_price_89 : decode cX5_price 89 = .ok (.aload_n 0, 1) := by decide +kernel
theorem dX5_price_90 : decode cX5_price 90 = .ok (.iload_n 1, 1) := by decide +kernel
theorem dX5_price_91 : decode cX5_price 91 = .ok (.iconst 1, 1) := by decide +kernel
theorem dX5_price_92 : decode cX5_price 92 = .ok (.if_icmp .ne 7, 3) := by decide +kernel
theorem dX5_price_95 : decode cX5_price 95 = .ok (.iload_n 2, 1) := by decide +kernel
theorem dX5_price_96 : decode cX5_price 96 = .ok (.goto 7, 3) := by decide +kernel
theorem dX5_price_99 : decode cX5_price 99 = .ok (.aload_n 0, 1) := by decide +kernel
theorem dX5_price_100 : decode cX5_price 100 = .ok (.getfield 116, 3) := by decide +kernel
theorem dX5_price_103 : decode cX5_price 103 = .ok (.putfield 116, 3) := by decide +kernel
theorem dX5_price_106 : decode cX5_price 106 = .ok (.aload_n 0, 1) := by decide +kernel
theorem dX5_price_107 : decode cX5_price 107 = .ok (.iload_n 1, 1) := by decide +kernel
theorem dX5_price_108 : decode cX5_price 108 = .ok (.iconst 2, 1) := by decide +kernel
theorem dX5_price_109 : decode cX5_price 109 = .ok (.if_icmp .ne 7, 3) := by decide +kernel
theorem dX5_price_112 : decode cX5_price 112 = .ok (.iload_n 2, 1) := by decide +kernel
theorem dX5_price_113 : decode cX5_price 113 = .ok (.goto 7, 3) := by decide +kernel
theorem dX5_price_116 : decode cX5_price 116 = .ok (.aload_n 0, 1) := by decide +kernel
theorem dX5_price_117 : decode cX5_price 117 = .ok (.getfield 119, 3) := by decide +kernel
theorem dX5_price_120 : decode cX5_price 120 = .ok (.putfield 119, 3) := by decide +kernel
theorem dX5_price_123 : decode cX5_price 123 = .ok (.iload_n 3, 1) := by decide +kernel
theorem dX5_price_124 : decode cX5_price 124 = .ok (.ireturn, 1) := by decide +kernel
theorem dX5_goesUp_0 : decode cX5_goesUp 0 = .ok (.aload_n 0, 1) := by decide +kernel
theorem dX5_goesUp_1 : decode cX5_goesUp 1 = .ok (.getfield 28, 3) := by decide +kernel
theorem dX5_goesUp_4 : decode cX5_goesUp 4 = .ok (.iload_n 1, 1) := by decide +kernel
theorem dX5_goesUp_5 : decode cX5_goesUp 5 = .ok (.iaload, 1) := by decide +kernel
theorem dX5_goesUp_6 : decode cX5_goesUp 6 = .ok (.istore_n 2, 1) := by decide +kernel
theorem dX5_goesUp_7 : decode cX5_goesUp 7 = .ok (.aload_n 0, 1) := by decide +kernel
theorem dX5_goesUp_8 : decode cX5_goesUp 8 = .ok (.getfield 31, 3) := by decide +kernel
theorem dX5_goesUp_11 : decode cX5_goesUp 11 = .ok (.iload_n 1, 1) := by decide +kernel
theorem dX5_goesUp_12 : decode cX5_goesUp 12 = .ok (.iaload, 1) := by decide +kernel
theorem dX5_goesUp_13 : decode cX5_goesUp 13 = .ok (.istore_n 3, 1) := by decide +kernel
theorem dX5_goesUp_14 : decode cX5_goesUp 14 = .ok (.aload_n 0, 1) := by decide +kernel
theorem dX5_goesUp_15 : decode cX5_goesUp 15 = .ok (.getfield 28, 3) := by decide +kernel
theorem dX5_goesUp_18 : decode cX5_goesUp 18 = .ok (.iload_n 1, 1) := by decide +kernel
theorem dX5_goesUp_19 : decode cX5_goesUp 19 = .ok (.aload_n 0, 1) := by decide +kernel
theorem dX5_goesUp_20 : decode cX5_goesUp 20 = .ok (.getfield 28, 3) := by decide +kernel
theorem dX5_goesUp_23 : decode cX5_goesUp 23 = .ok (.iload_n 1, 1) := by decide +kernel
theorem dX5_goesUp_24 : decode cX5_goesUp 24 = .ok (.iconst 1, 1) := by decide +kernel
theorem dX5_goesUp_25 : decode cX5_goesUp 25 = .ok (.isub, 1) := by decide +kernel
theorem dX5_goesUp_26 : decode cX5_goesUp 26 = .ok (.iaload, 1) := by decide +kernel
theorem dX5_goesUp_27 : decode cX5_goesUp 27 = .ok (.iastore, 1) := by decide +kernel
theorem dX5_goesUp_28 : decode cX5_goesUp 28 = .ok (.aload_n 0, 1) := by decide +kernel
theorem dX5_goesUp_29 : decode cX5_goesUp 29 = .ok (.getfield 31, 3) := by decide +kernel
theorem dX5_goesUp_32 : decode cX5_goesUp 32 = .ok (.iload_n 1, 1) := by decide +kernel
theorem dX5_goesUp_33 : decode cX5_goesUp 33 = .ok (.aload_n 0, 1) := by decide +kernel
theorem dX5_goesUp_34 : decode cX5_goesUp 34 = .ok (.getfield 31, 3) := by decide +kernel
theorem dX5_goesUp_37 : decode cX5_goesUp 37 = .ok (.iload_n 1, 1) := by decide +kernel
theorem dX5_goesUp_38 : decode cX5_goesUp 38 = .ok (.iconst 1, 1) := by decide +kernel
theorem dX5_goesUp_39 : decode cX5_goesUp 39 = .ok (.isub, 1) := by decide +kernel
theorem dX5_goesUp_40 : decode cX5_goesUp 40 = .ok (.iaload, 1) := by decide +kernel
theorem dX5_goesUp_41 : decode cX5_goesUp 41 = .ok (.iastore, 1) := by decide +kernel
theorem dX5_goesUp_42 : decode cX5_goesUp 42 = .ok (.aload_n 0, 1) := by decide +kernel
theorem dX5_goesUp_43 : decode cX5_goesUp 43 = .ok (.getfield 28, 3) := by decide +kernel
theorem dX5_goesUp_46 : decode cX5_goesUp 46 = .ok (.iload_n 1, 1) := by decide +kernel
theorem dX5_goesUp_47 : decode cX5_goesUp 47 = .ok (.iconst 1, 1) := by decide +kernel
theorem dX5_goesUp_48 : decode cX5_goesUp 48 = .ok (.isub, 1) := by decide +kernel
theorem dX5_goesUp_49 : decode cX5_goesUp 49 = .ok (.iload_n 2, 1) := by decide +kernel
theorem dX5_goesUp_50 : decode cX5_goesUp 50 = .ok (.iastore, 1) := by decide +kernel
theorem dX5_goesUp_51 : decode cX5_goesUp 51 = .ok (.aload_n 0, 1) := by decide +kernel
theorem dX5_goesUp_52 : decode cX5_goesUp 52 = .ok (.getfield 31, 3) := by decide +kernel
theorem dX5_goesUp_55 : decode cX5_goesUp 55 = .ok (.iload_n 1, 1) := by decide +kernel
theorem dX5_goesUp_56 : decode cX5_goesUp 56 = .ok (.iconst 1, 1) := by decide +kernel
theorem dX5_goesUp_57 : decode cX5_goesUp 57 = .ok (.isub, 1) := by decide +kernel
theorem dX5_goesUp_58 : decode cX5_goesUp 58 = .ok (.iload_n 3, 1) := by decide +kernel
theorem dX5_goesUp_59 : decode cX5_goesUp 59 = .ok (.iastore, 1) := by decide +kernel
theorem dX5_goesUp_60 : decode cX5_goesUp 60 = .ok (.return_, 1) := by decide +kernel
theorem dX5_move_0 : decode cX5_move 0 = .ok (.iload_n 2, 1) := by decide +kernel
theorem dX5_move_1 : decode cX5_move 1 = .ok (.iconst 1, 1) := by decide +kernel
theorem dX5_move_2 : decode cX5_move 2 = .ok (.if_icmp .ge 6, 3) := by decide +kernel
theorem dX5_move_5 : decode cX5_move 5 = .ok (.bipush (-2), 2) := by decide +kernel
theorem dX5_move_7 : decode cX5_move 7 = .ok (.ireturn, 1) := by decide +kernel
theorem dX5_move_8 : decode cX5_move 8 = .ok (.iload_n 1, 1) := by decide +kernel
theorem dX5_move_9 : decode cX5_move 9 = .ok (.ifCond .lt 21, 3) := by decide +kernel
theorem dX5_move_12 : decode cX5_move 12 = .ok (.iload_n 1, 1) := by decide +kernel
theorem dX5_move_13 : decode cX5_move 13 = .ok (.aload_n 0, 1) := by decide +kernel
theorem dX5_move_14 : decode cX5_move 14 = .ok (.getfield 83, 3) := by decide +kernel
theorem dX5_move_17 : decode cX5_move 17 = .ok (.if_icmp .ge 13, 3) := by decide +kernel
theorem dX5_move_20 : decode cX5_move 20 = .ok (.iload_n 2, 1) := by decide +kernel
theorem dX5_move_21 : decode cX5_move 21 = .ok (.aload_n 0, 1) := by decide +kernel
theorem dX5_move_22 : decode cX5_move 22 = .ok (.getfield 83, 3) := by decide +kernel
theorem dX5_move_25 : decode cX5_move 25 = .ok (.iload_n 1, 1) := by decide +kernel
theorem dX5_move_26 : decode cX5_move 26 = .ok (.isub, 1) := by decide +kernel
theorem dX5_move_27 : decode cX5_move 27 = .ok (.if_icmp .le 5, 3) := by decide +kernel
theorem dX5_move_30 : decode cX5_move 30 = .ok (.iconst (-1), 1) := by decide +kernel
theorem dX5_move_31 : decode cX5_move 31 = .ok (.ireturn, 1) := by decide +kernel
theorem dX5_move_32 : decode cX5_move 32 = .ok (.iload_n 3, 1) := by decide +kernel
theorem dX5_move_33 : decode cX5_move 33 = .ok (.iconst 0, 1) := by decide +kernel
theorem dX5_move_34 : decode cX5_move 34 = .ok (.aload_n 0, 1) := by decide +kernel
theorem dX5_move_35 : decode cX5_move 35 = .ok (.getfield 83, 3) := by decide +kernel
theorem dX5_move_38 : decode cX5_move 38 = .ok (.iload_n 2, 1) := by decide +kernel
theorem dX5_move_39 : decode cX5_move 39 = .ok (.isub, 1) := by decide +kernel
theorem dX5_move_40 : decode cX5_move 40 = .ok (.invokestatic 76, 3) := by decide +kernel
theorem dX5_move_43 : decode cX5_move 43 = .ok (.ifCond .ne 6, 3) := by decide +kernel
theorem dX5_move_46 : decode cX5_move 46 = .ok (.bipush (-2), 2) := by decide +kernel
theorem dX5_move_48 : decode cX5_move 48 = .ok (.ireturn, 1) := by decide +kernel
theorem dX5_move_49 : decode cX5_move 49 = .ok (.iload_n 1, 1) := by decide +kernel
theorem dX5_move_50 : decode cX5_move 50 = .ok (.istore 4, 2) := by decide +kernel
theorem dX5_move_52 : decode cX5_move 52 = .ok (.iload 4, 2) := by decide +kernel
theorem dX5_move_54 : decode cX5_move 54 = .ok (.iload_n 3, 1) := by decide +kernel
theorem dX5_move_55 : decode cX5_move 55 = .ok (.if_icmp .le 33, 3) := by decide +kernel
theorem dX5_move_58 : decode cX5_move 58 = .ok (.iconst 0, 1) := by decide +kernel
theorem dX5_move_59 : decode cX5_move 59 = .ok (.istore 5, 2) := by decide +kernel
theorem dX5_move_61 : decode cX5_move 61 = .ok (.iload 5, 2) := by decide +kernel
theorem dX5_move_63 : decode cX5_move 63 = .ok (.iload_n 2, 1) := by decide +kernel
theorem dX5_move_64 : decode cX5_move 64 = .ok (.if_icmp .ge 18, 3) := by decide +kernel
theorem dX5_move_67 : decode cX5_move 67 = .ok (.aload_n 0, 1) := by decide +kernel
theorem dX5_move_68 : decode cX5_move 68 = .ok (.iload 4, 2) := by decide +kernel
theorem dX5_move_70 : decode cX5_move 70 = .ok (.iload 5, 2) := by decide +kernel
theorem dX5_move_72 : decode cX5_move 72 = .ok (.iadd, 1) := by decide +kernel
theorem dX5_move_73 : decode cX5_move 73 = .ok (.invokevirtual 185, 3) := by decide +kernel
theorem dX5_move_76 : decode cX5_move 76 = .ok (.iinc 5 1, 3) := by decide +kernel
theorem dX5_move_79 : decode cX5_move 79 = .ok (.goto (-18), 3) := by decide +kernel
theorem dX5_move_82 : decode cX5_move 82 = .ok (.iinc 4 (-1), 3) := by decide +kernel
theorem dX5_move_85 : decode cX5_move 85 = .ok (.goto (-33), 3) := by decide +kernel
theorem dX5_move_88 : decode cX5_move 88 = .ok (.iload_n 1, 1) := by decide +kernel
theorem dX5_move_89 : decode cX5_move 89 = .ok (.istore 4, 2) := by decide +kernel
theorem dX5_move_91 : decode cX5_move 91 = .ok (.iload 4, 2) := by decide +kernel
theorem dX5_move_93 : decode cX5_move 93 = .ok (.iload_n 3, 1) := by decide +kernel
theorem dX5_move_94 : decode cX5_move 94 = .ok (.if_icmp .ge 32, 3) := by decide +kernel
theorem dX5_move_97 : decode cX5_move 97 = .ok (.iload_n 2, 1) := by decide +kernel
theorem dX5_move_98 : decode cX5_move 98 = .ok (.istore 5, 2) := by decide +kernel
theorem dX5_move_100 : decode cX5_move 100 = .ok (.iload 5, 2) := by decide +kernel
theorem dX5_move_102 : decode cX5_move 102 = .ok (.ifCond .le 18, 3) := by decide +kernel
theorem dX5_move_105 : decode cX5_move 105 = .ok (.aload_n 0, 1) := by decide +kernel
theorem dX5_move_106 : decode cX5_move 106 = .ok (.iload 4, 2) := by decide +kernel
theorem dX5_move_108 : decode cX5_move 108 = .ok (.iload 5, 2) := by decide +kernel
theorem dX5_move_110 : decode cX5_move 110 = .ok (.iadd, 1) := by decide +kernel
theorem dX5_move_111 : decode cX5_move 111 = .ok (.invokevirtual 185, 3) := by decide +kernel
theorem dX5_move_114 : decode cX5_move 114 = .ok (.iinc 5 (-1), 3) := by decide +kernel
theorem dX5_move_117 : decode cX5_move 117 = .ok (.goto (-17), 3) := by decide +kernel
theorem dX5_move_120 : decode cX5_move 120 = .ok (.iinc 4 1, 3) := by decide +kernel
theorem dX5_move_123 : decode cX5_move 123 = .ok (.goto (-32), 3) := by decide +kernel
theorem dX5_move_126 : decode cX5_move 126 = .ok (.iload_n 2, 1) := by decide +kernel
theorem dX5_move_127 : decode cX5_move 127 = .ok (.ireturn, 1) := by decide +kernel
theorem dX5_best_0 : decode cX5_best 0 = .ok (.iload_n 1, 1) := by decide +kernel
theorem dX5_best_1 : decode cX5_best 1 = .ok (.iconst 0, 1) := by decide +kernel
theorem dX5_best_2 : decode cX5_best 2 = .ok (.iconst 3, 1) := by decide +kernel
theorem dX5_best_3 : decode cX5_best 3 = .ok (.invokestatic 76, 3) := by decide +kernel
theorem dX5_best_6 : decode cX5_best 6 = .ok (.ifCond .ne 6, 3) := by decide +kernel
theorem dX5_best_9 : decode cX5_best 9 = .ok (.bipush (-2), 2) := by decide +kernel
theorem dX5_best_11 : decode cX5_best 11 = .ok (.ireturn, 1) := by decide +kernel
theorem dX5_best_12 : decode cX5_best 12 = .ok (.aload_n 0, 1) := by decide +kernel
theorem dX5_best_13 : decode cX5_best 13 = .ok (.getfield 80, 3) := by decide +kernel
theorem dX5_best_16 : decode cX5_best 16 = .ok (.ifCond .ne 6, 3) := by decide +kernel
theorem dX5_best_19 : decode cX5_best 19 = .ok (.bipush (-3), 2) := by decide +kernel
theorem dX5_best_21 : decode cX5_best 21 = .ok (.ireturn, 1) := by decide +kernel
theorem dX5_best_22 : decode cX5_best 22 = .ok (.aload_n 0, 1) := by decide +kernel
theorem dX5_best_23 : decode cX5_best 23 = .ok (.iload_n 1, 1) := by decide +kernel
theorem dX5_best_24 : decode cX5_best 24 = .ok (.iconst 1, 1) := by decide +kernel
theorem dX5_best_25 : decode cX5_best 25 = .ok (.if_icmp .ne 7, 3) := by decide +kernel
theorem dX5_best_28 : decode cX5_best 28 = .ok (.iconst 2, 1) := by decide +kernel
theorem dX5_best_29 : decode cX5_best 29 = .ok (.goto 22, 3) := by decide +kernel
theorem dX5_best_32 : decode cX5_best 32 = .ok (.iload_n 1, 1) := by decide +kernel
theorem dX5_best_33 : decode cX5_best 33 = .ok (.iconst 2, 1) := by decide +kernel
theorem dX5_best_34 : decode cX5_best 34 = .ok (.if_icmp .ne 7, 3) := by decide +kernel
theorem dX5_best_37 : decode cX5_best 37 = .ok (.iconst 3, 1) := by decide +kernel
theorem dX5_best_38 : decode cX5_best 38 = .ok (.goto 13, 3) := by decide +kernel
theorem dX5_best_41 : decode cX5_best 41 = .ok (.iload_n 1, 1) := by decide +kernel
theorem dX5_best_42 : decode cX5_best 42 = .ok (.iconst 3, 1) := by decide +kernel
theorem dX5_best_43 : decode cX5_best 43 = .ok (.if_icmp .ne 7, 3) := by decide +kernel
theorem dX5_best_46 : decode cX5_best 46 = .ok (.iconst 4, 1) := by decide +kernel
theorem dX5_best_47 : decode cX5_best 47 = .ok (.goto 4, 3) := by decide +kernel
theorem dX5_best_50 : decode cX5_best 50 = .ok (.iconst 0, 1) := by decide +kernel
theorem dX5_best_51 : decode cX5_best 51 = .ok (.invokevirtual 189, 3) := by decide +kernel
theorem dX5_best_54 : decode cX5_best 54 = .ok (.ireturn, 1) := by decide +kernel
theorem dX5_tellBest_0 : decode cX5_tellBest 0 = .ok (.aload_n 0, 1) := by decide +kernel
theorem dX5_tellBest_1 : decode cX5_tellBest 1 = .ok (.invokevirtual 174, 3) := by decide +kernel
theorem dX5_tellBest_4 : decode cX5_tellBest 4 = .ok (.istore_n 2, 1) := by decide +kernel
theorem dX5_tellBest_5 : decode cX5_tellBest 5 = .ok (.iload_n 1, 1) := by decide +kernel
theorem dX5_tellBest_6 : decode cX5_tellBest 6 = .ok (.iconst 4, 1) := by decide +kernel
theorem dX5_tellBest_7 : decode cX5_tellBest 7 = .ok (.if_icmp .ne 20, 3) := by decide +kernel
theorem dX5_tellBest_10 : decode cX5_tellBest 10 = .ok (.iload_n 2, 1) := by decide +kernel
theorem dX5_tellBest_11 : decode cX5_tellBest 11 = .ok (.bipush (-9), 2) := by decide +kernel
theorem dX5_tellBest_13 : decode cX5_tellBest 13 = .ok (.if_icmp .ne 7, 3) := by decide +kernel
theorem dX5_tellBest_16 : decode cX5_tellBest 16 = .ok (.iconst 0, 1) := by decide +kernel
theorem dX5_tellBest_17 : decode cX5_tellBest 17 = .ok (.goto 9, 3) := by decide +kernel
theorem dX5_tellBest_20 : decode cX5_tellBest 20 = .ok (.aload_n 0, 1) := by decide +kernel
theorem dX5_tellBest_21 : decode cX5_tellBest 21 = .ok (.getfield 49, 3) := by decide +kernel
theorem dX5_tellBest_24 : decode cX5_tellBest 24 = .ok (.iconst 0, 1) := by decide +kernel
theorem dX5_tellBest_25 : decode cX5_tellBest 25 = .ok (.iaload, 1) := by decide +kernel
theorem dX5_tellBest_26 : decode cX5_tellBest 26 = .ok (.ireturn, 1) := by decide +kernel
theorem dX5_tellBest_27 : decode cX5_tellBest 27 = .ok (.iload_n 2, 1) := by decide +kernel
theorem dX5_tellBest_28 : decode cX5_tellBest 28 = .ok (.bipush (-9), 2) := by decide +kernel
theorem dX5_tellBest_30 : decode cX5_tellBest 30 = .ok (.if_icmp .eq 19, 3) := by decide +kernel
theorem dX5_tellBest_33 : decode cX5_tellBest 33 = .ok (.iload_n 1, 1) := by decide +kernel
theorem dX5_tellBest_34 : decode cX5_tellBest 34 = .ok (.iconst 3, 1) := by decide +kernel
theorem dX5_tellBest_35 : decode cX5_tellBest 35 = .ok (.if_icmp .ne 17, 3) := by decide +kernel
theorem dX5_tellBest_38 : decode cX5_tellBest 38 = .ok (.aload_n 0, 1) := by decide +kernel
theorem dX5_tellBest_39 : decode cX5_tellBest 39 = .ok (.getfield 46, 3) := by decide +kernel
theorem dX5_tellBest_42 : decode cX5_tellBest 42 = .ok (.iconst 0, 1) := by decide +kernel
theorem dX5_tellBest_43 : decode cX5_tellBest 43 = .ok (.iaload, 1) := by decide +kernel
theorem dX5_tellBest_44 : decode cX5_tellBest 44 = .ok (.ldc 147, 2) := by decide +kernel
theorem dX5_tellBest_46 : decode cX5_tellBest 46 = .ok (.if_icmp .lt 6, 3) := by decide +kernel
theorem dX5_tellBest_49 : decode cX5_tellBest 49 = .ok (.bipush (-9), 2) := by decide +kernel
theorem dX5_tellBest_51 : decode cX5_tellBest 51 = .ok (.ireturn, 1) := by decide +kernel
theorem dX5_tellBest_52 : decode cX5_tellBest 52 = .ok (.iload_n 1, 1) := by decide +kernel
theorem dX5_tellBest_53 : decode cX5_tellBest 53 = .ok (.ifCond .ne 7, 3) := by decide +kernel
theorem dX5_tellBest_56 : decode cX5_tellBest 56 = .ok (.iload_n 2, 1) := by decide +kernel
theorem dX5_tellBest_57 : decode cX5_tellBest 57 = .ok (.goto 21, 3) := by decide +kernel
theorem dX5_tellBest_60 : decode cX5_tellBest 60 = .ok (.iload_n 1, 1) := by decide +kernel
theorem dX5_tellBest_61 : decode cX5_tellBest 61 = .ok (.iconst 2, 1) := by decide +kernel
theorem dX5_tellBest_62 : decode cX5_tellBest 62 = .ok (.if_icmp .ne 10, 3) := by decide +kernel
theorem dX5_tellBest_65 : decode cX5_tellBest 65 = .ok (.aload_n 0, 1) := by decide +kernel
theorem dX5_tellBest_66 : decode cX5_tellBest 66 = .ok (.getfield 165, 3) := by decide +kernel
theorem dX5_tellBest_69 : decode cX5_tellBest 69 = .ok (.goto 9, 3) := by decide +kernel
theorem dX5_tellBest_72 : decode cX5_tellBest 72 = .ok (.aload_n 0, 1) := by decide +kernel
theorem dX5_tellBest_73 : decode cX5_tellBest 73 = .ok (.getfield 46, 3) := by decide +kernel
theorem dX5_tellBest_76 : decode cX5_tellBest 76 = .ok (.iconst 0, 1) := by decide +kernel
theorem dX5_tellBest_77 : decode cX5_tellBest 77 = .ok (.iaload, 1) := by decide +kernel
theorem dX5_tellBest_78 : decode cX5_tellBest 78 = .ok (.ireturn, 1) := by decide +kernel
theorem dX5_ofPair_0 : decode cX5_ofPair 0 = .ok (.aload_n 0, 1) := by decide +kernel
theorem dX5_ofPair_1 : decode cX5_ofPair 1 = .ok (.invokevirtual 174, 3) := by decide +kernel
theorem dX5_ofPair_4 : decode cX5_ofPair 4 = .ok (.pop, 1) := by decide +kernel
theorem dX5_ofPair_5 : decode cX5_ofPair 5 = .ok (.iload_n 1, 1) := by decide +kernel
theorem dX5_ofPair_6 : decode cX5_ofPair 6 = .ok (.ifCond .lt 11, 3) := by decide +kernel
theorem dX5_ofPair_9 : decode cX5_ofPair 9 = .ok (.iload_n 1, 1) := by decide +kernel
theorem dX5_ofPair_10 : decode cX5_ofPair 10 = .ok (.aload_n 0, 1) := by decide +kernel
theorem dX5_ofPair_11 : decode cX5_ofPair 11 = .ok (.getfield 165, 3) := by decide +kernel
theorem dX5_ofPair_14 : decode cX5_ofPair 14 = .ok (.if_icmp .lt 5, 3) := by decide +kernel
theorem dX5_ofPair_17 : decode cX5_ofPair 17 = .ok (.iconst (-1), 1) := by decide +kernel
theorem dX5_ofPair_18 : decode cX5_ofPair 18 = .ok (.ireturn, 1) := by decide +kernel
theorem dX5_ofPair_19 : decode cX5_ofPair 19 = .ok (.iload_n 2, 1) := by decide +kernel
theorem dX5_ofPair_20 : decode cX5_ofPair 20 = .ok (.tableswitch 76 0 3 #[32, 39, 46, 53], 32) := by decide +kernel
theorem dX5_ofPair_52 : decode cX5_ofPair 52 = .ok (.aload_n 0, 1) := by decide +kernel
theorem dX5_ofPair_53 : decode cX5_ofPair 53 = .ok (.getfield 52, 3) := by decide +kernel
theorem dX5_ofPair_56 : decode cX5_ofPair 56 = .ok (.iload_n 1, 1) := by decide +kernel
theorem dX5_ofPair_57 : decode cX5_ofPair 57 = .ok (.iaload, 1) := by decide +kernel
theorem dX5_ofPair_58 : decode cX5_ofPair 58 = .ok (.ireturn, 1) := by decide +kernel
theorem dX5_ofPair_59 : decode cX5_ofPair 59 = .ok (.aload_n 0, 1) := by decide +kernel
theorem dX5_ofPair_60 : decode cX5_ofPair 60 = .ok (.getfield 55, 3) := by decide +kernel
theorem dX5_ofPair_63 : decode cX5_ofPair 63 = .ok (.iload_n 1, 1) := by decide +kernel
theorem dX5_ofPair_64 : decode cX5_ofPair 64 = .ok (.iaload, 1) := by decide +kernel
theorem dX5_ofPair_65 : decode cX5_ofPair 65 = .ok (.ireturn, 1) := by decide +kernel
theorem dX5_ofPair_66 : decode cX5_ofPair 66 = .ok (.aload_n 0, 1) := by decide +kernel
theorem dX5_ofPair_67 : decode cX5_ofPair 67 = .ok (.getfield 58, 3) := by decide +kernel
theorem dX5_ofPair_70 : decode cX5_ofPair 70 = .ok (.iload_n 1, 1) := by decide +kernel
theorem dX5_ofPair_71 : decode cX5_ofPair 71 = .ok (.iaload, 1) := by decide +kernel
theorem dX5_ofPair_72 : decode cX5_ofPair 72 = .ok (.ireturn, 1) := by decide +kernel
theorem dX5_ofPair_73 : decode cX5_ofPair 73 = .ok (.aload_n 0, 1) := by decide +kernel
theorem dX5_ofPair_74 : decode cX5_ofPair 74 = .ok (.aload_n 0, 1) := by decide +kernel
theorem dX5_ofPair_75 : decode cX5_ofPair 75 = .ok (.getfield 52, 3) := by decide +kernel
theorem dX5_ofPair_78 : decode cX5_ofPair 78 = .ok (.iload_n 1, 1) := by decide +kernel
theorem dX5_ofPair_79 : decode cX5_ofPair 79 = .ok (.iaload, 1) := by decide +kernel
theorem dX5_ofPair_80 : decode cX5_ofPair 80 = .ok (.aload_n 0, 1) := by decide +kernel
theorem dX5_ofPair_81 : decode cX5_ofPair 81 = .ok (.getfield 55, 3) := by decide +kernel
theorem dX5_ofPair_84 : decode cX5_ofPair 84 = .ok (.iload_n 1, 1) := by decide +kernel
theorem dX5_ofPair_85 : decode cX5_ofPair 85 = .ok (.iaload, 1) := by decide +kernel
theorem dX5_ofPair_86 : decode cX5_ofPair 86 = .ok (.aload_n 0, 1) := by decide +kernel
theorem dX5_ofPair_87 : decode cX5_ofPair 87 = .ok (.getfield 58, 3) := by decide +kernel
theorem dX5_ofPair_90 : decode cX5_ofPair 90 = .ok (.iload_n 1, 1) := by decide +kernel
theorem dX5_ofPair_91 : decode cX5_ofPair 91 = .ok (.iaload, 1) := by decide +kernel
theorem dX5_ofPair_92 : decode cX5_ofPair 92 = .ok (.invokevirtual 151, 3) := by decide +kernel
theorem dX5_ofPair_95 : decode cX5_ofPair 95 = .ok (.ireturn, 1) := by decide +kernel
theorem dX5_ofPair_96 : decode cX5_ofPair 96 = .ok (.bipush (-2), 2) := by decide +kernel
theorem dX5_ofPair_98 : decode cX5_ofPair 98 = .ok (.ireturn, 1) := by decide +kernel
theorem dX5_cost_0 : decode cX5_cost 0 = .ok (.iload_n 1, 1) := by decide +kernel
theorem dX5_cost_1 : decode cX5_cost 1 = .ok (.iconst 0, 1) := by decide +kernel
theorem dX5_cost_2 : decode cX5_cost 2 = .ok (.iconst 4, 1) := by decide +kernel
theorem dX5_cost_3 : decode cX5_cost 3 = .ok (.invokestatic 76, 3) := by decide +kernel
theorem dX5_cost_6 : decode cX5_cost 6 = .ok (.ifCond .ne 6, 3) := by decide +kernel
theorem dX5_cost_9 : decode cX5_cost 9 = .ok (.bipush (-2), 2) := by decide +kernel
theorem dX5_cost_11 : decode cX5_cost 11 = .ok (.ireturn, 1) := by decide +kernel
theorem dX5_cost_12 : decode cX5_cost 12 = .ok (.iload_n 1, 1) := by decide +kernel
theorem dX5_cost_13 : decode cX5_cost 13 = .ok (.iconst 2, 1) := by decide +kernel
theorem dX5_cost_14 : decode cX5_cost 14 = .ok (.if_icmp .eq 24, 3) := by decide +kernel
theorem dX5_cost_17 : decode cX5_cost 17 = .ok (.aload_n 0, 1) := by decide +kernel
theorem dX5_cost_18 : decode cX5_cost 18 = .ok (.iload_n 2, 1) := by decide +kernel
theorem dX5_cost_19 : decode cX5_cost 19 = .ok (.invokevirtual 171, 3) := by decide +kernel
theorem dX5_cost_22 : decode cX5_cost 22 = .ok (.ifCond .eq 20, 3) := by decide +kernel
theorem dX5_cost_25 : decode cX5_cost 25 = .ok (.iload_n 2, 1) := by decide +kernel
theorem dX5_cost_26 : decode cX5_cost 26 = .ok (.iload_n 1, 1) := by decide +kernel
theorem dX5_cost_27 : decode cX5_cost 27 = .ok (.invokestatic 138, 3) := by decide +kernel
theorem dX5_cost_30 : decode cX5_cost 30 = .ok (.iadd, 1) := by decide +kernel
theorem dX5_cost_31 : decode cX5_cost 31 = .ok (.aload_n 0, 1) := by decide +kernel
theorem dX5_cost_32 : decode cX5_cost 32 = .ok (.getfield 80, 3) := by decide +kernel
theorem dX5_cost_35 : decode cX5_cost 35 = .ok (.if_icmp .gt 7, 3) := by decide +kernel
theorem dX5_cost_38 : decode cX5_cost 38 = .ok (.iconst 1, 1) := by decide +kernel
theorem dX5_cost_39 : decode cX5_cost 39 = .ok (.goto 4, 3) := by decide +kernel
theorem dX5_cost_42 : decode cX5_cost 42 = .ok (.iconst 0, 1) := by decide +kernel
theorem dX5_cost_43 : decode cX5_cost 43 = .ok (.istore 4, 2) := by decide +kernel
theorem dX5_cost_45 : decode cX5_cost 45 = .ok (.iload 4, 2) := by decide +kernel
theorem dX5_cost_47 : decode cX5_cost 47 = .ok (.ifCond .eq 33, 3) := by decide +kernel
theorem dX5_cost_50 : decode cX5_cost 50 = .ok (.iload_n 1, 1) := by decide +kernel
theorem dX5_cost_51 : decode cX5_cost 51 = .ok (.iconst 1, 1) := by decide +kernel
theorem dX5_cost_52 : decode cX5_cost 52 = .ok (.if_icmp .eq 24, 3) := by decide +kernel
theorem dX5_cost_55 : decode cX5_cost 55 = .ok (.aload_n 0, 1) := by decide +kernel
theorem dX5_cost_56 : decode cX5_cost 56 = .ok (.iload_n 3, 1) := by decide +kernel
theorem dX5_cost_57 : decode cX5_cost 57 = .ok (.invokevirtual 182, 3) := by decide +kernel
theorem dX5_cost_60 : decode cX5_cost 60 = .ok (.ifCond .eq 20, 3) := by decide +kernel
theorem dX5_cost_63 : decode cX5_cost 63 = .ok (.iload_n 3, 1) := by decide +kernel
theorem dX5_cost_64 : decode cX5_cost 64 = .ok (.iload_n 1, 1) := by decide +kernel
theorem dX5_cost_65 : decode cX5_cost 65 = .ok (.invokestatic 144, 3) := by decide +kernel
theorem dX5_cost_68 : decode cX5_cost 68 = .ok (.iadd, 1) := by decide +kernel
theorem dX5_cost_69 : decode cX5_cost 69 = .ok (.aload_n 0, 1) := by decide +kernel
theorem dX5_cost_70 : decode cX5_cost 70 = .ok (.getfield 83, 3) := by decide +kernel
theorem dX5_cost_73 : decode cX5_cost 73 = .ok (.if_icmp .gt 7, 3) := by decide +kernel
theorem dX5_cost_76 : decode cX5_cost 76 = .ok (.iconst 1, 1) := by decide +kernel
theorem dX5_cost_77 : decode cX5_cost 77 = .ok (.goto 4, 3) := by decide +kernel
theorem dX5_cost_80 : decode cX5_cost 80 = .ok (.iconst 0, 1) := by decide +kernel
theorem dX5_cost_81 : decode cX5_cost 81 = .ok (.istore 4, 2) := by decide +kernel
theorem dX5_cost_83 : decode cX5_cost 83 = .ok (.iload 4, 2) := by decide +kernel
theorem dX5_cost_85 : decode cX5_cost 85 = .ok (.ifCond .eq 13, 3) := by decide +kernel
theorem dX5_cost_88 : decode cX5_cost 88 = .ok (.aload_n 0, 1) := by decide +kernel
theorem dX5_cost_89 : decode cX5_cost 89 = .ok (.iload_n 1, 1) := by decide +kernel
theorem dX5_cost_90 : decode cX5_cost 90 = .ok (.iload_n 2, 1) := by decide +kernel
theorem dX5_cost_91 : decode cX5_cost 91 = .ok (.iload_n 3, 1) := by decide +kernel
theorem dX5_cost_92 : decode cX5_cost 92 = .ok (.invokevirtual 151, 3) := by decide +kernel
theorem dX5_cost_95 : decode cX5_cost 95 = .ok (.goto 4, 3) := by decide +kernel
theorem dX5_cost_98 : decode cX5_cost 98 = .ok (.iconst (-1), 1) := by decide +kernel
theorem dX5_cost_99 : decode cX5_cost 99 = .ok (.ireturn, 1) := by decide +kernel
theorem dX5_keep_0 : decode cX5_keep 0 = .ok (.iconst 0, 1) := by decide +kernel
theorem dX5_keep_1 : decode cX5_keep 1 = .ok (.istore_n 1, 1) := by decide +kernel
theorem dX5_keep_2 : decode cX5_keep 2 = .ok (.iload_n 1, 1) := by decide +kernel
theorem dX5_keep_3 : decode cX5_keep 3 = .ok (.bipush 7, 2) := by decide +kernel
theorem dX5_keep_5 : decode cX5_keep 5 = .ok (.if_icmp .ge 36, 3) := by decide +kernel
theorem dX5_keep_8 : decode cX5_keep 8 = .ok (.aload_n 0, 1) := by decide +kernel
theorem dX5_keep_9 : decode cX5_keep 9 = .ok (.getfield 61, 3) := by decide +kernel
theorem dX5_keep_12 : decode cX5_keep 12 = .ok (.iload_n 1, 1) := by decide +kernel
theorem dX5_keep_13 : decode cX5_keep 13 = .ok (.aload_n 0, 1) := by decide +kernel
theorem dX5_keep_14 : decode cX5_keep 14 = .ok (.getfield 22, 3) := by decide +kernel
theorem dX5_keep_17 : decode cX5_keep 17 = .ok (.iload_n 1, 1) := by decide +kernel
theorem dX5_keep_18 : decode cX5_keep 18 = .ok (.iaload, 1) := by decide +kernel
theorem dX5_keep_19 : decode cX5_keep 19 = .ok (.iastore, 1) := by decide +kernel
theorem dX5_keep_20 : decode cX5_keep 20 = .ok (.aload_n 0, 1) := by decide +kernel
theorem dX5_keep_21 : decode cX5_keep 21 = .ok (.getfield 61, 3) := by decide +kernel
theorem dX5_keep_24 : decode cX5_keep 24 = .ok (.bipush 7, 2) := by decide +kernel
theorem dX5_keep_26 : decode cX5_keep 26 = .ok (.iload_n 1, 1) := by decide +kernel
theorem dX5_keep_27 : decode cX5_keep 27 = .ok (.iadd, 1) := by decide +kernel
theorem dX5_keep_28 : decode cX5_keep 28 = .ok (.aload_n 0, 1) := by decide +kernel
theorem dX5_keep_29 : decode cX5_keep 29 = .ok (.getfield 28, 3) := by decide +kernel
theorem dX5_keep_32 : decode cX5_keep 32 = .ok (.iload_n 1, 1) := by decide +kernel
theorem dX5_keep_33 : decode cX5_keep 33 = .ok (.iaload, 1) := by decide +kernel
theorem dX5_keep_34 : decode cX5_keep 34 = .ok (.iastore, 1) := by decide +kernel
theorem dX5_keep_35 : decode cX5_keep 35 = .ok (.iinc 1 1, 3) := by decide +kernel
theorem dX5_keep_38 : decode cX5_keep 38 = .ok (.goto (-36), 3) := by decide +kernel
theorem dX5_keep_41 : decode cX5_keep 41 = .ok (.aload_n 0, 1) := by decide +kernel
theorem dX5_keep_42 : decode cX5_keep 42 = .ok (.getfield 61, 3) := by decide +kernel
theorem dX5_keep_45 : decode cX5_keep 45 = .ok (.bipush 14, 2) := by decide +kernel
theorem dX5_keep_47 : decode cX5_keep 47 = .ok (.aload_n 0, 1) := by decide +kernel
theorem dX5_keep_48 : decode cX5_keep 48 = .ok (.getfield 113, 3) := by decide +kernel
theorem dX5_keep_51 : decode cX5_keep 51 = .ok (.iastore, 1) := by decide +kernel
theorem dX5_keep_52 : decode cX5_keep 52 = .ok (.aload_n 0, 1) := by decide +kernel
theorem dX5_keep_53 : decode cX5_keep 53 = .ok (.getfield 61, 3) := by decide +kernel
theorem dX5_keep_56 : decode cX5_keep 56 = .ok (.bipush 15, 2) := by decide +kernel
theorem dX5_keep_58 : decode cX5_keep 58 = .ok (.aload_n 0, 1) := by decide +kernel
theorem dX5_keep_59 : decode cX5_keep 59 = .ok (.getfield 116, 3) := by decide +kernel
theorem dX5_keep_62 : decode cX5_keep 62 = .ok (.iastore, 1) := by decide +kernel
theorem dX5_keep_63 : decode cX5_keep 63 = .ok (.aload_n 0, 1) := by decide +kernel
theorem dX5_keep_64 : decode cX5_keep 64 = .ok (.getfield 61, 3) := by decide +kernel
theorem dX5_keep_67 : decode cX5_keep 67 = .ok (.bipush 16, 2) := by decide +kernel
theorem dX5_keep_69 : decode cX5_keep 69 = .ok (.aload_n 0, 1) := by decide +kernel
theorem dX5_keep_70 : decode cX5_keep 70 = .ok (.getfield 119, 3) := by decide +kernel
theorem dX5_keep_73 : decode cX5_keep 73 = .ok (.iastore, 1) := by decide +kernel
theorem dX5_keep_74 : decode cX5_keep 74 = .ok (.return_, 1) := by decide +kernel
theorem dX5_putBack_0 : decode cX5_putBack 0 = .ok (.iconst 0, 1) := by decide +kernel
theorem dX5_putBack_1 : decode cX5_putBack 1 = .ok (.istore_n 1, 1) := by decide +kernel
theorem dX5_putBack_2 : decode cX5_putBack 2 = .ok (.iload_n 1, 1) := by decide +kernel
theorem dX5_putBack_3 : decode cX5_putBack 3 = .ok (.bipush 7, 2) := by decide +kernel
theorem dX5_putBack_5 : decode cX5_putBack 5 = .ok (.if_icmp .ge 36, 3) := by decide +kernel
theorem dX5_putBack_8 : decode cX5_putBack 8 = .ok (.aload_n 0, 1) := by decide +kernel
theorem dX5_putBack_9 : decode cX5_putBack 9 = .ok (.getfield 22, 3) := by decide +kernel
theorem dX5_putBack_12 : decode cX5_putBack 12 = .ok (.iload_n 1, 1) := by decide +kernel
theorem dX5_putBack_13 : decode cX5_putBack 13 = .ok (.aload_n 0, 1) := by decide +kernel
theorem dX5_putBack_14 : decode cX5_putBack 14 = .ok (.getfield 61, 3) := by decide +kernel
theorem dX5_putBack_17 : decode cX5_putBack 17 = .ok (.iload_n 1, 1) := by decide +kernel
theorem dX5_putBack_18 : decode cX5_putBack 18 = .ok (.iaload, 1) := by decide +kernel
theorem dX5_putBack_19 : decode cX5_putBack 19 = .ok (.iastore, 1) := by decide +kernel
theorem dX5_putBack_20 : decode cX5_putBack 20 = .ok (.aload_n 0, 1) := by decide +kernel
theorem dX5_putBack_21 : decode cX5_putBack 21 = .ok (.getfield 28, 3) := by decide +kernel
theorem dX5_putBack_24 : decode cX5_putBack 24 = .ok (.iload_n 1, 1) := by decide +kernel
theorem dX5_putBack_25 : decode cX5_putBack 25 = .ok (.aload_n 0, 1) := by decide +kernel
theorem dX5_putBack_26 : decode cX5_putBack 26 = .ok (.getfield 61, 3) := by decide +kernel
theorem dX5_putBack_29 : decode cX5_putBack 29 = .ok (.bipush 7, 2) := by decide +kernel
theorem dX5_putBack_31 : decode cX5_putBack 31 = .ok (.iload_n 1, 1) := by decide +kernel
theorem dX5_putBack_32 : decode cX5_putBack 32 = .ok (.iadd, 1) := by decide +kernel
theorem dX5_putBack_33 : decode cX5_putBack 33 = .ok (.iaload, 1) := by decide +kernel
theorem dX5_putBack_34 : decode cX5_putBack 34 = .ok (.iastore, 1) := by decide +kernel
theorem dX5_putBack_35 : decode cX5_putBack 35 = .ok (.iinc 1 1, 3) := by decide +kernel
theorem dX5_putBack_38 : decode cX5_putBack 38 = .ok (.goto (-36), 3) := by decide +kernel
theorem dX5_putBack_41 : decode cX5_putBack 41 = .ok (.aload_n 0, 1) := by decide +kernel
theorem dX5_putBack_42 : decode cX5_putBack 42 = .ok (.aload_n 0, 1) := by decide +kernel
theorem dX5_putBack_43 : decode cX5_putBack 43 = .ok (.getfield 61, 3) := by decide +kernel
theorem dX5_putBack_46 : decode cX5_putBack 46 = .ok (.bipush 14, 2) := by decide +kernel
theorem dX5_putBack_48 : decode cX5_putBack 48 = .ok (.iaload, 1) := by decide +kernel
theorem dX5_putBack_49 : decode cX5_putBack 49 = .ok (.putfield 113, 3) := by decide +kernel
theorem dX5_putBack_52 : decode cX5_putBack 52 = .ok (.aload_n 0, 1) := by decide +kernel
theorem dX5_putBack_53 : decode cX5_putBack 53 = .ok (.aload_n 0, 1) := by decide +kernel
theorem dX5_putBack_54 : decode cX5_putBack 54 = .ok (.getfield 61, 3) := by decide +kernel
theorem dX5_putBack_57 : decode cX5_putBack 57 = .ok (.bipush 15, 2) := by decide +kernel
theorem dX5_putBack_59 : decode cX5_putBack 59 = .ok (.iaload, 1) := by decide +kernel
theorem dX5_putBack_60 : decode cX5_putBack 60 = .ok (.putfield 116, 3) := by decide +kernel
theorem dX5_putBack_63 : decode cX5_putBack 63 = .ok (.aload_n 0, 1) := by decide +kernel
theorem dX5_putBack_64 : decode cX5_putBack 64 = .ok (.aload_n 0, 1) := by decide +kernel
theorem dX5_putBack_65 : decode cX5_putBack 65 = .ok (.getfield 61, 3) := by decide +kernel
theorem dX5_putBack_68 : decode cX5_putBack 68 = .ok (.bipush 16, 2) := by decide +kernel
theorem dX5_putBack_70 : decode cX5_putBack 70 = .ok (.iaload, 1) := by decide +kernel
theorem dX5_putBack_71 : decode cX5_putBack 71 = .ok (.putfield 119, 3) := by decide +kernel
theorem dX5_putBack_74 : decode cX5_putBack 74 = .ok (.return_, 1) := by decide +kernel
theorem dX5_does_0 : decode cX5_does 0 = .ok (.iload_n 2, 1) := by decide +kernel
theorem dX5_does_1 : decode cX5_does 1 = .ok (.bipush 20, 2) := by decide +kernel
theorem dX5_does_3 : decode cX5_does 3 = .ok (.if_icmp .lt 59, 3) := by decide +kernel
theorem dX5_does_6 : decode cX5_does 6 = .ok (.aload_n 0, 1) := by decide +kernel
theorem dX5_does_7 : decode cX5_does 7 = .ok (.iload_n 2, 1) := by decide +kernel
theorem dX5_does_8 : decode cX5_does 8 = .ok (.bipush 20, 2) := by decide +kernel
theorem dX5_does_10 : decode cX5_does 10 = .ok (.if_icmp .ne 7, 3) := by decide +kernel
theorem dX5_does_13 : decode cX5_does 13 = .ok (.iload_n 1, 1) := by decide +kernel
theorem dX5_does_14 : decode cX5_does 14 = .ok (.goto 7, 3) := by decide +kernel
theorem dX5_does_17 : decode cX5_does 17 = .ok (.aload_n 0, 1) := by decide +kernel
theorem dX5_does_18 : decode cX5_does 18 = .ok (.getfield 113, 3) := by decide +kernel
theorem dX5_does_21 : decode cX5_does 21 = .ok (.putfield 113, 3) := by decide +kernel
theorem dX5_does_24 : decode cX5_does 24 = .ok (.aload_n 0, 1) := by decide +kernel
theorem dX5_does_25 : decode cX5_does 25 = .ok (.iload_n 2, 1) := by decide +kernel
theorem dX5_does_26 : decode cX5_does 26 = .ok (.bipush 21, 2) := by decide +kernel
theorem dX5_does_28 : decode cX5_does 28 = .ok (.if_icmp .ne 7, 3) := by decide +kernel
theorem dX5_does_31 : decode cX5_does 31 = .ok (.iload_n 1, 1) := by decide +kernel
theorem dX5_does_32 : decode cX5_does 32 = .ok (.goto 7, 3) := by decide +kernel
theorem dX5_does_35 : decode cX5_does 35 = .ok (.aload_n 0, 1) := by decide +kernel
theorem dX5_does_36 : decode cX5_does 36 = .ok (.getfield 116, 3) := by decide +kernel
theorem dX5_does_39 : decode cX5_does 39 = .ok (.putfield 116, 3) := by decide +kernel
theorem dX5_does_42 : decode cX5_does 42 = .ok (.aload_n 0, 1) := by decide +kernel
theorem dX5_does_43 : decode cX5_does 43 = .ok (.iload_n 2, 1) := by decide +kernel
theorem dX5_does_44 : decode cX5_does 44 = .ok (.bipush 22, 2) := by decide +kernel
theorem dX5_does_46 : decode cX5_does 46 = .ok (.if_icmp .ne 7, 3) := by decide +kernel
theorem dX5_does_49 : decode cX5_does 49 = .ok (.iload_n 1, 1) := by decide +kernel
theorem dX5_does_50 : decode cX5_does 50 = .ok (.goto 7, 3) := by decide +kernel
theorem dX5_does_53 : decode cX5_does 53 = .ok (.aload_n 0, 1) := by decide +kernel
theorem dX5_does_54 : decode cX5_does 54 = .ok (.getfield 119, 3) := by decide +kernel
theorem dX5_does_57 : decode cX5_does 57 = .ok (.putfield 119, 3) := by decide +kernel
theorem dX5_does_60 : decode cX5_does 60 = .ok (.iconst 1, 1) := by decide +kernel
theorem dX5_does_61 : decode cX5_does 61 = .ok (.ireturn, 1) := by decide +kernel
theorem dX5_does_62 : decode cX5_does 62 = .ok (.iload_n 2, 1) := by decide +kernel
theorem dX5_does_63 : decode cX5_does 63 = .ok (.bipush 10, 2) := by decide +kernel
theorem dX5_does_65 : decode cX5_does 65 = .ok (.if_icmp .lt 17, 3) := by decide +kernel
theorem dX5_does_68 : decode cX5_does 68 = .ok (.aload_n 0, 1) := by decide +kernel
theorem dX5_does_69 : decode cX5_does 69 = .ok (.iload_n 2, 1) := by decide +kernel
theorem dX5_does_70 : decode cX5_does 70 = .ok (.bipush 10, 2) := by decide +kernel
theorem dX5_does_72 : decode cX5_does 72 = .ok (.isub, 1) := by decide +kernel
theorem dX5_does_73 : decode cX5_does 73 = .ok (.invokevirtual 182, 3) := by decide +kernel
theorem dX5_does_76 : decode cX5_does 76 = .ok (.ifCond .ne 16, 3) := by decide +kernel
theorem dX5_does_79 : decode cX5_does 79 = .ok (.goto 11, 3) := by decide +kernel
theorem dX5_does_82 : decode cX5_does 82 = .ok (.aload_n 0, 1) := by decide +kernel
theorem dX5_does_83 : decode cX5_does 83 = .ok (.iload_n 2, 1) := by decide +kernel
theorem dX5_does_84 : decode cX5_does 84 = .ok (.invokevirtual 171, 3) := by decide +kernel
theorem dX5_does_87 : decode cX5_does 87 = .ok (.ifCond .ne 5, 3) := by decide +kernel
theorem dX5_does_90 : decode cX5_does 90 = .ok (.iconst 0, 1) := by decide +kernel
theorem dX5_does_91 : decode cX5_does 91 = .ok (.ireturn, 1) := by decide +kernel
theorem dX5_does_92 : decode cX5_does 92 = .ok (.iload_n 2, 1) := by decide +kernel
theorem dX5_does_93 : decode cX5_does 93 = .ok (.bipush 10, 2) := by decide +kernel
theorem dX5_does_95 : decode cX5_does 95 = .ok (.if_icmp .lt 16, 3) := by decide +kernel
theorem dX5_does_98 : decode cX5_does 98 = .ok (.aload_n 0, 1) := by decide +kernel
theorem dX5_does_99 : decode cX5_does 99 = .ok (.getfield 28, 3) := by decide +kernel
theorem dX5_does_102 : decode cX5_does 102 = .ok (.iload_n 2, 1) := by decide +kernel
theorem dX5_does_103 : decode cX5_does 103 = .ok (.bipush 10, 2) := by decide +kernel
theorem dX5_does_105 : decode cX5_does 105 = .ok (.isub, 1) := by decide +kernel
theorem dX5_does_106 : decode cX5_does 106 = .ok (.iload_n 1, 1) := by decide +kernel
theorem dX5_does_107 : decode cX5_does 107 = .ok (.iastore, 1) := by decide +kernel
theorem dX5_does_108 : decode cX5_does 108 = .ok (.goto 10, 3) := by decide +kernel
theorem dX5_does_111 : decode cX5_does 111 = .ok (.aload_n 0, 1) := by decide +kernel
theorem dX5_does_112 : decode cX5_does 112 = .ok (.getfield 22, 3) := by decide +kernel
theorem dX5_does_115 : decode cX5_does 115 = .ok (.iload_n 2, 1) := by decide +kernel
theorem dX5_does_116 : decode cX5_does 116 = .ok (.iload_n 1, 1) := by decide +kernel
theorem dX5_does_117 : decode cX5_does 117 = .ok (.iastore, 1) := by decide +kernel
theorem dX5_does_118 : decode cX5_does 118 = .ok (.iconst 1, 1) := by decide +kernel
theorem dX5_does_119 : decode cX5_does 119 = .ok (.ireturn, 1) := by decide +kernel
theorem dX5_isPair_0 : decode cX5_isPair 0 = .ok (.iload_n 1, 1) := by decide +kernel
theorem dX5_isPair_1 : decode cX5_isPair 1 = .ok (.bipush 20, 2) := by decide +kernel
theorem dX5_isPair_3 : decode cX5_isPair 3 = .ok (.bipush 22, 2) := by decide +kernel
theorem dX5_isPair_5 : decode cX5_isPair 5 = .ok (.invokestatic 76, 3) := by decide +kernel
theorem dX5_isPair_8 : decode cX5_isPair 8 = .ok (.ifCond .eq 22, 3) := by decide +kernel
theorem dX5_isPair_11 : decode cX5_isPair 11 = .ok (.iload_n 0, 1) := by decide +kernel
theorem dX5_isPair_12 : decode cX5_isPair 12 = .ok (.iconst 0, 1) := by decide +kernel
theorem dX5_isPair_13 : decode cX5_isPair 13 = .ok (.iload_n 1, 1) := by decide +kernel
theorem dX5_isPair_14 : decode cX5_isPair 14 = .ok (.bipush 22, 2) := by decide +kernel
theorem dX5_isPair_16 : decode cX5_isPair 16 = .ok (.if_icmp .ne 8, 3) := by decide +kernel
theorem dX5_isPair_19 : decode cX5_isPair 19 = .ok (.bipush 7, 2) := by decide +kernel
theorem dX5_isPair_21 : decode cX5_isPair 21 = .ok (.goto 5, 3) := by decide +kernel
theorem dX5_isPair_24 : decode cX5_isPair 24 = .ok (.bipush 9, 2) := by decide +kernel
theorem dX5_isPair_26 : decode cX5_isPair 26 = .ok (.invokestatic 76, 3) := by decide +kernel
theorem dX5_isPair_29 : decode cX5_isPair 29 = .ok (.ireturn, 1) := by decide +kernel
theorem dX5_isPair_30 : decode cX5_isPair 30 = .ok (.iload_n 1, 1) := by decide +kernel
theorem dX5_isPair_31 : decode cX5_isPair 31 = .ok (.iconst 0, 1) := by decide +kernel
theorem dX5_isPair_32 : decode cX5_isPair 32 = .ok (.bipush 6, 2) := by decide +kernel
theorem dX5_isPair_34 : decode cX5_isPair 34 = .ok (.invokestatic 76, 3) := by decide +kernel
theorem dX5_isPair_37 : decode cX5_isPair 37 = .ok (.ifCond .ne 14, 3) := by decide +kernel
theorem dX5_isPair_40 : decode cX5_isPair 40 = .ok (.iload_n 1, 1) := by decide +kernel
theorem dX5_isPair_41 : decode cX5_isPair 41 = .ok (.bipush 10, 2) := by decide +kernel
theorem dX5_isPair_43 : decode cX5_isPair 43 = .ok (.bipush 16, 2) := by decide +kernel
theorem dX5_isPair_45 : decode cX5_isPair 45 = .ok (.invokestatic 76, 3) := by decide +kernel
theorem dX5_isPair_48 : decode cX5_isPair 48 = .ok (.ifCond .eq 17, 3) := by decide +kernel
theorem dX5_isPair_51 : decode cX5_isPair 51 = .ok (.iload_n 0, 1) := by decide +kernel
theorem dX5_isPair_52 : decode cX5_isPair 52 = .ok (.iconst 1, 1) := by decide +kernel
theorem dX5_isPair_53 : decode cX5_isPair 53 = .ok (.bipush 9, 2) := by decide +kernel
theorem dX5_isPair_55 : decode cX5_isPair 55 = .ok (.invokestatic 76, 3) := by decide +kernel
theorem dX5_isPair_58 : decode cX5_isPair 58 = .ok (.ifCond .eq 7, 3) := by decide +kernel
theorem dX5_isPair_61 : decode cX5_isPair 61 = .ok (.iconst 1, 1) := by decide +kernel
theorem dX5_isPair_62 : decode cX5_isPair 62 = .ok (.goto 4, 3) := by decide +kernel
theorem dX5_isPair_65 : decode cX5_isPair 65 = .ok (.iconst 0, 1) := by decide +kernel
theorem dX5_isPair_66 : decode cX5_isPair 66 = .ok (.ireturn, 1) := by decide +kernel
theorem dX5_goDay_0 : decode cX5_goDay 0 = .ok (.iconst 0, 1) := by decide +kernel
theorem dX5_goDay_1 : decode cX5_goDay 1 = .ok (.istore_n 3, 1) := by decide +kernel
theorem dX5_goDay_2 : decode cX5_goDay 2 = .ok (.iload_n 3, 1) := by decide +kernel
theorem dX5_goDay_3 : decode cX5_goDay 3 = .ok (.iload_n 2, 1) := by decide +kernel
theorem dX5_goDay_4 : decode cX5_goDay 4 = .ok (.if_icmp .ge 40, 3) := by decide +kernel
theorem dX5_goDay_7 : decode cX5_goDay 7 = .ok (.aload_n 0, 1) := by decide +kernel
theorem dX5_goDay_8 : decode cX5_goDay 8 = .ok (.aload_n 0, 1) := by decide +kernel
theorem dX5_goDay_9 : decode cX5_goDay 9 = .ok (.getfield 16, 3) := by decide +kernel
theorem dX5_goDay_12 : decode cX5_goDay 12 = .ok (.iload_n 1, 1) := by decide +kernel
theorem dX5_goDay_13 : decode cX5_goDay 13 = .ok (.iconst 2, 1) := by decide +kernel
theorem dX5_goDay_14 : decode cX5_goDay 14 = .ok (.iload_n 3, 1) := by decide +kernel
theorem dX5_goDay_15 : decode cX5_goDay 15 = .ok (.imul, 1) := by decide +kernel
theorem dX5_goDay_16 : decode cX5_goDay 16 = .ok (.iadd, 1) := by decide +kernel
theorem dX5_goDay_17 : decode cX5_goDay 17 = .ok (.iaload, 1) := by decide +kernel
theorem dX5_goDay_18 : decode cX5_goDay 18 = .ok (.aload_n 0, 1) := by decide +kernel
theorem dX5_goDay_19 : decode cX5_goDay 19 = .ok (.getfield 16, 3) := by decide +kernel
theorem dX5_goDay_22 : decode cX5_goDay 22 = .ok (.iload_n 1, 1) := by decide +kernel
theorem dX5_goDay_23 : decode cX5_goDay 23 = .ok (.iconst 2, 1) := by decide +kernel
theorem dX5_goDay_24 : decode cX5_goDay 24 = .ok (.iload_n 3, 1) := by decide +kernel
theorem dX5_goDay_25 : decode cX5_goDay 25 = .ok (.imul, 1) := by decide +kernel
theorem dX5_goDay_26 : decode cX5_goDay 26 = .ok (.iadd, 1) := by decide +kernel
theorem dX5_goDay_27 : decode cX5_goDay 27 = .ok (.iconst 1, 1) := by decide +kernel
theorem dX5_goDay_28 : decode cX5_goDay 28 = .ok (.iadd, 1) := by decide +kernel
theorem dX5_goDay_29 : decode cX5_goDay 29 = .ok (.iaload, 1) := by decide +kernel
theorem dX5_goDay_30 : decode cX5_goDay 30 = .ok (.invokevirtual 192, 3) := by decide +kernel
theorem dX5_goDay_33 : decode cX5_goDay 33 = .ok (.ifCond .ne 5, 3) := by decide +kernel
theorem dX5_goDay_36 : decode cX5_goDay 36 = .ok (.iload_n 3, 1) := by decide +kernel
theorem dX5_goDay_37 : decode cX5_goDay 37 = .ok (.ireturn, 1) := by decide +kernel
theorem dX5_goDay_38 : decode cX5_goDay 38 = .ok (.iinc 3 1, 3) := by decide +kernel
theorem dX5_goDay_41 : decode cX5_goDay 41 = .ok (.goto (-39), 3) := by decide +kernel
theorem dX5_goDay_44 : decode cX5_goDay 44 = .ok (.bipush (-9), 2) := by decide +kernel
theorem dX5_goDay_46 : decode cX5_goDay 46 = .ok (.ireturn, 1) := by decide +kernel
theorem dX5_day_0 : decode cX5_day 0 = .ok (.aload_n 0, 1) := by decide +kernel
theorem dX5_day_1 : decode cX5_day 1 = .ok (.iconst 0, 1) := by decide +kernel
theorem dX5_day_2 : decode cX5_day 2 = .ok (.putfield 70, 3) := by decide +kernel
theorem dX5_day_5 : decode cX5_day 5 = .ok (.iload_n 1, 1) := by decide +kernel
theorem dX5_day_6 : decode cX5_day 6 = .ok (.invokestatic 89, 3) := by decide +kernel
theorem dX5_day_9 : decode cX5_day 9 = .ok (.ifCond .ne 5, 3) := by decide +kernel
theorem dX5_day_12 : decode cX5_day 12 = .ok (.iconst (-1), 1) := by decide +kernel
theorem dX5_day_13 : decode cX5_day 13 = .ok (.ireturn, 1) := by decide +kernel
theorem dX5_day_14 : decode cX5_day 14 = .ok (.iload_n 2, 1) := by decide +kernel
theorem dX5_day_15 : decode cX5_day 15 = .ok (.invokestatic 93, 3) := by decide +kernel
theorem dX5_day_18 : decode cX5_day 18 = .ok (.ifCond .eq 36, 3) := by decide +kernel
theorem dX5_day_21 : decode cX5_day 21 = .ok (.iload 4, 2) := by decide +kernel
theorem dX5_day_23 : decode cX5_day 23 = .ok (.iconst 0, 1) := by decide +kernel
theorem dX5_day_24 : decode cX5_day 24 = .ok (.bipush 20, 2) := by decide +kernel
theorem dX5_day_26 : decode cX5_day 26 = .ok (.invokestatic 76, 3) := by decide +kernel
theorem dX5_day_29 : decode cX5_day 29 = .ok (.ifCond .eq 25, 3) := by decide +kernel
theorem dX5_day_32 : decode cX5_day 32 = .ok (.iload 5, 2) := by decide +kernel
theorem dX5_day_34 : decode cX5_day 34 = .ok (.iconst 0, 1) := by decide +kernel
theorem dX5_day_35 : decode cX5_day 35 = .ok (.iconst 4, 1) := by decide +kernel
theorem dX5_day_36 : decode cX5_day 36 = .ok (.invokestatic 76, 3) := by decide +kernel
theorem dX5_day_39 : decode cX5_day 39 = .ok (.ifCond .ne 18, 3) := by decide +kernel
theorem dX5_day_42 : decode cX5_day 42 = .ok (.iload 5, 2) := by decide +kernel
theorem dX5_day_44 : decode cX5_day 44 = .ok (.bipush 10, 2) := by decide +kernel
theorem dX5_day_46 : decode cX5_day 46 = .ok (.bipush 16, 2) := by decide +kernel
theorem dX5_day_48 : decode cX5_day 48 = .ok (.invokestatic 76, 3) := by decide +kernel
theorem dX5_day_51 : decode cX5_day 51 = .ok (.ifCond .ne 6, 3) := by decide +kernel
theorem dX5_day_54 : decode cX5_day 54 = .ok (.bipush (-2), 2) := by decide +kernel
theorem dX5_day_56 : decode cX5_day 56 = .ok (.ireturn, 1) := by decide +kernel
theorem dX5_day_57 : decode cX5_day 57 = .ok (.aload_n 0, 1) := by decide +kernel
theorem dX5_day_58 : decode cX5_day 58 = .ok (.iload_n 1, 1) := by decide +kernel
theorem dX5_day_59 : decode cX5_day 59 = .ok (.iload_n 2, 1) := by decide +kernel
theorem dX5_day_60 : decode cX5_day 60 = .ok (.iload_n 3, 1) := by decide +kernel
theorem dX5_day_61 : decode cX5_day 61 = .ok (.iconst 2, 1) := by decide +kernel
theorem dX5_day_62 : decode cX5_day 62 = .ok (.iload 4, 2) := by decide +kernel
theorem dX5_day_64 : decode cX5_day 64 = .ok (.imul, 1) := by decide +kernel
theorem dX5_day_65 : decode cX5_day 65 = .ok (.invokevirtual 96, 3) := by decide +kernel
theorem dX5_day_68 : decode cX5_day 68 = .ok (.istore 6, 2) := by decide +kernel
theorem dX5_day_70 : decode cX5_day 70 = .ok (.iload 6, 2) := by decide +kernel
theorem dX5_day_72 : decode cX5_day 72 = .ok (.ifCond .eq 10, 3) := by decide +kernel
theorem dX5_day_75 : decode cX5_day 75 = .ok (.aload_n 0, 1) := by decide +kernel
theorem dX5_day_76 : decode cX5_day 76 = .ok (.iload 6, 2) := by decide +kernel
theorem dX5_day_78 : decode cX5_day 78 = .ok (.invokevirtual 100, 3) := by decide +kernel
theorem dX5_day_81 : decode cX5_day 81 = .ok (.ireturn, 1) := by decide +kernel
theorem dX5_day_82 : decode cX5_day 82 = .ok (.aload_n 0, 1) := by decide +kernel
theorem dX5_day_83 : decode cX5_day 83 = .ok (.getfield 80, 3) := by decide +kernel
theorem dX5_day_86 : decode cX5_day 86 = .ok (.ifCond .ne 6, 3) := by decide +kernel
theorem dX5_day_89 : decode cX5_day 89 = .ok (.bipush (-3), 2) := by decide +kernel
theorem dX5_day_91 : decode cX5_day 91 = .ok (.ireturn, 1) := by decide +kernel
theorem dX5_day_92 : decode cX5_day 92 = .ok (.bipush 60, 2) := by decide +kernel
theorem dX5_day_94 : decode cX5_day 94 = .ok (.iload_n 1, 1) := by decide +kernel
theorem dX5_day_95 : decode cX5_day 95 = .ok (.imul, 1) := by decide +kernel
theorem dX5_day_96 : decode cX5_day 96 = .ok (.iload_n 3, 1) := by decide +kernel
theorem dX5_day_97 : decode cX5_day 97 = .ok (.iadd, 1) := by decide +kernel
theorem dX5_day_98 : decode cX5_day 98 = .ok (.istore 7, 2) := by decide +kernel
theorem dX5_day_100 : decode cX5_day 100 = .ok (.iconst 0, 1) := by decide +kernel
theorem dX5_day_101 : decode cX5_day 101 = .ok (.istore 8, 2) := by decide +kernel
theorem dX5_day_103 : decode cX5_day 103 = .ok (.iload 8, 2) := by decide +kernel
theorem dX5_day_105 : decode cX5_day 105 = .ok (.iload 4, 2) := by decide +kernel
theorem dX5_day_107 : decode cX5_day 107 = .ok (.if_icmp .ge 44, 3) := by decide +kernel
theorem dX5_day_110 : decode cX5_day 110 = .ok (.aload_n 0, 1) := by decide +kernel
theorem dX5_day_111 : decode cX5_day 111 = .ok (.getfield 16, 3) := by decide +kernel
theorem dX5_day_114 : decode cX5_day 114 = .ok (.iload 7, 2) := by decide +kernel
theorem dX5_day_116 : decode cX5_day 116 = .ok (.iconst 2, 1) := by decide +kernel
theorem dX5_day_117 : decode cX5_day 117 = .ok (.iload 8, 2) := by decide +kernel
theorem dX5_day_119 : decode cX5_day 119 = .ok (.imul, 1) := by decide +kernel
theorem dX5_day_120 : decode cX5_day 120 = .ok (.iadd, 1) := by decide +kernel
theorem dX5_day_121 : decode cX5_day 121 = .ok (.iaload, 1) := by decide +kernel
theorem dX5_day_122 : decode cX5_day 122 = .ok (.aload_n 0, 1) := by decide +kernel
theorem dX5_day_123 : decode cX5_day 123 = .ok (.getfield 16, 3) := by decide +kernel
theorem dX5_day_126 : decode cX5_day 126 = .ok (.iload 7, 2) := by decide +kernel
theorem dX5_day_128 : decode cX5_day 128 = .ok (.iconst 2, 1) := by decide +kernel
theorem dX5_day_129 : decode cX5_day 129 = .ok (.iload 8, 2) := by decide +kernel
theorem dX5_day_131 : decode cX5_day 131 = .ok (.imul, 1) := by decide +kernel
theorem dX5_day_132 : decode cX5_day 132 = .ok (.iadd, 1) := by decide +kernel
theorem dX5_day_133 : decode cX5_day 133 = .ok (.iconst 1, 1) := by decide +kernel
theorem dX5_day_134 : decode cX5_day 134 = .ok (.iadd, 1) := by decide +kernel
theorem dX5_day_135 : decode cX5_day 135 = .ok (.iaload, 1) := by decide +kernel
theorem dX5_day_136 : decode cX5_day 136 = .ok (.invokestatic 195, 3) := by decide +kernel
theorem dX5_day_139 : decode cX5_day 139 = .ok (.ifCond .ne 6, 3) := by decide +kernel
theorem dX5_day_142 : decode cX5_day 142 = .ok (.bipush (-2), 2) := by decide +kernel
theorem dX5_day_144 : decode cX5_day 144 = .ok (.ireturn, 1) := by decide +kernel
theorem dX5_day_145 : decode cX5_day 145 = .ok (.iinc 8 1, 3) := by decide +kernel
theorem dX5_day_148 : decode cX5_day 148 = .ok (.goto (-45), 3) := by decide +kernel
theorem dX5_day_151 : decode cX5_day 151 = .ok (.aload_n 0, 1) := by decide +kernel
theorem dX5_day_152 : decode cX5_day 152 = .ok (.invokevirtual 198, 3) := by decide +kernel
theorem dX5_day_155 : decode cX5_day 155 = .ok (.aload_n 0, 1) := by decide +kernel
theorem dX5_day_156 : decode cX5_day 156 = .ok (.iload 7, 2) := by decide +kernel
theorem dX5_day_158 : decode cX5_day 158 = .ok (.iload 4, 2) := by decide +kernel
theorem dX5_day_160 : decode cX5_day 160 = .ok (.invokevirtual 201, 3) := by decide +kernel
theorem dX5_day_163 : decode cX5_day 163 = .ok (.istore 8, 2) := by decide +kernel
theorem dX5_day_165 : decode cX5_day 165 = .ok (.aload_n 0, 1) := by decide +kernel
theorem dX5_day_166 : decode cX5_day 166 = .ok (.iload 5, 2) := by decide +kernel
theorem dX5_day_168 : decode cX5_day 168 = .ok (.invokevirtual 204, 3) := by decide +kernel
theorem dX5_day_171 : decode cX5_day 171 = .ok (.istore 9, 2) := by decide +kernel
theorem dX5_day_173 : decode cX5_day 173 = .ok (.aload_n 0, 1) := by decide +kernel
theorem dX5_day_174 : decode cX5_day 174 = .ok (.invokevirtual 207, 3) := by decide +kernel
theorem dX5_day_177 : decode cX5_day 177 = .ok (.iload 5, 2) := by decide +kernel
theorem dX5_day_179 : decode cX5_day 179 = .ok (.iconst 1, 1) := by decide +kernel
theorem dX5_day_180 : decode cX5_day 180 = .ok (.if_icmp .ne 8, 3) := by decide +kernel
theorem dX5_day_183 : decode cX5_day 183 = .ok (.iload 8, 2) := by decide +kernel
theorem dX5_day_185 : decode cX5_day 185 = .ok (.goto 20, 3) := by decide +kernel
theorem dX5_day_188 : decode cX5_day 188 = .ok (.iload 8, 2) := by decide +kernel
theorem dX5_day_190 : decode cX5_day 190 = .ok (.bipush (-9), 2) := by decide +kernel
theorem dX5_day_192 : decode cX5_day 192 = .ok (.if_icmp .ne 8, 3) := by decide +kernel
theorem dX5_day_195 : decode cX5_day 195 = .ok (.iload 9, 2) := by decide +kernel
theorem dX5_day_197 : decode cX5_day 197 = .ok (.goto 8, 3) := by decide +kernel
theorem dX5_day_200 : decode cX5_day 200 = .ok (.bipush (-100), 2) := by decide +kernel
theorem dX5_day_202 : decode cX5_day 202 = .ok (.iload 8, 2) := by decide +kernel
theorem dX5_day_204 : decode cX5_day 204 = .ok (.isub, 1) := by decide +kernel
theorem dX5_day_205 : decode cX5_day 205 = .ok (.ireturn, 1) := by decide +kernel
theorem dX5_tellDay_0 : decode cX5_tellDay 0 = .ok (.iload_n 1, 1) := by decide +kernel
theorem dX5_tellDay_1 : decode cX5_tellDay 1 = .ok (.bipush 10, 2) := by decide +kernel
theorem dX5_tellDay_3 : decode cX5_tellDay 3 = .ok (.if_icmp .ge 9, 3) := by decide +kernel
theorem dX5_tellDay_6 : decode cX5_tellDay 6 = .ok (.aload_n 0, 1) := by decide +kernel
theorem dX5_tellDay_7 : decode cX5_tellDay 7 = .ok (.iload_n 1, 1) := by decide +kernel
theorem dX5_tellDay_8 : decode cX5_tellDay 8 = .ok (.invokevirtual 189, 3) := by decide +kernel
theorem dX5_tellDay_11 : decode cX5_tellDay 11 = .ok (.ireturn, 1) := by decide +kernel
theorem dX5_tellDay_12 : decode cX5_tellDay 12 = .ok (.aload_n 0, 1) := by decide +kernel
theorem dX5_tellDay_13 : decode cX5_tellDay 13 = .ok (.invokevirtual 174, 3) := by decide +kernel
theorem dX5_tellDay_16 : decode cX5_tellDay 16 = .ok (.pop, 1) := by decide +kernel
theorem dX5_tellDay_17 : decode cX5_tellDay 17 = .ok (.aload_n 0, 1) := by decide +kernel
theorem dX5_tellDay_18 : decode cX5_tellDay 18 = .ok (.iload_n 1, 1) := by decide +kernel
theorem dX5_tellDay_19 : decode cX5_tellDay 19 = .ok (.bipush 10, 2) := by decide +kernel
theorem dX5_tellDay_21 : decode cX5_tellDay 21 = .ok (.isub, 1) := by decide +kernel
theorem dX5_tellDay_22 : decode cX5_tellDay 22 = .ok (.invokevirtual 171, 3) := by decide +kernel
theorem dX5_tellDay_25 : decode cX5_tellDay 25 = .ok (.ifCond .eq 15, 3) := by decide +kernel
theorem dX5_tellDay_28 : decode cX5_tellDay 28 = .ok (.aload_n 0, 1) := by decide +kernel
theorem dX5_tellDay_29 : decode cX5_tellDay 29 = .ok (.iconst 0, 1) := by decide +kernel
theorem dX5_tellDay_30 : decode cX5_tellDay 30 = .ok (.iload_n 1, 1) := by decide +kernel
theorem dX5_tellDay_31 : decode cX5_tellDay 31 = .ok (.bipush 10, 2) := by decide +kernel
theorem dX5_tellDay_33 : decode cX5_tellDay 33 = .ok (.isub, 1) := by decide +kernel
theorem dX5_tellDay_34 : decode cX5_tellDay 34 = .ok (.invokevirtual 178, 3) := by decide +kernel
theorem dX5_tellDay_37 : decode cX5_tellDay 37 = .ok (.goto 5, 3) := by decide +kernel
theorem dX5_tellDay_40 : decode cX5_tellDay 40 = .ok (.bipush (-9), 2) := by decide +kernel
theorem dX5_tellDay_42 : decode cX5_tellDay 42 = .ok (.ireturn, 1) := by decide +kernel
theorem dX5_by_0 : decode cX5_by 0 = .ok (.iload_n 1, 1) := by decide +kernel
theorem dX5_by_1 : decode cX5_by 1 = .ok (.iconst 0, 1) := by decide +kernel
theorem dX5_by_2 : decode cX5_by 2 = .ok (.bipush 7, 2) := by decide +kernel
theorem dX5_by_4 : decode cX5_by 4 = .ok (.invokestatic 76, 3) := by decide +kernel
theorem dX5_by_7 : decode cX5_by 7 = .ok (.ifCond .ne 6, 3) := by decide +kernel
theorem dX5_by_10 : decode cX5_by 10 = .ok (.bipush (-2), 2) := by decide +kernel
theorem dX5_by_12 : decode cX5_by 12 = .ok (.ireturn, 1) := by decide +kernel
theorem dX5_by_13 : decode cX5_by 13 = .ok (.aload_n 0, 1) := by decide +kernel
theorem dX5_by_14 : decode cX5_by 14 = .ok (.getfield 80, 3) := by decide +kernel
theorem dX5_by_17 : decode cX5_by 17 = .ok (.ifCond .ne 8, 3) := by decide +kernel
theorem dX5_by_20 : decode cX5_by 20 = .ok (.bipush (-3), 2) := by decide +kernel
theorem dX5_by_22 : decode cX5_by 22 = .ok (.goto 8, 3) := by decide +kernel
theorem dX5_by_25 : decode cX5_by 25 = .ok (.aload_n 0, 1) := by decide +kernel
theorem dX5_by_26 : decode cX5_by 26 = .ok (.iload_n 1, 1) := by decide +kernel
theorem dX5_by_27 : decode cX5_by 27 = .ok (.invokevirtual 162, 3) := by decide +kernel
theorem dX5_by_30 : decode cX5_by 30 = .ok (.ireturn, 1) := by decide +kernel
theorem dX5_enough_0 : decode cX5_enough 0 = .ok (.aload_n 0, 1) := by decide +kernel
theorem dX5_enough_1 : decode cX5_enough 1 = .ok (.getfield 80, 3) := by decide +kernel
theorem dX5_enough_4 : decode cX5_enough 4 = .ok (.ifCond .ne 6, 3) := by decide +kernel
theorem dX5_enough_7 : decode cX5_enough 7 = .ok (.bipush (-3), 2) := by decide +kernel
theorem dX5_enough_9 : decode cX5_enough 9 = .ok (.ireturn, 1) := by decide +kernel
theorem dX5_enough_10 : decode cX5_enough 10 = .ok (.aload_n 0, 1) := by decide +kernel
theorem dX5_enough_11 : decode cX5_enough 11 = .ok (.bipush 7, 2) := by decide +kernel
theorem dX5_enough_13 : decode cX5_enough 13 = .ok (.invokevirtual 162, 3) := by decide +kernel
theorem dX5_enough_16 : decode cX5_enough 16 = .ok (.istore_n 1, 1) := by decide +kernel
theorem dX5_enough_17 : decode cX5_enough 17 = .ok (.iconst 0, 1) := by decide +kernel
theorem dX5_enough_18 : decode cX5_enough 18 = .ok (.istore_n 2, 1) := by decide +kernel
theorem dX5_enough_19 : decode cX5_enough 19 = .ok (.aload_n 0, 1) := by decide +kernel
theorem dX5_enough_20 : decode cX5_enough 20 = .ok (.iload_n 2, 1) := by decide +kernel
theorem dX5_enough_21 : decode cX5_enough 21 = .ok (.invokevirtual 162, 3) := by decide +kernel
theorem dX5_enough_24 : decode cX5_enough 24 = .ok (.iload_n 1, 1) := by decide +kernel
theorem dX5_enough_25 : decode cX5_enough 25 = .ok (.if_icmp .eq 9, 3) := by decide +kernel
theorem dX5_enough_28 : decode cX5_enough 28 = .ok (.iinc 2 1, 3) := by decide +kernel
theorem dX5_enough_31 : decode cX5_enough 31 = .ok (.goto (-12), 3) := by decide +kernel
theorem dX5_enough_34 : decode cX5_enough 34 = .ok (.iload_n 2, 1) := by decide +kernel
theorem dX5_enough_35 : decode cX5_enough 35 = .ok (.ireturn, 1) := by decide +kernel
theorem dX5_reading_0 : decode cX5_reading 0 = .ok (.aload_n 0, 1) := by decide +kernel
theorem dX5_reading_1 : decode cX5_reading 1 = .ok (.getfield 80, 3) := by decide +kernel
theorem dX5_reading_4 : decode cX5_reading 4 = .ok (.ifCond .ne 6, 3) := by decide +kernel
theorem dX5_reading_7 : decode cX5_reading 7 = .ok (.bipush (-3), 2) := by decide +kernel
theorem dX5_reading_9 : decode cX5_reading 9 = .ok (.ireturn, 1) := by decide +kernel
theorem dX5_reading_10 : decode cX5_reading 10 = .ok (.iload_n 1, 1) := by decide +kernel
theorem dX5_reading_11 : decode cX5_reading 11 = .ok (.iconst 0, 1) := by decide +kernel
theorem dX5_reading_12 : decode cX5_reading 12 = .ok (.bipush 7, 2) := by decide +kernel
theorem dX5_reading_14 : decode cX5_reading 14 = .ok (.invokestatic 76, 3) := by decide +kernel
theorem dX5_reading_17 : decode cX5_reading 17 = .ok (.ifCond .eq 20, 3) := by decide +kernel
theorem dX5_reading_20 : decode cX5_reading 20 = .ok (.iload_n 2, 1) := by decide +kernel
theorem dX5_reading_21 : decode cX5_reading 21 = .ok (.bipush (-9), 2) := by decide +kernel
theorem dX5_reading_23 : decode cX5_reading 23 = .ok (.if_icmp .eq 17, 3) := by decide +kernel
theorem dX5_reading_26 : decode cX5_reading 26 = .ok (.iload_n 2, 1) := by decide +kernel
theorem dX5_reading_27 : decode cX5_reading 27 = .ok (.iconst 0, 1) := by decide +kernel
theorem dX5_reading_28 : decode cX5_reading 28 = .ok (.sipush 500, 3) := by decide +kernel
theorem dX5_reading_31 : decode cX5_reading 31 = .ok (.invokestatic 76, 3) := by decide +kernel
theorem dX5_reading_34 : decode cX5_reading 34 = .ok (.ifCond .ne 6, 3) := by decide +kernel
theorem dX5_reading_37 : decode cX5_reading 37 = .ok (.bipush (-2), 2) := by decide +kernel
theorem dX5_reading_39 : decode cX5_reading 39 = .ok (.ireturn, 1) := by decide +kernel
theorem dX5_reading_40 : decode cX5_reading 40 = .ok (.aload_n 0, 1) := by decide +kernel
theorem dX5_reading_41 : decode cX5_reading 41 = .ok (.getfield 122, 3) := by decide +kernel
theorem dX5_reading_44 : decode cX5_reading 44 = .ok (.bipush 8, 2) := by decide +kernel
theorem dX5_reading_46 : decode cX5_reading 46 = .ok (.if_icmp .ne 6, 3) := by decide +kernel
theorem dX5_reading_49 : decode cX5_reading 49 = .ok (.bipush (-4), 2) := by decide +kernel
theorem dX5_reading_51 : decode cX5_reading 51 = .ok (.ireturn, 1) := by decide +kernel
theorem dX5_reading_52 : decode cX5_reading 52 = .ok (.aload_n 0, 1) := by decide +kernel
theorem dX5_reading_53 : decode cX5_reading 53 = .ok (.getfield 64, 3) := by decide +kernel
theorem dX5_reading_56 : decode cX5_reading 56 = .ok (.aload_n 0, 1) := by decide +kernel
theorem dX5_reading_57 : decode cX5_reading 57 = .ok (.getfield 122, 3) := by decide +kernel
theorem dX5_reading_60 : decode cX5_reading 60 = .ok (.iload_n 1, 1) := by decide +kernel
theorem dX5_reading_61 : decode cX5_reading 61 = .ok (.iastore, 1) := by decide +kernel
theorem dX5_reading_62 : decode cX5_reading 62 = .ok (.aload_n 0, 1) := by decide +kernel
theorem dX5_reading_63 : decode cX5_reading 63 = .ok (.getfield 67, 3) := by decide +kernel
theorem dX5_reading_66 : decode cX5_reading 66 = .ok (.aload_n 0, 1) := by decide +kernel
theorem dX5_reading_67 : decode cX5_reading 67 = .ok (.getfield 122, 3) := by decide +kernel
theorem dX5_reading_70 : decode cX5_reading 70 = .ok (.iload_n 2, 1) := by decide +kernel
theorem dX5_reading_71 : decode cX5_reading 71 = .ok (.iastore, 1) := by decide +kernel
theorem dX5_reading_72 : decode cX5_reading 72 = .ok (.aload_n 0, 1) := by decide +kernel
theorem dX5_reading_73 : decode cX5_reading 73 = .ok (.dup, 1) := by decide +kernel
theorem dX5_reading_74 : decode cX5_reading 74 = .ok (.getfield 122, 3) := by decide +kernel
theorem dX5_reading_77 : decode cX5_reading 77 = .ok (.iconst 1, 1) := by decide +kernel
theorem dX5_reading_78 : decode cX5_reading 78 = .ok (.iadd, 1) := by decide +kernel
theorem dX5_reading_79 : decode cX5_reading 79 = .ok (.putfield 122, 3) := by decide +kernel
theorem dX5_reading_82 : decode cX5_reading 82 = .ok (.aload_n 0, 1) := by decide +kernel
theorem dX5_reading_83 : decode cX5_reading 83 = .ok (.getfield 122, 3) := by decide +kernel
theorem dX5_reading_86 : decode cX5_reading 86 = .ok (.iconst 1, 1) := by decide +kernel
theorem dX5_reading_87 : decode cX5_reading 87 = .ok (.isub, 1) := by decide +kernel
theorem dX5_reading_88 : decode cX5_reading 88 = .ok (.ireturn, 1) := by decide +kernel
theorem dX5_back_0 : decode cX5_back 0 = .ok (.iload_n 1, 1) := by decide +kernel
theorem dX5_back_1 : decode cX5_back 1 = .ok (.iconst 0, 1) := by decide +kernel
theorem dX5_back_2 : decode cX5_back 2 = .ok (.aload_n 0, 1) := by decide +kernel
theorem dX5_back_3 : decode cX5_back 3 = .ok (.getfield 122, 3) := by decide +kernel
theorem dX5_back_6 : decode cX5_back 6 = .ok (.invokestatic 76, 3) := by decide +kernel
theorem dX5_back_9 : decode cX5_back 9 = .ok (.ifCond .ne 6, 3) := by decide +kernel
theorem dX5_back_12 : decode cX5_back 12 = .ok (.bipush (-2), 2) := by decide +kernel
theorem dX5_back_14 : decode cX5_back 14 = .ok (.ireturn, 1) := by decide +kernel
theorem dX5_back_15 : decode cX5_back 15 = .ok (.aload_n 0, 1) := by decide +kernel
theorem dX5_back_16 : decode cX5_back 16 = .ok (.dup, 1) := by decide +kernel
theorem dX5_back_17 : decode cX5_back 17 = .ok (.getfield 122, 3) := by decide +kernel
theorem dX5_back_20 : decode cX5_back 20 = .ok (.iload_n 1, 1) := by decide +kernel
theorem dX5_back_21 : decode cX5_back 21 = .ok (.isub, 1) := by decide +kernel
theorem dX5_back_22 : decode cX5_back 22 = .ok (.putfield 122, 3) := by decide +kernel
theorem dX5_back_25 : decode cX5_back 25 = .ok (.aload_n 0, 1) := by decide +kernel
theorem dX5_back_26 : decode cX5_back 26 = .ok (.getfield 122, 3) := by decide +kernel
theorem dX5_back_29 : decode cX5_back 29 = .ok (.ireturn, 1) := by decide +kernel
theorem dX5_areSo_0 : decode cX5_areSo 0 = .ok (.iconst 0, 1) := by decide +kernel
theorem dX5_areSo_1 : decode cX5_areSo 1 = .ok (.istore_n 1, 1) := by decide +kernel
theorem dX5_areSo_2 : decode cX5_areSo 2 = .ok (.iload_n 1, 1) := by decide +kernel
theorem dX5_areSo_3 : decode cX5_areSo 3 = .ok (.aload_n 0, 1) := by decide +kernel
theorem dX5_areSo_4 : decode cX5_areSo 4 = .ok (.getfield 122, 3) := by decide +kernel
theorem dX5_areSo_7 : decode cX5_areSo 7 = .ok (.if_icmp .ge 30, 3) := by decide +kernel
theorem dX5_areSo_10 : decode cX5_areSo 10 = .ok (.aload_n 0, 1) := by decide +kernel
theorem dX5_areSo_11 : decode cX5_areSo 11 = .ok (.aload_n 0, 1) := by decide +kernel
theorem dX5_areSo_12 : decode cX5_areSo 12 = .ok (.getfield 64, 3) := by decide +kernel
theorem dX5_areSo_15 : decode cX5_areSo 15 = .ok (.iload_n 1, 1) := by decide +kernel
theorem dX5_areSo_16 : decode cX5_areSo 16 = .ok (.iaload, 1) := by decide +kernel
theorem dX5_areSo_17 : decode cX5_areSo 17 = .ok (.invokevirtual 162, 3) := by decide +kernel
theorem dX5_areSo_20 : decode cX5_areSo 20 = .ok (.aload_n 0, 1) := by decide +kernel
theorem dX5_areSo_21 : decode cX5_areSo 21 = .ok (.getfield 67, 3) := by decide +kernel
theorem dX5_areSo_24 : decode cX5_areSo 24 = .ok (.iload_n 1, 1) := by decide +kernel
theorem dX5_areSo_25 : decode cX5_areSo 25 = .ok (.iaload, 1) := by decide +kernel
theorem dX5_areSo_26 : decode cX5_areSo 26 = .ok (.if_icmp .eq 5, 3) := by decide +kernel
theorem dX5_areSo_29 : decode cX5_areSo 29 = .ok (.iconst 0, 1) := by decide +kernel
theorem dX5_areSo_30 : decode cX5_areSo 30 = .ok (.ireturn, 1) := by decide +kernel
theorem dX5_areSo_31 : decode cX5_areSo 31 = .ok (.iinc 1 1, 3) := by decide +kernel
theorem dX5_areSo_34 : decode cX5_areSo 34 = .ok (.goto (-32), 3) := by decide +kernel
theorem dX5_areSo_37 : decode cX5_areSo 37 = .ok (.iconst 1, 1) := by decide +kernel
theorem dX5_areSo_38 : decode cX5_areSo 38 = .ok (.ireturn, 1) := by decide +kernel
theorem dX5_kinds_0 : decode cX5_kinds 0 = .ok (.aload_n 0, 1) := by decide +kernel
theorem dX5_kinds_1 : decode cX5_kinds 1 = .ok (.iload_n 1, 1) := by decide +kernel
theorem dX5_kinds_2 : decode cX5_kinds 2 = .ok (.invokevirtual 171, 3) := by decide +kernel
theorem dX5_kinds_5 : decode cX5_kinds 5 = .ok (.ifCond .ne 5, 3) := by decide +kernel
theorem dX5_kinds_8 : decode cX5_kinds 8 = .ok (.iconst (-1), 1) := by decide +kernel
theorem dX5_kinds_9 : decode cX5_kinds 9 = .ok (.ireturn, 1) := by decide +kernel
theorem dX5_kinds_10 : decode cX5_kinds 10 = .ok (.aload_n 0, 1) := by decide +kernel
theorem dX5_kinds_11 : decode cX5_kinds 11 = .ok (.getfield 19, 3) := by decide +kernel
theorem dX5_kinds_14 : decode cX5_kinds 14 = .ok (.iload_n 1, 1) := by decide +kernel
theorem dX5_kinds_15 : decode cX5_kinds 15 = .ok (.iaload, 1) := by decide +kernel
theorem dX5_kinds_16 : decode cX5_kinds 16 = .ok (.istore_n 2, 1) := by decide +kernel
theorem dX5_kinds_17 : decode cX5_kinds 17 = .ok (.iconst 0, 1) := by decide +kernel
theorem dX5_kinds_18 : decode cX5_kinds 18 = .ok (.istore_n 3, 1) := by decide +kernel
theorem dX5_kinds_19 : decode cX5_kinds 19 = .ok (.iconst 0, 1) := by decide +kernel
theorem dX5_kinds_20 : decode cX5_kinds 20 = .ok (.istore 4, 2) := by decide +kernel
theorem dX5_kinds_22 : decode cX5_kinds 22 = .ok (.iload 4, 2) := by decide +kernel
theorem dX5_kinds_24 : decode cX5_kinds 24 = .ok (.iconst 3, 1) := by decide +kernel
theorem dX5_kinds_25 : decode cX5_kinds 25 = .ok (.if_icmp .ge 35, 3) := by decide +kernel
theorem dX5_kinds_28 : decode cX5_kinds 28 = .ok (.aload_n 0, 1) := by decide +kernel
theorem dX5_kinds_29 : decode cX5_kinds 29 = .ok (.getfield 19, 3) := by decide +kernel
theorem dX5_kinds_32 : decode cX5_kinds 32 = .ok (.iload_n 1, 1) := by decide +kernel
theorem dX5_kinds_33 : decode cX5_kinds 33 = .ok (.iload 4, 2) := by decide +kernel
theorem dX5_kinds_35 : decode cX5_kinds 35 = .ok (.iastore, 1) := by decide +kernel
theorem dX5_kinds_36 : decode cX5_kinds 36 = .ok (.iload_n 3, 1) := by decide +kernel
theorem dX5_kinds_37 : decode cX5_kinds 37 = .ok (.aload_n 0, 1) := by decide +kernel
theorem dX5_kinds_38 : decode cX5_kinds 38 = .ok (.invokevirtual 210, 3) := by decide +kernel
theorem dX5_kinds_41 : decode cX5_kinds 41 = .ok (.ifCond .eq 10, 3) := by decide +kernel
theorem dX5_kinds_44 : decode cX5_kinds 44 = .ok (.iconst 1, 1) := by decide +kernel
theorem dX5_kinds_45 : decode cX5_kinds 45 = .ok (.iload 4, 2) := by decide +kernel
theorem dX5_kinds_47 : decode cX5_kinds 47 = .ok (.ishl, 1) := by decide +kernel
theorem dX5_kinds_48 : decode cX5_kinds 48 = .ok (.goto 4, 3) := by decide +kernel
theorem dX5_kinds_51 : decode cX5_kinds 51 = .ok (.iconst 0, 1) := by decide +kernel
theorem dX5_kinds_52 : decode cX5_kinds 52 = .ok (.ior, 1) := by decide +kernel
theorem dX5_kinds_53 : decode cX5_kinds 53 = .ok (.istore_n 3, 1) := by decide +kernel
theorem dX5_kinds_54 : decode cX5_kinds 54 = .ok (.iinc 4 1, 3) := by decide +kernel
theorem dX5_kinds_57 : decode cX5_kinds 57 = .ok (.goto (-35), 3) := by decide +kernel
theorem dX5_kinds_60 : decode cX5_kinds 60 = .ok (.aload_n 0, 1) := by decide +kernel
theorem dX5_kinds_61 : decode cX5_kinds 61 = .ok (.getfield 19, 3) := by decide +kernel
theorem dX5_kinds_64 : decode cX5_kinds 64 = .ok (.iload_n 1, 1) := by decide +kernel
theorem dX5_kinds_65 : decode cX5_kinds 65 = .ok (.iload_n 2, 1) := by decide +kernel
theorem dX5_kinds_66 : decode cX5_kinds 66 = .ok (.iastore, 1) := by decide +kernel
theorem dX5_kinds_67 : decode cX5_kinds 67 = .ok (.iload_n 3, 1) := by decide +kernel
theorem dX5_kinds_68 : decode cX5_kinds 68 = .ok (.ireturn, 1) := by decide +kernel
theorem dX5_letterings_0 : decode cX5_letterings 0 = .ok (.aload_n 0, 1) := by decide +kernel
theorem dX5_letterings_1 : decode cX5_letterings 1 = .ok (.iload_n 1, 1) := by decide +kernel
theorem dX5_letterings_2 : decode cX5_letterings 2 = .ok (.invokevirtual 171, 3) := by decide +kernel
theorem dX5_letterings_5 : decode cX5_letterings 5 = .ok (.ifCond .ne 5, 3) := by decide +kernel
theorem dX5_letterings_8 : decode cX5_letterings 8 = .ok (.iconst (-1), 1) := by decide +kernel
theorem dX5_letterings_9 : decode cX5_letterings 9 = .ok (.ireturn, 1) := by decide +kernel
theorem dX5_letterings_10 : decode cX5_letterings 10 = .ok (.aload_n 0, 1) := by decide +kernel
theorem dX5_letterings_11 : decode cX5_letterings 11 = .ok (.getfield 22, 3) := by decide +kernel
theorem dX5_letterings_14 : decode cX5_letterings 14 = .ok (.iload_n 1, 1) := by decide +kernel
theorem dX5_letterings_15 : decode cX5_letterings 15 = .ok (.iaload, 1) := by decide +kernel
theorem dX5_letterings_16 : decode cX5_letterings 16 = .ok (.istore_n 2, 1) := by decide +kernel
theorem dX5_letterings_17 : decode cX5_letterings 17 = .ok (.iconst 0, 1) := by decide +kernel
theorem dX5_letterings_18 : decode cX5_letterings 18 = .ok (.istore_n 3, 1) := by decide +kernel
theorem dX5_letterings_19 : decode cX5_letterings 19 = .ok (.iconst 1, 1) := by decide +kernel
theorem dX5_letterings_20 : decode cX5_letterings 20 = .ok (.istore 4, 2) := by decide +kernel
theorem dX5_letterings_22 : decode cX5_letterings 22 = .ok (.iload 4, 2) := by decide +kernel
theorem dX5_letterings_24 : decode cX5_letterings 24 = .ok (.bipush 9, 2) := by decide +kernel
theorem dX5_letterings_26 : decode cX5_letterings 26 = .ok (.if_icmp .gt 35, 3) := by decide +kernel
theorem dX5_letterings_29 : decode cX5_letterings 29 = .ok (.aload_n 0, 1) := by decide +kernel
theorem dX5_letterings_30 : decode cX5_letterings 30 = .ok (.getfield 22, 3) := by decide +kernel
theorem dX5_letterings_33 : decode cX5_letterings 33 = .ok (.iload_n 1, 1) := by decide +kernel
theorem dX5_letterings_34 : decode cX5_letterings 34 = .ok (.iload 4, 2) := by decide +kernel
theorem dX5_letterings_36 : decode cX5_letterings 36 = .ok (.iastore, 1) := by decide +kernel
theorem dX5_letterings_37 : decode cX5_letterings 37 = .ok (.iload_n 3, 1) := by decide +kernel
theorem dX5_letterings_38 : decode cX5_letterings 38 = .ok (.aload_n 0, 1) := by decide +kernel
theorem dX5_letterings_39 : decode cX5_letterings 39 = .ok (.invokevirtual 210, 3) := by decide +kernel
theorem dX5_letterings_42 : decode cX5_letterings 42 = .ok (.ifCond .eq 10, 3) := by decide +kernel
theorem dX5_letterings_45 : decode cX5_letterings 45 = .ok (.iconst 1, 1) := by decide +kernel
theorem dX5_letterings_46 : decode cX5_letterings 46 = .ok (.iload 4, 2) := by decide +kernel
theorem dX5_letterings_48 : decode cX5_letterings 48 = .ok (.ishl, 1) := by decide +kernel
theorem dX5_letterings_49 : decode cX5_letterings 49 = .ok (.goto 4, 3) := by decide +kernel
theorem dX5_letterings_52 : decode cX5_letterings 52 = .ok (.iconst 0, 1) := by decide +kernel
theorem dX5_letterings_53 : decode cX5_letterings 53 = .ok (.ior, 1) := by decide +kernel
theorem dX5_letterings_54 : decode cX5_letterings 54 = .ok (.istore_n 3, 1) := by decide +kernel
theorem dX5_letterings_55 : decode cX5_letterings 55 = .ok (.iinc 4 1, 3) := by decide +kernel
theorem dX5_letterings_58 : decode cX5_letterings 58 = .ok (.goto (-36), 3) := by decide +kernel
theorem dX5_letterings_61 : decode cX5_letterings 61 = .ok (.aload_n 0, 1) := by decide +kernel
theorem dX5_letterings_62 : decode cX5_letterings 62 = .ok (.getfield 22, 3) := by decide +kernel
theorem dX5_letterings_65 : decode cX5_letterings 65 = .ok (.iload_n 1, 1) := by decide +kernel
theorem dX5_letterings_66 : decode cX5_letterings 66 = .ok (.iload_n 2, 1) := by decide +kernel
theorem dX5_letterings_67 : decode cX5_letterings 67 = .ok (.iastore, 1) := by decide +kernel
theorem dX5_letterings_68 : decode cX5_letterings 68 = .ok (.iload_n 3, 1) := by decide +kernel
theorem dX5_letterings_69 : decode cX5_letterings 69 = .ok (.ireturn, 1) := by decide +kernel
theorem dX5_inLeastTerms_0 : decode cX5_inLeastTerms 0 = .ok (.lload_n 0, 1) := by decide +kernel
theorem dX5_inLeastTerms_1 : decode cX5_inLeastTerms 1 = .ok (.lstore 5, 2) := by decide +kernel
theorem dX5_inLeastTerms_3 : decode cX5_inLeastTerms 3 = .ok (.lload_n 2, 1) := by decide +kernel
theorem dX5_inLeastTerms_4 : decode cX5_inLeastTerms 4 = .ok (.lstore 7, 2) := by decide +kernel
theorem dX5_inLeastTerms_6 : decode cX5_inLeastTerms 6 = .ok (.lload 7, 2) := by decide +kernel
theorem dX5_inLeastTerms_8 : decode cX5_inLeastTerms 8 = .ok (.lconst 0, 1) := by decide +kernel
theorem dX5_inLeastTerms_9 : decode cX5_inLeastTerms 9 = .ok (.lcmp, 1) := by decide +kernel
theorem dX5_inLeastTerms_10 : decode cX5_inLeastTerms 10 = .ok (.ifCond .eq 21, 3) := by decide +kernel
theorem dX5_inLeastTerms_13 : decode cX5_inLeastTerms 13 = .ok (.lload 5, 2) := by decide +kernel
theorem dX5_inLeastTerms_15 : decode cX5_inLeastTerms 15 = .ok (.lload 7, 2) := by decide +kernel
theorem dX5_inLeastTerms_17 : decode cX5_inLeastTerms 17 = .ok (.lrem, 1) := by decide +kernel
theorem dX5_inLeastTerms_18 : decode cX5_inLeastTerms 18 = .ok (.lstore 9, 2) := by decide +kernel
theorem dX5_inLeastTerms_20 : decode cX5_inLeastTerms 20 = .ok (.lload 7, 2) := by decide +kernel
theorem dX5_inLeastTerms_22 : decode cX5_inLeastTerms 22 = .ok (.lstore 5, 2) := by decide +kernel
theorem dX5_inLeastTerms_24 : decode cX5_inLeastTerms 24 = .ok (.lload 9, 2) := by decide +kernel
theorem dX5_inLeastTerms_26 : decode cX5_inLeastTerms 26 = .ok (.lstore 7, 2) := by decide +kernel
theorem dX5_inLeastTerms_28 : decode cX5_inLeastTerms 28 = .ok (.goto (-22), 3) := by decide +kernel
theorem dX5_inLeastTerms_31 : decode cX5_inLeastTerms 31 = .ok (.iload 4, 2) := by decide +kernel
theorem dX5_inLeastTerms_33 : decode cX5_inLeastTerms 33 = .ok (.ifCond .ne 10, 3) := by decide +kernel
theorem dX5_inLeastTerms_36 : decode cX5_inLeastTerms 36 = .ok (.lload_n 0, 1) := by decide +kernel
theorem dX5_inLeastTerms_37 : decode cX5_inLeastTerms 37 = .ok (.lload 5, 2) := by decide +kernel
theorem dX5_inLeastTerms_39 : decode cX5_inLeastTerms 39 = .ok (.ldiv, 1) := by decide +kernel
theorem dX5_inLeastTerms_40 : decode cX5_inLeastTerms 40 = .ok (.goto 7, 3) := by decide +kernel
theorem dX5_inLeastTerms_43 : decode cX5_inLeastTerms 43 = .ok (.lload_n 2, 1) := by decide +kernel
theorem dX5_inLeastTerms_44 : decode cX5_inLeastTerms 44 = .ok (.lload 5, 2) := by decide +kernel
theorem dX5_inLeastTerms_46 : decode cX5_inLeastTerms 46 = .ok (.ldiv, 1) := by decide +kernel
theorem dX5_inLeastTerms_47 : decode cX5_inLeastTerms 47 = .ok (.lreturn, 1) := by decide +kernel
theorem dX5_odds_0 : decode cX5_odds 0 = .ok (.iload_n 1, 1) := by decide +kernel
theorem dX5_odds_1 : decode cX5_odds 1 = .ok (.iconst 0, 1) := by decide +kernel
theorem dX5_odds_2 : decode cX5_odds 2 = .ok (.iconst 4, 1) := by decide +kernel
theorem dX5_odds_3 : decode cX5_odds 3 = .ok (.invokestatic 76, 3) := by decide +kernel
theorem dX5_odds_6 : decode cX5_odds 6 = .ok (.ifCond .eq 28, 3) := by decide +kernel
theorem dX5_odds_9 : decode cX5_odds 9 = .ok (.iload_n 2, 1) := by decide +kernel
theorem dX5_odds_10 : decode cX5_odds 10 = .ok (.iconst 0, 1) := by decide +kernel
theorem dX5_odds_11 : decode cX5_odds 11 = .ok (.iconst 1, 1) := by decide +kernel
theorem dX5_odds_12 : decode cX5_odds 12 = .ok (.invokestatic 76, 3) := by decide +kernel
theorem dX5_odds_15 : decode cX5_odds 15 = .ok (.ifCond .eq 19, 3) := by decide +kernel
theorem dX5_odds_18 : decode cX5_odds 18 = .ok (.aload_n 0, 1) := by decide +kernel
theorem dX5_odds_19 : decode cX5_odds 19 = .ok (.getfield 80, 3) := by decide +kernel
theorem dX5_odds_22 : decode cX5_odds 22 = .ok (.ifCond .eq 12, 3) := by decide +kernel
theorem dX5_odds_25 : decode cX5_odds 25 = .ok (.aload_n 0, 1) := by decide +kernel
theorem dX5_odds_26 : decode cX5_odds 26 = .ok (.invokevirtual 174, 3) := by decide +kernel
theorem dX5_odds_29 : decode cX5_odds 29 = .ok (.bipush (-9), 2) := by decide +kernel
theorem dX5_odds_31 : decode cX5_odds 31 = .ok (.if_icmp .ne 7, 3) := by decide +kernel
theorem dX5_odds_34 : decode cX5_odds 34 = .ok (.ldc2_w 74, 3) := by decide +kernel
theorem dX5_odds_37 : decode cX5_odds 37 = .ok (.lreturn, 1) := by decide +kernel
theorem dX5_odds_38 : decode cX5_odds 38 = .ok (.iconst 0, 1) := by decide +kernel
theorem dX5_odds_39 : decode cX5_odds 39 = .ok (.istore_n 3, 1) := by decide +kernel
theorem dX5_odds_40 : decode cX5_odds 40 = .ok (.iconst 0, 1) := by decide +kernel
theorem dX5_odds_41 : decode cX5_odds 41 = .ok (.istore 4, 2) := by decide +kernel
theorem dX5_odds_43 : decode cX5_odds 43 = .ok (.iload 4, 2) := by decide +kernel
theorem dX5_odds_45 : decode cX5_odds 45 = .ok (.aload_n 0, 1) := by decide +kernel
theorem dX5_odds_46 : decode cX5_odds 46 = .ok (.getfield 165, 3) := by decide +kernel
theorem dX5_odds_49 : decode cX5_odds 49 = .ok (.if_icmp .ge 28, 3) := by decide +kernel
theorem dX5_odds_52 : decode cX5_odds 52 = .ok (.iload_n 3, 1) := by decide +kernel
theorem dX5_odds_53 : decode cX5_odds 53 = .ok (.aload_n 0, 1) := by decide +kernel
theorem dX5_odds_54 : decode cX5_odds 54 = .ok (.getfield 52, 3) := by decide +kernel
theorem dX5_odds_57 : decode cX5_odds 57 = .ok (.iload 4, 2) := by decide +kernel
theorem dX5_odds_59 : decode cX5_odds 59 = .ok (.iaload, 1) := by decide +kernel
theorem dX5_odds_60 : decode cX5_odds 60 = .ok (.iload_n 1, 1) := by decide +kernel
theorem dX5_odds_61 : decode cX5_odds 61 = .ok (.if_icmp .ne 7, 3) := by decide +kernel
theorem dX5_odds_64 : decode cX5_odds 64 = .ok (.iconst 1, 1) := by decide +kernel
theorem dX5_odds_65 : decode cX5_odds 65 = .ok (.goto 4, 3) := by decide +kernel
theorem dX5_odds_68 : decode cX5_odds 68 = .ok (.iconst 0, 1) := by decide +kernel
theorem dX5_odds_69 : decode cX5_odds 69 = .ok (.iadd, 1) := by decide +kernel
theorem dX5_odds_70 : decode cX5_odds 70 = .ok (.istore_n 3, 1) := by decide +kernel
theorem dX5_odds_71 : decode cX5_odds 71 = .ok (.iinc 4 1, 3) := by decide +kernel
theorem dX5_odds_74 : decode cX5_odds 74 = .ok (.goto (-31), 3) := by decide +kernel
theorem dX5_odds_77 : decode cX5_odds 77 = .ok (.iload_n 3, 1) := by decide +kernel
theorem dX5_odds_78 : decode cX5_odds 78 = .ok (.i2l, 1) := by decide +kernel
theorem dX5_odds_79 : decode cX5_odds 79 = .ok (.aload_n 0, 1) := by decide +kernel
theorem dX5_odds_80 : decode cX5_odds 80 = .ok (.getfield 165, 3) := by decide +kernel
theorem dX5_odds_83 : decode cX5_odds 83 = .ok (.i2l, 1) := by decide +kernel
theorem dX5_odds_84 : decode cX5_odds 84 = .ok (.iload_n 2, 1) := by decide +kernel
theorem dX5_odds_85 : decode cX5_odds 85 = .ok (.invokestatic 214, 3) := by decide +kernel
theorem dX5_odds_88 : decode cX5_odds 88 = .ok (.lreturn, 1) := by decide +kernel
theorem dX5_sheet_0 : decode cX5_sheet 0 = .ok (.aload_n 0, 1) := by decide +kernel
theorem dX5_sheet_1 : decode cX5_sheet 1 = .ok (.iconst 0, 1) := by decide +kernel
theorem dX5_sheet_2 : decode cX5_sheet 2 = .ok (.putfield 70, 3) := by decide +kernel
theorem dX5_sheet_5 : decode cX5_sheet 5 = .ok (.iload_n 1, 1) := by decide +kernel
theorem dX5_sheet_6 : decode cX5_sheet 6 = .ok (.invokestatic 89, 3) := by decide +kernel
theorem dX5_sheet_9 : decode cX5_sheet 9 = .ok (.ifCond .ne 5, 3) := by decide +kernel
theorem dX5_sheet_12 : decode cX5_sheet 12 = .ok (.iconst (-1), 1) := by decide +kernel
theorem dX5_sheet_13 : decode cX5_sheet 13 = .ok (.ireturn, 1) := by decide +kernel
theorem dX5_sheet_14 : decode cX5_sheet 14 = .ok (.iload_n 2, 1) := by decide +kernel
theorem dX5_sheet_15 : decode cX5_sheet 15 = .ok (.invokestatic 93, 3) := by decide +kernel
theorem dX5_sheet_18 : decode cX5_sheet 18 = .ok (.ifCond .eq 9, 3) := by decide +kernel
theorem dX5_sheet_21 : decode cX5_sheet 21 = .ok (.iload_n 3, 1) := by decide +kernel
theorem dX5_sheet_22 : decode cX5_sheet 22 = .ok (.bipush 60, 2) := by decide +kernel
theorem dX5_sheet_24 : decode cX5_sheet 24 = .ok (.if_icmp .le 6, 3) := by decide +kernel
theorem dX5_sheet_27 : decode cX5_sheet 27 = .ok (.bipush (-2), 2) := by decide +kernel
theorem dX5_sheet_29 : decode cX5_sheet 29 = .ok (.ireturn, 1) := by decide +kernel
theorem dX5_sheet_30 : decode cX5_sheet 30 = .ok (.iload_n 3, 1) := by decide +kernel
theorem dX5_sheet_31 : decode cX5_sheet 31 = .ok (.ifCond .ge 9, 3) := by decide +kernel
theorem dX5_sheet_34 : decode cX5_sheet 34 = .ok (.aload_n 0, 1) := by decide +kernel
theorem dX5_sheet_35 : decode cX5_sheet 35 = .ok (.iconst 4, 1) := by decide +kernel
theorem dX5_sheet_36 : decode cX5_sheet 36 = .ok (.invokevirtual 100, 3) := by decide +kernel
theorem dX5_sheet_39 : decode cX5_sheet 39 = .ok (.ireturn, 1) := by decide +kernel
theorem dX5_sheet_40 : decode cX5_sheet 40 = .ok (.aload_n 0, 1) := by decide +kernel
theorem dX5_sheet_41 : decode cX5_sheet 41 = .ok (.getfield 9, 3) := by decide +kernel
theorem dX5_sheet_44 : decode cX5_sheet 44 = .ok (.iload_n 1, 1) := by decide +kernel
theorem dX5_sheet_45 : decode cX5_sheet 45 = .ok (.iload_n 2, 1) := by decide +kernel
theorem dX5_sheet_46 : decode cX5_sheet 46 = .ok (.iastore, 1) := by decide +kernel
theorem dX5_sheet_47 : decode cX5_sheet 47 = .ok (.aload_n 0, 1) := by decide +kernel
theorem dX5_sheet_48 : decode cX5_sheet 48 = .ok (.getfield 13, 3) := by decide +kernel
theorem dX5_sheet_51 : decode cX5_sheet 51 = .ok (.iload_n 1, 1) := by decide +kernel
theorem dX5_sheet_52 : decode cX5_sheet 52 = .ok (.iload_n 3, 1) := by decide +kernel
theorem dX5_sheet_53 : decode cX5_sheet 53 = .ok (.iastore, 1) := by decide +kernel
theorem dX5_sheet_54 : decode cX5_sheet 54 = .ok (.iconst 0, 1) := by decide +kernel
theorem dX5_sheet_55 : decode cX5_sheet 55 = .ok (.istore 4, 2) := by decide +kernel
theorem dX5_sheet_57 : decode cX5_sheet 57 = .ok (.iload 4, 2) := by decide +kernel
theorem dX5_sheet_59 : decode cX5_sheet 59 = .ok (.bipush 60, 2) := by decide +kernel
theorem dX5_sheet_61 : decode cX5_sheet 61 = .ok (.if_icmp .ge 22, 3) := by decide +kernel
theorem dX5_sheet_64 : decode cX5_sheet 64 = .ok (.aload_n 0, 1) := by decide +kernel
theorem dX5_sheet_65 : decode cX5_sheet 65 = .ok (.getfield 16, 3) := by decide +kernel
theorem dX5_sheet_68 : decode cX5_sheet 68 = .ok (.bipush 60, 2) := by decide +kernel
theorem dX5_sheet_70 : decode cX5_sheet 70 = .ok (.iload_n 1, 1) := by decide +kernel
theorem dX5_sheet_71 : decode cX5_sheet 71 = .ok (.imul, 1) := by decide +kernel
theorem dX5_sheet_72 : decode cX5_sheet 72 = .ok (.iload 4, 2) := by decide +kernel
theorem dX5_sheet_74 : decode cX5_sheet 74 = .ok (.iadd, 1) := by decide +kernel
theorem dX5_sheet_75 : decode cX5_sheet 75 = .ok (.iconst 0, 1) := by decide +kernel
theorem dX5_sheet_76 : decode cX5_sheet 76 = .ok (.iastore, 1) := by decide +kernel
theorem dX5_sheet_77 : decode cX5_sheet 77 = .ok (.iinc 4 1, 3) := by decide +kernel
theorem dX5_sheet_80 : decode cX5_sheet 80 = .ok (.goto (-23), 3) := by decide +kernel
theorem dX5_sheet_83 : decode cX5_sheet 83 = .ok (.iconst 1, 1) := by decide +kernel
theorem dX5_sheet_84 : decode cX5_sheet 84 = .ok (.ireturn, 1) := by decide +kernel
theorem dX5_lose_0 : decode cX5_lose 0 = .ok (.iload_n 1, 1) := by decide +kernel
theorem dX5_lose_1 : decode cX5_lose 1 = .ok (.invokestatic 89, 3) := by decide +kernel
theorem dX5_lose_4 : decode cX5_lose 4 = .ok (.ifCond .ne 5, 3) := by decide +kernel
theorem dX5_lose_7 : decode cX5_lose 7 = .ok (.iconst (-1), 1) := by decide +kernel
theorem dX5_lose_8 : decode cX5_lose 8 = .ok (.ireturn, 1) := by decide +kernel
theorem dX5_lose_9 : decode cX5_lose 9 = .ok (.aload_n 0, 1) := by decide +kernel
theorem dX5_lose_10 : decode cX5_lose 10 = .ok (.getfield 9, 3) := by decide +kernel
theorem dX5_lose_13 : decode cX5_lose 13 = .ok (.iload_n 1, 1) := by decide +kernel
theorem dX5_lose_14 : decode cX5_lose 14 = .ok (.iaload, 1) := by decide +kernel
theorem dX5_lose_15 : decode cX5_lose 15 = .ok (.bipush (-9), 2) := by decide +kernel
theorem dX5_lose_17 : decode cX5_lose 17 = .ok (.if_icmp .ne 7, 3) := by decide +kernel
theorem dX5_lose_20 : decode cX5_lose 20 = .ok (.iconst 0, 1) := by decide +kernel
theorem dX5_lose_21 : decode cX5_lose 21 = .ok (.goto 4, 3) := by decide +kernel
theorem dX5_lose_24 : decode cX5_lose 24 = .ok (.iconst 1, 1) := by decide +kernel
theorem dX5_lose_25 : decode cX5_lose 25 = .ok (.istore_n 2, 1) := by decide +kernel
theorem dX5_lose_26 : decode cX5_lose 26 = .ok (.aload_n 0, 1) := by decide +kernel
theorem dX5_lose_27 : decode cX5_lose 27 = .ok (.getfield 9, 3) := by decide +kernel
theorem dX5_lose_30 : decode cX5_lose 30 = .ok (.iload_n 1, 1) := by decide +kernel
theorem dX5_lose_31 : decode cX5_lose 31 = .ok (.bipush (-9), 2) := by decide +kernel
theorem dX5_lose_33 : decode cX5_lose 33 = .ok (.iastore, 1) := by decide +kernel
theorem dX5_lose_34 : decode cX5_lose 34 = .ok (.iload_n 2, 1) := by decide +kernel
theorem dX5_lose_35 : decode cX5_lose 35 = .ok (.ireturn, 1) := by decide +kernel
theorem dX5_put_0 : decode cX5_put 0 = .ok (.aload_n 0, 1) := by decide +kernel
theorem dX5_put_1 : decode cX5_put 1 = .ok (.iconst 0, 1) := by decide +kernel
theorem dX5_put_2 : decode cX5_put 2 = .ok (.putfield 70, 3) := by decide +kernel
theorem dX5_put_5 : decode cX5_put 5 = .ok (.iload_n 1, 1) := by decide +kernel
theorem dX5_put_6 : decode cX5_put 6 = .ok (.invokestatic 89, 3) := by decide +kernel
theorem dX5_put_9 : decode cX5_put 9 = .ok (.ifCond .ne 5, 3) := by decide +kernel
theorem dX5_put_12 : decode cX5_put 12 = .ok (.iconst (-1), 1) := by decide +kernel
theorem dX5_put_13 : decode cX5_put 13 = .ok (.ireturn, 1) := by decide +kernel
theorem dX5_put_14 : decode cX5_put 14 = .ok (.aload_n 0, 1) := by decide +kernel
end
section
theorem dX5_put_15 : decode cX5_put 15 = .ok (.getfield 9, 3) := by decide +kernel
theorem dX5_put_18 : decode cX5_put 18 = .ok (.iload_n 1, 1) := by decide +kernel
theorem dX5_put_19 : decode cX5_put 19 = .ok (.iaload, 1) := by decide +kernel
theorem dX5_put_20 : decode cX5_put 20 = .ok (.bipush (-9), 2) := by decide +kernel
theorem dX5_put_22 : decode cX5_put 22 = .ok (.if_icmp .ne 9, 3) := by decide +kernel
theorem dX5_put_25 : decode cX5_put 25 = .ok (.aload_n 0, 1) := by decide +kernel
theorem dX5_put_26 : decode cX5_put 26 = .ok (.iconst 1, 1) := by decide +kernel
theorem dX5_put_27 : decode cX5_put 27 = .ok (.invokevirtual 100, 3) := by decide +kernel
theorem dX5_put_30 : decode cX5_put 30 = .ok (.ireturn, 1) := by decide +kernel
theorem dX5_put_31 : decode cX5_put 31 = .ok (.iload_n 2, 1) := by decide +kernel
theorem dX5_put_32 : decode cX5_put 32 = .ok (.iconst 0, 1) := by decide +kernel
theorem dX5_put_33 : decode cX5_put 33 = .ok (.aload_n 0, 1) := by decide +kernel
theorem dX5_put_34 : decode cX5_put 34 = .ok (.getfield 13, 3) := by decide +kernel
theorem dX5_put_37 : decode cX5_put 37 = .ok (.iload_n 1, 1) := by decide +kernel
theorem dX5_put_38 : decode cX5_put 38 = .ok (.iaload, 1) := by decide +kernel
theorem dX5_put_39 : decode cX5_put 39 = .ok (.iconst 1, 1) := by decide +kernel
theorem dX5_put_40 : decode cX5_put 40 = .ok (.isub, 1) := by decide +kernel
theorem dX5_put_41 : decode cX5_put 41 = .ok (.invokestatic 76, 3) := by decide +kernel
theorem dX5_put_44 : decode cX5_put 44 = .ok (.ifCond .ne 9, 3) := by decide +kernel
theorem dX5_put_47 : decode cX5_put 47 = .ok (.aload_n 0, 1) := by decide +kernel
theorem dX5_put_48 : decode cX5_put 48 = .ok (.iconst 3, 1) := by decide +kernel
theorem dX5_put_49 : decode cX5_put 49 = .ok (.invokevirtual 100, 3) := by decide +kernel
theorem dX5_put_52 : decode cX5_put 52 = .ok (.ireturn, 1) := by decide +kernel
theorem dX5_put_53 : decode cX5_put 53 = .ok (.aload_n 0, 1) := by decide +kernel
theorem dX5_put_54 : decode cX5_put 54 = .ok (.getfield 16, 3) := by decide +kernel
theorem dX5_put_57 : decode cX5_put 57 = .ok (.bipush 60, 2) := by decide +kernel
theorem dX5_put_59 : decode cX5_put 59 = .ok (.iload_n 1, 1) := by decide +kernel
theorem dX5_put_60 : decode cX5_put 60 = .ok (.imul, 1) := by decide +kernel
theorem dX5_put_61 : decode cX5_put 61 = .ok (.iload_n 2, 1) := by decide +kernel
theorem dX5_put_62 : decode cX5_put 62 = .ok (.iadd, 1) := by decide +kernel
theorem dX5_put_63 : decode cX5_put 63 = .ok (.aload_n 0, 1) := by decide +kernel
theorem dX5_put_64 : decode cX5_put 64 = .ok (.getfield 9, 3) := by decide +kernel
theorem dX5_put_67 : decode cX5_put 67 = .ok (.iload_n 1, 1) := by decide +kernel
theorem dX5_put_68 : decode cX5_put 68 = .ok (.iaload, 1) := by decide +kernel
theorem dX5_put_69 : decode cX5_put 69 = .ok (.ifCond .ne 8, 3) := by decide +kernel
theorem dX5_put_72 : decode cX5_put 72 = .ok (.iload_n 3, 1) := by decide +kernel
theorem dX5_put_73 : decode cX5_put 73 = .ok (.i2b, 1) := by decide +kernel
theorem dX5_put_74 : decode cX5_put 74 = .ok (.goto 19, 3) := by decide +kernel
theorem dX5_put_77 : decode cX5_put 77 = .ok (.aload_n 0, 1) := by decide +kernel
theorem dX5_put_78 : decode cX5_put 78 = .ok (.getfield 9, 3) := by decide +kernel
theorem dX5_put_81 : decode cX5_put 81 = .ok (.iload_n 1, 1) := by decide +kernel
theorem dX5_put_82 : decode cX5_put 82 = .ok (.iaload, 1) := by decide +kernel
theorem dX5_put_83 : decode cX5_put 83 = .ok (.iconst 1, 1) := by decide +kernel
theorem dX5_put_84 : decode cX5_put 84 = .ok (.if_icmp .ne 8, 3) := by decide +kernel
theorem dX5_put_87 : decode cX5_put 87 = .ok (.iload_n 3, 1) := by decide +kernel
theorem dX5_put_88 : decode cX5_put 88 = .ok (.i2s, 1) := by decide +kernel
theorem dX5_put_89 : decode cX5_put 89 = .ok (.goto 4, 3) := by decide +kernel
theorem dX5_put_92 : decode cX5_put 92 = .ok (.iload_n 3, 1) := by decide +kernel
theorem dX5_put_93 : decode cX5_put 93 = .ok (.iastore, 1) := by decide +kernel
theorem dX5_put_94 : decode cX5_put 94 = .ok (.iconst 1, 1) := by decide +kernel
theorem dX5_put_95 : decode cX5_put 95 = .ok (.ireturn, 1) := by decide +kernel
theorem dX5_cell_0 : decode cX5_cell 0 = .ok (.aload_n 0, 1) := by decide +kernel
theorem dX5_cell_1 : decode cX5_cell 1 = .ok (.iconst 0, 1) := by decide +kernel
theorem dX5_cell_2 : decode cX5_cell 2 = .ok (.putfield 70, 3) := by decide +kernel
theorem dX5_cell_5 : decode cX5_cell 5 = .ok (.iload_n 1, 1) := by decide +kernel
theorem dX5_cell_6 : decode cX5_cell 6 = .ok (.invokestatic 89, 3) := by decide +kernel
theorem dX5_cell_9 : decode cX5_cell 9 = .ok (.ifCond .eq 10, 3) := by decide +kernel
theorem dX5_cell_12 : decode cX5_cell 12 = .ok (.iload_n 3, 1) := by decide +kernel
theorem dX5_cell_13 : decode cX5_cell 13 = .ok (.invokestatic 93, 3) := by decide +kernel
theorem dX5_cell_16 : decode cX5_cell 16 = .ok (.ifCond .ne 7, 3) := by decide +kernel
theorem dX5_cell_19 : decode cX5_cell 19 = .ok (.ldc2_w 74, 3) := by decide +kernel
theorem dX5_cell_22 : decode cX5_cell 22 = .ok (.lreturn, 1) := by decide +kernel
theorem dX5_cell_23 : decode cX5_cell 23 = .ok (.aload_n 0, 1) := by decide +kernel
theorem dX5_cell_24 : decode cX5_cell 24 = .ok (.getfield 9, 3) := by decide +kernel
theorem dX5_cell_27 : decode cX5_cell 27 = .ok (.iload_n 1, 1) := by decide +kernel
theorem dX5_cell_28 : decode cX5_cell 28 = .ok (.iaload, 1) := by decide +kernel
theorem dX5_cell_29 : decode cX5_cell 29 = .ok (.bipush (-9), 2) := by decide +kernel
theorem dX5_cell_31 : decode cX5_cell 31 = .ok (.if_icmp .eq 19, 3) := by decide +kernel
theorem dX5_cell_34 : decode cX5_cell 34 = .ok (.aload_n 0, 1) := by decide +kernel
theorem dX5_cell_35 : decode cX5_cell 35 = .ok (.getfield 9, 3) := by decide +kernel
theorem dX5_cell_38 : decode cX5_cell 38 = .ok (.iload_n 1, 1) := by decide +kernel
theorem dX5_cell_39 : decode cX5_cell 39 = .ok (.iaload, 1) := by decide +kernel
theorem dX5_cell_40 : decode cX5_cell 40 = .ok (.iload_n 3, 1) := by decide +kernel
theorem dX5_cell_41 : decode cX5_cell 41 = .ok (.if_icmp .eq 9, 3) := by decide +kernel
theorem dX5_cell_44 : decode cX5_cell 44 = .ok (.aload_n 0, 1) := by decide +kernel
theorem dX5_cell_45 : decode cX5_cell 45 = .ok (.iconst 2, 1) := by decide +kernel
theorem dX5_cell_46 : decode cX5_cell 46 = .ok (.invokevirtual 218, 3) := by decide +kernel
theorem dX5_cell_49 : decode cX5_cell 49 = .ok (.lreturn, 1) := by decide +kernel
theorem dX5_cell_50 : decode cX5_cell 50 = .ok (.aload_n 0, 1) := by decide +kernel
theorem dX5_cell_51 : decode cX5_cell 51 = .ok (.getfield 9, 3) := by decide +kernel
theorem dX5_cell_54 : decode cX5_cell 54 = .ok (.iload_n 1, 1) := by decide +kernel
theorem dX5_cell_55 : decode cX5_cell 55 = .ok (.iaload, 1) := by decide +kernel
theorem dX5_cell_56 : decode cX5_cell 56 = .ok (.bipush (-9), 2) := by decide +kernel
theorem dX5_cell_58 : decode cX5_cell 58 = .ok (.if_icmp .ne 9, 3) := by decide +kernel
theorem dX5_cell_61 : decode cX5_cell 61 = .ok (.aload_n 0, 1) := by decide +kernel
theorem dX5_cell_62 : decode cX5_cell 62 = .ok (.iconst 1, 1) := by decide +kernel
theorem dX5_cell_63 : decode cX5_cell 63 = .ok (.invokevirtual 218, 3) := by decide +kernel
theorem dX5_cell_66 : decode cX5_cell 66 = .ok (.lreturn, 1) := by decide +kernel
theorem dX5_cell_67 : decode cX5_cell 67 = .ok (.iload_n 2, 1) := by decide +kernel
theorem dX5_cell_68 : decode cX5_cell 68 = .ok (.iconst 0, 1) := by decide +kernel
theorem dX5_cell_69 : decode cX5_cell 69 = .ok (.aload_n 0, 1) := by decide +kernel
theorem dX5_cell_70 : decode cX5_cell 70 = .ok (.getfield 13, 3) := by decide +kernel
theorem dX5_cell_73 : decode cX5_cell 73 = .ok (.iload_n 1, 1) := by decide +kernel
theorem dX5_cell_74 : decode cX5_cell 74 = .ok (.iaload, 1) := by decide +kernel
theorem dX5_cell_75 : decode cX5_cell 75 = .ok (.iconst 1, 1) := by decide +kernel
theorem dX5_cell_76 : decode cX5_cell 76 = .ok (.isub, 1) := by decide +kernel
theorem dX5_cell_77 : decode cX5_cell 77 = .ok (.invokestatic 76, 3) := by decide +kernel
theorem dX5_cell_80 : decode cX5_cell 80 = .ok (.ifCond .ne 9, 3) := by decide +kernel
theorem dX5_cell_83 : decode cX5_cell 83 = .ok (.aload_n 0, 1) := by decide +kernel
theorem dX5_cell_84 : decode cX5_cell 84 = .ok (.iconst 3, 1) := by decide +kernel
theorem dX5_cell_85 : decode cX5_cell 85 = .ok (.invokevirtual 218, 3) := by decide +kernel
theorem dX5_cell_88 : decode cX5_cell 88 = .ok (.lreturn, 1) := by decide +kernel
theorem dX5_cell_89 : decode cX5_cell 89 = .ok (.aload_n 0, 1) := by decide +kernel
theorem dX5_cell_90 : decode cX5_cell 90 = .ok (.getfield 16, 3) := by decide +kernel
theorem dX5_cell_93 : decode cX5_cell 93 = .ok (.bipush 60, 2) := by decide +kernel
theorem dX5_cell_95 : decode cX5_cell 95 = .ok (.iload_n 1, 1) := by decide +kernel
theorem dX5_cell_96 : decode cX5_cell 96 = .ok (.imul, 1) := by decide +kernel
theorem dX5_cell_97 : decode cX5_cell 97 = .ok (.iload_n 2, 1) := by decide +kernel
theorem dX5_cell_98 : decode cX5_cell 98 = .ok (.iadd, 1) := by decide +kernel
theorem dX5_cell_99 : decode cX5_cell 99 = .ok (.iaload, 1) := by decide +kernel
theorem dX5_cell_100 : decode cX5_cell 100 = .ok (.i2l, 1) := by decide +kernel
theorem dX5_cell_101 : decode cX5_cell 101 = .ok (.lreturn, 1) := by decide +kernel
theorem dX5_copy_0 : decode cX5_copy 0 = .ok (.aload_n 0, 1) := by decide +kernel
theorem dX5_copy_1 : decode cX5_copy 1 = .ok (.iconst 0, 1) := by decide +kernel
theorem dX5_copy_2 : decode cX5_copy 2 = .ok (.putfield 70, 3) := by decide +kernel
theorem dX5_copy_5 : decode cX5_copy 5 = .ok (.iload_n 1, 1) := by decide +kernel
theorem dX5_copy_6 : decode cX5_copy 6 = .ok (.invokestatic 89, 3) := by decide +kernel
theorem dX5_copy_9 : decode cX5_copy 9 = .ok (.ifCond .eq 10, 3) := by decide +kernel
theorem dX5_copy_12 : decode cX5_copy 12 = .ok (.iload_n 3, 1) := by decide +kernel
theorem dX5_copy_13 : decode cX5_copy 13 = .ok (.invokestatic 89, 3) := by decide +kernel
theorem dX5_copy_16 : decode cX5_copy 16 = .ok (.ifCond .ne 5, 3) := by decide +kernel
theorem dX5_copy_19 : decode cX5_copy 19 = .ok (.iconst (-1), 1) := by decide +kernel
theorem dX5_copy_20 : decode cX5_copy 20 = .ok (.ireturn, 1) := by decide +kernel
theorem dX5_copy_21 : decode cX5_copy 21 = .ok (.aload_n 0, 1) := by decide +kernel
theorem dX5_copy_22 : decode cX5_copy 22 = .ok (.getfield 9, 3) := by decide +kernel
theorem dX5_copy_25 : decode cX5_copy 25 = .ok (.iload_n 1, 1) := by decide +kernel
theorem dX5_copy_26 : decode cX5_copy 26 = .ok (.iaload, 1) := by decide +kernel
theorem dX5_copy_27 : decode cX5_copy 27 = .ok (.bipush (-9), 2) := by decide +kernel
theorem dX5_copy_29 : decode cX5_copy 29 = .ok (.if_icmp .eq 14, 3) := by decide +kernel
theorem dX5_copy_32 : decode cX5_copy 32 = .ok (.aload_n 0, 1) := by decide +kernel
theorem dX5_copy_33 : decode cX5_copy 33 = .ok (.getfield 9, 3) := by decide +kernel
theorem dX5_copy_36 : decode cX5_copy 36 = .ok (.iload_n 3, 1) := by decide +kernel
theorem dX5_copy_37 : decode cX5_copy 37 = .ok (.iaload, 1) := by decide +kernel
theorem dX5_copy_38 : decode cX5_copy 38 = .ok (.bipush (-9), 2) := by decide +kernel
theorem dX5_copy_40 : decode cX5_copy 40 = .ok (.if_icmp .ne 9, 3) := by decide +kernel
theorem dX5_copy_43 : decode cX5_copy 43 = .ok (.aload_n 0, 1) := by decide +kernel
theorem dX5_copy_44 : decode cX5_copy 44 = .ok (.iconst 1, 1) := by decide +kernel
theorem dX5_copy_45 : decode cX5_copy 45 = .ok (.invokevirtual 100, 3) := by decide +kernel
theorem dX5_copy_48 : decode cX5_copy 48 = .ok (.ireturn, 1) := by decide +kernel
theorem dX5_copy_49 : decode cX5_copy 49 = .ok (.aload_n 0, 1) := by decide +kernel
theorem dX5_copy_50 : decode cX5_copy 50 = .ok (.getfield 9, 3) := by decide +kernel
theorem dX5_copy_53 : decode cX5_copy 53 = .ok (.iload_n 1, 1) := by decide +kernel
theorem dX5_copy_54 : decode cX5_copy 54 = .ok (.iaload, 1) := by decide +kernel
theorem dX5_copy_55 : decode cX5_copy 55 = .ok (.aload_n 0, 1) := by decide +kernel
theorem dX5_copy_56 : decode cX5_copy 56 = .ok (.getfield 9, 3) := by decide +kernel
theorem dX5_copy_59 : decode cX5_copy 59 = .ok (.iload_n 3, 1) := by decide +kernel
theorem dX5_copy_60 : decode cX5_copy 60 = .ok (.iaload, 1) := by decide +kernel
theorem dX5_copy_61 : decode cX5_copy 61 = .ok (.if_icmp .eq 9, 3) := by decide +kernel
theorem dX5_copy_64 : decode cX5_copy 64 = .ok (.aload_n 0, 1) := by decide +kernel
theorem dX5_copy_65 : decode cX5_copy 65 = .ok (.iconst 2, 1) := by decide +kernel
theorem dX5_copy_66 : decode cX5_copy 66 = .ok (.invokevirtual 100, 3) := by decide +kernel
theorem dX5_copy_69 : decode cX5_copy 69 = .ok (.ireturn, 1) := by decide +kernel
theorem dX5_copy_70 : decode cX5_copy 70 = .ok (.iload_n 2, 1) := by decide +kernel
theorem dX5_copy_71 : decode cX5_copy 71 = .ok (.ifCond .lt 38, 3) := by decide +kernel
theorem dX5_copy_74 : decode cX5_copy 74 = .ok (.iload 4, 2) := by decide +kernel
theorem dX5_copy_76 : decode cX5_copy 76 = .ok (.ifCond .lt 33, 3) := by decide +kernel
theorem dX5_copy_79 : decode cX5_copy 79 = .ok (.iload 5, 2) := by decide +kernel
theorem dX5_copy_81 : decode cX5_copy 81 = .ok (.ifCond .lt 28, 3) := by decide +kernel
theorem dX5_copy_84 : decode cX5_copy 84 = .ok (.iload_n 2, 1) := by decide +kernel
theorem dX5_copy_85 : decode cX5_copy 85 = .ok (.aload_n 0, 1) := by decide +kernel
theorem dX5_copy_86 : decode cX5_copy 86 = .ok (.getfield 13, 3) := by decide +kernel
theorem dX5_copy_89 : decode cX5_copy 89 = .ok (.iload_n 1, 1) := by decide +kernel
theorem dX5_copy_90 : decode cX5_copy 90 = .ok (.iaload, 1) := by decide +kernel
theorem dX5_copy_91 : decode cX5_copy 91 = .ok (.if_icmp .gt 18, 3) := by decide +kernel
theorem dX5_copy_94 : decode cX5_copy 94 = .ok (.iload 4, 2) := by decide +kernel
theorem dX5_copy_96 : decode cX5_copy 96 = .ok (.aload_n 0, 1) := by decide +kernel
theorem dX5_copy_97 : decode cX5_copy 97 = .ok (.getfield 13, 3) := by decide +kernel
theorem dX5_copy_100 : decode cX5_copy 100 = .ok (.iload_n 3, 1) := by decide +kernel
theorem dX5_copy_101 : decode cX5_copy 101 = .ok (.iaload, 1) := by decide +kernel
theorem dX5_copy_102 : decode cX5_copy 102 = .ok (.if_icmp .gt 7, 3) := by decide +kernel
theorem dX5_copy_105 : decode cX5_copy 105 = .ok (.iconst 1, 1) := by decide +kernel
theorem dX5_copy_106 : decode cX5_copy 106 = .ok (.goto 4, 3) := by decide +kernel
theorem dX5_copy_109 : decode cX5_copy 109 = .ok (.iconst 0, 1) := by decide +kernel
theorem dX5_copy_110 : decode cX5_copy 110 = .ok (.istore 6, 2) := by decide +kernel
theorem dX5_copy_112 : decode cX5_copy 112 = .ok (.iload 6, 2) := by decide +kernel
theorem dX5_copy_114 : decode cX5_copy 114 = .ok (.ifCond .eq 30, 3) := by decide +kernel
theorem dX5_copy_117 : decode cX5_copy 117 = .ok (.iload 5, 2) := by decide +kernel
theorem dX5_copy_119 : decode cX5_copy 119 = .ok (.aload_n 0, 1) := by decide +kernel
theorem dX5_copy_120 : decode cX5_copy 120 = .ok (.getfield 13, 3) := by decide +kernel
theorem dX5_copy_123 : decode cX5_copy 123 = .ok (.iload_n 1, 1) := by decide +kernel
theorem dX5_copy_124 : decode cX5_copy 124 = .ok (.iaload, 1) := by decide +kernel
theorem dX5_copy_125 : decode cX5_copy 125 = .ok (.iload_n 2, 1) := by decide +kernel
theorem dX5_copy_126 : decode cX5_copy 126 = .ok (.isub, 1) := by decide +kernel
theorem dX5_copy_127 : decode cX5_copy 127 = .ok (.if_icmp .gt 17, 3) := by decide +kernel
theorem dX5_copy_130 : decode cX5_copy 130 = .ok (.iload 5, 2) := by decide +kernel
theorem dX5_copy_132 : decode cX5_copy 132 = .ok (.aload_n 0, 1) := by decide +kernel
theorem dX5_copy_133 : decode cX5_copy 133 = .ok (.getfield 13, 3) := by decide +kernel
theorem dX5_copy_136 : decode cX5_copy 136 = .ok (.iload_n 3, 1) := by decide +kernel
theorem dX5_copy_137 : decode cX5_copy 137 = .ok (.iaload, 1) := by decide +kernel
theorem dX5_copy_138 : decode cX5_copy 138 = .ok (.iload 4, 2) := by decide +kernel
theorem dX5_copy_140 : decode cX5_copy 140 = .ok (.isub, 1) := by decide +kernel
theorem dX5_copy_141 : decode cX5_copy 141 = .ok (.if_icmp .le 9, 3) := by decide +kernel
theorem dX5_copy_144 : decode cX5_copy 144 = .ok (.aload_n 0, 1) := by decide +kernel
theorem dX5_copy_145 : decode cX5_copy 145 = .ok (.iconst 3, 1) := by decide +kernel
theorem dX5_copy_146 : decode cX5_copy 146 = .ok (.invokevirtual 100, 3) := by decide +kernel
theorem dX5_copy_149 : decode cX5_copy 149 = .ok (.ireturn, 1) := by decide +kernel
theorem dX5_copy_150 : decode cX5_copy 150 = .ok (.iload_n 2, 1) := by decide +kernel
theorem dX5_copy_151 : decode cX5_copy 151 = .ok (.iload 4, 2) := by decide +kernel
theorem dX5_copy_153 : decode cX5_copy 153 = .ok (.if_icmp .ge 7, 3) := by decide +kernel
theorem dX5_copy_156 : decode cX5_copy 156 = .ok (.iconst 1, 1) := by decide +kernel
theorem dX5_copy_157 : decode cX5_copy 157 = .ok (.goto 4, 3) := by decide +kernel
theorem dX5_copy_160 : decode cX5_copy 160 = .ok (.iconst 0, 1) := by decide +kernel
theorem dX5_copy_161 : decode cX5_copy 161 = .ok (.istore 7, 2) := by decide +kernel
theorem dX5_copy_163 : decode cX5_copy 163 = .ok (.iconst 0, 1) := by decide +kernel
theorem dX5_copy_164 : decode cX5_copy 164 = .ok (.istore 8, 2) := by decide +kernel
theorem dX5_copy_166 : decode cX5_copy 166 = .ok (.iload 8, 2) := by decide +kernel
theorem dX5_copy_168 : decode cX5_copy 168 = .ok (.iload 5, 2) := by decide +kernel
theorem dX5_copy_170 : decode cX5_copy 170 = .ok (.if_icmp .ge 57, 3) := by decide +kernel
theorem dX5_copy_173 : decode cX5_copy 173 = .ok (.iload 7, 2) := by decide +kernel
theorem dX5_copy_175 : decode cX5_copy 175 = .ok (.ifCond .eq 13, 3) := by decide +kernel
theorem dX5_copy_178 : decode cX5_copy 178 = .ok (.iload 5, 2) := by decide +kernel
theorem dX5_copy_180 : decode cX5_copy 180 = .ok (.iconst 1, 1) := by decide +kernel
theorem dX5_copy_181 : decode cX5_copy 181 = .ok (.isub, 1) := by decide +kernel
theorem dX5_copy_182 : decode cX5_copy 182 = .ok (.iload 8, 2) := by decide +kernel
theorem dX5_copy_184 : decode cX5_copy 184 = .ok (.isub, 1) := by decide +kernel
theorem dX5_copy_185 : decode cX5_copy 185 = .ok (.goto 5, 3) := by decide +kernel
theorem dX5_copy_188 : decode cX5_copy 188 = .ok (.iload 8, 2) := by decide +kernel
theorem dX5_copy_190 : decode cX5_copy 190 = .ok (.istore 9, 2) := by decide +kernel
theorem dX5_copy_192 : decode cX5_copy 192 = .ok (.aload_n 0, 1) := by decide +kernel
theorem dX5_copy_193 : decode cX5_copy 193 = .ok (.getfield 16, 3) := by decide +kernel
theorem dX5_copy_196 : decode cX5_copy 196 = .ok (.bipush 60, 2) := by decide +kernel
theorem dX5_copy_198 : decode cX5_copy 198 = .ok (.iload_n 3, 1) := by decide +kernel
theorem dX5_copy_199 : decode cX5_copy 199 = .ok (.imul, 1) := by decide +kernel
theorem dX5_copy_200 : decode cX5_copy 200 = .ok (.iload 4, 2) := by decide +kernel
theorem dX5_copy_202 : decode cX5_copy 202 = .ok (.iadd, 1) := by decide +kernel
theorem dX5_copy_203 : decode cX5_copy 203 = .ok (.iload 9, 2) := by decide +kernel
theorem dX5_copy_205 : decode cX5_copy 205 = .ok (.iadd, 1) := by decide +kernel
theorem dX5_copy_206 : decode cX5_copy 206 = .ok (.aload_n 0, 1) := by decide +kernel
theorem dX5_copy_207 : decode cX5_copy 207 = .ok (.getfield 16, 3) := by decide +kernel
theorem dX5_copy_210 : decode cX5_copy 210 = .ok (.bipush 60, 2) := by decide +kernel
theorem dX5_copy_212 : decode cX5_copy 212 = .ok (.iload_n 1, 1) := by decide +kernel
theorem dX5_copy_213 : decode cX5_copy 213 = .ok (.imul, 1) := by decide +kernel
theorem dX5_copy_214 : decode cX5_copy 214 = .ok (.iload_n 2, 1) := by decide +kernel
theorem dX5_copy_215 : decode cX5_copy 215 = .ok (.iadd, 1) := by decide +kernel
theorem dX5_copy_216 : decode cX5_copy 216 = .ok (.iload 9, 2) := by decide +kernel
theorem dX5_copy_218 : decode cX5_copy 218 = .ok (.iadd, 1) := by decide +kernel
theorem dX5_copy_219 : decode cX5_copy 219 = .ok (.iaload, 1) := by decide +kernel
theorem dX5_copy_220 : decode cX5_copy 220 = .ok (.iastore, 1) := by decide +kernel
theorem dX5_copy_221 : decode cX5_copy 221 = .ok (.iinc 8 1, 3) := by decide +kernel
theorem dX5_copy_224 : decode cX5_copy 224 = .ok (.goto (-58), 3) := by decide +kernel
theorem dX5_copy_227 : decode cX5_copy 227 = .ok (.iload 5, 2) := by decide +kernel
theorem dX5_copy_229 : decode cX5_copy 229 = .ok (.ireturn, 1) := by decide +kernel
theorem dX5_begins_0 : decode cX5_begins 0 = .ok (.aload_n 0, 1) := by decide +kernel
theorem dX5_begins_1 : decode cX5_begins 1 = .ok (.bipush 31, 2) := by decide +kernel
theorem dX5_begins_3 : decode cX5_begins 3 = .ok (.aload_n 0, 1) := by decide +kernel
theorem dX5_begins_4 : decode cX5_begins 4 = .ok (.getfield 222, 3) := by decide +kernel
theorem dX5_begins_7 : decode cX5_begins 7 = .ok (.imul, 1) := by decide +kernel
theorem dX5_begins_8 : decode cX5_begins 8 = .ok (.iload_n 1, 1) := by decide +kernel
theorem dX5_begins_9 : decode cX5_begins 9 = .ok (.iadd, 1) := by decide +kernel
theorem dX5_begins_10 : decode cX5_begins 10 = .ok (.putfield 222, 3) := by decide +kernel
theorem dX5_begins_13 : decode cX5_begins 13 = .ok (.return_, 1) := by decide +kernel
theorem dX5_tell_0 : decode cX5_tell 0 = .ok (.aload_n 0, 1) := by decide +kernel
theorem dX5_tell_1 : decode cX5_tell 1 = .ok (.iload_n 1, 1) := by decide +kernel
theorem dX5_tell_2 : decode cX5_tell 2 = .ok (.invokevirtual 171, 3) := by decide +kernel
theorem dX5_tell_5 : decode cX5_tell 5 = .ok (.ifCond .ne 5, 3) := by decide +kernel
theorem dX5_tell_8 : decode cX5_tell 8 = .ok (.iconst (-1), 1) := by decide +kernel
theorem dX5_tell_9 : decode cX5_tell 9 = .ok (.ireturn, 1) := by decide +kernel
theorem dX5_tell_10 : decode cX5_tell 10 = .ok (.aload_n 0, 1) := by decide +kernel
theorem dX5_tell_11 : decode cX5_tell 11 = .ok (.getfield 22, 3) := by decide +kernel
theorem dX5_tell_14 : decode cX5_tell 14 = .ok (.iload_n 1, 1) := by decide +kernel
theorem dX5_tell_15 : decode cX5_tell 15 = .ok (.iaload, 1) := by decide +kernel
theorem dX5_tell_16 : decode cX5_tell 16 = .ok (.istore_n 2, 1) := by decide +kernel
theorem dX5_tell_17 : decode cX5_tell 17 = .ok (.aload_n 0, 1) := by decide +kernel
theorem dX5_tell_18 : decode cX5_tell 18 = .ok (.getfield 19, 3) := by decide +kernel
theorem dX5_tell_21 : decode cX5_tell 21 = .ok (.iload_n 1, 1) := by decide +kernel
theorem dX5_tell_22 : decode cX5_tell 22 = .ok (.iaload, 1) := by decide +kernel
theorem dX5_tell_23 : decode cX5_tell 23 = .ok (.lookupswitch 67 #[(1, 25), (2, 40)], 25) := by decide +kernel
theorem dX5_tell_48 : decode cX5_tell 48 = .ok (.aload_n 0, 1) := by decide +kernel
theorem dX5_tell_49 : decode cX5_tell 49 = .ok (.iconst 2, 1) := by decide +kernel
theorem dX5_tell_50 : decode cX5_tell 50 = .ok (.invokevirtual 225, 3) := by decide +kernel
theorem dX5_tell_53 : decode cX5_tell 53 = .ok (.aload_n 0, 1) := by decide +kernel
theorem dX5_tell_54 : decode cX5_tell 54 = .ok (.iconst 1, 1) := by decide +kernel
theorem dX5_tell_55 : decode cX5_tell 55 = .ok (.invokevirtual 225, 3) := by decide +kernel
theorem dX5_tell_58 : decode cX5_tell 58 = .ok (.iload_n 2, 1) := by decide +kernel
theorem dX5_tell_59 : decode cX5_tell 59 = .ok (.bipush 100, 2) := by decide +kernel
theorem dX5_tell_61 : decode cX5_tell 61 = .ok (.iadd, 1) := by decide +kernel
theorem dX5_tell_62 : decode cX5_tell 62 = .ok (.ireturn, 1) := by decide +kernel
theorem dX5_tell_63 : decode cX5_tell 63 = .ok (.aload_n 0, 1) := by decide +kernel
theorem dX5_tell_64 : decode cX5_tell 64 = .ok (.iconst 3, 1) := by decide +kernel
theorem dX5_tell_65 : decode cX5_tell 65 = .ok (.invokevirtual 225, 3) := by decide +kernel
theorem dX5_tell_68 : decode cX5_tell 68 = .ok (.aload_n 0, 1) := by decide +kernel
theorem dX5_tell_69 : decode cX5_tell 69 = .ok (.iconst 2, 1) := by decide +kernel
theorem dX5_tell_70 : decode cX5_tell 70 = .ok (.invokevirtual 225, 3) := by decide +kernel
theorem dX5_tell_73 : decode cX5_tell 73 = .ok (.aload_n 0, 1) := by decide +kernel
theorem dX5_tell_74 : decode cX5_tell 74 = .ok (.iconst 1, 1) := by decide +kernel
theorem dX5_tell_75 : decode cX5_tell 75 = .ok (.invokevirtual 225, 3) := by decide +kernel
theorem dX5_tell_78 : decode cX5_tell 78 = .ok (.aload_n 0, 1) := by decide +kernel
theorem dX5_tell_79 : decode cX5_tell 79 = .ok (.iconst 1, 1) := by decide +kernel
theorem dX5_tell_80 : decode cX5_tell 80 = .ok (.invokevirtual 225, 3) := by decide +kernel
theorem dX5_tell_83 : decode cX5_tell 83 = .ok (.iconst 2, 1) := by decide +kernel
theorem dX5_tell_84 : decode cX5_tell 84 = .ok (.iload_n 2, 1) := by decide +kernel
theorem dX5_tell_85 : decode cX5_tell 85 = .ok (.imul, 1) := by decide +kernel
theorem dX5_tell_86 : decode cX5_tell 86 = .ok (.bipush 100, 2) := by decide +kernel
theorem dX5_tell_88 : decode cX5_tell 88 = .ok (.iadd, 1) := by decide +kernel
theorem dX5_tell_89 : decode cX5_tell 89 = .ok (.ireturn, 1) := by decide +kernel
theorem dX5_tell_90 : decode cX5_tell 90 = .ok (.aload_n 0, 1) := by decide +kernel
theorem dX5_tell_91 : decode cX5_tell 91 = .ok (.iconst 1, 1) := by decide +kernel
theorem dX5_tell_92 : decode cX5_tell 92 = .ok (.invokevirtual 225, 3) := by decide +kernel
theorem dX5_tell_95 : decode cX5_tell 95 = .ok (.iload_n 2, 1) := by decide +kernel
theorem dX5_tell_96 : decode cX5_tell 96 = .ok (.ireturn, 1) := by decide +kernel
theorem dX5_read_0 : decode cX5_read 0 = .ok (.aload_n 0, 1) := by decide +kernel
theorem dX5_read_1 : decode cX5_read 1 = .ok (.iload_n 1, 1) := by decide +kernel
theorem dX5_read_2 : decode cX5_read 2 = .ok (.invokevirtual 171, 3) := by decide +kernel
theorem dX5_read_5 : decode cX5_read 5 = .ok (.ifCond .ne 5, 3) := by decide +kernel
theorem dX5_read_8 : decode cX5_read 8 = .ok (.iconst (-1), 1) := by decide +kernel
theorem dX5_read_9 : decode cX5_read 9 = .ok (.ireturn, 1) := by decide +kernel
theorem dX5_read_10 : decode cX5_read 10 = .ok (.aload_n 0, 1) := by decide +kernel
theorem dX5_read_11 : decode cX5_read 11 = .ok (.getfield 19, 3) := by decide +kernel
theorem dX5_read_14 : decode cX5_read 14 = .ok (.iload_n 1, 1) := by decide +kernel
theorem dX5_read_15 : decode cX5_read 15 = .ok (.iaload, 1) := by decide +kernel
theorem dX5_read_16 : decode cX5_read 16 = .ok (.iconst 2, 1) := by decide +kernel
theorem dX5_read_17 : decode cX5_read 17 = .ok (.if_icmp .ne 8, 3) := by decide +kernel
theorem dX5_read_20 : decode cX5_read 20 = .ok (.aload_n 0, 1) := by decide +kernel
theorem dX5_read_21 : decode cX5_read 21 = .ok (.iconst 5, 1) := by decide +kernel
theorem dX5_read_22 : decode cX5_read 22 = .ok (.invokevirtual 225, 3) := by decide +kernel
theorem dX5_read_25 : decode cX5_read 25 = .ok (.aload_n 0, 1) := by decide +kernel
theorem dX5_read_26 : decode cX5_read 26 = .ok (.iconst 4, 1) := by decide +kernel
theorem dX5_read_27 : decode cX5_read 27 = .ok (.invokevirtual 225, 3) := by decide +kernel
theorem dX5_read_30 : decode cX5_read 30 = .ok (.aload_n 0, 1) := by decide +kernel
theorem dX5_read_31 : decode cX5_read 31 = .ok (.getfield 19, 3) := by decide +kernel
theorem dX5_read_34 : decode cX5_read 34 = .ok (.iload_n 1, 1) := by decide +kernel
theorem dX5_read_35 : decode cX5_read 35 = .ok (.iaload, 1) := by decide +kernel
theorem dX5_read_36 : decode cX5_read 36 = .ok (.iconst 2, 1) := by decide +kernel
theorem dX5_read_37 : decode cX5_read 37 = .ok (.if_icmp .ne 15, 3) := by decide +kernel
theorem dX5_read_40 : decode cX5_read 40 = .ok (.aload_n 0, 1) := by decide +kernel
theorem dX5_read_41 : decode cX5_read 41 = .ok (.getfield 25, 3) := by decide +kernel
theorem dX5_read_44 : decode cX5_read 44 = .ok (.iload_n 1, 1) := by decide +kernel
theorem dX5_read_45 : decode cX5_read 45 = .ok (.iaload, 1) := by decide +kernel
theorem dX5_read_46 : decode cX5_read 46 = .ok (.bipush 80, 2) := by decide +kernel
theorem dX5_read_48 : decode cX5_read 48 = .ok (.iadd, 1) := by decide +kernel
theorem dX5_read_49 : decode cX5_read 49 = .ok (.goto 9, 3) := by decide +kernel
theorem dX5_read_52 : decode cX5_read 52 = .ok (.aload_n 0, 1) := by decide +kernel
theorem dX5_read_53 : decode cX5_read 53 = .ok (.getfield 25, 3) := by decide +kernel
theorem dX5_read_56 : decode cX5_read 56 = .ok (.iload_n 1, 1) := by decide +kernel
theorem dX5_read_57 : decode cX5_read 57 = .ok (.iaload, 1) := by decide +kernel
theorem dX5_read_58 : decode cX5_read 58 = .ok (.ireturn, 1) := by decide +kernel
theorem dX5_as_0 : decode cX5_as 0 = .ok (.aload_n 0, 1) := by decide +kernel
theorem dX5_as_1 : decode cX5_as 1 = .ok (.iconst 0, 1) := by decide +kernel
theorem dX5_as_2 : decode cX5_as 2 = .ok (.putfield 70, 3) := by decide +kernel
theorem dX5_as_5 : decode cX5_as 5 = .ok (.aload_n 0, 1) := by decide +kernel
theorem dX5_as_6 : decode cX5_as 6 = .ok (.iload_n 1, 1) := by decide +kernel
theorem dX5_as_7 : decode cX5_as 7 = .ok (.invokevirtual 171, 3) := by decide +kernel
theorem dX5_as_10 : decode cX5_as 10 = .ok (.ifCond .ne 5, 3) := by decide +kernel
theorem dX5_as_13 : decode cX5_as 13 = .ok (.iconst (-1), 1) := by decide +kernel
theorem dX5_as_14 : decode cX5_as 14 = .ok (.ireturn, 1) := by decide +kernel
theorem dX5_as_15 : decode cX5_as 15 = .ok (.iload_n 2, 1) := by decide +kernel
theorem dX5_as_16 : decode cX5_as 16 = .ok (.iconst 0, 1) := by decide +kernel
theorem dX5_as_17 : decode cX5_as 17 = .ok (.iconst 2, 1) := by decide +kernel
theorem dX5_as_18 : decode cX5_as 18 = .ok (.invokestatic 76, 3) := by decide +kernel
theorem dX5_as_21 : decode cX5_as 21 = .ok (.ifCond .ne 6, 3) := by decide +kernel
theorem dX5_as_24 : decode cX5_as 24 = .ok (.bipush (-2), 2) := by decide +kernel
theorem dX5_as_26 : decode cX5_as 26 = .ok (.ireturn, 1) := by decide +kernel
theorem dX5_as_27 : decode cX5_as 27 = .ok (.aload_n 0, 1) := by decide +kernel
theorem dX5_as_28 : decode cX5_as 28 = .ok (.getfield 19, 3) := by decide +kernel
theorem dX5_as_31 : decode cX5_as 31 = .ok (.iload_n 1, 1) := by decide +kernel
theorem dX5_as_32 : decode cX5_as 32 = .ok (.iaload, 1) := by decide +kernel
theorem dX5_as_33 : decode cX5_as 33 = .ok (.iload_n 2, 1) := by decide +kernel
theorem dX5_as_34 : decode cX5_as 34 = .ok (.if_icmp .lt 7, 3) := by decide +kernel
theorem dX5_as_37 : decode cX5_as 37 = .ok (.iconst 1, 1) := by decide +kernel
theorem dX5_as_38 : decode cX5_as 38 = .ok (.goto 8, 3) := by decide +kernel
theorem dX5_as_41 : decode cX5_as 41 = .ok (.aload_n 0, 1) := by decide +kernel
theorem dX5_as_42 : decode cX5_as 42 = .ok (.iconst 2, 1) := by decide +kernel
theorem dX5_as_43 : decode cX5_as 43 = .ok (.invokevirtual 100, 3) := by decide +kernel
theorem dX5_as_46 : decode cX5_as 46 = .ok (.ireturn, 1) := by decide +kernel
theorem dX5_trace_0 : decode cX5_trace 0 = .ok (.aload_n 0, 1) := by decide +kernel
theorem dX5_trace_1 : decode cX5_trace 1 = .ok (.getfield 222, 3) := by decide +kernel
theorem dX5_trace_4 : decode cX5_trace 4 = .ok (.ireturn, 1) := by decide +kernel
theorem dX5_fault_0 : decode cX5_fault 0 = .ok (.aload_n 0, 1) := by decide +kernel
theorem dX5_fault_1 : decode cX5_fault 1 = .ok (.getfield 70, 3) := by decide +kernel
theorem dX5_fault_4 : decode cX5_fault 4 = .ok (.ireturn, 1) := by decide +kernel
theorem dX5_many_0 : decode cX5_many 0 = .ok (.iload_n 1, 1) := by decide +kernel
theorem dX5_many_1 : decode cX5_many 1 = .ok (.tableswitch 69 0 5 #[39, 44, 49, 54, 59, 64], 39) := by decide +kernel
theorem dX5_many_40 : decode cX5_many 40 = .ok (.aload_n 0, 1) := by decide +kernel
theorem dX5_many_41 : decode cX5_many 41 = .ok (.getfield 80, 3) := by decide +kernel
theorem dX5_many_44 : decode cX5_many 44 = .ok (.ireturn, 1) := by decide +kernel
theorem dX5_many_45 : decode cX5_many 45 = .ok (.aload_n 0, 1) := by decide +kernel
theorem dX5_many_46 : decode cX5_many 46 = .ok (.getfield 83, 3) := by decide +kernel
theorem dX5_many_49 : decode cX5_many 49 = .ok (.ireturn, 1) := by decide +kernel
theorem dX5_many_50 : decode cX5_many 50 = .ok (.aload_n 0, 1) := by decide +kernel
theorem dX5_many_51 : decode cX5_many 51 = .ok (.getfield 113, 3) := by decide +kernel
theorem dX5_many_54 : decode cX5_many 54 = .ok (.ireturn, 1) := by decide +kernel
theorem dX5_many_55 : decode cX5_many 55 = .ok (.aload_n 0, 1) := by decide +kernel
theorem dX5_many_56 : decode cX5_many 56 = .ok (.getfield 116, 3) := by decide +kernel
theorem dX5_many_59 : decode cX5_many 59 = .ok (.ireturn, 1) := by decide +kernel
theorem dX5_many_60 : decode cX5_many 60 = .ok (.aload_n 0, 1) := by decide +kernel
theorem dX5_many_61 : decode cX5_many 61 = .ok (.getfield 119, 3) := by decide +kernel
theorem dX5_many_64 : decode cX5_many 64 = .ok (.ireturn, 1) := by decide +kernel
theorem dX5_many_65 : decode cX5_many 65 = .ok (.aload_n 0, 1) := by decide +kernel
theorem dX5_many_66 : decode cX5_many 66 = .ok (.getfield 122, 3) := by decide +kernel
theorem dX5_many_69 : decode cX5_many 69 = .ok (.ireturn, 1) := by decide +kernel
theorem dX5_many_70 : decode cX5_many 70 = .ok (.bipush (-2), 2) := by decide +kernel
theorem dX5_many_72 : decode cX5_many 72 = .ok (.ireturn, 1) := by decide +kernel
theorem dJ9_abs_0f7a4_0 : decode cJ9_abs_0f7a4 0 = .ok (.iload_n 0, 1) := by decide +kernel
theorem dJ9_abs_0f7a4_1 : decode cJ9_abs_0f7a4 1 = .ok (.ifCond .ge 8, 3) := by decide +kernel
theorem dJ9_abs_0f7a4_4 : decode cJ9_abs_0f7a4 4 = .ok (.iload_n 0, 1) := by decide +kernel
theorem dJ9_abs_0f7a4_5 : decode cJ9_abs_0f7a4 5 = .ok (.ineg, 1) := by decide +kernel
theorem dJ9_abs_0f7a4_6 : decode cJ9_abs_0f7a4 6 = .ok (.goto 4, 3) := by decide +kernel
theorem dJ9_abs_0f7a4_9 : decode cJ9_abs_0f7a4 9 = .ok (.iload_n 0, 1) := by decide +kernel
theorem dJ9_abs_0f7a4_10 : decode cJ9_abs_0f7a4 10 = .ok (.ireturn, 1) := by decide +kernel
theorem dJ9_min_7cf53_0 : decode cJ9_min_7cf53 0 = .ok (.iload_n 0, 1) := by decide +kernel
theorem dJ9_min_7cf53_1 : decode cJ9_min_7cf53 1 = .ok (.iload_n 1, 1) := by decide +kernel
theorem dJ9_min_7cf53_2 : decode cJ9_min_7cf53 2 = .ok (.if_icmp .gt 7, 3) := by decide +kernel
theorem dJ9_min_7cf53_5 : decode cJ9_min_7cf53 5 = .ok (.iload_n 0, 1) := by decide +kernel
theorem dJ9_min_7cf53_6 : decode cJ9_min_7cf53 6 = .ok (.goto 4, 3) := by decide +kernel
theorem dJ9_min_7cf53_9 : decode cJ9_min_7cf53 9 = .ok (.iload_n 1, 1) := by decide +kernel
theorem dJ9_min_7cf53_10 : decode cJ9_min_7cf53 10 = .ok (.ireturn, 1) := by decide +kernel
theorem dJ7_fill_53178_0 : decode cJ7_fill_53178 0 = .ok (.iconst 0, 1) := by decide +kernel
theorem dJ7_fill_53178_1 : decode cJ7_fill_53178 1 = .ok (.istore_n 2, 1) := by decide +kernel
theorem dJ7_fill_53178_2 : decode cJ7_fill_53178 2 = .ok (.aload_n 0, 1) := by decide +kernel
theorem dJ7_fill_53178_3 : decode cJ7_fill_53178 3 = .ok (.arraylength, 1) := by decide +kernel
theorem dJ7_fill_53178_4 : decode cJ7_fill_53178 4 = .ok (.istore_n 3, 1) := by decide +kernel
theorem dJ7_fill_53178_5 : decode cJ7_fill_53178 5 = .ok (.iload_n 2, 1) := by decide +kernel
theorem dJ7_fill_53178_6 : decode cJ7_fill_53178 6 = .ok (.iload_n 3, 1) := by decide +kernel
theorem dJ7_fill_53178_7 : decode cJ7_fill_53178 7 = .ok (.if_icmp .ge 13, 3) := by decide +kernel
theorem dJ7_fill_53178_10 : decode cJ7_fill_53178 10 = .ok (.aload_n 0, 1) := by decide +kernel
theorem dJ7_fill_53178_11 : decode cJ7_fill_53178 11 = .ok (.iload_n 2, 1) := by decide +kernel
theorem dJ7_fill_53178_12 : decode cJ7_fill_53178 12 = .ok (.iload_n 1, 1) := by decide +kernel
theorem dJ7_fill_53178_13 : decode cJ7_fill_53178 13 = .ok (.iastore, 1) := by decide +kernel
theorem dJ7_fill_53178_14 : decode cJ7_fill_53178 14 = .ok (.iinc 2 1, 3) := by decide +kernel
theorem dJ7_fill_53178_17 : decode cJ7_fill_53178 17 = .ok (.goto (-12), 3) := by decide +kernel
theorem dJ7_fill_53178_20 : decode cJ7_fill_53178 20 = .ok (.return_, 1) := by decide +kernel
theorem dL_law_0 : decode cL_law 0 = .ok (.new 7, 3) := by decide +kernel
theorem dL_law_3 : decode cL_law 3 = .ok (.dup, 1) := by decide +kernel
theorem dL_law_4 : decode cL_law 4 = .ok (.invokespecial 9, 3) := by decide +kernel
theorem dL_law_7 : decode cL_law 7 = .ok (.astore_n 1, 1) := by decide +kernel
theorem dL_law_8 : decode cL_law 8 = .ok (.new 10, 3) := by decide +kernel
theorem dL_law_11 : decode cL_law 11 = .ok (.dup, 1) := by decide +kernel
theorem dL_law_12 : decode cL_law 12 = .ok (.invokespecial 12, 3) := by decide +kernel
theorem dL_law_15 : decode cL_law 15 = .ok (.astore_n 2, 1) := by decide +kernel
theorem dL_law_16 : decode cL_law 16 = .ok (.iconst 0, 1) := by decide +kernel
theorem dL_law_17 : decode cL_law 17 = .ok (.istore_n 3, 1) := by decide +kernel
theorem dL_law_18 : decode cL_law 18 = .ok (.iload_n 3, 1) := by decide +kernel
theorem dL_law_19 : decode cL_law 19 = .ok (.aload_n 0, 1) := by decide +kernel
theorem dL_law_20 : decode cL_law 20 = .ok (.arraylength, 1) := by decide +kernel
theorem dL_law_21 : decode cL_law 21 = .ok (.bipush 6, 2) := by decide +kernel
theorem dL_law_23 : decode cL_law 23 = .ok (.isub, 1) := by decide +kernel
theorem dL_law_24 : decode cL_law 24 = .ok (.if_icmp .gt 1058, 3) := by decide +kernel
theorem dL_law_27 : decode cL_law 27 = .ok (.aload_n 0, 1) := by decide +kernel
theorem dL_law_28 : decode cL_law 28 = .ok (.iload_n 3, 1) := by decide +kernel
theorem dL_law_29 : decode cL_law 29 = .ok (.iaload, 1) := by decide +kernel
theorem dL_law_30 : decode cL_law 30 = .ok (.bipush 31, 2) := by decide +kernel
theorem dL_law_32 : decode cL_law 32 = .ok (.iand, 1) := by decide +kernel
theorem dL_law_33 : decode cL_law 33 = .ok (.tableswitch 1043 0 27 #[127, 180, 213, 246, 289, 322, 365, 388, 421, 464, 527, 550, 563, 596, 619, 642, 665, 699, 742, 765, 808, 852, 915, 938, 961, 994, 1007, 1020], 127) := by decide +kernel
theorem dL_law_160 : decode cL_law 160 = .ok (.aload_n 1, 1) := by decide +kernel
theorem dL_law_161 : decode cL_law 161 = .ok (.aload_n 0, 1) := by decide +kernel
theorem dL_law_162 : decode cL_law 162 = .ok (.iload_n 3, 1) := by decide +kernel
theorem dL_law_163 : decode cL_law 163 = .ok (.iconst 1, 1) := by decide +kernel
theorem dL_law_164 : decode cL_law 164 = .ok (.iadd, 1) := by decide +kernel
theorem dL_law_165 : decode cL_law 165 = .ok (.iaload, 1) := by decide +kernel
theorem dL_law_166 : decode cL_law 166 = .ok (.aload_n 0, 1) := by decide +kernel
theorem dL_law_167 : decode cL_law 167 = .ok (.iload_n 3, 1) := by decide +kernel
theorem dL_law_168 : decode cL_law 168 = .ok (.iconst 2, 1) := by decide +kernel
theorem dL_law_169 : decode cL_law 169 = .ok (.iadd, 1) := by decide +kernel
theorem dL_law_170 : decode cL_law 170 = .ok (.iaload, 1) := by decide +kernel
theorem dL_law_171 : decode cL_law 171 = .ok (.aload_n 0, 1) := by decide +kernel
theorem dL_law_172 : decode cL_law 172 = .ok (.iload_n 3, 1) := by decide +kernel
theorem dL_law_173 : decode cL_law 173 = .ok (.iconst 3, 1) := by decide +kernel
theorem dL_law_174 : decode cL_law 174 = .ok (.iadd, 1) := by decide +kernel
theorem dL_law_175 : decode cL_law 175 = .ok (.iaload, 1) := by decide +kernel
theorem dL_law_176 : decode cL_law 176 = .ok (.aload_n 0, 1) := by decide +kernel
theorem dL_law_177 : decode cL_law 177 = .ok (.iload_n 3, 1) := by decide +kernel
theorem dL_law_178 : decode cL_law 178 = .ok (.iconst 4, 1) := by decide +kernel
theorem dL_law_179 : decode cL_law 179 = .ok (.iadd, 1) := by decide +kernel
theorem dL_law_180 : decode cL_law 180 = .ok (.iaload, 1) := by decide +kernel
theorem dL_law_181 : decode cL_law 181 = .ok (.invokevirtual 13, 3) := by decide +kernel
theorem dL_law_184 : decode cL_law 184 = .ok (.aload_n 2, 1) := by decide +kernel
theorem dL_law_185 : decode cL_law 185 = .ok (.aload_n 0, 1) := by decide +kernel
theorem dL_law_186 : decode cL_law 186 = .ok (.iload_n 3, 1) := by decide +kernel
theorem dL_law_187 : decode cL_law 187 = .ok (.iconst 1, 1) := by decide +kernel
theorem dL_law_188 : decode cL_law 188 = .ok (.iadd, 1) := by decide +kernel
theorem dL_law_189 : decode cL_law 189 = .ok (.iaload, 1) := by decide +kernel
theorem dL_law_190 : decode cL_law 190 = .ok (.aload_n 0, 1) := by decide +kernel
theorem dL_law_191 : decode cL_law 191 = .ok (.iload_n 3, 1) := by decide +kernel
theorem dL_law_192 : decode cL_law 192 = .ok (.iconst 2, 1) := by decide +kernel
theorem dL_law_193 : decode cL_law 193 = .ok (.iadd, 1) := by decide +kernel
theorem dL_law_194 : decode cL_law 194 = .ok (.iaload, 1) := by decide +kernel
theorem dL_law_195 : decode cL_law 195 = .ok (.aload_n 0, 1) := by decide +kernel
theorem dL_law_196 : decode cL_law 196 = .ok (.iload_n 3, 1) := by decide +kernel
theorem dL_law_197 : decode cL_law 197 = .ok (.iconst 3, 1) := by decide +kernel
theorem dL_law_198 : decode cL_law 198 = .ok (.iadd, 1) := by decide +kernel
theorem dL_law_199 : decode cL_law 199 = .ok (.iaload, 1) := by decide +kernel
theorem dL_law_200 : decode cL_law 200 = .ok (.aload_n 0, 1) := by decide +kernel
theorem dL_law_201 : decode cL_law 201 = .ok (.iload_n 3, 1) := by decide +kernel
theorem dL_law_202 : decode cL_law 202 = .ok (.iconst 4, 1) := by decide +kernel
theorem dL_law_203 : decode cL_law 203 = .ok (.iadd, 1) := by decide +kernel
theorem dL_law_204 : decode cL_law 204 = .ok (.iaload, 1) := by decide +kernel
theorem dL_law_205 : decode cL_law 205 = .ok (.invokevirtual 17, 3) := by decide +kernel
theorem dL_law_208 : decode cL_law 208 = .ok (.if_icmp .eq 868, 3) := by decide +kernel
theorem dL_law_211 : decode cL_law 211 = .ok (.iconst 0, 1) := by decide +kernel
theorem dL_law_212 : decode cL_law 212 = .ok (.ireturn, 1) := by decide +kernel
theorem dL_law_213 : decode cL_law 213 = .ok (.aload_n 1, 1) := by decide +kernel
theorem dL_law_214 : decode cL_law 214 = .ok (.aload_n 0, 1) := by decide +kernel
theorem dL_law_215 : decode cL_law 215 = .ok (.iload_n 3, 1) := by decide +kernel
theorem dL_law_216 : decode cL_law 216 = .ok (.iconst 1, 1) := by decide +kernel
theorem dL_law_217 : decode cL_law 217 = .ok (.iadd, 1) := by decide +kernel
theorem dL_law_218 : decode cL_law 218 = .ok (.iaload, 1) := by decide +kernel
theorem dL_law_219 : decode cL_law 219 = .ok (.aload_n 0, 1) := by decide +kernel
theorem dL_law_220 : decode cL_law 220 = .ok (.iload_n 3, 1) := by decide +kernel
theorem dL_law_221 : decode cL_law 221 = .ok (.iconst 2, 1) := by decide +kernel
theorem dL_law_222 : decode cL_law 222 = .ok (.iadd, 1) := by decide +kernel
theorem dL_law_223 : decode cL_law 223 = .ok (.iaload, 1) := by decide +kernel
theorem dL_law_224 : decode cL_law 224 = .ok (.invokevirtual 18, 3) := by decide +kernel
theorem dL_law_227 : decode cL_law 227 = .ok (.aload_n 2, 1) := by decide +kernel
theorem dL_law_228 : decode cL_law 228 = .ok (.aload_n 0, 1) := by decide +kernel
theorem dL_law_229 : decode cL_law 229 = .ok (.iload_n 3, 1) := by decide +kernel
theorem dL_law_230 : decode cL_law 230 = .ok (.iconst 1, 1) := by decide +kernel
theorem dL_law_231 : decode cL_law 231 = .ok (.iadd, 1) := by decide +kernel
theorem dL_law_232 : decode cL_law 232 = .ok (.iaload, 1) := by decide +kernel
theorem dL_law_233 : decode cL_law 233 = .ok (.aload_n 0, 1) := by decide +kernel
theorem dL_law_234 : decode cL_law 234 = .ok (.iload_n 3, 1) := by decide +kernel
theorem dL_law_235 : decode cL_law 235 = .ok (.iconst 2, 1) := by decide +kernel
theorem dL_law_236 : decode cL_law 236 = .ok (.iadd, 1) := by decide +kernel
theorem dL_law_237 : decode cL_law 237 = .ok (.iaload, 1) := by decide +kernel
theorem dL_law_238 : decode cL_law 238 = .ok (.invokevirtual 22, 3) := by decide +kernel
theorem dL_law_241 : decode cL_law 241 = .ok (.if_icmp .eq 835, 3) := by decide +kernel
theorem dL_law_244 : decode cL_law 244 = .ok (.iconst 0, 1) := by decide +kernel
theorem dL_law_245 : decode cL_law 245 = .ok (.ireturn, 1) := by decide +kernel
theorem dL_law_246 : decode cL_law 246 = .ok (.aload_n 1, 1) := by decide +kernel
theorem dL_law_247 : decode cL_law 247 = .ok (.aload_n 0, 1) := by decide +kernel
theorem dL_law_248 : decode cL_law 248 = .ok (.iload_n 3, 1) := by decide +kernel
theorem dL_law_249 : decode cL_law 249 = .ok (.iconst 1, 1) := by decide +kernel
theorem dL_law_250 : decode cL_law 250 = .ok (.iadd, 1) := by decide +kernel
theorem dL_law_251 : decode cL_law 251 = .ok (.iaload, 1) := by decide +kernel
theorem dL_law_252 : decode cL_law 252 = .ok (.aload_n 0, 1) := by decide +kernel
theorem dL_law_253 : decode cL_law 253 = .ok (.iload_n 3, 1) := by decide +kernel
theorem dL_law_254 : decode cL_law 254 = .ok (.iconst 2, 1) := by decide +kernel
theorem dL_law_255 : decode cL_law 255 = .ok (.iadd, 1) := by decide +kernel
theorem dL_law_256 : decode cL_law 256 = .ok (.iaload, 1) := by decide +kernel
theorem dL_law_257 : decode cL_law 257 = .ok (.invokevirtual 23, 3) := by decide +kernel
theorem dL_law_260 : decode cL_law 260 = .ok (.aload_n 2, 1) := by decide +kernel
theorem dL_law_261 : decode cL_law 261 = .ok (.aload_n 0, 1) := by decide +kernel
theorem dL_law_262 : decode cL_law 262 = .ok (.iload_n 3, 1) := by decide +kernel
theorem dL_law_263 : decode cL_law 263 = .ok (.iconst 1, 1) := by decide +kernel
theorem dL_law_264 : decode cL_law 264 = .ok (.iadd, 1) := by decide +kernel
theorem dL_law_265 : decode cL_law 265 = .ok (.iaload, 1) := by decide +kernel
theorem dL_law_266 : decode cL_law 266 = .ok (.aload_n 0, 1) := by decide +kernel
theorem dL_law_267 : decode cL_law 267 = .ok (.iload_n 3, 1) := by decide +kernel
theorem dL_law_268 : decode cL_law 268 = .ok (.iconst 2, 1) := by decide +kernel
theorem dL_law_269 : decode cL_law 269 = .ok (.iadd, 1) := by decide +kernel
theorem dL_law_270 : decode cL_law 270 = .ok (.iaload, 1) := by decide +kernel
theorem dL_law_271 : decode cL_law 271 = .ok (.invokevirtual 26, 3) := by decide +kernel
theorem dL_law_274 : decode cL_law 274 = .ok (.if_icmp .eq 802, 3) := by decide +kernel
theorem dL_law_277 : decode cL_law 277 = .ok (.iconst 0, 1) := by decide +kernel
theorem dL_law_278 : decode cL_law 278 = .ok (.ireturn, 1) := by decide +kernel
theorem dL_law_279 : decode cL_law 279 = .ok (.aload_n 1, 1) := by decide +kernel
theorem dL_law_280 : decode cL_law 280 = .ok (.aload_n 0, 1) := by decide +kernel
theorem dL_law_281 : decode cL_law 281 = .ok (.iload_n 3, 1) := by decide +kernel
theorem dL_law_282 : decode cL_law 282 = .ok (.iconst 1, 1) := by decide +kernel
theorem dL_law_283 : decode cL_law 283 = .ok (.iadd, 1) := by decide +kernel
theorem dL_law_284 : decode cL_law 284 = .ok (.iaload, 1) := by decide +kernel
theorem dL_law_285 : decode cL_law 285 = .ok (.aload_n 0, 1) := by decide +kernel
theorem dL_law_286 : decode cL_law 286 = .ok (.iload_n 3, 1) := by decide +kernel
theorem dL_law_287 : decode cL_law 287 = .ok (.iconst 2, 1) := by decide +kernel
theorem dL_law_288 : decode cL_law 288 = .ok (.iadd, 1) := by decide +kernel
theorem dL_law_289 : decode cL_law 289 = .ok (.iaload, 1) := by decide +kernel
theorem dL_law_290 : decode cL_law 290 = .ok (.aload_n 0, 1) := by decide +kernel
theorem dL_law_291 : decode cL_law 291 = .ok (.iload_n 3, 1) := by decide +kernel
theorem dL_law_292 : decode cL_law 292 = .ok (.iconst 3, 1) := by decide +kernel
theorem dL_law_293 : decode cL_law 293 = .ok (.iadd, 1) := by decide +kernel
theorem dL_law_294 : decode cL_law 294 = .ok (.iaload, 1) := by decide +kernel
theorem dL_law_295 : decode cL_law 295 = .ok (.invokevirtual 27, 3) := by decide +kernel
theorem dL_law_298 : decode cL_law 298 = .ok (.aload_n 2, 1) := by decide +kernel
theorem dL_law_299 : decode cL_law 299 = .ok (.aload_n 0, 1) := by decide +kernel
theorem dL_law_300 : decode cL_law 300 = .ok (.iload_n 3, 1) := by decide +kernel
theorem dL_law_301 : decode cL_law 301 = .ok (.iconst 1, 1) := by decide +kernel
theorem dL_law_302 : decode cL_law 302 = .ok (.iadd, 1) := by decide +kernel
theorem dL_law_303 : decode cL_law 303 = .ok (.iaload, 1) := by decide +kernel
theorem dL_law_304 : decode cL_law 304 = .ok (.aload_n 0, 1) := by decide +kernel
theorem dL_law_305 : decode cL_law 305 = .ok (.iload_n 3, 1) := by decide +kernel
theorem dL_law_306 : decode cL_law 306 = .ok (.iconst 2, 1) := by decide +kernel
theorem dL_law_307 : decode cL_law 307 = .ok (.iadd, 1) := by decide +kernel
theorem dL_law_308 : decode cL_law 308 = .ok (.iaload, 1) := by decide +kernel
theorem dL_law_309 : decode cL_law 309 = .ok (.aload_n 0, 1) := by decide +kernel
theorem dL_law_310 : decode cL_law 310 = .ok (.iload_n 3, 1) := by decide +kernel
theorem dL_law_311 : decode cL_law 311 = .ok (.iconst 3, 1) := by decide +kernel
theorem dL_law_312 : decode cL_law 312 = .ok (.iadd, 1) := by decide +kernel
theorem dL_law_313 : decode cL_law 313 = .ok (.iaload, 1) := by decide +kernel
theorem dL_law_314 : decode cL_law 314 = .ok (.invokevirtual 31, 3) := by decide +kernel
theorem dL_law_317 : decode cL_law 317 = .ok (.if_icmp .eq 759, 3) := by decide +kernel
theorem dL_law_320 : decode cL_law 320 = .ok (.iconst 0, 1) := by decide +kernel
theorem dL_law_321 : decode cL_law 321 = .ok (.ireturn, 1) := by decide +kernel
theorem dL_law_322 : decode cL_law 322 = .ok (.aload_n 1, 1) := by decide +kernel
theorem dL_law_323 : decode cL_law 323 = .ok (.aload_n 0, 1) := by decide +kernel
theorem dL_law_324 : decode cL_law 324 = .ok (.iload_n 3, 1) := by decide +kernel
theorem dL_law_325 : decode cL_law 325 = .ok (.iconst 1, 1) := by decide +kernel
theorem dL_law_326 : decode cL_law 326 = .ok (.iadd, 1) := by decide +kernel
theorem dL_law_327 : decode cL_law 327 = .ok (.iaload, 1) := by decide +kernel
theorem dL_law_328 : decode cL_law 328 = .ok (.aload_n 0, 1) := by decide +kernel
theorem dL_law_329 : decode cL_law 329 = .ok (.iload_n 3, 1) := by decide +kernel
theorem dL_law_330 : decode cL_law 330 = .ok (.iconst 2, 1) := by decide +kernel
theorem dL_law_331 : decode cL_law 331 = .ok (.iadd, 1) := by decide +kernel
theorem dL_law_332 : decode cL_law 332 = .ok (.iaload, 1) := by decide +kernel
theorem dL_law_333 : decode cL_law 333 = .ok (.invokevirtual 32, 3) := by decide +kernel
theorem dL_law_336 : decode cL_law 336 = .ok (.aload_n 2, 1) := by decide +kernel
theorem dL_law_337 : decode cL_law 337 = .ok (.aload_n 0, 1) := by decide +kernel
theorem dL_law_338 : decode cL_law 338 = .ok (.iload_n 3, 1) := by decide +kernel
theorem dL_law_339 : decode cL_law 339 = .ok (.iconst 1, 1) := by decide +kernel
theorem dL_law_340 : decode cL_law 340 = .ok (.iadd, 1) := by decide +kernel
theorem dL_law_341 : decode cL_law 341 = .ok (.iaload, 1) := by decide +kernel
theorem dL_law_342 : decode cL_law 342 = .ok (.aload_n 0, 1) := by decide +kernel
theorem dL_law_343 : decode cL_law 343 = .ok (.iload_n 3, 1) := by decide +kernel
theorem dL_law_344 : decode cL_law 344 = .ok (.iconst 2, 1) := by decide +kernel
theorem dL_law_345 : decode cL_law 345 = .ok (.iadd, 1) := by decide +kernel
theorem dL_law_346 : decode cL_law 346 = .ok (.iaload, 1) := by decide +kernel
theorem dL_law_347 : decode cL_law 347 = .ok (.invokevirtual 35, 3) := by decide +kernel
theorem dL_law_350 : decode cL_law 350 = .ok (.if_icmp .eq 726, 3) := by decide +kernel
theorem dL_law_353 : decode cL_law 353 = .ok (.iconst 0, 1) := by decide +kernel
theorem dL_law_354 : decode cL_law 354 = .ok (.ireturn, 1) := by decide +kernel
theorem dL_law_355 : decode cL_law 355 = .ok (.aload_n 1, 1) := by decide +kernel
theorem dL_law_356 : decode cL_law 356 = .ok (.aload_n 0, 1) := by decide +kernel
theorem dL_law_357 : decode cL_law 357 = .ok (.iload_n 3, 1) := by decide +kernel
theorem dL_law_358 : decode cL_law 358 = .ok (.iconst 1, 1) := by decide +kernel
theorem dL_law_359 : decode cL_law 359 = .ok (.iadd, 1) := by decide +kernel
theorem dL_law_360 : decode cL_law 360 = .ok (.iaload, 1) := by decide +kernel
theorem dL_law_361 : decode cL_law 361 = .ok (.aload_n 0, 1) := by decide +kernel
theorem dL_law_362 : decode cL_law 362 = .ok (.iload_n 3, 1) := by decide +kernel
theorem dL_law_363 : decode cL_law 363 = .ok (.iconst 2, 1) := by decide +kernel
theorem dL_law_364 : decode cL_law 364 = .ok (.iadd, 1) := by decide +kernel
theorem dL_law_365 : decode cL_law 365 = .ok (.iaload, 1) := by decide +kernel
theorem dL_law_366 : decode cL_law 366 = .ok (.aload_n 0, 1) := by decide +kernel
theorem dL_law_367 : decode cL_law 367 = .ok (.iload_n 3, 1) := by decide +kernel
theorem dL_law_368 : decode cL_law 368 = .ok (.iconst 3, 1) := by decide +kernel
theorem dL_law_369 : decode cL_law 369 = .ok (.iadd, 1) := by decide +kernel
theorem dL_law_370 : decode cL_law 370 = .ok (.iaload, 1) := by decide +kernel
theorem dL_law_371 : decode cL_law 371 = .ok (.invokevirtual 36, 3) := by decide +kernel
theorem dL_law_374 : decode cL_law 374 = .ok (.aload_n 2, 1) := by decide +kernel
theorem dL_law_375 : decode cL_law 375 = .ok (.aload_n 0, 1) := by decide +kernel
theorem dL_law_376 : decode cL_law 376 = .ok (.iload_n 3, 1) := by decide +kernel
theorem dL_law_377 : decode cL_law 377 = .ok (.iconst 1, 1) := by decide +kernel
theorem dL_law_378 : decode cL_law 378 = .ok (.iadd, 1) := by decide +kernel
theorem dL_law_379 : decode cL_law 379 = .ok (.iaload, 1) := by decide +kernel
theorem dL_law_380 : decode cL_law 380 = .ok (.aload_n 0, 1) := by decide +kernel
theorem dL_law_381 : decode cL_law 381 = .ok (.iload_n 3, 1) := by decide +kernel
theorem dL_law_382 : decode cL_law 382 = .ok (.iconst 2, 1) := by decide +kernel
theorem dL_law_383 : decode cL_law 383 = .ok (.iadd, 1) := by decide +kernel
theorem dL_law_384 : decode cL_law 384 = .ok (.iaload, 1) := by decide +kernel
theorem dL_law_385 : decode cL_law 385 = .ok (.aload_n 0, 1) := by decide +kernel
theorem dL_law_386 : decode cL_law 386 = .ok (.iload_n 3, 1) := by decide +kernel
theorem dL_law_387 : decode cL_law 387 = .ok (.iconst 3, 1) := by decide +kernel
theorem dL_law_388 : decode cL_law 388 = .ok (.iadd, 1) := by decide +kernel
theorem dL_law_389 : decode cL_law 389 = .ok (.iaload, 1) := by decide +kernel
theorem dL_law_390 : decode cL_law 390 = .ok (.invokevirtual 39, 3) := by decide +kernel
theorem dL_law_393 : decode cL_law 393 = .ok (.if_icmp .eq 683, 3) := by decide +kernel
theorem dL_law_396 : decode cL_law 396 = .ok (.iconst 0, 1) := by decide +kernel
theorem dL_law_397 : decode cL_law 397 = .ok (.ireturn, 1) := by decide +kernel
theorem dL_law_398 : decode cL_law 398 = .ok (.aload_n 1, 1) := by decide +kernel
theorem dL_law_399 : decode cL_law 399 = .ok (.aload_n 0, 1) := by decide +kernel
theorem dL_law_400 : decode cL_law 400 = .ok (.iload_n 3, 1) := by decide +kernel
theorem dL_law_401 : decode cL_law 401 = .ok (.iconst 1, 1) := by decide +kernel
theorem dL_law_402 : decode cL_law 402 = .ok (.iadd, 1) := by decide +kernel
theorem dL_law_403 : decode cL_law 403 = .ok (.iaload, 1) := by decide +kernel
theorem dL_law_404 : decode cL_law 404 = .ok (.invokevirtual 40, 3) := by decide +kernel
theorem dL_law_407 : decode cL_law 407 = .ok (.aload_n 2, 1) := by decide +kernel
theorem dL_law_408 : decode cL_law 408 = .ok (.aload_n 0, 1) := by decide +kernel
theorem dL_law_409 : decode cL_law 409 = .ok (.iload_n 3, 1) := by decide +kernel
theorem dL_law_410 : decode cL_law 410 = .ok (.iconst 1, 1) := by decide +kernel
theorem dL_law_411 : decode cL_law 411 = .ok (.iadd, 1) := by decide +kernel
theorem dL_law_412 : decode cL_law 412 = .ok (.iaload, 1) := by decide +kernel
theorem dL_law_413 : decode cL_law 413 = .ok (.invokevirtual 44, 3) := by decide +kernel
theorem dL_law_416 : decode cL_law 416 = .ok (.if_icmp .eq 660, 3) := by decide +kernel
theorem dL_law_419 : decode cL_law 419 = .ok (.iconst 0, 1) := by decide +kernel
theorem dL_law_420 : decode cL_law 420 = .ok (.ireturn, 1) := by decide +kernel
theorem dL_law_421 : decode cL_law 421 = .ok (.aload_n 1, 1) := by decide +kernel
theorem dL_law_422 : decode cL_law 422 = .ok (.aload_n 0, 1) := by decide +kernel
theorem dL_law_423 : decode cL_law 423 = .ok (.iload_n 3, 1) := by decide +kernel
theorem dL_law_424 : decode cL_law 424 = .ok (.iconst 1, 1) := by decide +kernel
theorem dL_law_425 : decode cL_law 425 = .ok (.iadd, 1) := by decide +kernel
theorem dL_law_426 : decode cL_law 426 = .ok (.iaload, 1) := by decide +kernel
theorem dL_law_427 : decode cL_law 427 = .ok (.aload_n 0, 1) := by decide +kernel
theorem dL_law_428 : decode cL_law 428 = .ok (.iload_n 3, 1) := by decide +kernel
theorem dL_law_429 : decode cL_law 429 = .ok (.iconst 2, 1) := by decide +kernel
theorem dL_law_430 : decode cL_law 430 = .ok (.iadd, 1) := by decide +kernel
theorem dL_law_431 : decode cL_law 431 = .ok (.iaload, 1) := by decide +kernel
theorem dL_law_432 : decode cL_law 432 = .ok (.invokevirtual 45, 3) := by decide +kernel
theorem dL_law_435 : decode cL_law 435 = .ok (.aload_n 2, 1) := by decide +kernel
theorem dL_law_436 : decode cL_law 436 = .ok (.aload_n 0, 1) := by decide +kernel
theorem dL_law_437 : decode cL_law 437 = .ok (.iload_n 3, 1) := by decide +kernel
theorem dL_law_438 : decode cL_law 438 = .ok (.iconst 1, 1) := by decide +kernel
theorem dL_law_439 : decode cL_law 439 = .ok (.iadd, 1) := by decide +kernel
theorem dL_law_440 : decode cL_law 440 = .ok (.iaload, 1) := by decide +kernel
theorem dL_law_441 : decode cL_law 441 = .ok (.aload_n 0, 1) := by decide +kernel
theorem dL_law_442 : decode cL_law 442 = .ok (.iload_n 3, 1) := by decide +kernel
theorem dL_law_443 : decode cL_law 443 = .ok (.iconst 2, 1) := by decide +kernel
theorem dL_law_444 : decode cL_law 444 = .ok (.iadd, 1) := by decide +kernel
theorem dL_law_445 : decode cL_law 445 = .ok (.iaload, 1) := by decide +kernel
theorem dL_law_446 : decode cL_law 446 = .ok (.invokevirtual 48, 3) := by decide +kernel
theorem dL_law_449 : decode cL_law 449 = .ok (.if_icmp .eq 627, 3) := by decide +kernel
theorem dL_law_452 : decode cL_law 452 = .ok (.iconst 0, 1) := by decide +kernel
theorem dL_law_453 : decode cL_law 453 = .ok (.ireturn, 1) := by decide +kernel
theorem dL_law_454 : decode cL_law 454 = .ok (.aload_n 1, 1) := by decide +kernel
theorem dL_law_455 : decode cL_law 455 = .ok (.aload_n 0, 1) := by decide +kernel
theorem dL_law_456 : decode cL_law 456 = .ok (.iload_n 3, 1) := by decide +kernel
theorem dL_law_457 : decode cL_law 457 = .ok (.iconst 1, 1) := by decide +kernel
theorem dL_law_458 : decode cL_law 458 = .ok (.iadd, 1) := by decide +kernel
theorem dL_law_459 : decode cL_law 459 = .ok (.iaload, 1) := by decide +kernel
theorem dL_law_460 : decode cL_law 460 = .ok (.aload_n 0, 1) := by decide +kernel
theorem dL_law_461 : decode cL_law 461 = .ok (.iload_n 3, 1) := by decide +kernel
theorem dL_law_462 : decode cL_law 462 = .ok (.iconst 2, 1) := by decide +kernel
theorem dL_law_463 : decode cL_law 463 = .ok (.iadd, 1) := by decide +kernel
theorem dL_law_464 : decode cL_law 464 = .ok (.iaload, 1) := by decide +kernel
theorem dL_law_465 : decode cL_law 465 = .ok (.aload_n 0, 1) := by decide +kernel
theorem dL_law_466 : decode cL_law 466 = .ok (.iload_n 3, 1) := by decide +kernel
theorem dL_law_467 : decode cL_law 467 = .ok (.iconst 3, 1) := by decide +kernel
theorem dL_law_468 : decode cL_law 468 = .ok (.iadd, 1) := by decide +kernel
theorem dL_law_469 : decode cL_law 469 = .ok (.iaload, 1) := by decide +kernel
theorem dL_law_470 : decode cL_law 470 = .ok (.invokevirtual 49, 3) := by decide +kernel
theorem dL_law_473 : decode cL_law 473 = .ok (.aload_n 2, 1) := by decide +kernel
theorem dL_law_474 : decode cL_law 474 = .ok (.aload_n 0, 1) := by decide +kernel
theorem dL_law_475 : decode cL_law 475 = .ok (.iload_n 3, 1) := by decide +kernel
theorem dL_law_476 : decode cL_law 476 = .ok (.iconst 1, 1) := by decide +kernel
theorem dL_law_477 : decode cL_law 477 = .ok (.iadd, 1) := by decide +kernel
theorem dL_law_478 : decode cL_law 478 = .ok (.iaload, 1) := by decide +kernel
theorem dL_law_479 : decode cL_law 479 = .ok (.aload_n 0, 1) := by decide +kernel
theorem dL_law_480 : decode cL_law 480 = .ok (.iload_n 3, 1) := by decide +kernel
theorem dL_law_481 : decode cL_law 481 = .ok (.iconst 2, 1) := by decide +kernel
theorem dL_law_482 : decode cL_law 482 = .ok (.iadd, 1) := by decide +kernel
theorem dL_law_483 : decode cL_law 483 = .ok (.iaload, 1) := by decide +kernel
theorem dL_law_484 : decode cL_law 484 = .ok (.aload_n 0, 1) := by decide +kernel
theorem dL_law_485 : decode cL_law 485 = .ok (.iload_n 3, 1) := by decide +kernel
theorem dL_law_486 : decode cL_law 486 = .ok (.iconst 3, 1) := by decide +kernel
theorem dL_law_487 : decode cL_law 487 = .ok (.iadd, 1) := by decide +kernel
theorem dL_law_488 : decode cL_law 488 = .ok (.iaload, 1) := by decide +kernel
theorem dL_law_489 : decode cL_law 489 = .ok (.invokevirtual 52, 3) := by decide +kernel
theorem dL_law_492 : decode cL_law 492 = .ok (.if_icmp .eq 584, 3) := by decide +kernel
theorem dL_law_495 : decode cL_law 495 = .ok (.iconst 0, 1) := by decide +kernel
theorem dL_law_496 : decode cL_law 496 = .ok (.ireturn, 1) := by decide +kernel
theorem dL_law_497 : decode cL_law 497 = .ok (.aload_n 1, 1) := by decide +kernel
theorem dL_law_498 : decode cL_law 498 = .ok (.aload_n 0, 1) := by decide +kernel
theorem dL_law_499 : decode cL_law 499 = .ok (.iload_n 3, 1) := by decide +kernel
theorem dL_law_500 : decode cL_law 500 = .ok (.iconst 1, 1) := by decide +kernel
theorem dL_law_501 : decode cL_law 501 = .ok (.iadd, 1) := by decide +kernel
theorem dL_law_502 : decode cL_law 502 = .ok (.iaload, 1) := by decide +kernel
theorem dL_law_503 : decode cL_law 503 = .ok (.aload_n 0, 1) := by decide +kernel
theorem dL_law_504 : decode cL_law 504 = .ok (.iload_n 3, 1) := by decide +kernel
theorem dL_law_505 : decode cL_law 505 = .ok (.iconst 2, 1) := by decide +kernel
theorem dL_law_506 : decode cL_law 506 = .ok (.iadd, 1) := by decide +kernel
theorem dL_law_507 : decode cL_law 507 = .ok (.iaload, 1) := by decide +kernel
theorem dL_law_508 : decode cL_law 508 = .ok (.aload_n 0, 1) := by decide +kernel
theorem dL_law_509 : decode cL_law 509 = .ok (.iload_n 3, 1) := by decide +kernel
theorem dL_law_510 : decode cL_law 510 = .ok (.iconst 3, 1) := by decide +kernel
theorem dL_law_511 : decode cL_law 511 = .ok (.iadd, 1) := by decide +kernel
theorem dL_law_512 : decode cL_law 512 = .ok (.iaload, 1) := by decide +kernel
theorem dL_law_513 : decode cL_law 513 = .ok (.aload_n 0, 1) := by decide +kernel
theorem dL_law_514 : decode cL_law 514 = .ok (.iload_n 3, 1) := by decide +kernel
theorem dL_law_515 : decode cL_law 515 = .ok (.iconst 4, 1) := by decide +kernel
theorem dL_law_516 : decode cL_law 516 = .ok (.iadd, 1) := by decide +kernel
theorem dL_law_517 : decode cL_law 517 = .ok (.iaload, 1) := by decide +kernel
theorem dL_law_518 : decode cL_law 518 = .ok (.aload_n 0, 1) := by decide +kernel
theorem dL_law_519 : decode cL_law 519 = .ok (.iload_n 3, 1) := by decide +kernel
theorem dL_law_520 : decode cL_law 520 = .ok (.iconst 5, 1) := by decide +kernel
theorem dL_law_521 : decode cL_law 521 = .ok (.iadd, 1) := by decide +kernel
theorem dL_law_522 : decode cL_law 522 = .ok (.iaload, 1) := by decide +kernel
theorem dL_law_523 : decode cL_law 523 = .ok (.invokevirtual 53, 3) := by decide +kernel
theorem dL_law_526 : decode cL_law 526 = .ok (.aload_n 2, 1) := by decide +kernel
theorem dL_law_527 : decode cL_law 527 = .ok (.aload_n 0, 1) := by decide +kernel
theorem dL_law_528 : decode cL_law 528 = .ok (.iload_n 3, 1) := by decide +kernel
theorem dL_law_529 : decode cL_law 529 = .ok (.iconst 1, 1) := by decide +kernel
theorem dL_law_530 : decode cL_law 530 = .ok (.iadd, 1) := by decide +kernel
theorem dL_law_531 : decode cL_law 531 = .ok (.iaload, 1) := by decide +kernel
theorem dL_law_532 : decode cL_law 532 = .ok (.aload_n 0, 1) := by decide +kernel
theorem dL_law_533 : decode cL_law 533 = .ok (.iload_n 3, 1) := by decide +kernel
theorem dL_law_534 : decode cL_law 534 = .ok (.iconst 2, 1) := by decide +kernel
theorem dL_law_535 : decode cL_law 535 = .ok (.iadd, 1) := by decide +kernel
theorem dL_law_536 : decode cL_law 536 = .ok (.iaload, 1) := by decide +kernel
theorem dL_law_537 : decode cL_law 537 = .ok (.aload_n 0, 1) := by decide +kernel
theorem dL_law_538 : decode cL_law 538 = .ok (.iload_n 3, 1) := by decide +kernel
theorem dL_law_539 : decode cL_law 539 = .ok (.iconst 3, 1) := by decide +kernel
theorem dL_law_540 : decode cL_law 540 = .ok (.iadd, 1) := by decide +kernel
theorem dL_law_541 : decode cL_law 541 = .ok (.iaload, 1) := by decide +kernel
theorem dL_law_542 : decode cL_law 542 = .ok (.aload_n 0, 1) := by decide +kernel
theorem dL_law_543 : decode cL_law 543 = .ok (.iload_n 3, 1) := by decide +kernel
theorem dL_law_544 : decode cL_law 544 = .ok (.iconst 4, 1) := by decide +kernel
theorem dL_law_545 : decode cL_law 545 = .ok (.iadd, 1) := by decide +kernel
theorem dL_law_546 : decode cL_law 546 = .ok (.iaload, 1) := by decide +kernel
theorem dL_law_547 : decode cL_law 547 = .ok (.aload_n 0, 1) := by decide +kernel
theorem dL_law_548 : decode cL_law 548 = .ok (.iload_n 3, 1) := by decide +kernel
theorem dL_law_549 : decode cL_law 549 = .ok (.iconst 5, 1) := by decide +kernel
theorem dL_law_550 : decode cL_law 550 = .ok (.iadd, 1) := by decide +kernel
theorem dL_law_551 : decode cL_law 551 = .ok (.iaload, 1) := by decide +kernel
theorem dL_law_552 : decode cL_law 552 = .ok (.invokevirtual 57, 3) := by decide +kernel
theorem dL_law_555 : decode cL_law 555 = .ok (.if_icmp .eq 521, 3) := by decide +kernel
theorem dL_law_558 : decode cL_law 558 = .ok (.iconst 0, 1) := by decide +kernel
theorem dL_law_559 : decode cL_law 559 = .ok (.ireturn, 1) := by decide +kernel
theorem dL_law_560 : decode cL_law 560 = .ok (.aload_n 1, 1) := by decide +kernel
theorem dL_law_561 : decode cL_law 561 = .ok (.aload_n 0, 1) := by decide +kernel
theorem dL_law_562 : decode cL_law 562 = .ok (.iload_n 3, 1) := by decide +kernel
theorem dL_law_563 : decode cL_law 563 = .ok (.iconst 1, 1) := by decide +kernel
theorem dL_law_564 : decode cL_law 564 = .ok (.iadd, 1) := by decide +kernel
theorem dL_law_565 : decode cL_law 565 = .ok (.iaload, 1) := by decide +kernel
theorem dL_law_566 : decode cL_law 566 = .ok (.invokevirtual 58, 3) := by decide +kernel
theorem dL_law_569 : decode cL_law 569 = .ok (.aload_n 2, 1) := by decide +kernel
theorem dL_law_570 : decode cL_law 570 = .ok (.aload_n 0, 1) := by decide +kernel
theorem dL_law_571 : decode cL_law 571 = .ok (.iload_n 3, 1) := by decide +kernel
theorem dL_law_572 : decode cL_law 572 = .ok (.iconst 1, 1) := by decide +kernel
theorem dL_law_573 : decode cL_law 573 = .ok (.iadd, 1) := by decide +kernel
theorem dL_law_574 : decode cL_law 574 = .ok (.iaload, 1) := by decide +kernel
theorem dL_law_575 : decode cL_law 575 = .ok (.invokevirtual 61, 3) := by decide +kernel
theorem dL_law_578 : decode cL_law 578 = .ok (.if_icmp .eq 498, 3) := by decide +kernel
theorem dL_law_581 : decode cL_law 581 = .ok (.iconst 0, 1) := by decide +kernel
theorem dL_law_582 : decode cL_law 582 = .ok (.ireturn, 1) := by decide +kernel
theorem dL_law_583 : decode cL_law 583 = .ok (.aload_n 1, 1) := by decide +kernel
theorem dL_law_584 : decode cL_law 584 = .ok (.invokevirtual 62, 3) := by decide +kernel
theorem dL_law_587 : decode cL_law 587 = .ok (.aload_n 2, 1) := by decide +kernel
theorem dL_law_588 : decode cL_law 588 = .ok (.invokevirtual 66, 3) := by decide +kernel
theorem dL_law_591 : decode cL_law 591 = .ok (.if_icmp .eq 485, 3) := by decide +kernel
theorem dL_law_594 : decode cL_law 594 = .ok (.iconst 0, 1) := by decide +kernel
theorem dL_law_595 : decode cL_law 595 = .ok (.ireturn, 1) := by decide +kernel
theorem dL_law_596 : decode cL_law 596 = .ok (.aload_n 1, 1) := by decide +kernel
theorem dL_law_597 : decode cL_law 597 = .ok (.aload_n 0, 1) := by decide +kernel
theorem dL_law_598 : decode cL_law 598 = .ok (.iload_n 3, 1) := by decide +kernel
theorem dL_law_599 : decode cL_law 599 = .ok (.iconst 1, 1) := by decide +kernel
theorem dL_law_600 : decode cL_law 600 = .ok (.iadd, 1) := by decide +kernel
theorem dL_law_601 : decode cL_law 601 = .ok (.iaload, 1) := by decide +kernel
theorem dL_law_602 : decode cL_law 602 = .ok (.aload_n 0, 1) := by decide +kernel
theorem dL_law_603 : decode cL_law 603 = .ok (.iload_n 3, 1) := by decide +kernel
theorem dL_law_604 : decode cL_law 604 = .ok (.iconst 2, 1) := by decide +kernel
theorem dL_law_605 : decode cL_law 605 = .ok (.iadd, 1) := by decide +kernel
theorem dL_law_606 : decode cL_law 606 = .ok (.iaload, 1) := by decide +kernel
theorem dL_law_607 : decode cL_law 607 = .ok (.invokevirtual 67, 3) := by decide +kernel
theorem dL_law_610 : decode cL_law 610 = .ok (.aload_n 2, 1) := by decide +kernel
theorem dL_law_611 : decode cL_law 611 = .ok (.aload_n 0, 1) := by decide +kernel
theorem dL_law_612 : decode cL_law 612 = .ok (.iload_n 3, 1) := by decide +kernel
theorem dL_law_613 : decode cL_law 613 = .ok (.iconst 1, 1) := by decide +kernel
theorem dL_law_614 : decode cL_law 614 = .ok (.iadd, 1) := by decide +kernel
theorem dL_law_615 : decode cL_law 615 = .ok (.iaload, 1) := by decide +kernel
theorem dL_law_616 : decode cL_law 616 = .ok (.aload_n 0, 1) := by decide +kernel
theorem dL_law_617 : decode cL_law 617 = .ok (.iload_n 3, 1) := by decide +kernel
theorem dL_law_618 : decode cL_law 618 = .ok (.iconst 2, 1) := by decide +kernel
theorem dL_law_619 : decode cL_law 619 = .ok (.iadd, 1) := by decide +kernel
theorem dL_law_620 : decode cL_law 620 = .ok (.iaload, 1) := by decide +kernel
theorem dL_law_621 : decode cL_law 621 = .ok (.invokevirtual 70, 3) := by decide +kernel
theorem dL_law_624 : decode cL_law 624 = .ok (.if_icmp .eq 452, 3) := by decide +kernel
theorem dL_law_627 : decode cL_law 627 = .ok (.iconst 0, 1) := by decide +kernel
theorem dL_law_628 : decode cL_law 628 = .ok (.ireturn, 1) := by decide +kernel
theorem dL_law_629 : decode cL_law 629 = .ok (.aload_n 1, 1) := by decide +kernel
theorem dL_law_630 : decode cL_law 630 = .ok (.aload_n 0, 1) := by decide +kernel
theorem dL_law_631 : decode cL_law 631 = .ok (.iload_n 3, 1) := by decide +kernel
theorem dL_law_632 : decode cL_law 632 = .ok (.iconst 1, 1) := by decide +kernel
theorem dL_law_633 : decode cL_law 633 = .ok (.iadd, 1) := by decide +kernel
theorem dL_law_634 : decode cL_law 634 = .ok (.iaload, 1) := by decide +kernel
theorem dL_law_635 : decode cL_law 635 = .ok (.invokevirtual 71, 3) := by decide +kernel
theorem dL_law_638 : decode cL_law 638 = .ok (.aload_n 2, 1) := by decide +kernel
theorem dL_law_639 : decode cL_law 639 = .ok (.aload_n 0, 1) := by decide +kernel
theorem dL_law_640 : decode cL_law 640 = .ok (.iload_n 3, 1) := by decide +kernel
theorem dL_law_641 : decode cL_law 641 = .ok (.iconst 1, 1) := by decide +kernel
theorem dL_law_642 : decode cL_law 642 = .ok (.iadd, 1) := by decide +kernel
theorem dL_law_643 : decode cL_law 643 = .ok (.iaload, 1) := by decide +kernel
theorem dL_law_644 : decode cL_law 644 = .ok (.invokevirtual 74, 3) := by decide +kernel
theorem dL_law_647 : decode cL_law 647 = .ok (.if_icmp .eq 429, 3) := by decide +kernel
theorem dL_law_650 : decode cL_law 650 = .ok (.iconst 0, 1) := by decide +kernel
theorem dL_law_651 : decode cL_law 651 = .ok (.ireturn, 1) := by decide +kernel
theorem dL_law_652 : decode cL_law 652 = .ok (.aload_n 1, 1) := by decide +kernel
theorem dL_law_653 : decode cL_law 653 = .ok (.aload_n 0, 1) := by decide +kernel
theorem dL_law_654 : decode cL_law 654 = .ok (.iload_n 3, 1) := by decide +kernel
theorem dL_law_655 : decode cL_law 655 = .ok (.iconst 1, 1) := by decide +kernel
theorem dL_law_656 : decode cL_law 656 = .ok (.iadd, 1) := by decide +kernel
theorem dL_law_657 : decode cL_law 657 = .ok (.iaload, 1) := by decide +kernel
theorem dL_law_658 : decode cL_law 658 = .ok (.invokevirtual 75, 3) := by decide +kernel
theorem dL_law_661 : decode cL_law 661 = .ok (.aload_n 2, 1) := by decide +kernel
theorem dL_law_662 : decode cL_law 662 = .ok (.aload_n 0, 1) := by decide +kernel
theorem dL_law_663 : decode cL_law 663 = .ok (.iload_n 3, 1) := by decide +kernel
theorem dL_law_664 : decode cL_law 664 = .ok (.iconst 1, 1) := by decide +kernel
theorem dL_law_665 : decode cL_law 665 = .ok (.iadd, 1) := by decide +kernel
theorem dL_law_666 : decode cL_law 666 = .ok (.iaload, 1) := by decide +kernel
theorem dL_law_667 : decode cL_law 667 = .ok (.invokevirtual 78, 3) := by decide +kernel
theorem dL_law_670 : decode cL_law 670 = .ok (.if_icmp .eq 406, 3) := by decide +kernel
theorem dL_law_673 : decode cL_law 673 = .ok (.iconst 0, 1) := by decide +kernel
theorem dL_law_674 : decode cL_law 674 = .ok (.ireturn, 1) := by decide +kernel
theorem dL_law_675 : decode cL_law 675 = .ok (.aload_n 1, 1) := by decide +kernel
theorem dL_law_676 : decode cL_law 676 = .ok (.aload_n 0, 1) := by decide +kernel
theorem dL_law_677 : decode cL_law 677 = .ok (.iload_n 3, 1) := by decide +kernel
theorem dL_law_678 : decode cL_law 678 = .ok (.iconst 1, 1) := by decide +kernel
theorem dL_law_679 : decode cL_law 679 = .ok (.iadd, 1) := by decide +kernel
theorem dL_law_680 : decode cL_law 680 = .ok (.iaload, 1) := by decide +kernel
theorem dL_law_681 : decode cL_law 681 = .ok (.invokevirtual 79, 3) := by decide +kernel
theorem dL_law_684 : decode cL_law 684 = .ok (.aload_n 2, 1) := by decide +kernel
theorem dL_law_685 : decode cL_law 685 = .ok (.aload_n 0, 1) := by decide +kernel
theorem dL_law_686 : decode cL_law 686 = .ok (.iload_n 3, 1) := by decide +kernel
theorem dL_law_687 : decode cL_law 687 = .ok (.iconst 1, 1) := by decide +kernel
theorem dL_law_688 : decode cL_law 688 = .ok (.iadd, 1) := by decide +kernel
theorem dL_law_689 : decode cL_law 689 = .ok (.iaload, 1) := by decide +kernel
theorem dL_law_690 : decode cL_law 690 = .ok (.invokevirtual 82, 3) := by decide +kernel
theorem dL_law_693 : decode cL_law 693 = .ok (.if_icmp .eq 383, 3) := by decide +kernel
theorem dL_law_696 : decode cL_law 696 = .ok (.iconst 0, 1) := by decide +kernel
theorem dL_law_697 : decode cL_law 697 = .ok (.ireturn, 1) := by decide +kernel
theorem dL_law_698 : decode cL_law 698 = .ok (.aload_n 1, 1) := by decide +kernel
theorem dL_law_699 : decode cL_law 699 = .ok (.aload_n 0, 1) := by decide +kernel
theorem dL_law_700 : decode cL_law 700 = .ok (.iload_n 3, 1) := by decide +kernel
theorem dL_law_701 : decode cL_law 701 = .ok (.iconst 1, 1) := by decide +kernel
theorem dL_law_702 : decode cL_law 702 = .ok (.iadd, 1) := by decide +kernel
theorem dL_law_703 : decode cL_law 703 = .ok (.iaload, 1) := by decide +kernel
theorem dL_law_704 : decode cL_law 704 = .ok (.aload_n 0, 1) := by decide +kernel
theorem dL_law_705 : decode cL_law 705 = .ok (.iload_n 3, 1) := by decide +kernel
theorem dL_law_706 : decode cL_law 706 = .ok (.iconst 2, 1) := by decide +kernel
theorem dL_law_707 : decode cL_law 707 = .ok (.iadd, 1) := by decide +kernel
theorem dL_law_708 : decode cL_law 708 = .ok (.iaload, 1) := by decide +kernel
theorem dL_law_709 : decode cL_law 709 = .ok (.invokevirtual 83, 3) := by decide +kernel
theorem dL_law_712 : decode cL_law 712 = .ok (.aload_n 2, 1) := by decide +kernel
theorem dL_law_713 : decode cL_law 713 = .ok (.aload_n 0, 1) := by decide +kernel
theorem dL_law_714 : decode cL_law 714 = .ok (.iload_n 3, 1) := by decide +kernel
theorem dL_law_715 : decode cL_law 715 = .ok (.iconst 1, 1) := by decide +kernel
theorem dL_law_716 : decode cL_law 716 = .ok (.iadd, 1) := by decide +kernel
theorem dL_law_717 : decode cL_law 717 = .ok (.iaload, 1) := by decide +kernel
theorem dL_law_718 : decode cL_law 718 = .ok (.aload_n 0, 1) := by decide +kernel
theorem dL_law_719 : decode cL_law 719 = .ok (.iload_n 3, 1) := by decide +kernel
theorem dL_law_720 : decode cL_law 720 = .ok (.iconst 2, 1) := by decide +kernel
theorem dL_law_721 : decode cL_law 721 = .ok (.iadd, 1) := by decide +kernel
theorem dL_law_722 : decode cL_law 722 = .ok (.iaload, 1) := by decide +kernel
theorem dL_law_723 : decode cL_law 723 = .ok (.invokevirtual 87, 3) := by decide +kernel
theorem dL_law_726 : decode cL_law 726 = .ok (.lcmp, 1) := by decide +kernel
theorem dL_law_727 : decode cL_law 727 = .ok (.ifCond .eq 349, 3) := by decide +kernel
theorem dL_law_730 : decode cL_law 730 = .ok (.iconst 0, 1) := by decide +kernel
theorem dL_law_731 : decode cL_law 731 = .ok (.ireturn, 1) := by decide +kernel
theorem dL_law_732 : decode cL_law 732 = .ok (.aload_n 1, 1) := by decide +kernel
theorem dL_law_733 : decode cL_law 733 = .ok (.aload_n 0, 1) := by decide +kernel
theorem dL_law_734 : decode cL_law 734 = .ok (.iload_n 3, 1) := by decide +kernel
theorem dL_law_735 : decode cL_law 735 = .ok (.iconst 1, 1) := by decide +kernel
theorem dL_law_736 : decode cL_law 736 = .ok (.iadd, 1) := by decide +kernel
theorem dL_law_737 : decode cL_law 737 = .ok (.iaload, 1) := by decide +kernel
theorem dL_law_738 : decode cL_law 738 = .ok (.aload_n 0, 1) := by decide +kernel
theorem dL_law_739 : decode cL_law 739 = .ok (.iload_n 3, 1) := by decide +kernel
theorem dL_law_740 : decode cL_law 740 = .ok (.iconst 2, 1) := by decide +kernel
theorem dL_law_741 : decode cL_law 741 = .ok (.iadd, 1) := by decide +kernel
theorem dL_law_742 : decode cL_law 742 = .ok (.iaload, 1) := by decide +kernel
theorem dL_law_743 : decode cL_law 743 = .ok (.aload_n 0, 1) := by decide +kernel
theorem dL_law_744 : decode cL_law 744 = .ok (.iload_n 3, 1) := by decide +kernel
theorem dL_law_745 : decode cL_law 745 = .ok (.iconst 3, 1) := by decide +kernel
theorem dL_law_746 : decode cL_law 746 = .ok (.iadd, 1) := by decide +kernel
theorem dL_law_747 : decode cL_law 747 = .ok (.iaload, 1) := by decide +kernel
theorem dL_law_748 : decode cL_law 748 = .ok (.invokevirtual 88, 3) := by decide +kernel
theorem dL_law_751 : decode cL_law 751 = .ok (.aload_n 2, 1) := by decide +kernel
theorem dL_law_752 : decode cL_law 752 = .ok (.aload_n 0, 1) := by decide +kernel
theorem dL_law_753 : decode cL_law 753 = .ok (.iload_n 3, 1) := by decide +kernel
theorem dL_law_754 : decode cL_law 754 = .ok (.iconst 1, 1) := by decide +kernel
theorem dL_law_755 : decode cL_law 755 = .ok (.iadd, 1) := by decide +kernel
theorem dL_law_756 : decode cL_law 756 = .ok (.iaload, 1) := by decide +kernel
theorem dL_law_757 : decode cL_law 757 = .ok (.aload_n 0, 1) := by decide +kernel
theorem dL_law_758 : decode cL_law 758 = .ok (.iload_n 3, 1) := by decide +kernel
theorem dL_law_759 : decode cL_law 759 = .ok (.iconst 2, 1) := by decide +kernel
theorem dL_law_760 : decode cL_law 760 = .ok (.iadd, 1) := by decide +kernel
theorem dL_law_761 : decode cL_law 761 = .ok (.iaload, 1) := by decide +kernel
theorem dL_law_762 : decode cL_law 762 = .ok (.aload_n 0, 1) := by decide +kernel
theorem dL_law_763 : decode cL_law 763 = .ok (.iload_n 3, 1) := by decide +kernel
theorem dL_law_764 : decode cL_law 764 = .ok (.iconst 3, 1) := by decide +kernel
theorem dL_law_765 : decode cL_law 765 = .ok (.iadd, 1) := by decide +kernel
theorem dL_law_766 : decode cL_law 766 = .ok (.iaload, 1) := by decide +kernel
theorem dL_law_767 : decode cL_law 767 = .ok (.invokevirtual 91, 3) := by decide +kernel
theorem dL_law_770 : decode cL_law 770 = .ok (.if_icmp .eq 306, 3) := by decide +kernel
theorem dL_law_773 : decode cL_law 773 = .ok (.iconst 0, 1) := by decide +kernel
theorem dL_law_774 : decode cL_law 774 = .ok (.ireturn, 1) := by decide +kernel
theorem dL_law_775 : decode cL_law 775 = .ok (.aload_n 1, 1) := by decide +kernel
theorem dL_law_776 : decode cL_law 776 = .ok (.aload_n 0, 1) := by decide +kernel
theorem dL_law_777 : decode cL_law 777 = .ok (.iload_n 3, 1) := by decide +kernel
theorem dL_law_778 : decode cL_law 778 = .ok (.iconst 1, 1) := by decide +kernel
theorem dL_law_779 : decode cL_law 779 = .ok (.iadd, 1) := by decide +kernel
theorem dL_law_780 : decode cL_law 780 = .ok (.iaload, 1) := by decide +kernel
theorem dL_law_781 : decode cL_law 781 = .ok (.invokevirtual 92, 3) := by decide +kernel
theorem dL_law_784 : decode cL_law 784 = .ok (.aload_n 2, 1) := by decide +kernel
theorem dL_law_785 : decode cL_law 785 = .ok (.aload_n 0, 1) := by decide +kernel
theorem dL_law_786 : decode cL_law 786 = .ok (.iload_n 3, 1) := by decide +kernel
theorem dL_law_787 : decode cL_law 787 = .ok (.iconst 1, 1) := by decide +kernel
theorem dL_law_788 : decode cL_law 788 = .ok (.iadd, 1) := by decide +kernel
theorem dL_law_789 : decode cL_law 789 = .ok (.iaload, 1) := by decide +kernel
theorem dL_law_790 : decode cL_law 790 = .ok (.invokevirtual 95, 3) := by decide +kernel
theorem dL_law_793 : decode cL_law 793 = .ok (.if_icmp .eq 283, 3) := by decide +kernel
theorem dL_law_796 : decode cL_law 796 = .ok (.iconst 0, 1) := by decide +kernel
theorem dL_law_797 : decode cL_law 797 = .ok (.ireturn, 1) := by decide +kernel
theorem dL_law_798 : decode cL_law 798 = .ok (.aload_n 1, 1) := by decide +kernel
theorem dL_law_799 : decode cL_law 799 = .ok (.aload_n 0, 1) := by decide +kernel
theorem dL_law_800 : decode cL_law 800 = .ok (.iload_n 3, 1) := by decide +kernel
theorem dL_law_801 : decode cL_law 801 = .ok (.iconst 1, 1) := by decide +kernel
theorem dL_law_802 : decode cL_law 802 = .ok (.iadd, 1) := by decide +kernel
theorem dL_law_803 : decode cL_law 803 = .ok (.iaload, 1) := by decide +kernel
theorem dL_law_804 : decode cL_law 804 = .ok (.aload_n 0, 1) := by decide +kernel
theorem dL_law_805 : decode cL_law 805 = .ok (.iload_n 3, 1) := by decide +kernel
theorem dL_law_806 : decode cL_law 806 = .ok (.iconst 2, 1) := by decide +kernel
theorem dL_law_807 : decode cL_law 807 = .ok (.iadd, 1) := by decide +kernel
theorem dL_law_808 : decode cL_law 808 = .ok (.iaload, 1) := by decide +kernel
theorem dL_law_809 : decode cL_law 809 = .ok (.aload_n 0, 1) := by decide +kernel
theorem dL_law_810 : decode cL_law 810 = .ok (.iload_n 3, 1) := by decide +kernel
theorem dL_law_811 : decode cL_law 811 = .ok (.iconst 3, 1) := by decide +kernel
theorem dL_law_812 : decode cL_law 812 = .ok (.iadd, 1) := by decide +kernel
theorem dL_law_813 : decode cL_law 813 = .ok (.iaload, 1) := by decide +kernel
theorem dL_law_814 : decode cL_law 814 = .ok (.invokevirtual 96, 3) := by decide +kernel
theorem dL_law_817 : decode cL_law 817 = .ok (.aload_n 2, 1) := by decide +kernel
theorem dL_law_818 : decode cL_law 818 = .ok (.aload_n 0, 1) := by decide +kernel
theorem dL_law_819 : decode cL_law 819 = .ok (.iload_n 3, 1) := by decide +kernel
theorem dL_law_820 : decode cL_law 820 = .ok (.iconst 1, 1) := by decide +kernel
theorem dL_law_821 : decode cL_law 821 = .ok (.iadd, 1) := by decide +kernel
theorem dL_law_822 : decode cL_law 822 = .ok (.iaload, 1) := by decide +kernel
theorem dL_law_823 : decode cL_law 823 = .ok (.aload_n 0, 1) := by decide +kernel
theorem dL_law_824 : decode cL_law 824 = .ok (.iload_n 3, 1) := by decide +kernel
theorem dL_law_825 : decode cL_law 825 = .ok (.iconst 2, 1) := by decide +kernel
theorem dL_law_826 : decode cL_law 826 = .ok (.iadd, 1) := by decide +kernel
theorem dL_law_827 : decode cL_law 827 = .ok (.iaload, 1) := by decide +kernel
theorem dL_law_828 : decode cL_law 828 = .ok (.aload_n 0, 1) := by decide +kernel
theorem dL_law_829 : decode cL_law 829 = .ok (.iload_n 3, 1) := by decide +kernel
theorem dL_law_830 : decode cL_law 830 = .ok (.iconst 3, 1) := by decide +kernel
theorem dL_law_831 : decode cL_law 831 = .ok (.iadd, 1) := by decide +kernel
theorem dL_law_832 : decode cL_law 832 = .ok (.iaload, 1) := by decide +kernel
theorem dL_law_833 : decode cL_law 833 = .ok (.invokevirtual 99, 3) := by decide +kernel
theorem dL_law_836 : decode cL_law 836 = .ok (.if_icmp .eq 240, 3) := by decide +kernel
theorem dL_law_839 : decode cL_law 839 = .ok (.iconst 0, 1) := by decide +kernel
theorem dL_law_840 : decode cL_law 840 = .ok (.ireturn, 1) := by decide +kernel
theorem dL_law_841 : decode cL_law 841 = .ok (.aload_n 1, 1) := by decide +kernel
theorem dL_law_842 : decode cL_law 842 = .ok (.aload_n 0, 1) := by decide +kernel
theorem dL_law_843 : decode cL_law 843 = .ok (.iload_n 3, 1) := by decide +kernel
theorem dL_law_844 : decode cL_law 844 = .ok (.iconst 1, 1) := by decide +kernel
theorem dL_law_845 : decode cL_law 845 = .ok (.iadd, 1) := by decide +kernel
theorem dL_law_846 : decode cL_law 846 = .ok (.iaload, 1) := by decide +kernel
theorem dL_law_847 : decode cL_law 847 = .ok (.aload_n 0, 1) := by decide +kernel
theorem dL_law_848 : decode cL_law 848 = .ok (.iload_n 3, 1) := by decide +kernel
theorem dL_law_849 : decode cL_law 849 = .ok (.iconst 2, 1) := by decide +kernel
theorem dL_law_850 : decode cL_law 850 = .ok (.iadd, 1) := by decide +kernel
theorem dL_law_851 : decode cL_law 851 = .ok (.iaload, 1) := by decide +kernel
theorem dL_law_852 : decode cL_law 852 = .ok (.aload_n 0, 1) := by decide +kernel
theorem dL_law_853 : decode cL_law 853 = .ok (.iload_n 3, 1) := by decide +kernel
theorem dL_law_854 : decode cL_law 854 = .ok (.iconst 3, 1) := by decide +kernel
theorem dL_law_855 : decode cL_law 855 = .ok (.iadd, 1) := by decide +kernel
theorem dL_law_856 : decode cL_law 856 = .ok (.iaload, 1) := by decide +kernel
theorem dL_law_857 : decode cL_law 857 = .ok (.invokevirtual 100, 3) := by decide +kernel
theorem dL_law_860 : decode cL_law 860 = .ok (.aload_n 2, 1) := by decide +kernel
theorem dL_law_861 : decode cL_law 861 = .ok (.aload_n 0, 1) := by decide +kernel
theorem dL_law_862 : decode cL_law 862 = .ok (.iload_n 3, 1) := by decide +kernel
theorem dL_law_863 : decode cL_law 863 = .ok (.iconst 1, 1) := by decide +kernel
theorem dL_law_864 : decode cL_law 864 = .ok (.iadd, 1) := by decide +kernel
theorem dL_law_865 : decode cL_law 865 = .ok (.iaload, 1) := by decide +kernel
theorem dL_law_866 : decode cL_law 866 = .ok (.aload_n 0, 1) := by decide +kernel
theorem dL_law_867 : decode cL_law 867 = .ok (.iload_n 3, 1) := by decide +kernel
theorem dL_law_868 : decode cL_law 868 = .ok (.iconst 2, 1) := by decide +kernel
theorem dL_law_869 : decode cL_law 869 = .ok (.iadd, 1) := by decide +kernel
theorem dL_law_870 : decode cL_law 870 = .ok (.iaload, 1) := by decide +kernel
theorem dL_law_871 : decode cL_law 871 = .ok (.aload_n 0, 1) := by decide +kernel
theorem dL_law_872 : decode cL_law 872 = .ok (.iload_n 3, 1) := by decide +kernel
theorem dL_law_873 : decode cL_law 873 = .ok (.iconst 3, 1) := by decide +kernel
theorem dL_law_874 : decode cL_law 874 = .ok (.iadd, 1) := by decide +kernel
theorem dL_law_875 : decode cL_law 875 = .ok (.iaload, 1) := by decide +kernel
theorem dL_law_876 : decode cL_law 876 = .ok (.invokevirtual 104, 3) := by decide +kernel
theorem dL_law_879 : decode cL_law 879 = .ok (.lcmp, 1) := by decide +kernel
theorem dL_law_880 : decode cL_law 880 = .ok (.ifCond .eq 196, 3) := by decide +kernel
theorem dL_law_883 : decode cL_law 883 = .ok (.iconst 0, 1) := by decide +kernel
theorem dL_law_884 : decode cL_law 884 = .ok (.ireturn, 1) := by decide +kernel
theorem dL_law_885 : decode cL_law 885 = .ok (.aload_n 1, 1) := by decide +kernel
theorem dL_law_886 : decode cL_law 886 = .ok (.aload_n 0, 1) := by decide +kernel
theorem dL_law_887 : decode cL_law 887 = .ok (.iload_n 3, 1) := by decide +kernel
theorem dL_law_888 : decode cL_law 888 = .ok (.iconst 1, 1) := by decide +kernel
theorem dL_law_889 : decode cL_law 889 = .ok (.iadd, 1) := by decide +kernel
theorem dL_law_890 : decode cL_law 890 = .ok (.iaload, 1) := by decide +kernel
theorem dL_law_891 : decode cL_law 891 = .ok (.aload_n 0, 1) := by decide +kernel
theorem dL_law_892 : decode cL_law 892 = .ok (.iload_n 3, 1) := by decide +kernel
theorem dL_law_893 : decode cL_law 893 = .ok (.iconst 2, 1) := by decide +kernel
theorem dL_law_894 : decode cL_law 894 = .ok (.iadd, 1) := by decide +kernel
theorem dL_law_895 : decode cL_law 895 = .ok (.iaload, 1) := by decide +kernel
theorem dL_law_896 : decode cL_law 896 = .ok (.aload_n 0, 1) := by decide +kernel
theorem dL_law_897 : decode cL_law 897 = .ok (.iload_n 3, 1) := by decide +kernel
theorem dL_law_898 : decode cL_law 898 = .ok (.iconst 3, 1) := by decide +kernel
theorem dL_law_899 : decode cL_law 899 = .ok (.iadd, 1) := by decide +kernel
theorem dL_law_900 : decode cL_law 900 = .ok (.iaload, 1) := by decide +kernel
theorem dL_law_901 : decode cL_law 901 = .ok (.aload_n 0, 1) := by decide +kernel
theorem dL_law_902 : decode cL_law 902 = .ok (.iload_n 3, 1) := by decide +kernel
theorem dL_law_903 : decode cL_law 903 = .ok (.iconst 4, 1) := by decide +kernel
theorem dL_law_904 : decode cL_law 904 = .ok (.iadd, 1) := by decide +kernel
theorem dL_law_905 : decode cL_law 905 = .ok (.iaload, 1) := by decide +kernel
theorem dL_law_906 : decode cL_law 906 = .ok (.aload_n 0, 1) := by decide +kernel
theorem dL_law_907 : decode cL_law 907 = .ok (.iload_n 3, 1) := by decide +kernel
theorem dL_law_908 : decode cL_law 908 = .ok (.iconst 5, 1) := by decide +kernel
theorem dL_law_909 : decode cL_law 909 = .ok (.iadd, 1) := by decide +kernel
theorem dL_law_910 : decode cL_law 910 = .ok (.iaload, 1) := by decide +kernel
theorem dL_law_911 : decode cL_law 911 = .ok (.invokevirtual 105, 3) := by decide +kernel
theorem dL_law_914 : decode cL_law 914 = .ok (.aload_n 2, 1) := by decide +kernel
theorem dL_law_915 : decode cL_law 915 = .ok (.aload_n 0, 1) := by decide +kernel
theorem dL_law_916 : decode cL_law 916 = .ok (.iload_n 3, 1) := by decide +kernel
theorem dL_law_917 : decode cL_law 917 = .ok (.iconst 1, 1) := by decide +kernel
theorem dL_law_918 : decode cL_law 918 = .ok (.iadd, 1) := by decide +kernel
theorem dL_law_919 : decode cL_law 919 = .ok (.iaload, 1) := by decide +kernel
theorem dL_law_920 : decode cL_law 920 = .ok (.aload_n 0, 1) := by decide +kernel
theorem dL_law_921 : decode cL_law 921 = .ok (.iload_n 3, 1) := by decide +kernel
theorem dL_law_922 : decode cL_law 922 = .ok (.iconst 2, 1) := by decide +kernel
theorem dL_law_923 : decode cL_law 923 = .ok (.iadd, 1) := by decide +kernel
theorem dL_law_924 : decode cL_law 924 = .ok (.iaload, 1) := by decide +kernel
theorem dL_law_925 : decode cL_law 925 = .ok (.aload_n 0, 1) := by decide +kernel
theorem dL_law_926 : decode cL_law 926 = .ok (.iload_n 3, 1) := by decide +kernel
theorem dL_law_927 : decode cL_law 927 = .ok (.iconst 3, 1) := by decide +kernel
theorem dL_law_928 : decode cL_law 928 = .ok (.iadd, 1) := by decide +kernel
theorem dL_law_929 : decode cL_law 929 = .ok (.iaload, 1) := by decide +kernel
theorem dL_law_930 : decode cL_law 930 = .ok (.aload_n 0, 1) := by decide +kernel
theorem dL_law_931 : decode cL_law 931 = .ok (.iload_n 3, 1) := by decide +kernel
theorem dL_law_932 : decode cL_law 932 = .ok (.iconst 4, 1) := by decide +kernel
theorem dL_law_933 : decode cL_law 933 = .ok (.iadd, 1) := by decide +kernel
theorem dL_law_934 : decode cL_law 934 = .ok (.iaload, 1) := by decide +kernel
theorem dL_law_935 : decode cL_law 935 = .ok (.aload_n 0, 1) := by decide +kernel
theorem dL_law_936 : decode cL_law 936 = .ok (.iload_n 3, 1) := by decide +kernel
theorem dL_law_937 : decode cL_law 937 = .ok (.iconst 5, 1) := by decide +kernel
theorem dL_law_938 : decode cL_law 938 = .ok (.iadd, 1) := by decide +kernel
theorem dL_law_939 : decode cL_law 939 = .ok (.iaload, 1) := by decide +kernel
theorem dL_law_940 : decode cL_law 940 = .ok (.invokevirtual 108, 3) := by decide +kernel
theorem dL_law_943 : decode cL_law 943 = .ok (.if_icmp .eq 133, 3) := by decide +kernel
theorem dL_law_946 : decode cL_law 946 = .ok (.iconst 0, 1) := by decide +kernel
theorem dL_law_947 : decode cL_law 947 = .ok (.ireturn, 1) := by decide +kernel
theorem dL_law_948 : decode cL_law 948 = .ok (.aload_n 1, 1) := by decide +kernel
theorem dL_law_949 : decode cL_law 949 = .ok (.aload_n 0, 1) := by decide +kernel
theorem dL_law_950 : decode cL_law 950 = .ok (.iload_n 3, 1) := by decide +kernel
theorem dL_law_951 : decode cL_law 951 = .ok (.iconst 1, 1) := by decide +kernel
theorem dL_law_952 : decode cL_law 952 = .ok (.iadd, 1) := by decide +kernel
theorem dL_law_953 : decode cL_law 953 = .ok (.iaload, 1) := by decide +kernel
theorem dL_law_954 : decode cL_law 954 = .ok (.invokevirtual 109, 3) := by decide +kernel
theorem dL_law_957 : decode cL_law 957 = .ok (.aload_n 2, 1) := by decide +kernel
theorem dL_law_958 : decode cL_law 958 = .ok (.aload_n 0, 1) := by decide +kernel
theorem dL_law_959 : decode cL_law 959 = .ok (.iload_n 3, 1) := by decide +kernel
theorem dL_law_960 : decode cL_law 960 = .ok (.iconst 1, 1) := by decide +kernel
theorem dL_law_961 : decode cL_law 961 = .ok (.iadd, 1) := by decide +kernel
theorem dL_law_962 : decode cL_law 962 = .ok (.iaload, 1) := by decide +kernel
theorem dL_law_963 : decode cL_law 963 = .ok (.invokevirtual 112, 3) := by decide +kernel
theorem dL_law_966 : decode cL_law 966 = .ok (.if_icmp .eq 110, 3) := by decide +kernel
theorem dL_law_969 : decode cL_law 969 = .ok (.iconst 0, 1) := by decide +kernel
theorem dL_law_970 : decode cL_law 970 = .ok (.ireturn, 1) := by decide +kernel
theorem dL_law_971 : decode cL_law 971 = .ok (.aload_n 1, 1) := by decide +kernel
theorem dL_law_972 : decode cL_law 972 = .ok (.aload_n 0, 1) := by decide +kernel
theorem dL_law_973 : decode cL_law 973 = .ok (.iload_n 3, 1) := by decide +kernel
theorem dL_law_974 : decode cL_law 974 = .ok (.iconst 1, 1) := by decide +kernel
theorem dL_law_975 : decode cL_law 975 = .ok (.iadd, 1) := by decide +kernel
theorem dL_law_976 : decode cL_law 976 = .ok (.iaload, 1) := by decide +kernel
theorem dL_law_977 : decode cL_law 977 = .ok (.invokevirtual 113, 3) := by decide +kernel
theorem dL_law_980 : decode cL_law 980 = .ok (.aload_n 2, 1) := by decide +kernel
theorem dL_law_981 : decode cL_law 981 = .ok (.aload_n 0, 1) := by decide +kernel
theorem dL_law_982 : decode cL_law 982 = .ok (.iload_n 3, 1) := by decide +kernel
theorem dL_law_983 : decode cL_law 983 = .ok (.iconst 1, 1) := by decide +kernel
theorem dL_law_984 : decode cL_law 984 = .ok (.iadd, 1) := by decide +kernel
theorem dL_law_985 : decode cL_law 985 = .ok (.iaload, 1) := by decide +kernel
theorem dL_law_986 : decode cL_law 986 = .ok (.invokevirtual 116, 3) := by decide +kernel
theorem dL_law_989 : decode cL_law 989 = .ok (.if_icmp .eq 87, 3) := by decide +kernel
theorem dL_law_992 : decode cL_law 992 = .ok (.iconst 0, 1) := by decide +kernel
theorem dL_law_993 : decode cL_law 993 = .ok (.ireturn, 1) := by decide +kernel
theorem dL_law_994 : decode cL_law 994 = .ok (.aload_n 1, 1) := by decide +kernel
theorem dL_law_995 : decode cL_law 995 = .ok (.aload_n 0, 1) := by decide +kernel
theorem dL_law_996 : decode cL_law 996 = .ok (.iload_n 3, 1) := by decide +kernel
theorem dL_law_997 : decode cL_law 997 = .ok (.iconst 1, 1) := by decide +kernel
theorem dL_law_998 : decode cL_law 998 = .ok (.iadd, 1) := by decide +kernel
theorem dL_law_999 : decode cL_law 999 = .ok (.iaload, 1) := by decide +kernel
theorem dL_law_1000 : decode cL_law 1000 = .ok (.aload_n 0, 1) := by decide +kernel
theorem dL_law_1001 : decode cL_law 1001 = .ok (.iload_n 3, 1) := by decide +kernel
theorem dL_law_1002 : decode cL_law 1002 = .ok (.iconst 2, 1) := by decide +kernel
theorem dL_law_1003 : decode cL_law 1003 = .ok (.iadd, 1) := by decide +kernel
theorem dL_law_1004 : decode cL_law 1004 = .ok (.iaload, 1) := by decide +kernel
theorem dL_law_1005 : decode cL_law 1005 = .ok (.invokevirtual 117, 3) := by decide +kernel
theorem dL_law_1008 : decode cL_law 1008 = .ok (.aload_n 2, 1) := by decide +kernel
theorem dL_law_1009 : decode cL_law 1009 = .ok (.aload_n 0, 1) := by decide +kernel
theorem dL_law_1010 : decode cL_law 1010 = .ok (.iload_n 3, 1) := by decide +kernel
theorem dL_law_1011 : decode cL_law 1011 = .ok (.iconst 1, 1) := by decide +kernel
theorem dL_law_1012 : decode cL_law 1012 = .ok (.iadd, 1) := by decide +kernel
theorem dL_law_1013 : decode cL_law 1013 = .ok (.iaload, 1) := by decide +kernel
theorem dL_law_1014 : decode cL_law 1014 = .ok (.aload_n 0, 1) := by decide +kernel
theorem dL_law_1015 : decode cL_law 1015 = .ok (.iload_n 3, 1) := by decide +kernel
theorem dL_law_1016 : decode cL_law 1016 = .ok (.iconst 2, 1) := by decide +kernel
theorem dL_law_1017 : decode cL_law 1017 = .ok (.iadd, 1) := by decide +kernel
theorem dL_law_1018 : decode cL_law 1018 = .ok (.iaload, 1) := by decide +kernel
theorem dL_law_1019 : decode cL_law 1019 = .ok (.invokevirtual 120, 3) := by decide +kernel
theorem dL_law_1022 : decode cL_law 1022 = .ok (.if_icmp .eq 54, 3) := by decide +kernel
theorem dL_law_1025 : decode cL_law 1025 = .ok (.iconst 0, 1) := by decide +kernel
theorem dL_law_1026 : decode cL_law 1026 = .ok (.ireturn, 1) := by decide +kernel
theorem dL_law_1027 : decode cL_law 1027 = .ok (.aload_n 1, 1) := by decide +kernel
theorem dL_law_1028 : decode cL_law 1028 = .ok (.invokevirtual 121, 3) := by decide +kernel
theorem dL_law_1031 : decode cL_law 1031 = .ok (.aload_n 2, 1) := by decide +kernel
theorem dL_law_1032 : decode cL_law 1032 = .ok (.invokevirtual 124, 3) := by decide +kernel
theorem dL_law_1035 : decode cL_law 1035 = .ok (.if_icmp .eq 41, 3) := by decide +kernel
theorem dL_law_1038 : decode cL_law 1038 = .ok (.iconst 0, 1) := by decide +kernel
theorem dL_law_1039 : decode cL_law 1039 = .ok (.ireturn, 1) := by decide +kernel
theorem dL_law_1040 : decode cL_law 1040 = .ok (.aload_n 1, 1) := by decide +kernel
theorem dL_law_1041 : decode cL_law 1041 = .ok (.invokevirtual 125, 3) := by decide +kernel
theorem dL_law_1044 : decode cL_law 1044 = .ok (.aload_n 2, 1) := by decide +kernel
theorem dL_law_1045 : decode cL_law 1045 = .ok (.invokevirtual 128, 3) := by decide +kernel
theorem dL_law_1048 : decode cL_law 1048 = .ok (.if_icmp .eq 28, 3) := by decide +kernel
theorem dL_law_1051 : decode cL_law 1051 = .ok (.iconst 0, 1) := by decide +kernel
theorem dL_law_1052 : decode cL_law 1052 = .ok (.ireturn, 1) := by decide +kernel
theorem dL_law_1053 : decode cL_law 1053 = .ok (.aload_n 1, 1) := by decide +kernel
theorem dL_law_1054 : decode cL_law 1054 = .ok (.aload_n 0, 1) := by decide +kernel
theorem dL_law_1055 : decode cL_law 1055 = .ok (.iload_n 3, 1) := by decide +kernel
theorem dL_law_1056 : decode cL_law 1056 = .ok (.iconst 1, 1) := by decide +kernel
theorem dL_law_1057 : decode cL_law 1057 = .ok (.iadd, 1) := by decide +kernel
theorem dL_law_1058 : decode cL_law 1058 = .ok (.iaload, 1) := by decide +kernel
theorem dL_law_1059 : decode cL_law 1059 = .ok (.invokevirtual 129, 3) := by decide +kernel
theorem dL_law_1062 : decode cL_law 1062 = .ok (.aload_n 2, 1) := by decide +kernel
theorem dL_law_1063 : decode cL_law 1063 = .ok (.aload_n 0, 1) := by decide +kernel
theorem dL_law_1064 : decode cL_law 1064 = .ok (.iload_n 3, 1) := by decide +kernel
theorem dL_law_1065 : decode cL_law 1065 = .ok (.iconst 1, 1) := by decide +kernel
theorem dL_law_1066 : decode cL_law 1066 = .ok (.iadd, 1) := by decide +kernel
theorem dL_law_1067 : decode cL_law 1067 = .ok (.iaload, 1) := by decide +kernel
theorem dL_law_1068 : decode cL_law 1068 = .ok (.invokevirtual 132, 3) := by decide +kernel
theorem dL_law_1071 : decode cL_law 1071 = .ok (.if_icmp .eq 5, 3) := by decide +kernel
theorem dL_law_1074 : decode cL_law 1074 = .ok (.iconst 0, 1) := by decide +kernel
theorem dL_law_1075 : decode cL_law 1075 = .ok (.ireturn, 1) := by decide +kernel
theorem dL_law_1076 : decode cL_law 1076 = .ok (.iinc 3 6, 3) := by decide +kernel
theorem dL_law_1079 : decode cL_law 1079 = .ok (.goto (-1061), 3) := by decide +kernel
theorem dL_law_1082 : decode cL_law 1082 = .ok (.iconst 1, 1) := by decide +kernel
theorem dL_law_1083 : decode cL_law 1083 = .ok (.ireturn, 1) := by decide +kernel
end
