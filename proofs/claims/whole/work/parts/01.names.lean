def lw_okq (q : MethodName × Nat) : Prop := (q.1.cls ≠ "java/lang/invoke/MethodHandle" ∧ q.1.cls ≠ "java/lang/invoke/VarHandle") ∧ Cond.instantiable q.1.cls q.2 ∈ tables_1 ∧ Cond.privateMethod q.1 ∈ tables_1 ∧ Cond.instanceMethod q.1 ∈ tables_1
theorem lw_p0 : lw_okq (⟨"BookPairs", "failed", "(I)I"⟩, 12) := ⟨⟨by decide +kernel, by decide +kernel⟩, List.mem_of_getElem? (i := 11) (by decide +kernel), List.mem_of_getElem? (i := 210) (by decide +kernel), List.mem_of_getElem? (i := 211) (by decide +kernel)⟩
theorem lw_p1 : lw_okq (⟨"BookPairs$TextTaker", "goesOn", "(ILBookPairs$Books;)Z"⟩, 1) := ⟨⟨by decide +kernel, by decide +kernel⟩, List.mem_of_getElem? (i := 123) (by decide +kernel), List.mem_of_getElem? (i := 222) (by decide +kernel), List.mem_of_getElem? (i := 223) (by decide +kernel)⟩
theorem lw_p2 : lw_okq (⟨"BookPairs$TextTaker", "goesOnInLeft", "(ILBookPairs$Books;)Z"⟩, 1) := ⟨⟨by decide +kernel, by decide +kernel⟩, List.mem_of_getElem? (i := 123) (by decide +kernel), List.mem_of_getElem? (i := 226) (by decide +kernel), List.mem_of_getElem? (i := 227) (by decide +kernel)⟩
theorem lw_p3 : lw_okq (⟨"BookPairs$TextTaker", "goesOnInRight", "(ILBookPairs$Books;)Z"⟩, 1) := ⟨⟨by decide +kernel, by decide +kernel⟩, List.mem_of_getElem? (i := 123) (by decide +kernel), List.mem_of_getElem? (i := 239) (by decide +kernel), List.mem_of_getElem? (i := 240) (by decide +kernel)⟩
theorem lw_p4 : lw_okq (⟨"BookPairs", "alignmentOfNow", "()LBookPairs$Aligner;"⟩, 12) := ⟨⟨by decide +kernel, by decide +kernel⟩, List.mem_of_getElem? (i := 11) (by decide +kernel), List.mem_of_getElem? (i := 262) (by decide +kernel), List.mem_of_getElem? (i := 263) (by decide +kernel)⟩
theorem lw_p5 : lw_okq (⟨"BookPairs$Aligner", "fillLeast", "(I)V"⟩, 11) := ⟨⟨by decide +kernel, by decide +kernel⟩, List.mem_of_getElem? (i := 79) (by decide +kernel), List.mem_of_getElem? (i := 304) (by decide +kernel), List.mem_of_getElem? (i := 305) (by decide +kernel)⟩
theorem lw_p6 : lw_okq (⟨"BookPairs$Aligner", "end", "()I"⟩, 11) := ⟨⟨by decide +kernel, by decide +kernel⟩, List.mem_of_getElem? (i := 79) (by decide +kernel), List.mem_of_getElem? (i := 308) (by decide +kernel), List.mem_of_getElem? (i := 309) (by decide +kernel)⟩
theorem lw_p7 : lw_okq (⟨"BookPairs$Aligner", "fillOthers", "()V"⟩, 11) := ⟨⟨by decide +kernel, by decide +kernel⟩, List.mem_of_getElem? (i := 79) (by decide +kernel), List.mem_of_getElem? (i := 317) (by decide +kernel), List.mem_of_getElem? (i := 318) (by decide +kernel)⟩
theorem lw_p8 : lw_okq (⟨"BookPairs$Aligner", "fillOthersAt", "(I)V"⟩, 11) := ⟨⟨by decide +kernel, by decide +kernel⟩, List.mem_of_getElem? (i := 79) (by decide +kernel), List.mem_of_getElem? (i := 321) (by decide +kernel), List.mem_of_getElem? (i := 322) (by decide +kernel)⟩
theorem lw_p9 : lw_okq (⟨"BookPairs$Aligner", "addOthers", "(IIII)V"⟩, 11) := ⟨⟨by decide +kernel, by decide +kernel⟩, List.mem_of_getElem? (i := 79) (by decide +kernel), List.mem_of_getElem? (i := 325) (by decide +kernel), List.mem_of_getElem? (i := 326) (by decide +kernel)⟩
theorem lw_p10 : lw_okq (⟨"BookPairs$Aligner", "walkBest", "()V"⟩, 11) := ⟨⟨by decide +kernel, by decide +kernel⟩, List.mem_of_getElem? (i := 79) (by decide +kernel), List.mem_of_getElem? (i := 332) (by decide +kernel), List.mem_of_getElem? (i := 333) (by decide +kernel)⟩
theorem lw_p11 : lw_okq (⟨"BookPairs", "supposeDay", "(LBookPairs$Sheet;II)I"⟩, 12) := ⟨⟨by decide +kernel, by decide +kernel⟩, List.mem_of_getElem? (i := 11) (by decide +kernel), List.mem_of_getElem? (i := 429) (by decide +kernel), List.mem_of_getElem? (i := 430) (by decide +kernel)⟩
theorem lw_p12 : lw_okq (⟨"BookPairs", "answerOfDay", "(II)I"⟩, 12) := ⟨⟨by decide +kernel, by decide +kernel⟩, List.mem_of_getElem? (i := 11) (by decide +kernel), List.mem_of_getElem? (i := 438) (by decide +kernel), List.mem_of_getElem? (i := 439) (by decide +kernel)⟩
theorem lw_p13 : lw_okq (⟨"BookPairs", "readingsHoldIfSupposed", "()Z"⟩, 12) := ⟨⟨by decide +kernel, by decide +kernel⟩, List.mem_of_getElem? (i := 11) (by decide +kernel), List.mem_of_getElem? (i := 464) (by decide +kernel), List.mem_of_getElem? (i := 465) (by decide +kernel)⟩
theorem lw_p14 : lw_okq (⟨"BookPairs", "doubleBody", "(I)I"⟩, 12) := ⟨⟨by decide +kernel, by decide +kernel⟩, List.mem_of_getElem? (i := 11) (by decide +kernel), List.mem_of_getElem? (i := 520) (by decide +kernel), List.mem_of_getElem? (i := 521) (by decide +kernel)⟩
theorem lw_p15 : lw_okq (⟨"BookPairs", "leaveTrace", "(I)V"⟩, 12) := ⟨⟨by decide +kernel, by decide +kernel⟩, List.mem_of_getElem? (i := 11) (by decide +kernel), List.mem_of_getElem? (i := 524) (by decide +kernel), List.mem_of_getElem? (i := 525) (by decide +kernel)⟩
def lw_privs_1 : List (MethodName × Nat) := [(⟨"BookPairs", "failed", "(I)I"⟩, 12), (⟨"BookPairs$TextTaker", "goesOn", "(ILBookPairs$Books;)Z"⟩, 1), (⟨"BookPairs$TextTaker", "goesOnInLeft", "(ILBookPairs$Books;)Z"⟩, 1), (⟨"BookPairs$TextTaker", "goesOnInRight", "(ILBookPairs$Books;)Z"⟩, 1), (⟨"BookPairs", "alignmentOfNow", "()LBookPairs$Aligner;"⟩, 12), (⟨"BookPairs$Aligner", "fillLeast", "(I)V"⟩, 11), (⟨"BookPairs$Aligner", "end", "()I"⟩, 11), (⟨"BookPairs$Aligner", "fillOthers", "()V"⟩, 11), (⟨"BookPairs$Aligner", "fillOthersAt", "(I)V"⟩, 11), (⟨"BookPairs$Aligner", "addOthers", "(IIII)V"⟩, 11), (⟨"BookPairs$Aligner", "walkBest", "()V"⟩, 11), (⟨"BookPairs", "supposeDay", "(LBookPairs$Sheet;II)I"⟩, 12), (⟨"BookPairs", "answerOfDay", "(II)I"⟩, 12), (⟨"BookPairs", "readingsHoldIfSupposed", "()Z"⟩, 12), (⟨"BookPairs", "doubleBody", "(I)I"⟩, 12), (⟨"BookPairs", "leaveTrace", "(I)V"⟩, 12)]
theorem lw_r1 : ∀ q ∈ lw_privs_1, lw_okq q := List.forall_mem_cons.mpr ⟨lw_p0, List.forall_mem_cons.mpr ⟨lw_p1, List.forall_mem_cons.mpr ⟨lw_p2, List.forall_mem_cons.mpr ⟨lw_p3, List.forall_mem_cons.mpr ⟨lw_p4, List.forall_mem_cons.mpr ⟨lw_p5, List.forall_mem_cons.mpr ⟨lw_p6, List.forall_mem_cons.mpr ⟨lw_p7, List.forall_mem_cons.mpr ⟨lw_p8, List.forall_mem_cons.mpr ⟨lw_p9, List.forall_mem_cons.mpr ⟨lw_p10, List.forall_mem_cons.mpr ⟨lw_p11, List.forall_mem_cons.mpr ⟨lw_p12, List.forall_mem_cons.mpr ⟨lw_p13, List.forall_mem_cons.mpr ⟨lw_p14, List.forall_mem_cons.mpr ⟨lw_p15, fun _ h => absurd h List.not_mem_nil⟩⟩⟩⟩⟩⟩⟩⟩⟩⟩⟩⟩⟩⟩⟩⟩
theorem lw_p16 : lw_okq (⟨"BookPairs", "longBody", "(I)I"⟩, 12) := ⟨⟨by decide +kernel, by decide +kernel⟩, List.mem_of_getElem? (i := 11) (by decide +kernel), List.mem_of_getElem? (i := 528) (by decide +kernel), List.mem_of_getElem? (i := 529) (by decide +kernel)⟩
theorem lw_p17 : lw_okq (⟨"BookPairs", "plainBody", "(I)I"⟩, 12) := ⟨⟨by decide +kernel, by decide +kernel⟩, List.mem_of_getElem? (i := 11) (by decide +kernel), List.mem_of_getElem? (i := 532) (by decide +kernel), List.mem_of_getElem? (i := 533) (by decide +kernel)⟩
theorem lw_p18 : lw_okq (⟨"BookPairs", "doublesOwnBody", "(I)I"⟩, 12) := ⟨⟨by decide +kernel, by decide +kernel⟩, List.mem_of_getElem? (i := 11) (by decide +kernel), List.mem_of_getElem? (i := 540) (by decide +kernel), List.mem_of_getElem? (i := 541) (by decide +kernel)⟩
theorem lw_p19 : lw_okq (⟨"BookPairs", "lentBody", "(I)I"⟩, 12) := ⟨⟨by decide +kernel, by decide +kernel⟩, List.mem_of_getElem? (i := 11) (by decide +kernel), List.mem_of_getElem? (i := 544) (by decide +kernel), List.mem_of_getElem? (i := 545) (by decide +kernel)⟩
theorem lw_p20 : lw_okq (⟨"BookPairsModel", "against", "(IIII)I"⟩, 32) := ⟨⟨by decide +kernel, by decide +kernel⟩, List.mem_of_getElem? (i := 564) (by decide +kernel), List.mem_of_getElem? (i := 680) (by decide +kernel), List.mem_of_getElem? (i := 681) (by decide +kernel)⟩
theorem lw_p21 : lw_okq (⟨"BookPairsModel", "fails", "(I)I"⟩, 32) := ⟨⟨by decide +kernel, by decide +kernel⟩, List.mem_of_getElem? (i := 564) (by decide +kernel), List.mem_of_getElem? (i := 684) (by decide +kernel), List.mem_of_getElem? (i := 685) (by decide +kernel)⟩
theorem lw_p22 : lw_okq (⟨"BookPairsModel", "readAll", "(I)Z"⟩, 32) := ⟨⟨by decide +kernel, by decide +kernel⟩, List.mem_of_getElem? (i := 564) (by decide +kernel), List.mem_of_getElem? (i := 688) (by decide +kernel), List.mem_of_getElem? (i := 689) (by decide +kernel)⟩
theorem lw_p23 : lw_okq (⟨"BookPairsModel", "isSign", "(II)Z"⟩, 32) := ⟨⟨by decide +kernel, by decide +kernel⟩, List.mem_of_getElem? (i := 564) (by decide +kernel), List.mem_of_getElem? (i := 692) (by decide +kernel), List.mem_of_getElem? (i := 693) (by decide +kernel)⟩
theorem lw_p24 : lw_okq (⟨"BookPairsModel", "readKindNext", "(I)Z"⟩, 32) := ⟨⟨by decide +kernel, by decide +kernel⟩, List.mem_of_getElem? (i := 564) (by decide +kernel), List.mem_of_getElem? (i := 696) (by decide +kernel), List.mem_of_getElem? (i := 697) (by decide +kernel)⟩
theorem lw_p25 : lw_okq (⟨"BookPairsModel", "readSentence", "(II)Z"⟩, 32) := ⟨⟨by decide +kernel, by decide +kernel⟩, List.mem_of_getElem? (i := 564) (by decide +kernel), List.mem_of_getElem? (i := 700) (by decide +kernel), List.mem_of_getElem? (i := 701) (by decide +kernel)⟩
theorem lw_p26 : lw_okq (⟨"BookPairsModel", "isLeft", "(I)Z"⟩, 32) := ⟨⟨by decide +kernel, by decide +kernel⟩, List.mem_of_getElem? (i := 564) (by decide +kernel), List.mem_of_getElem? (i := 708) (by decide +kernel), List.mem_of_getElem? (i := 709) (by decide +kernel)⟩
theorem lw_p27 : lw_okq (⟨"BookPairsModel", "lengthOf", "(I)I"⟩, 32) := ⟨⟨by decide +kernel, by decide +kernel⟩, List.mem_of_getElem? (i := 564) (by decide +kernel), List.mem_of_getElem? (i := 712) (by decide +kernel), List.mem_of_getElem? (i := 713) (by decide +kernel)⟩
theorem lw_p28 : lw_okq (⟨"BookPairsModel", "findBest", "()I"⟩, 32) := ⟨⟨by decide +kernel, by decide +kernel⟩, List.mem_of_getElem? (i := 564) (by decide +kernel), List.mem_of_getElem? (i := 716) (by decide +kernel), List.mem_of_getElem? (i := 717) (by decide +kernel)⟩
theorem lw_p29 : lw_okq (⟨"BookPairsModel", "findAll", "(I)I"⟩, 32) := ⟨⟨by decide +kernel, by decide +kernel⟩, List.mem_of_getElem? (i := 564) (by decide +kernel), List.mem_of_getElem? (i := 720) (by decide +kernel), List.mem_of_getElem? (i := 721) (by decide +kernel)⟩
theorem lw_p30 : lw_okq (⟨"BookPairsModel", "findStand", "(III)V"⟩, 32) := ⟨⟨by decide +kernel, by decide +kernel⟩, List.mem_of_getElem? (i := 564) (by decide +kernel), List.mem_of_getElem? (i := 724) (by decide +kernel), List.mem_of_getElem? (i := 725) (by decide +kernel)⟩
theorem lw_p31 : lw_okq (⟨"BookPairsModel", "isStand", "(III)Z"⟩, 32) := ⟨⟨by decide +kernel, by decide +kernel⟩, List.mem_of_getElem? (i := 564) (by decide +kernel), List.mem_of_getElem? (i := 729) (by decide +kernel), List.mem_of_getElem? (i := 730) (by decide +kernel)⟩
def lw_privs_2 : List (MethodName × Nat) := [(⟨"BookPairs", "longBody", "(I)I"⟩, 12), (⟨"BookPairs", "plainBody", "(I)I"⟩, 12), (⟨"BookPairs", "doublesOwnBody", "(I)I"⟩, 12), (⟨"BookPairs", "lentBody", "(I)I"⟩, 12), (⟨"BookPairsModel", "against", "(IIII)I"⟩, 32), (⟨"BookPairsModel", "fails", "(I)I"⟩, 32), (⟨"BookPairsModel", "readAll", "(I)Z"⟩, 32), (⟨"BookPairsModel", "isSign", "(II)Z"⟩, 32), (⟨"BookPairsModel", "readKindNext", "(I)Z"⟩, 32), (⟨"BookPairsModel", "readSentence", "(II)Z"⟩, 32), (⟨"BookPairsModel", "isLeft", "(I)Z"⟩, 32), (⟨"BookPairsModel", "lengthOf", "(I)I"⟩, 32), (⟨"BookPairsModel", "findBest", "()I"⟩, 32), (⟨"BookPairsModel", "findAll", "(I)I"⟩, 32), (⟨"BookPairsModel", "findStand", "(III)V"⟩, 32), (⟨"BookPairsModel", "isStand", "(III)Z"⟩, 32)]
theorem lw_r2 : ∀ q ∈ lw_privs_2, lw_okq q := List.forall_mem_cons.mpr ⟨lw_p16, List.forall_mem_cons.mpr ⟨lw_p17, List.forall_mem_cons.mpr ⟨lw_p18, List.forall_mem_cons.mpr ⟨lw_p19, List.forall_mem_cons.mpr ⟨lw_p20, List.forall_mem_cons.mpr ⟨lw_p21, List.forall_mem_cons.mpr ⟨lw_p22, List.forall_mem_cons.mpr ⟨lw_p23, List.forall_mem_cons.mpr ⟨lw_p24, List.forall_mem_cons.mpr ⟨lw_p25, List.forall_mem_cons.mpr ⟨lw_p26, List.forall_mem_cons.mpr ⟨lw_p27, List.forall_mem_cons.mpr ⟨lw_p28, List.forall_mem_cons.mpr ⟨lw_p29, List.forall_mem_cons.mpr ⟨lw_p30, List.forall_mem_cons.mpr ⟨lw_p31, fun _ h => absurd h List.not_mem_nil⟩⟩⟩⟩⟩⟩⟩⟩⟩⟩⟩⟩⟩⟩⟩⟩
theorem lw_p32 : lw_okq (⟨"BookPairsModel", "costOf", "(III)I"⟩, 32) := ⟨⟨by decide +kernel, by decide +kernel⟩, List.mem_of_getElem? (i := 564) (by decide +kernel), List.mem_of_getElem? (i := 739) (by decide +kernel), List.mem_of_getElem? (i := 740) (by decide +kernel)⟩
theorem lw_p33 : lw_okq (⟨"BookPairsModel", "comes", "(III)V"⟩, 32) := ⟨⟨by decide +kernel, by decide +kernel⟩, List.mem_of_getElem? (i := 564) (by decide +kernel), List.mem_of_getElem? (i := 746) (by decide +kernel), List.mem_of_getElem? (i := 747) (by decide +kernel)⟩
theorem lw_p34 : lw_okq (⟨"BookPairsModel", "isOnBest", "(III)Z"⟩, 32) := ⟨⟨by decide +kernel, by decide +kernel⟩, List.mem_of_getElem? (i := 564) (by decide +kernel), List.mem_of_getElem? (i := 750) (by decide +kernel), List.mem_of_getElem? (i := 751) (by decide +kernel)⟩
theorem lw_p35 : lw_okq (⟨"BookPairsModel", "pairedWith", "(II)I"⟩, 32) := ⟨⟨by decide +kernel, by decide +kernel⟩, List.mem_of_getElem? (i := 564) (by decide +kernel), List.mem_of_getElem? (i := 754) (by decide +kernel), List.mem_of_getElem? (i := 755) (by decide +kernel)⟩
theorem lw_p36 : lw_okq (⟨"BookPairsModel", "isRight", "(I)Z"⟩, 32) := ⟨⟨by decide +kernel, by decide +kernel⟩, List.mem_of_getElem? (i := 564) (by decide +kernel), List.mem_of_getElem? (i := 762) (by decide +kernel), List.mem_of_getElem? (i := 763) (by decide +kernel)⟩
theorem lw_p37 : lw_okq (⟨"BookPairsModel", "goesUp", "(I)V"⟩, 32) := ⟨⟨by decide +kernel, by decide +kernel⟩, List.mem_of_getElem? (i := 564) (by decide +kernel), List.mem_of_getElem? (i := 778) (by decide +kernel), List.mem_of_getElem? (i := 779) (by decide +kernel)⟩
theorem lw_p38 : lw_okq (⟨"BookPairsModel", "tellBest", "(I)I"⟩, 32) := ⟨⟨by decide +kernel, by decide +kernel⟩, List.mem_of_getElem? (i := 564) (by decide +kernel), List.mem_of_getElem? (i := 786) (by decide +kernel), List.mem_of_getElem? (i := 787) (by decide +kernel)⟩
theorem lw_p39 : lw_okq (⟨"BookPairsModel", "keep", "()V"⟩, 32) := ⟨⟨by decide +kernel, by decide +kernel⟩, List.mem_of_getElem? (i := 564) (by decide +kernel), List.mem_of_getElem? (i := 805) (by decide +kernel), List.mem_of_getElem? (i := 806) (by decide +kernel)⟩
theorem lw_p40 : lw_okq (⟨"BookPairsModel", "goDay", "(II)I"⟩, 32) := ⟨⟨by decide +kernel, by decide +kernel⟩, List.mem_of_getElem? (i := 564) (by decide +kernel), List.mem_of_getElem? (i := 809) (by decide +kernel), List.mem_of_getElem? (i := 810) (by decide +kernel)⟩
theorem lw_p41 : lw_okq (⟨"BookPairsModel", "does", "(II)Z"⟩, 32) := ⟨⟨by decide +kernel, by decide +kernel⟩, List.mem_of_getElem? (i := 564) (by decide +kernel), List.mem_of_getElem? (i := 813) (by decide +kernel), List.mem_of_getElem? (i := 814) (by decide +kernel)⟩
theorem lw_p42 : lw_okq (⟨"BookPairsModel", "tellDay", "(I)I"⟩, 32) := ⟨⟨by decide +kernel, by decide +kernel⟩, List.mem_of_getElem? (i := 564) (by decide +kernel), List.mem_of_getElem? (i := 817) (by decide +kernel), List.mem_of_getElem? (i := 818) (by decide +kernel)⟩
theorem lw_p43 : lw_okq (⟨"BookPairsModel", "putBack", "()V"⟩, 32) := ⟨⟨by decide +kernel, by decide +kernel⟩, List.mem_of_getElem? (i := 564) (by decide +kernel), List.mem_of_getElem? (i := 821) (by decide +kernel), List.mem_of_getElem? (i := 822) (by decide +kernel)⟩
theorem lw_p44 : lw_okq (⟨"BookPairsModel", "areSo", "()Z"⟩, 32) := ⟨⟨by decide +kernel, by decide +kernel⟩, List.mem_of_getElem? (i := 564) (by decide +kernel), List.mem_of_getElem? (i := 845) (by decide +kernel), List.mem_of_getElem? (i := 846) (by decide +kernel)⟩
theorem lw_p45 : lw_okq (⟨"BookPairsModel", "lost", "(I)J"⟩, 32) := ⟨⟨by decide +kernel, by decide +kernel⟩, List.mem_of_getElem? (i := 564) (by decide +kernel), List.mem_of_getElem? (i := 877) (by decide +kernel), List.mem_of_getElem? (i := 878) (by decide +kernel)⟩
theorem lw_p46 : lw_okq (⟨"BookPairsModel", "begins", "(I)V"⟩, 32) := ⟨⟨by decide +kernel, by decide +kernel⟩, List.mem_of_getElem? (i := 564) (by decide +kernel), List.mem_of_getElem? (i := 889) (by decide +kernel), List.mem_of_getElem? (i := 890) (by decide +kernel)⟩
def lw_privs_3 : List (MethodName × Nat) := [(⟨"BookPairsModel", "costOf", "(III)I"⟩, 32), (⟨"BookPairsModel", "comes", "(III)V"⟩, 32), (⟨"BookPairsModel", "isOnBest", "(III)Z"⟩, 32), (⟨"BookPairsModel", "pairedWith", "(II)I"⟩, 32), (⟨"BookPairsModel", "isRight", "(I)Z"⟩, 32), (⟨"BookPairsModel", "goesUp", "(I)V"⟩, 32), (⟨"BookPairsModel", "tellBest", "(I)I"⟩, 32), (⟨"BookPairsModel", "keep", "()V"⟩, 32), (⟨"BookPairsModel", "goDay", "(II)I"⟩, 32), (⟨"BookPairsModel", "does", "(II)Z"⟩, 32), (⟨"BookPairsModel", "tellDay", "(I)I"⟩, 32), (⟨"BookPairsModel", "putBack", "()V"⟩, 32), (⟨"BookPairsModel", "areSo", "()Z"⟩, 32), (⟨"BookPairsModel", "lost", "(I)J"⟩, 32), (⟨"BookPairsModel", "begins", "(I)V"⟩, 32)]
theorem lw_r3 : ∀ q ∈ lw_privs_3, lw_okq q := List.forall_mem_cons.mpr ⟨lw_p32, List.forall_mem_cons.mpr ⟨lw_p33, List.forall_mem_cons.mpr ⟨lw_p34, List.forall_mem_cons.mpr ⟨lw_p35, List.forall_mem_cons.mpr ⟨lw_p36, List.forall_mem_cons.mpr ⟨lw_p37, List.forall_mem_cons.mpr ⟨lw_p38, List.forall_mem_cons.mpr ⟨lw_p39, List.forall_mem_cons.mpr ⟨lw_p40, List.forall_mem_cons.mpr ⟨lw_p41, List.forall_mem_cons.mpr ⟨lw_p42, List.forall_mem_cons.mpr ⟨lw_p43, List.forall_mem_cons.mpr ⟨lw_p44, List.forall_mem_cons.mpr ⟨lw_p45, List.forall_mem_cons.mpr ⟨lw_p46, fun _ h => absurd h List.not_mem_nil⟩⟩⟩⟩⟩⟩⟩⟩⟩⟩⟩⟩⟩⟩⟩
def lw_privs : List (MethodName × Nat) := lw_privs_1 ++ (lw_privs_2 ++ (lw_privs_3))
def lw_tbl : List Cond := k2_sels lw_privs ++ tables_1
theorem lw_privs_ok : ∀ q ∈ lw_privs, lw_okq q := by
  show ∀ q ∈ lw_privs_1 ++ (lw_privs_2 ++ (lw_privs_3)), lw_okq q
  exact List.forall_mem_append.mpr ⟨lw_r1, List.forall_mem_append.mpr ⟨lw_r2, lw_r3⟩⟩

theorem goodIn_r {big : List Cond} (ws : List Cond) (ps : List Nat) (hp : ws = ps.filterMap (fun i => big[i]?)) (h : ws.all goodWord = true) : GoodIn big ws := by
  intro w hw
  have h1 := List.all_eq_true.mp h w hw
  rw [hp] at hw
  obtain ⟨i, -, hi⟩ := List.mem_filterMap.mp hw
  have hm : w ∈ big := by first | exact List.mem_of_getElem? hi | exact List.getElem?_mem hi
  exact ⟨hm, good_of_word h1⟩
theorem goodIn_app {big a b : List Cond} (ha : GoodIn big a) (hb : GoodIn big b) : GoodIn big (a ++ b) := fun w h => (List.mem_append.mp h).elim (ha w) (hb w)
theorem goodIn_ca {big a b : List Cond} {c : Cond} (ha : GoodIn big (c :: a)) (hb : GoodIn big b) : GoodIn big (c :: (a ++ b)) := fun w h => (List.mem_cons.mp h).elim (fun e => ha w (List.mem_cons.mpr (Or.inl e))) (fun h => (List.mem_append.mp h).elim (fun h => ha w (List.mem_cons.mpr (Or.inr h))) (hb w))
theorem goodIn_sub {big ws : List Cond} (hm : ∀ w ∈ ws, w ∈ big) (h : ws.all goodWord = true) : GoodIn big ws := fun w hw => ⟨hm w hw, good_of_word (List.all_eq_true.mp h w hw)⟩

def RX0 : String := "BookPairs$Aligner"
def TX0 : u_T := fun k => match k with
  | 0 => ("BookPairs$Aligner", "pairCosts", "[I", true)
  | 1 => ("BookPairs$Aligner", "leastCosts", "[I", true)
  | 2 => ("BookPairs$Aligner", "nextCosts", "[I", true)
  | 3 => ("BookPairs$Aligner", "alikes", "[I", true)
  | 4 => ("BookPairs$Aligner", "firstSorts", "[I", true)
  | 5 => ("BookPairs$Aligner", "sorts", "[I", true)
  | 6 => ("BookPairs$Aligner", "leftsAhead", "[I", true)
  | 7 => ("BookPairs$Aligner", "rightsAhead", "[I", true)
  | 8 => ("BookPairs$Aligner", "leftCount", "I", false)
  | 9 => ("BookPairs$Aligner", "rightCount", "I", false)
  | _ => ("BookPairs$Aligner", "pairCount", "I", false)
def tyX0 : Nat → FieldType := fun k => match k with
  | 0 => .array .int
  | 1 => .array .int
  | 2 => .array .int
  | 3 => .array .int
  | 4 => .array .int
  | 5 => .array .int
  | 6 => .array .int
  | 7 => .array .int
  | 8 => .int
  | 9 => .int
  | _ => .int
abbrev wsX00 : List Cond := u_ws RX0 TX0 11
theorem nmX0 : ∀ a, a < 11 → ∀ b, b < 11 → a ≠ b → (TX0 a).2.1 ≠ (TX0 b).2.1 := by decide +kernel
theorem tyX0_ok : ∀ k, k < 11 → parseFieldDescriptor (TX0 k).2.2.1 = some (tyX0 k) := by decide +kernel
abbrev cX0_init : ByteArray := prog_2_method_1_code
def yX0_init : MethodName := ⟨RX0, "<init>", "()V"⟩
abbrev cX0_align : ByteArray := prog_2_method_2_code
def yX0_align : MethodName := ⟨RX0, "align", "(LBookPairs$Books;)V"⟩
abbrev cX0_take : ByteArray := prog_2_method_3_code
def yX0_take : MethodName := ⟨RX0, "take", "(LBookPairs$Books;)V"⟩
abbrev cX0_leastBy : ByteArray := prog_2_method_4_code
def yX0_leastBy : MethodName := ⟨RX0, "leastBy", "(I)I"⟩
abbrev cX0_fillLeast : ByteArray := prog_2_method_5_code
def yX0_fillLeast : MethodName := ⟨RX0, "fillLeast", "(I)V"⟩
abbrev cX0_fillOthers : ByteArray := prog_2_method_6_code
def yX0_fillOthers : MethodName := ⟨RX0, "fillOthers", "()V"⟩
abbrev cX0_fillOthersAt : ByteArray := prog_2_method_7_code
def yX0_fillOthersAt : MethodName := ⟨RX0, "fillOthersAt", "(I)V"⟩
abbrev cX0_addOthers : ByteArray := prog_2_method_8_code
def yX0_addOthers : MethodName := ⟨RX0, "addOthers", "(IIII)V"⟩
abbrev cX0_walkBest : ByteArray := prog_2_method_9_code
def yX0_walkBest : MethodName := ⟨RX0, "walkBest", "()V"⟩
abbrev cX0_end : ByteArray := prog_2_method_10_code
def yX0_end : MethodName := ⟨RX0, "end", "()I"⟩
abbrev cX0_orNone : ByteArray := prog_2_method_11_code
def yX0_orNone : MethodName := ⟨RX0, "orNone", "(I)I"⟩
abbrev cX0_answer : ByteArray := prog_2_method_12_code
def yX0_answer : MethodName := ⟨RX0, "answer", "(I)I"⟩
abbrev cX0_costOfPair : ByteArray := prog_2_method_13_code
def yX0_costOfPair : MethodName := ⟨RX0, "costOfPair", "(I)I"⟩
abbrev cX0_howManyOf : ByteArray := prog_2_method_14_code
def yX0_howManyOf : MethodName := ⟨RX0, "howManyOf", "(I)I"⟩
abbrev cX0_rightsWith : ByteArray := prog_2_method_15_code
def yX0_rightsWith : MethodName := ⟨RX0, "rightsWith", "(I)I"⟩
abbrev cX0_leftsWith : ByteArray := prog_2_method_16_code
def yX0_leftsWith : MethodName := ⟨RX0, "leftsWith", "(I)I"⟩
abbrev cX0_isIn : ByteArray := prog_2_method_17_code
def yX0_isIn : MethodName := ⟨RX0, "isIn", "(III)Z"⟩
abbrev cX0_setOf : ByteArray := prog_2_method_18_code
def yX0_setOf : MethodName := ⟨RX0, "setOf", "(II)I"⟩
def RX1 : String := "BookPairs$Books"
def TX1 : u_T := fun k => match k with
  | 0 => ("BookPairs$Books", "leftKinds", "[I", true)
  | 1 => ("BookPairs$Books", "leftLetters", "[I", true)
  | 2 => ("BookPairs$Books", "leftAnchors", "[I", true)
  | 3 => ("BookPairs$Books", "rightLetters", "[I", true)
  | 4 => ("BookPairs$Books", "rightAnchors", "[I", true)
  | 5 => ("BookPairs$Books", "leftCount", "I", false)
  | 6 => ("BookPairs$Books", "rightCount", "I", false)
  | 7 => ("BookPairs$Books", "skip", "I", false)
  | 8 => ("BookPairs$Books", "join", "I", false)
  | _ => ("BookPairs$Books", "band", "I", false)
def tyX1 : Nat → FieldType := fun k => match k with
  | 0 => .array .int
  | 1 => .array .int
  | 2 => .array .int
  | 3 => .array .int
  | 4 => .array .int
  | 5 => .int
  | 6 => .int
  | 7 => .int
  | 8 => .int
  | _ => .int
abbrev wsX10 : List Cond := u_ws RX1 TX1 10
theorem nmX1 : ∀ a, a < 10 → ∀ b, b < 10 → a ≠ b → (TX1 a).2.1 ≠ (TX1 b).2.1 := by decide +kernel
theorem tyX1_ok : ∀ k, k < 10 → parseFieldDescriptor (TX1 k).2.2.1 = some (tyX1 k) := by decide +kernel
abbrev cX1_init : ByteArray := prog_3_method_1_code
def yX1_init : MethodName := ⟨RX1, "<init>", "()V"⟩
abbrev cX1_begin : ByteArray := prog_3_method_2_code
def yX1_begin : MethodName := ⟨RX1, "begin", "()V"⟩
abbrev cX1_becomeLike : ByteArray := prog_3_method_3_code
def yX1_becomeLike : MethodName := ⟨RX1, "becomeLike", "(LBookPairs$Books;)V"⟩
abbrev cX1_areThere : ByteArray := prog_3_method_4_code
def yX1_areThere : MethodName := ⟨RX1, "areThere", "()Z"⟩
abbrev cX1_hasLeft : ByteArray := prog_3_method_5_code
def yX1_hasLeft : MethodName := ⟨RX1, "hasLeft", "(I)Z"⟩
abbrev cX1_hasRight : ByteArray := prog_3_method_6_code
def yX1_hasRight : MethodName := ⟨RX1, "hasRight", "(I)Z"⟩
abbrev cX1_leftLength : ByteArray := prog_3_method_7_code
def yX1_leftLength : MethodName := ⟨RX1, "leftLength", "(I)I"⟩
abbrev cX1_priceOf : ByteArray := prog_3_method_8_code
def yX1_priceOf : MethodName := ⟨RX1, "priceOf", "(I)I"⟩
abbrev cX1_setPrice : ByteArray := prog_3_method_9_code
def yX1_setPrice : MethodName := ⟨RX1, "setPrice", "(II)V"⟩
abbrev cX1_takeAct : ByteArray := prog_3_method_10_code
def yX1_takeAct : MethodName := ⟨RX1, "takeAct", "(II)Z"⟩
abbrev cX1_takeMoved : ByteArray := prog_3_method_11_code
def yX1_takeMoved : MethodName := ⟨RX1, "takeMoved", "(LBookPairs$Books;III)V"⟩
abbrev cX1_hasPair : ByteArray := prog_3_method_12_code
def yX1_hasPair : MethodName := ⟨RX1, "hasPair", "(III)Z"⟩
abbrev cX1_pairCost : ByteArray := prog_3_method_13_code
def yX1_pairCost : MethodName := ⟨RX1, "pairCost", "(III)I"⟩
abbrev cX1_anchorSet : ByteArray := prog_3_method_14_code
def yX1_anchorSet : MethodName := ⟨RX1, "anchorSet", "(I)I"⟩
def RX2 : String := "BookPairs$Sheet"
def TX2 : u_T := fun k => match k with
  | 0 => ("BookPairs$Sheet", "cells", "[I", true)
  | 1 => ("BookPairs$Sheet", "there", "Z", false)
  | 2 => ("BookPairs$Sheet", "lane", "I", false)
  | _ => ("BookPairs$Sheet", "size", "I", false)
def tyX2 : Nat → FieldType := fun k => match k with
  | 0 => .array .int
  | 1 => .boolean
  | 2 => .int
  | _ => .int
abbrev wsX20 : List Cond := u_ws RX2 TX2 4
theorem nmX2 : ∀ a, a < 4 → ∀ b, b < 4 → a ≠ b → (TX2 a).2.1 ≠ (TX2 b).2.1 := by decide +kernel
theorem tyX2_ok : ∀ k, k < 4 → parseFieldDescriptor (TX2 k).2.2.1 = some (tyX2 k) := by decide +kernel
abbrev cX2_init : ByteArray := prog_4_method_1_code
def yX2_init : MethodName := ⟨RX2, "<init>", "()V"⟩
abbrev cX2_begin : ByteArray := prog_4_method_2_code
def yX2_begin : MethodName := ⟨RX2, "begin", "(II)V"⟩
abbrev cX2_faultAs : ByteArray := prog_4_method_3_code
def yX2_faultAs : MethodName := ⟨RX2, "faultAs", "(I)I"⟩
abbrev cX2_hasCells : ByteArray := prog_4_method_4_code
def yX2_hasCells : MethodName := ⟨RX2, "hasCells", "(II)Z"⟩
abbrev cX2_cut : ByteArray := prog_4_method_5_code
def yX2_cut : MethodName := ⟨RX2, "cut", "(I)I"⟩
def RX3 : String := "BookPairs$TextTaker"
def TX3 : u_T := fun k => match k with
  | _ => ("BookPairs$TextTaker", "awaits", "I", false)
def tyX3 : Nat → FieldType := fun k => match k with
  | _ => .int
abbrev wsX30 : List Cond := u_ws RX3 TX3 1
theorem nmX3 : ∀ a, a < 1 → ∀ b, b < 1 → a ≠ b → (TX3 a).2.1 ≠ (TX3 b).2.1 := by decide +kernel
theorem tyX3_ok : ∀ k, k < 1 → parseFieldDescriptor (TX3 k).2.2.1 = some (tyX3 k) := by decide +kernel
abbrev cX3_init : ByteArray := prog_5_method_1_code
def yX3_init : MethodName := ⟨RX3, "<init>", "()V"⟩
abbrev cX3_firstFault : ByteArray := prog_5_method_2_code
def yX3_firstFault : MethodName := ⟨RX3, "firstFault", "(LBookPairs$Sheet;IILBookPairs$Books;)I"⟩
abbrev cX3_goesOn : ByteArray := prog_5_method_3_code
def yX3_goesOn : MethodName := ⟨RX3, "goesOn", "(ILBookPairs$Books;)Z"⟩
abbrev cX3_goesOnInLeft : ByteArray := prog_5_method_4_code
def yX3_goesOnInLeft : MethodName := ⟨RX3, "goesOnInLeft", "(ILBookPairs$Books;)Z"⟩
abbrev cX3_goesOnInRight : ByteArray := prog_5_method_5_code
def yX3_goesOnInRight : MethodName := ⟨RX3, "goesOnInRight", "(ILBookPairs$Books;)Z"⟩
abbrev cX3_isDigit : ByteArray := prog_5_method_6_code
def yX3_isDigit : MethodName := ⟨RX3, "isDigit", "(I)Z"⟩
abbrev cX3_kindOf : ByteArray := prog_5_method_7_code
def yX3_kindOf : MethodName := ⟨RX3, "kindOf", "(I)I"⟩
abbrev cX3_anchorOf : ByteArray := prog_5_method_8_code
def yX3_anchorOf : MethodName := ⟨RX3, "anchorOf", "(I)I"⟩
def RX4 : String := "BookPairs"
def TX4 : u_T := fun k => match k with
  | 0 => ("BookPairs", "sheets", "[LBookPairs$Sheet;", true)
  | 1 => ("BookPairs", "now", "LBookPairs$Books;", true)
  | 2 => ("BookPairs", "supposed", "LBookPairs$Books;", true)
  | 3 => ("BookPairs", "bestOfNow", "LBookPairs$Aligner;", true)
  | 4 => ("BookPairs", "trial", "LBookPairs$Aligner;", true)
  | 5 => ("BookPairs", "textTaker", "LBookPairs$TextTaker;", true)
  | 6 => ("BookPairs", "readingBands", "[I", true)
  | 7 => ("BookPairs", "readingCosts", "[I", true)
  | 8 => ("BookPairs", "readingCount", "I", false)
  | 9 => ("BookPairs", "aligned", "Z", false)
  | 10 => ("BookPairs", "trace", "I", false)
  | _ => ("BookPairs", "fault", "I", false)
def tyX4 : Nat → FieldType := fun k => match k with
  | 0 => .array (.object "BookPairs$Sheet")
  | 1 => .object "BookPairs$Books"
  | 2 => .object "BookPairs$Books"
  | 3 => .object "BookPairs$Aligner"
  | 4 => .object "BookPairs$Aligner"
  | 5 => .object "BookPairs$TextTaker"
  | 6 => .array .int
  | 7 => .array .int
  | 8 => .int
  | 9 => .boolean
  | 10 => .int
  | _ => .int
abbrev wsX40 : List Cond := u_ws RX4 TX4 12
theorem nmX4 : ∀ a, a < 12 → ∀ b, b < 12 → a ≠ b → (TX4 a).2.1 ≠ (TX4 b).2.1 := by decide +kernel
theorem tyX4_ok : ∀ k, k < 12 → parseFieldDescriptor (TX4 k).2.2.1 = some (tyX4 k) := by decide +kernel
abbrev cX4_init : ByteArray := prog_1_method_1_code
def yX4_init : MethodName := ⟨RX4, "<init>", "()V"⟩
abbrev cX4_books : ByteArray := prog_1_method_2_code
def yX4_books : MethodName := ⟨RX4, "books", "(IIII)I"⟩
abbrev cX4_ofLeft : ByteArray := prog_1_method_3_code
def yX4_ofLeft : MethodName := ⟨RX4, "ofLeft", "(II)I"⟩
abbrev cX4_ofRight : ByteArray := prog_1_method_4_code
def yX4_ofRight : MethodName := ⟨RX4, "ofRight", "(II)I"⟩
abbrev cX4_letters : ByteArray := prog_1_method_5_code
def yX4_letters : MethodName := ⟨RX4, "letters", "(III)I"⟩
abbrev cX4_price : ByteArray := prog_1_method_6_code
def yX4_price : MethodName := ⟨RX4, "price", "(II)I"⟩
abbrev cX4_move : ByteArray := prog_1_method_7_code
def yX4_move : MethodName := ⟨RX4, "move", "(III)I"⟩
abbrev cX4_best : ByteArray := prog_1_method_8_code
def yX4_best : MethodName := ⟨RX4, "best", "(I)I"⟩
abbrev cX4_ofPair : ByteArray := prog_1_method_9_code
def yX4_ofPair : MethodName := ⟨RX4, "ofPair", "(II)I"⟩
abbrev cX4_cost : ByteArray := prog_1_method_10_code
def yX4_cost : MethodName := ⟨RX4, "cost", "(III)I"⟩
abbrev cX4_day : ByteArray := prog_1_method_11_code
def yX4_day : MethodName := ⟨RX4, "day", "(IIIII)I"⟩
abbrev cX4_by : ByteArray := prog_1_method_12_code
def yX4_by : MethodName := ⟨RX4, "by", "(I)I"⟩
abbrev cX4_enough : ByteArray := prog_1_method_13_code
def yX4_enough : MethodName := ⟨RX4, "enough", "()I"⟩
abbrev cX4_reading : ByteArray := prog_1_method_14_code
def yX4_reading : MethodName := ⟨RX4, "reading", "(II)I"⟩
abbrev cX4_back : ByteArray := prog_1_method_15_code
def yX4_back : MethodName := ⟨RX4, "back", "(I)I"⟩
abbrev cX4_kinds : ByteArray := prog_1_method_16_code
def yX4_kinds : MethodName := ⟨RX4, "kinds", "(I)I"⟩
abbrev cX4_letterings : ByteArray := prog_1_method_17_code
def yX4_letterings : MethodName := ⟨RX4, "letterings", "(I)I"⟩
abbrev cX4_odds : ByteArray := prog_1_method_18_code
def yX4_odds : MethodName := ⟨RX4, "odds", "(II)J"⟩
abbrev cX4_sheet : ByteArray := prog_1_method_19_code
def yX4_sheet : MethodName := ⟨RX4, "sheet", "(III)I"⟩
abbrev cX4_lose : ByteArray := prog_1_method_20_code
def yX4_lose : MethodName := ⟨RX4, "lose", "(I)I"⟩
abbrev cX4_put : ByteArray := prog_1_method_21_code
def yX4_put : MethodName := ⟨RX4, "put", "(III)I"⟩
abbrev cX4_cell : ByteArray := prog_1_method_22_code
def yX4_cell : MethodName := ⟨RX4, "cell", "(III)J"⟩
abbrev cX4_copy : ByteArray := prog_1_method_23_code
def yX4_copy : MethodName := ⟨RX4, "copy", "(IIIII)I"⟩
abbrev cX4_tell : ByteArray := prog_1_method_24_code
def yX4_tell : MethodName := ⟨RX4, "tell", "(I)I"⟩
abbrev cX4_read : ByteArray := prog_1_method_25_code
def yX4_read : MethodName := ⟨RX4, "read", "(I)I"⟩
abbrev cX4_as : ByteArray := prog_1_method_26_code
def yX4_as : MethodName := ⟨RX4, "as", "(II)I"⟩
abbrev cX4_trace : ByteArray := prog_1_method_27_code
def yX4_trace : MethodName := ⟨RX4, "trace", "()I"⟩
abbrev cX4_fault : ByteArray := prog_1_method_28_code
def yX4_fault : MethodName := ⟨RX4, "fault", "()I"⟩
abbrev cX4_many : ByteArray := prog_1_method_29_code
def yX4_many : MethodName := ⟨RX4, "many", "(I)I"⟩
abbrev cX4_isSheet : ByteArray := prog_1_method_30_code
def yX4_isSheet : MethodName := ⟨RX4, "isSheet", "(I)Z"⟩
abbrev cX4_isLane : ByteArray := prog_1_method_31_code
def yX4_isLane : MethodName := ⟨RX4, "isLane", "(I)Z"⟩
abbrev cX4_isSort : ByteArray := prog_1_method_32_code
def yX4_isSort : MethodName := ⟨RX4, "isSort", "(I)Z"⟩
abbrev cX4_isLetters : ByteArray := prog_1_method_33_code
def yX4_isLetters : MethodName := ⟨RX4, "isLetters", "(I)Z"⟩
abbrev cX4_isPrice : ByteArray := prog_1_method_34_code
def yX4_isPrice : MethodName := ⟨RX4, "isPrice", "(II)Z"⟩
abbrev cX4_isAskedOfDay : ByteArray := prog_1_method_35_code
def yX4_isAskedOfDay : MethodName := ⟨RX4, "isAskedOfDay", "(I)Z"⟩
abbrev cX4_isAct : ByteArray := prog_1_method_36_code
def yX4_isAct : MethodName := ⟨RX4, "isAct", "(II)Z"⟩
abbrev cX4_areActs : ByteArray := prog_1_method_37_code
def yX4_areActs : MethodName := ⟨RX4, "areActs", "(LBookPairs$Sheet;II)Z"⟩
abbrev cX4_failed : ByteArray := prog_1_method_38_code
def yX4_failed : MethodName := ⟨RX4, "failed", "(I)I"⟩
abbrev cX4_alignmentOfNow : ByteArray := prog_1_method_39_code
def yX4_alignmentOfNow : MethodName := ⟨RX4, "alignmentOfNow", "()LBookPairs$Aligner;"⟩
abbrev cX4_supposeDay : ByteArray := prog_1_method_40_code
def yX4_supposeDay : MethodName := ⟨RX4, "supposeDay", "(LBookPairs$Sheet;II)I"⟩
abbrev cX4_answerOfDay : ByteArray := prog_1_method_41_code
def yX4_answerOfDay : MethodName := ⟨RX4, "answerOfDay", "(II)I"⟩
abbrev cX4_readingsHoldIfSupposed : ByteArray := prog_1_method_42_code
def yX4_readingsHoldIfSupposed : MethodName := ⟨RX4, "readingsHoldIfSupposed", "()Z"⟩
abbrev cX4_commonDivisor : ByteArray := prog_1_method_43_code
def yX4_commonDivisor : MethodName := ⟨RX4, "commonDivisor", "(II)I"⟩
abbrev cX4_leaveTrace : ByteArray := prog_1_method_44_code
def yX4_leaveTrace : MethodName := ⟨RX4, "leaveTrace", "(I)V"⟩
abbrev cX4_plainBody : ByteArray := prog_1_method_45_code
def yX4_plainBody : MethodName := ⟨RX4, "plainBody", "(I)I"⟩
abbrev cX4_longBody : ByteArray := prog_1_method_46_code
def yX4_longBody : MethodName := ⟨RX4, "longBody", "(I)I"⟩
abbrev cX4_doubleBody : ByteArray := prog_1_method_47_code
def yX4_doubleBody : MethodName := ⟨RX4, "doubleBody", "(I)I"⟩
abbrev cX4_lentBody : ByteArray := prog_1_method_48_code
def yX4_lentBody : MethodName := ⟨RX4, "lentBody", "(I)I"⟩
abbrev cX4_doublesOwnBody : ByteArray := prog_1_method_49_code
def yX4_doublesOwnBody : MethodName := ⟨RX4, "doublesOwnBody", "(I)I"⟩
def RX5 : String := "BookPairsModel"
def TX5 : u_T := fun k => match k with
  | 0 => ("BookPairsModel", "fault", "I", false)
  | 1 => ("BookPairsModel", "trace", "I", false)
  | 2 => ("BookPairsModel", "sorts", "[I", true)
  | 3 => ("BookPairsModel", "sheetLong", "[I", true)
  | 4 => ("BookPairsModel", "cells", "[I", true)
  | 5 => ("BookPairsModel", "lefts", "I", false)
  | 6 => ("BookPairsModel", "rights", "I", false)
  | 7 => ("BookPairsModel", "skip", "I", false)
  | 8 => ("BookPairsModel", "join", "I", false)
  | 9 => ("BookPairsModel", "band", "I", false)
  | 10 => ("BookPairsModel", "kind", "[I", true)
  | 11 => ("BookPairsModel", "leftLetters", "[I", true)
  | 12 => ("BookPairsModel", "leftAnchor", "[I", true)
  | 13 => ("BookPairsModel", "rightLetters", "[I", true)
  | 14 => ("BookPairsModel", "rightAnchor", "[I", true)
  | 15 => ("BookPairsModel", "at", "I", false)
  | 16 => ("BookPairsModel", "readLefts", "I", false)
  | 17 => ("BookPairsModel", "readRights", "I", false)
  | 18 => ("BookPairsModel", "readKind", "[I", true)
  | 19 => ("BookPairsModel", "readLetters", "[I", true)
  | 20 => ("BookPairsModel", "readAnchor", "[I", true)
  | 21 => ("BookPairsModel", "least", "[I", true)
  | 22 => ("BookPairsModel", "next", "[I", true)
  | 23 => ("BookPairsModel", "alike", "[I", true)
  | 24 => ("BookPairsModel", "pairs", "I", false)
  | 25 => ("BookPairsModel", "pairSort", "[I", true)
  | 26 => ("BookPairsModel", "pairLeft", "[I", true)
  | 27 => ("BookPairsModel", "pairRight", "[I", true)
  | 28 => ("BookPairsModel", "kept", "[I", true)
  | 29 => ("BookPairsModel", "readings", "I", false)
  | 30 => ("BookPairsModel", "readBand", "[I", true)
  | _ => ("BookPairsModel", "readCost", "[I", true)
def tyX5 : Nat → FieldType := fun k => match k with
  | 0 => .int
  | 1 => .int
  | 2 => .array .int
  | 3 => .array .int
  | 4 => .array .int
  | 5 => .int
  | 6 => .int
  | 7 => .int
  | 8 => .int
  | 9 => .int
  | 10 => .array .int
  | 11 => .array .int
  | 12 => .array .int
  | 13 => .array .int
  | 14 => .array .int
  | 15 => .int
  | 16 => .int
  | 17 => .int
  | 18 => .array .int
  | 19 => .array .int
  | 20 => .array .int
  | 21 => .array .int
  | 22 => .array .int
  | 23 => .array .int
  | 24 => .int
  | 25 => .array .int
  | 26 => .array .int
  | 27 => .array .int
  | 28 => .array .int
  | 29 => .int
  | 30 => .array .int
  | _ => .array .int
abbrev wsX50 : List Cond := u_ws RX5 TX5 32
theorem nmX5 : ∀ a, a < 32 → ∀ b, b < 32 → a ≠ b → (TX5 a).2.1 ≠ (TX5 b).2.1 := by decide +kernel
theorem tyX5_ok : ∀ k, k < 32 → parseFieldDescriptor (TX5 k).2.2.1 = some (tyX5 k) := by decide +kernel
abbrev cX5_init : ByteArray := prog_7_method_1_code
def yX5_init : MethodName := ⟨RX5, "<init>", "()V"⟩
abbrev cX5_fails : ByteArray := prog_7_method_3_code
def yX5_fails : MethodName := ⟨RX5, "fails", "(I)I"⟩
abbrev cX5_lost : ByteArray := prog_7_method_4_code
def yX5_lost : MethodName := ⟨RX5, "lost", "(I)J"⟩
abbrev cX5_within : ByteArray := prog_7_method_5_code
def yX5_within : MethodName := ⟨RX5, "within", "(III)Z"⟩
abbrev cX5_isSheet : ByteArray := prog_7_method_6_code
def yX5_isSheet : MethodName := ⟨RX5, "isSheet", "(I)Z"⟩
abbrev cX5_isSort : ByteArray := prog_7_method_7_code
def yX5_isSort : MethodName := ⟨RX5, "isSort", "(I)Z"⟩
abbrev cX5_against : ByteArray := prog_7_method_8_code
def yX5_against : MethodName := ⟨RX5, "against", "(IIII)I"⟩
abbrev cX5_isLeft : ByteArray := prog_7_method_9_code
def yX5_isLeft : MethodName := ⟨RX5, "isLeft", "(I)Z"⟩
abbrev cX5_isRight : ByteArray := prog_7_method_10_code
def yX5_isRight : MethodName := ⟨RX5, "isRight", "(I)Z"⟩
abbrev cX5_isSign : ByteArray := prog_7_method_11_code
def yX5_isSign : MethodName := ⟨RX5, "isSign", "(II)Z"⟩
abbrev cX5_books : ByteArray := prog_7_method_12_code
def yX5_books : MethodName := ⟨RX5, "books", "(IIII)I"⟩
abbrev cX5_readAll : ByteArray := prog_7_method_13_code
def yX5_readAll : MethodName := ⟨RX5, "readAll", "(I)Z"⟩
abbrev cX5_readKindNext : ByteArray := prog_7_method_14_code
def yX5_readKindNext : MethodName := ⟨RX5, "readKindNext", "(I)Z"⟩
abbrev cX5_readSentence : ByteArray := prog_7_method_15_code
def yX5_readSentence : MethodName := ⟨RX5, "readSentence", "(II)Z"⟩
abbrev cX5_lengthOf : ByteArray := prog_7_method_16_code
def yX5_lengthOf : MethodName := ⟨RX5, "lengthOf", "(I)I"⟩
abbrev cX5_leftsOf : ByteArray := prog_7_method_17_code
def yX5_leftsOf : MethodName := ⟨RX5, "leftsOf", "(I)I"⟩
abbrev cX5_rightsOf : ByteArray := prog_7_method_18_code
def yX5_rightsOf : MethodName := ⟨RX5, "rightsOf", "(I)I"⟩
abbrev cX5_anchorSet : ByteArray := prog_7_method_19_code
def yX5_anchorSet : MethodName := ⟨RX5, "anchorSet", "(I)I"⟩
abbrev cX5_costOf : ByteArray := prog_7_method_20_code
def yX5_costOf : MethodName := ⟨RX5, "costOf", "(III)I"⟩
abbrev cX5_isStand : ByteArray := prog_7_method_21_code
def yX5_isStand : MethodName := ⟨RX5, "isStand", "(III)Z"⟩
abbrev cX5_comes : ByteArray := prog_7_method_22_code
def yX5_comes : MethodName := ⟨RX5, "comes", "(III)V"⟩
abbrev cX5_findStand : ByteArray := prog_7_method_23_code
def yX5_findStand : MethodName := ⟨RX5, "findStand", "(III)V"⟩
abbrev cX5_findAll : ByteArray := prog_7_method_24_code
def yX5_findAll : MethodName := ⟨RX5, "findAll", "(I)I"⟩
abbrev cX5_findBest : ByteArray := prog_7_method_25_code
def yX5_findBest : MethodName := ⟨RX5, "findBest", "()I"⟩
abbrev cX5_isOnBest : ByteArray := prog_7_method_26_code
def yX5_isOnBest : MethodName := ⟨RX5, "isOnBest", "(III)Z"⟩
abbrev cX5_pairedWith : ByteArray := prog_7_method_27_code
def yX5_pairedWith : MethodName := ⟨RX5, "pairedWith", "(II)I"⟩
abbrev cX5_ofLeft : ByteArray := prog_7_method_28_code
def yX5_ofLeft : MethodName := ⟨RX5, "ofLeft", "(II)I"⟩
abbrev cX5_ofRight : ByteArray := prog_7_method_29_code
def yX5_ofRight : MethodName := ⟨RX5, "ofRight", "(II)I"⟩
abbrev cX5_letters : ByteArray := prog_7_method_30_code
def yX5_letters : MethodName := ⟨RX5, "letters", "(III)I"⟩
abbrev cX5_price : ByteArray := prog_7_method_31_code
def yX5_price : MethodName := ⟨RX5, "price", "(II)I"⟩
abbrev cX5_goesUp : ByteArray := prog_7_method_32_code
def yX5_goesUp : MethodName := ⟨RX5, "goesUp", "(I)V"⟩
abbrev cX5_move : ByteArray := prog_7_method_33_code
def yX5_move : MethodName := ⟨RX5, "move", "(III)I"⟩
abbrev cX5_best : ByteArray := prog_7_method_34_code
def yX5_best : MethodName := ⟨RX5, "best", "(I)I"⟩
abbrev cX5_tellBest : ByteArray := prog_7_method_35_code
def yX5_tellBest : MethodName := ⟨RX5, "tellBest", "(I)I"⟩
abbrev cX5_ofPair : ByteArray := prog_7_method_36_code
def yX5_ofPair : MethodName := ⟨RX5, "ofPair", "(II)I"⟩
abbrev cX5_cost : ByteArray := prog_7_method_37_code
def yX5_cost : MethodName := ⟨RX5, "cost", "(III)I"⟩
abbrev cX5_keep : ByteArray := prog_7_method_38_code
def yX5_keep : MethodName := ⟨RX5, "keep", "()V"⟩
abbrev cX5_putBack : ByteArray := prog_7_method_39_code
def yX5_putBack : MethodName := ⟨RX5, "putBack", "()V"⟩
abbrev cX5_does : ByteArray := prog_7_method_40_code
def yX5_does : MethodName := ⟨RX5, "does", "(II)Z"⟩
abbrev cX5_isPair : ByteArray := prog_7_method_41_code
def yX5_isPair : MethodName := ⟨RX5, "isPair", "(II)Z"⟩
abbrev cX5_goDay : ByteArray := prog_7_method_42_code
def yX5_goDay : MethodName := ⟨RX5, "goDay", "(II)I"⟩
abbrev cX5_day : ByteArray := prog_7_method_43_code
def yX5_day : MethodName := ⟨RX5, "day", "(IIIII)I"⟩
abbrev cX5_tellDay : ByteArray := prog_7_method_44_code
def yX5_tellDay : MethodName := ⟨RX5, "tellDay", "(I)I"⟩
abbrev cX5_by : ByteArray := prog_7_method_45_code
def yX5_by : MethodName := ⟨RX5, "by", "(I)I"⟩
abbrev cX5_enough : ByteArray := prog_7_method_46_code
def yX5_enough : MethodName := ⟨RX5, "enough", "()I"⟩
abbrev cX5_reading : ByteArray := prog_7_method_47_code
def yX5_reading : MethodName := ⟨RX5, "reading", "(II)I"⟩
abbrev cX5_back : ByteArray := prog_7_method_48_code
def yX5_back : MethodName := ⟨RX5, "back", "(I)I"⟩
abbrev cX5_areSo : ByteArray := prog_7_method_49_code
def yX5_areSo : MethodName := ⟨RX5, "areSo", "()Z"⟩
abbrev cX5_kinds : ByteArray := prog_7_method_50_code
def yX5_kinds : MethodName := ⟨RX5, "kinds", "(I)I"⟩
abbrev cX5_letterings : ByteArray := prog_7_method_51_code
def yX5_letterings : MethodName := ⟨RX5, "letterings", "(I)I"⟩
abbrev cX5_inLeastTerms : ByteArray := prog_7_method_52_code
def yX5_inLeastTerms : MethodName := ⟨RX5, "inLeastTerms", "(JJI)J"⟩
abbrev cX5_odds : ByteArray := prog_7_method_53_code
def yX5_odds : MethodName := ⟨RX5, "odds", "(II)J"⟩
abbrev cX5_sheet : ByteArray := prog_7_method_54_code
def yX5_sheet : MethodName := ⟨RX5, "sheet", "(III)I"⟩
abbrev cX5_lose : ByteArray := prog_7_method_55_code
def yX5_lose : MethodName := ⟨RX5, "lose", "(I)I"⟩
abbrev cX5_put : ByteArray := prog_7_method_56_code
def yX5_put : MethodName := ⟨RX5, "put", "(III)I"⟩
abbrev cX5_cell : ByteArray := prog_7_method_57_code
def yX5_cell : MethodName := ⟨RX5, "cell", "(III)J"⟩
abbrev cX5_copy : ByteArray := prog_7_method_58_code
def yX5_copy : MethodName := ⟨RX5, "copy", "(IIIII)I"⟩
abbrev cX5_begins : ByteArray := prog_7_method_59_code
def yX5_begins : MethodName := ⟨RX5, "begins", "(I)V"⟩
abbrev cX5_tell : ByteArray := prog_7_method_60_code
def yX5_tell : MethodName := ⟨RX5, "tell", "(I)I"⟩
abbrev cX5_read : ByteArray := prog_7_method_61_code
def yX5_read : MethodName := ⟨RX5, "read", "(I)I"⟩
abbrev cX5_as : ByteArray := prog_7_method_62_code
def yX5_as : MethodName := ⟨RX5, "as", "(II)I"⟩
abbrev cX5_trace : ByteArray := prog_7_method_63_code
def yX5_trace : MethodName := ⟨RX5, "trace", "()I"⟩
abbrev cX5_fault : ByteArray := prog_7_method_64_code
def yX5_fault : MethodName := ⟨RX5, "fault", "()I"⟩
abbrev cX5_many : ByteArray := prog_7_method_65_code
def yX5_many : MethodName := ⟨RX5, "many", "(I)I"⟩
def RJ9 : String := "java/lang/Math"
def TJ9 : u_T := fun k => match k with
  | _ => ("", "", "", false)
def tyJ9 : Nat → FieldType := fun k => match k with
  | _ => .int
abbrev wsJ90 : List Cond := u_ws RJ9 TJ9 0
theorem nmJ9 : ∀ a, a < 0 → ∀ b, b < 0 → a ≠ b → (TJ9 a).2.1 ≠ (TJ9 b).2.1 := by decide +kernel
theorem tyJ9_ok : ∀ k, k < 0 → parseFieldDescriptor (TJ9 k).2.2.1 = some (tyJ9 k) := by decide +kernel
abbrev cJ9_abs_0f7a4 : ByteArray := prog_8_method_59_code
def yJ9_abs_0f7a4 : MethodName := ⟨RJ9, "abs", "(I)I"⟩
abbrev cJ9_min_7cf53 : ByteArray := prog_8_method_69_code
def yJ9_min_7cf53 : MethodName := ⟨RJ9, "min", "(II)I"⟩
def RJ10 : String := "java/lang/System"
def TJ10 : u_T := fun k => match k with
  | _ => ("", "", "", false)
def tyJ10 : Nat → FieldType := fun k => match k with
  | _ => .int
abbrev wsJ100 : List Cond := u_ws RJ10 TJ10 0
theorem nmJ10 : ∀ a, a < 0 → ∀ b, b < 0 → a ≠ b → (TJ10 a).2.1 ≠ (TJ10 b).2.1 := by decide +kernel
theorem tyJ10_ok : ∀ k, k < 0 → parseFieldDescriptor (TJ10 k).2.2.1 = some (tyJ10 k) := by decide +kernel
def RJ7 : String := "java/util/Arrays"
def TJ7 : u_T := fun k => match k with
  | _ => ("", "", "", false)
def tyJ7 : Nat → FieldType := fun k => match k with
  | _ => .int
abbrev wsJ70 : List Cond := u_ws RJ7 TJ7 0
theorem nmJ7 : ∀ a, a < 0 → ∀ b, b < 0 → a ≠ b → (TJ7 a).2.1 ≠ (TJ7 b).2.1 := by decide +kernel
theorem tyJ7_ok : ∀ k, k < 0 → parseFieldDescriptor (TJ7 k).2.2.1 = some (tyJ7 k) := by decide +kernel
abbrev cJ7_fill_53178 : ByteArray := prog_10_method_103_code
def yJ7_fill_53178 : MethodName := ⟨RJ7, "fill", "([II)V"⟩
def RL : String := "BookPairsLaw"
abbrev cL_law : ByteArray := code
def yL_law : MethodName := ⟨RL, "law", "([I)Z"⟩
abbrev vwCl : List vw_C := [(RX0, TX0, 11), (RX1, TX1, 10), (RX2, TX2, 4), (RX3, TX3, 1), (RX4, TX4, 12), (RX5, TX5, 32)]
def TB : List Cond := lw_tbl.filter goodWord
theorem tbi1 {w : Cond} (h : w ∈ tables_1_1) : w ∈ lw_tbl := List.mem_append_right _ (show w ∈ tables_1_1 ++ (tables_1_2 ++ (tables_1_3 ++ tables_1_4)) from List.mem_append_left _ h)
theorem tb1 {w : Cond} (i : Nat) (h : tables_1_1[i]? = some w) (hg : goodWord w = true) : w ∈ TB := List.mem_filter.mpr ⟨tbi1 (List.mem_of_getElem? h), hg⟩
theorem tbi2 {w : Cond} (h : w ∈ tables_1_2) : w ∈ lw_tbl := List.mem_append_right _ (show w ∈ tables_1_1 ++ (tables_1_2 ++ (tables_1_3 ++ tables_1_4)) from List.mem_append_right _ (List.mem_append_left _ h))
theorem tb2 {w : Cond} (i : Nat) (h : tables_1_2[i]? = some w) (hg : goodWord w = true) : w ∈ TB := List.mem_filter.mpr ⟨tbi2 (List.mem_of_getElem? h), hg⟩
theorem tbi3 {w : Cond} (h : w ∈ tables_1_3) : w ∈ lw_tbl := List.mem_append_right _ (show w ∈ tables_1_1 ++ (tables_1_2 ++ (tables_1_3 ++ tables_1_4)) from List.mem_append_right _ (List.mem_append_right _ (List.mem_append_left _ h)))
theorem tb3 {w : Cond} (i : Nat) (h : tables_1_3[i]? = some w) (hg : goodWord w = true) : w ∈ TB := List.mem_filter.mpr ⟨tbi3 (List.mem_of_getElem? h), hg⟩
theorem tbi4 {w : Cond} (h : w ∈ tables_1_4) : w ∈ lw_tbl := List.mem_append_right _ (show w ∈ tables_1_1 ++ (tables_1_2 ++ (tables_1_3 ++ tables_1_4)) from List.mem_append_right _ (List.mem_append_right _ (List.mem_append_right _ h)))
theorem tb4 {w : Cond} (i : Nat) (h : tables_1_4[i]? = some w) (hg : goodWord w = true) : w ∈ TB := List.mem_filter.mpr ⟨tbi4 (List.mem_of_getElem? h), hg⟩
theorem tbp {w : Cond} (i : Nat) (h : (k2_sels lw_privs)[i]? = some w) (hg : goodWord w = true) : w ∈ TB := List.mem_filter.mpr ⟨List.mem_append_left _ (List.mem_of_getElem? h), hg⟩
theorem TB_good : GoodIn TB TB := fun w hw => ⟨hw, good_of_word (List.mem_filter.mp hw).2⟩
theorem inX0 : ∀ w ∈ wsX00, w ∈ TB := by
  intro w hw
  obtain ⟨k, hk, rfl⟩ := List.mem_map.mp hw
  have hk := List.mem_range.mp hk
  match k, hk with
  | 0, _ => exact tb1 99 (by decide +kernel) (by decide +kernel)
  | 1, _ => exact tb1 101 (by decide +kernel) (by decide +kernel)
  | 2, _ => exact tb1 103 (by decide +kernel) (by decide +kernel)
  | 3, _ => exact tb1 105 (by decide +kernel) (by decide +kernel)
  | 4, _ => exact tb1 107 (by decide +kernel) (by decide +kernel)
  | 5, _ => exact tb1 109 (by decide +kernel) (by decide +kernel)
  | 6, _ => exact tb1 111 (by decide +kernel) (by decide +kernel)
  | 7, _ => exact tb1 113 (by decide +kernel) (by decide +kernel)
  | 8, _ => exact tb1 115 (by decide +kernel) (by decide +kernel)
  | 9, _ => exact tb1 117 (by decide +kernel) (by decide +kernel)
  | 10, _ => exact tb1 119 (by decide +kernel) (by decide +kernel)
  | k + 11, hk => exact absurd hk (by omega)
theorem inX1 : ∀ w ∈ wsX10, w ∈ TB := by
  intro w hw
  obtain ⟨k, hk, rfl⟩ := List.mem_map.mp hw
  have hk := List.mem_range.mp hk
  match k, hk with
  | 0, _ => exact tb1 56 (by decide +kernel) (by decide +kernel)
  | 1, _ => exact tb1 58 (by decide +kernel) (by decide +kernel)
  | 2, _ => exact tb1 60 (by decide +kernel) (by decide +kernel)
  | 3, _ => exact tb1 62 (by decide +kernel) (by decide +kernel)
  | 4, _ => exact tb1 64 (by decide +kernel) (by decide +kernel)
  | 5, _ => exact tb1 66 (by decide +kernel) (by decide +kernel)
  | 6, _ => exact tb1 68 (by decide +kernel) (by decide +kernel)
  | 7, _ => exact tb1 70 (by decide +kernel) (by decide +kernel)
  | 8, _ => exact tb1 72 (by decide +kernel) (by decide +kernel)
  | 9, _ => exact tb1 74 (by decide +kernel) (by decide +kernel)
  | k + 10, hk => exact absurd hk (by omega)
theorem inX2 : ∀ w ∈ wsX20, w ∈ TB := by
  intro w hw
  obtain ⟨k, hk, rfl⟩ := List.mem_map.mp hw
  have hk := List.mem_range.mp hk
  match k, hk with
  | 0, _ => exact tb1 145 (by decide +kernel) (by decide +kernel)
  | 1, _ => exact tb1 147 (by decide +kernel) (by decide +kernel)
  | 2, _ => exact tb1 149 (by decide +kernel) (by decide +kernel)
  | 3, _ => exact tb1 151 (by decide +kernel) (by decide +kernel)
  | k + 4, hk => exact absurd hk (by omega)
theorem inX3 : ∀ w ∈ wsX30, w ∈ TB := by
  intro w hw
  obtain ⟨k, hk, rfl⟩ := List.mem_map.mp hw
  have hk := List.mem_range.mp hk
  match k, hk with
  | 0, _ => exact tb1 129 (by decide +kernel) (by decide +kernel)
  | k + 1, hk => exact absurd hk (by omega)
theorem inX4 : ∀ w ∈ wsX40, w ∈ TB := by
  intro w hw
  obtain ⟨k, hk, rfl⟩ := List.mem_map.mp hw
  have hk := List.mem_range.mp hk
  match k, hk with
  | 0, _ => exact tb1 166 (by decide +kernel) (by decide +kernel)
  | 1, _ => exact tb1 168 (by decide +kernel) (by decide +kernel)
  | 2, _ => exact tb1 170 (by decide +kernel) (by decide +kernel)
  | 3, _ => exact tb1 172 (by decide +kernel) (by decide +kernel)
  | 4, _ => exact tb1 174 (by decide +kernel) (by decide +kernel)
  | 5, _ => exact tb1 176 (by decide +kernel) (by decide +kernel)
  | 6, _ => exact tb1 178 (by decide +kernel) (by decide +kernel)
  | 7, _ => exact tb1 180 (by decide +kernel) (by decide +kernel)
  | 8, _ => exact tb1 182 (by decide +kernel) (by decide +kernel)
  | 9, _ => exact tb1 184 (by decide +kernel) (by decide +kernel)
  | 10, _ => exact tb1 186 (by decide +kernel) (by decide +kernel)
  | 11, _ => exact tb1 188 (by decide +kernel) (by decide +kernel)
  | k + 12, hk => exact absurd hk (by omega)
theorem inX5 : ∀ w ∈ wsX50, w ∈ TB := by
  intro w hw
  obtain ⟨k, hk, rfl⟩ := List.mem_map.mp hw
  have hk := List.mem_range.mp hk
  match k, hk with
  | 0, _ => exact tb3 121 (by decide +kernel) (by decide +kernel)
  | 1, _ => exact tb3 123 (by decide +kernel) (by decide +kernel)
  | 2, _ => exact tb3 125 (by decide +kernel) (by decide +kernel)
  | 3, _ => exact tb3 127 (by decide +kernel) (by decide +kernel)
  | 4, _ => exact tb3 129 (by decide +kernel) (by decide +kernel)
  | 5, _ => exact tb3 131 (by decide +kernel) (by decide +kernel)
  | 6, _ => exact tb3 133 (by decide +kernel) (by decide +kernel)
  | 7, _ => exact tb3 135 (by decide +kernel) (by decide +kernel)
  | 8, _ => exact tb3 137 (by decide +kernel) (by decide +kernel)
  | 9, _ => exact tb3 139 (by decide +kernel) (by decide +kernel)
  | 10, _ => exact tb3 141 (by decide +kernel) (by decide +kernel)
  | 11, _ => exact tb3 143 (by decide +kernel) (by decide +kernel)
  | 12, _ => exact tb3 145 (by decide +kernel) (by decide +kernel)
  | 13, _ => exact tb3 147 (by decide +kernel) (by decide +kernel)
  | 14, _ => exact tb3 149 (by decide +kernel) (by decide +kernel)
  | 15, _ => exact tb3 151 (by decide +kernel) (by decide +kernel)
  | 16, _ => exact tb3 153 (by decide +kernel) (by decide +kernel)
  | 17, _ => exact tb3 155 (by decide +kernel) (by decide +kernel)
  | 18, _ => exact tb3 157 (by decide +kernel) (by decide +kernel)
  | 19, _ => exact tb3 159 (by decide +kernel) (by decide +kernel)
  | 20, _ => exact tb3 161 (by decide +kernel) (by decide +kernel)
  | 21, _ => exact tb3 163 (by decide +kernel) (by decide +kernel)
  | 22, _ => exact tb3 165 (by decide +kernel) (by decide +kernel)
  | 23, _ => exact tb3 167 (by decide +kernel) (by decide +kernel)
  | 24, _ => exact tb3 169 (by decide +kernel) (by decide +kernel)
  | 25, _ => exact tb3 171 (by decide +kernel) (by decide +kernel)
  | 26, _ => exact tb3 173 (by decide +kernel) (by decide +kernel)
  | 27, _ => exact tb3 175 (by decide +kernel) (by decide +kernel)
  | 28, _ => exact tb3 177 (by decide +kernel) (by decide +kernel)
  | 29, _ => exact tb3 179 (by decide +kernel) (by decide +kernel)
  | 30, _ => exact tb3 181 (by decide +kernel) (by decide +kernel)
  | 31, _ => exact tb3 183 (by decide +kernel) (by decide +kernel)
  | k + 32, hk => exact absurd hk (by omega)
