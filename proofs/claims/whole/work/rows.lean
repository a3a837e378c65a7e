section
def lw_okq (q : MethodName × Nat) : Prop := (q.1.cls ≠ "java/lang/invoke/MethodHandle" ∧ q.1.cls ≠ "java/lang/invoke/VarHandle") ∧ Cond.instantiable q.1.cls q.2 ∈ tables_1 ∧ Cond.privateMethod q.1 ∈ tables_1 ∧ Cond.instanceMethod q.1 ∈ tables_1
theorem lw_p0 : lw_okq (⟨"BookPairs", "failed", "(I)I"⟩, 12) := ⟨⟨by decide +kernel, by decide +kernel⟩, List.mem_of_getElem? (i := 11) (by decide +kernel), List.mem_of_getElem? (i := 210) (by decide +kernel), List.mem_of_getElem? (i := 211) (by decide +kernel)⟩
theorem lw_p1 : lw_okq (⟨"BookPairs$TextTaker", "goesOn", "(ILBookPairs$Books;)Z"⟩, 1) := ⟨⟨by decide +kernel, by decide +kernel⟩, List.mem_of_getElem? (i := 123) (by decide +kernel), List.mem_of_getElem? (i := 222) (by decide +kernel), List.mem_of_getElem? (i := 223) (by decide +kernel)⟩
theorem lw_p2 : lw_okq (⟨"BookPairs$TextTaker", "goesOnInLeft", "(ILBookPairs$Books;)Z"⟩, 1) := ⟨⟨by decide +kernel, by decide +kernel⟩, List.mem_of_getElem? (i := 123) (by decide +kernel), List.mem_of_getElem? (i := 226) (by decide +kernel), List.mem_of_getElem? (i := 227) (by decide +kernel)⟩
theorem lw_p3 : lw_okq (⟨"BookPairs$TextTaker", "goesOnInRight", "(ILBookPairs$Books;)Z"⟩, 1) := ⟨⟨by decide +kernel, by decide +kernel⟩, List.mem_of_getElem? (i := 123) (by decide +kernel), List.mem_of_getElem? (i := 239) (by decide +kernel), List.mem_of_getElem? (i := 240) (by decide +kernel)⟩
theorem lw_p4 : lw_okq (⟨"BookPairs", "alignmentOfNow", "()LBookPairs$Aligner;"⟩, 12) := ⟨⟨by decide +kernel, by decide +kernel⟩, List.mem_of_getElem? (i := 11) (by decide +kernel), List.mem_of_getElem? (i := 262) (by decide +kernel), List.mem_of_getElem? (i := 263) (by decide +kernel)⟩
theorem lw_p5 : lw_okq (⟨"BookPairs$Aligner", "fillLeast", "(I)V"⟩, 11) := ⟨⟨by decide +kernel, by decide +kernel⟩, List.mem_of_getElem? (i := 79) (by decide +kernel), List.mem_of_getElem? (i := 304) (by decide +kernel), List.mem_of_getElem? (i := 305) (by decide +kernel)⟩
theorem lw_p6 : lw_okq (⟨"BookPairs$Aligner", "end", "()I"⟩, 11) := ⟨⟨by decide +kernel, by decide +kernel⟩, List.mem_of_getElem? (i := 79) (by decide +kernel), List.mem_of_getElem? (i := 308) (by decide +kernel), List.mem_of_getElem? (i := 309) (by decide +kernel)⟩
theorem lw_p7 : lw_okq (⟨"BookPairs$Aligner", "fillOthers", "()V"⟩, 11) := ⟨⟨by decide +kernel, by decide +kernel⟩, List.mem_of_getElem? (i := 79) (by decide +kernel), List.mem_of_getElem? (i := 317) (by decide +kernel), List.mem_of_getElem? (i := 318) (by decide +kernel)⟩
theorem lw_p8 : lw_okq (⟨"BookPairs$Aligner", "fillOthersAt", "(I)V"⟩, 11) := ⟨⟨by decide +kernel, by decide +kernel⟩, List.mem_of_getElem? (i := 79) (by decide +kernel), List.mem_of_getElem? (i := 321) (by decide +kernel), List.mem_of_getElem? (i := 322) (by decide +kernel)⟩
theorem lw_p9 : lw_okq (⟨"BookPairs$Aligner", "addOthers", "(IIII)V"⟩, 11) := ⟨⟨by decide +kernel, by decide +kernel⟩, List.mem_of_getElem? (i := 79) (by decide +kernel), List.mem_of_getElem? (i := 325) (by decide +kernel), List.mem_of_getElem? (i := 326) (by decide +kernel)⟩
theorem lw_p10 : lw_okq (⟨"BookPairs$Aligner", "walkBest", "()V"⟩, 11) := ⟨⟨by decide +kernel, by decide +kernel⟩, List.mem_of_getElem? (i := 79) (by decide +kernel), List.mem_of_getElem? (i := 332) (by decide +kernel), List.mem_of_getElem? (i := 333) (by decide +kernel)⟩
theorem lw_p11 : lw_okq (⟨"BookPairs", "supposeDay", "(LBookPairs$Sheet;II)I"⟩, 12) := ⟨⟨by decide +kernel, by decide +kernel⟩, List.mem_of_getElem? (i := 11) (by decide +kernel), List.mem_of_getElem? (i := 429) (by decide +kernel), List.mem_of_getElem? (i := 430) (by decide +kernel)⟩
theorem lw_p12 : lw_okq (⟨"BookPairs", "answerOfDay", "(II)I"⟩, 12) := ⟨⟨by decide +kernel, by decide +kernel⟩, List.mem_of_getElem? (i := 11) (by decide +kernel), List.mem_of_getElem? (i := 438) (by decide +kernel), List.mem_of_getElem? (i := 439) (by decide +kernel)⟩
theorem lw_p13 : lw_okq (⟨"BookPairs", "readingsHoldIfSupposed", "()Z"⟩, 12) := ⟨⟨by decide +kernel, by decide +kernel⟩, List.mem_of_getElem? (i := 11) (by decide +kernel), List.mem_of_getElem? (i := 464) (by decide +kernel), List.mem_of_getElem? (i := 465) (by decide +kernel)⟩
theorem lw_p14 : lw_okq (⟨"BookPairs", "doubleBody", "(I)I"⟩, 12) := ⟨⟨by decide +kernel, by decide +kernel⟩, List.mem_of_getElem? (i := 11) (by decide +kernel), List.mem_of_getElem? (i := 520) (by decide +kernel), List.mem_of_getElem? (i := 521) (by decide +kernel)⟩
theorem lw_p15 : lw_okq (⟨"BookPairs", "leaveTrace", "(I)V"⟩, 12) := ⟨⟨by decide +kernel, by decide +kernel⟩, List.mem_of_getElem? (i := 11) (by decide +kernel), List.mem_of_getElem? (i := 524) (by decide +kernel), List.mem_of_getElem? (i := 525) (by decide +kernel)⟩
def lw_privs_1 : List (MethodName × Nat) := [(⟨"BookPairs", "failed", "(I)I"⟩, 12), (⟨"BookPairs$TextTaker", "goesOn", "(ILBookPairs$Books;)Z"⟩, 1), (⟨"BookPairs$TextTaker", "goesOnInLeft", "(ILBookPairs$Books;)Z"⟩, 1), (⟨"BookPairs$TextTaker", "goesOnInRight", "(ILBookPairs$Books;)Z"⟩, 1), (⟨"BookPairs", "alignmentOfNow", "()LBookPairs$Aligner;"⟩, 12), (⟨"BookPairs$Aligner", "fillLeast", "(I)V"⟩, 11), (⟨"BookPairs$Aligner", "end", "()I"⟩, 11), (⟨"BookPairs$Aligner", "fillOthers", "()V"⟩, 11), (⟨"BookPairs$Aligner", "fillOthersAt", "(I)V"⟩, 11), (⟨"BookPairs$Aligner", "addOthers", "(IIII)V"⟩, 11), (⟨"BookPairs$Aligner", "walkBest", "()V"⟩, 11), (⟨"BookPairs", "supposeDay", "(LBookPairs$Sheet;II)I"⟩, 12), (⟨"BookPairs", "answerOfDay", "(II)I"⟩, 12), (⟨"BookPairs", "readingsHoldIfSupposed", "()Z"⟩, 12), (⟨"BookPairs", "doubleBody", "(I)I"⟩, 12), (⟨"BookPairs", "leaveTrace", "(I)V"⟩, 12)]
theorem lw_r1 : ∀ q ∈ lw_privs_1, lw_okq q := List.forall_mem_cons.mpr ⟨lw_p0, List.forall_mem_cons.mpr ⟨lw_p1, List.forall_mem_cons.mpr ⟨lw_p2, List.forall_mem_cons.mpr ⟨lw_p3, List.forall_mem_cons.mpr ⟨lw_p4, List.forall_mem_cons.mpr ⟨lw_p5, List.forall_mem_cons.mpr ⟨lw_p6, List.forall_mem_cons.mpr ⟨lw_p7, List.forall_mem_cons.mpr ⟨lw_p8, List.forall_mem_cons.mpr ⟨lw_p9, List.forall_mem_cons.mpr ⟨lw_p10, List.forall_mem_cons.mpr ⟨lw_p11, List.forall_mem_cons.mpr ⟨lw_p12, List.forall_mem_cons.mpr ⟨lw_p13, List.forall_mem_cons.mpr ⟨lw_p14, List.forall_mem_cons.mpr ⟨lw_p15, fun _ h => absurd h List.not_mem_nil⟩⟩⟩⟩⟩⟩⟩⟩⟩⟩⟩⟩⟩⟩⟩⟩
theorem lw_p16 : lw_okq (⟨"BookPairs", "longBody", "(I)I"⟩, 12) := ⟨⟨by decide +kernel, by decide +kernel⟩, List.mem_of_getElem? (i := 11) (by decide +kernel), List.mem_of_getElem? (i := 528) (by decide +kernel), List.mem_of_getElem? (i := 529) (by decide +kernel)⟩
theorem lw_p17 : lw_okq (⟨"BookPairs", "plainBody", "(I)I"⟩, 12) := ⟨⟨by decide +kernel, by decide +kernel⟩, List.mem_of_getElem? (i := 11) (by decide +kernel), List.mem_of_getElem? (i := 532) (by decide +kernel), List.mem_of_getElem? (i := 533) (by decide +kernel)⟩
theorem lw_p18 : lw_okq (⟨"BookPairs", "doublesOwnBody", "(I)I"⟩, 12) := ⟨⟨by decide +kernel, by decide +kernel⟩, List.mem_of_getElem? (i := 11) (by decide +kernel), List.mem_of_getElem? (i := 540) (by decide +kernel), List.mem_of_getElem? (i := 541) (by decide +kernel)⟩
theorem lw_p19 : lw_okq (⟨"BookPairs", "lentBody", "(I)I"⟩, 12) := ⟨⟨by decide +kernel, by decide +kernel⟩, List.mem_of_getElem? (i := 11) (by decide +kernel), List.mem_of_getElem? (i := 544) (by decide +kernel), List.mem_of_getElem? (i := 545) (by decide +kernel)⟩
theorem lw_p20 : lw_okq (⟨"BookPairsModel", "against", "(IIII)I"⟩, 32) := ⟨⟨by decide +kernel, by decide +kernel⟩, List.mem_of_getElem? (i := 564) (by decide +kernel), List.mem_of_getElem? (i := 680) (by decide +kernel), List.mem_of_getElem? (i := 681) (by decide +kernel)⟩
theorem lw_p21 : lw_okq (⟨"BookPairsModel", "fails", "(I)I"⟩, 32) := ⟨⟨by decide +kernel, by decide +kernel⟩, List.mem_of_getElem? (i := 564) (by decide +kernel), List.mem_of_getElem? (i := 684) (by decide +kernel), List.mem_of_getElem? (i := 685) (by decide +kernel)⟩
theorem lw_p22 : lw_okq (⟨"BookPairsModel", "readAll", "(I)Z"⟩, 32) := ⟨⟨by decide +kernel, by decide +kernel⟩, List.mem_of_getElem? (i := 564) (by decide +kernel), List.mem_of_getElem? (i := 688) (by decide +kernel), List.mem_of_getElem? (i := 689) (by decide +kernel)⟩
theorem lw_p23 : lw_okq (⟨"BookPairsModel", "isSign", "(II)Z"⟩, 32) := ⟨⟨by decide +kernel, by decide +kernel⟩, List.mem_of_getElem? (i := 564) (by decide +kernel), List.mem_of_getElem? (i := 692) (by decide +kernel), List.mem_of_getElem? (i := 693) (by decide +kernel)⟩
theorem lw_p24 : lw_okq (⟨"BookPairsModel", "readKindNext", "(I)Z"⟩, 32) := ⟨⟨by decide +kernel, by decide +kernel⟩, List.mem_of_getElem? (i := 564) (by decide +kernel), List.mem_of_getElem? (i := 696) (by decide +kernel), List.mem_of_getElem? (i := 697) (by decide +kernel)⟩
theorem lw_p25 : lw_okq (⟨"BookPairsModel", "readSentence", "(II)Z"⟩, 32) := ⟨⟨by decide +kernel, by decide +kernel⟩, List.mem_of_getElem? (i := 564) (by decide +kernel), List.mem_of_getElem? (i := 700) (by decide +kernel), List.mem_of_getElem? (i := 701) (by decide +kernel)⟩
theorem lw_p26 : lw_okq (⟨"BookPairsModel", "isLeft", "(I)Z"⟩, 32) := ⟨⟨by decide +kernel, by decide +kernel⟩, List.mem_of_getElem? (i := 564) (by decide +kernel), List.mem_of_getElem? (i := 708) (by decide +kernel), List.mem_of_getElem? (i := 709) (by decide +kernel)⟩
theorem lw_p27 : lw_okq (⟨"BookPairsModel", "lengthOf", "(I)I"⟩, 32) := ⟨⟨by decide +kernel, by decide +kernel⟩, List.mem_of_getElem? (i := 564) (by decide +kernel), List.mem_of_getElem? (i := 712) (by decide +kernel), List.mem_of_getElem? (i := 713) (by decide +kernel)⟩
theorem lw_p28 : lw_okq (⟨"BookPairsModel", "findBest", "()I"⟩, 32) := ⟨⟨by decide +kernel, by decide +kernel⟩, List.mem_of_getElem? (i := 564) (by decide +kernel), List.mem_of_getElem? (i := 716) (by decide +kernel), List.mem_of_getElem? (i := 717) (by decide +kernel)⟩
theorem lw_p29 : lw_okq (⟨"BookPairsModel", "findAll", "(I)I"⟩, 32) := ⟨⟨by decide +kernel, by decide +kernel⟩, List.mem_of_getElem? (i := 564) (by decide +kernel), List.mem_of_getElem? (i := 720) (by decide +kernel), List.mem_of_getElem? (i := 721) (by decide +kernel)⟩
theorem lw_p30 : lw_okq (⟨"BookPairsModel", "findStand", "(III)V"⟩, 32) := ⟨⟨by decide +kernel, by decide +kernel⟩, List.mem_of_getElem? (i := 564) (by decide +kernel), List.mem_of_getElem? (i := 724) (by decide +kernel), List.mem_of_getElem? (i := 725) (by decide +kernel)⟩
theorem lw_p31 : lw_okq (⟨"BookPairsModel", "isStand", "(III)Z"⟩, 32) := ⟨⟨by decide +kernel, by decide +kernel⟩, List.mem_of_getElem? (i := 564) (by decide +kernel), List.mem_of_getElem? (i := 729) (by decide +kernel), List.mem_of_getElem? (i := 730) (by decide +kernel)⟩
def lw_privs_2 : List (MethodName × Nat) := [(⟨"BookPairs", "longBody", "(I)I"⟩, 12), (⟨"BookPairs", "plainBody", "(I)I"⟩, 12), (⟨"BookPairs", "doublesOwnBody", "(I)I"⟩, 12), (⟨"BookPairs", "lentBody", "(I)I"⟩, 12), (⟨"BookPairsModel", "against", "(IIII)I"⟩, 32), (⟨"BookPairsModel", "fails", "(I)I"⟩, 32), (⟨"BookPairsModel", "readAll", "(I)Z"⟩, 32), (⟨"BookPairsModel", "isSign", "(II)Z"⟩, 32), (⟨"BookPairsModel", "readKindNext", "(I)Z"⟩, 32), (⟨"BookPairsModel", "readSentence", "(II)Z"⟩, 32), (⟨"BookPairsModel", "isLeft", "(I)Z"⟩, 32), (⟨"BookPairsModel", "lengthOf", "(I)I"⟩, 32), (⟨"BookPairsModel", "findBest", "()I"⟩, 32), (⟨"BookPairsModel", "findAll", "(I)I"⟩, 32), (⟨"BookPairsModel", "findStand", "(III)V"⟩, 32), (⟨"BookPairsModel", "isStand", "(III)Z"⟩, 32)]
theorem lw_r2 : ∀ q ∈ lw_privs_2, lw_okq q := List.forall_mem_cons.mpr ⟨lw_p16, List.forall_mem_cons.mpr ⟨lw_p17, List.forall_mem_cons.mpr ⟨lw_p18, List.forall_mem_cons.mpr ⟨lw_p19, List.forall_mem_cons.mpr ⟨lw_p20, List.forall_mem_cons.mpr ⟨lw_p21, List.forall_mem_cons.mpr ⟨lw_p22, List.forall_mem_cons.mpr ⟨lw_p23, List.forall_mem_cons.mpr ⟨lw_p24, List.forall_mem_cons.mpr ⟨lw_p25, List.forall_mem_cons.mpr ⟨lw_p26, List.forall_mem_cons.mpr ⟨lw_p27, List.forall_mem_cons.mpr ⟨lw_p28, List.forall_mem_cons.mpr ⟨lw_p29, List.forall_mem_cons.mpr ⟨lw_p30, List.forall_mem_cons.mpr ⟨lw_p31, fun _ h => absurd h List.not_mem_nil⟩⟩⟩⟩⟩⟩⟩⟩⟩⟩⟩⟩⟩⟩⟩⟩
theorem lw_p32 : lw_okq (⟨"BookPairsModel", "costOf", "(III)I"⟩, 32) := ⟨⟨by decide +kernel, by decide +kernel⟩, List.mem_of_getElem? (i := 564) (by decide +kernel), List.mem_of_getElem? (i := 739) (by decide +kernel), List.mem_of_getElem? (i := 740) (by decide +kernel)⟩
theorem lw_p33 : lw_okq (⟨"BookPairsModel", "comes", "(III)V"⟩, 32) := ⟨⟨by decide +kernel, by decide +kernel⟩, List.mem_of_getElem? (i := 564) (by decide +kernel), List.mem_of_getElem? (i := 746) (by decide +kernel), List.mem_of_getElem? (i := 747) (by decide +kernel)⟩
theorem lw_p34 : lw_okq (⟨"BookPairsModel", "isOnBest", "(III)Z"⟩, 32) := ⟨⟨by decide +kernel, by decide +kernel⟩, List.mem_of_getElem? (i := 564) (by decide +kernel), List.mem_of_getElem? (i := 750) (by decide +kernel), List.mem_of_getElem? (i := 751) (by decide +kernel)⟩
theorem lw_p35 : lw_okq (⟨"BookPairsModel", "pairedWith", "(II)I"⟩, 32) := ⟨⟨by decide +kernel, by decide +kernel⟩, List.mem_of_getElem? (i := 564) (by decide +kernel), List.mem_of_getElem? (i := 754) (by decide +kernel), List.mem_of_getElem? (i := 755) (by decide +kernel)⟩
theorem lw_p36 : lw_okq (⟨"BookPairsModel", "isRight", "(I)Z"⟩, 32) := ⟨⟨by decide +kernel, by decide +kernel⟩, List.mem_of_getElem? (i := 564) (by decide +kernel), List.mem_of_getElem? (i := 762) (by decide +kernel), List.mem_of_getElem? (i := 763) (by decide +kernel)⟩
theorem lw_p37 : lw_okq (⟨"BookPairsModel", "goesUp", "(I)V"⟩, 32) := ⟨⟨by decide +kernel, by decide +kernel⟩, List.mem_of_getElem? (i := 564) (by decide +kernel), List.mem_of_getElem? (i := 778) (by decide +kernel), List.mem_of_getElem? (i := 779) (by decide +kernel)⟩
theorem lw_p38 : lw_okq (⟨"BookPairsModel", "tellBest", "(I)I"⟩, 32) := ⟨⟨by decide +kernel, by decide +kernel⟩, List.mem_of_getElem? (i := 564) (by decide +kernel), List.mem_of_getElem? (i := 786) (by decide +kernel), List.mem_of_getElem? (i := 787) (by decide +kernel)⟩
theorem lw_p39 : lw_okq (⟨"BookPairsModel", "keep", "()V"⟩, 32) := ⟨⟨by decide +kernel, by decide +kernel⟩, List.mem_of_getElem? (i := 564) (by decide +kernel), List.mem_of_getElem? (i := 805) (by decide +kernel), List.mem_of_getElem? (i := 806) (by decide +kernel)⟩
theorem lw_p40 : lw_okq (⟨"BookPairsModel", "goDay", "(II)I"⟩, 32) := ⟨⟨by decide +kernel, by decide +kernel⟩, List.mem_of_getElem? (i := 564) (by decide +kernel), List.mem_of_getElem? (i := 809) (by decide +kernel), List.mem_of_getElem? (i := 810) (by decide +kernel)⟩
theorem lw_p41 : lw_okq (⟨"BookPairsModel", "does", "(II)Z"⟩, 32) := ⟨⟨by decide +kernel, by decide +kernel⟩, List.mem_of_getElem? (i := 564) (by decide +kernel), List.mem_of_getElem? (i := 813) (by decide +kernel), List.mem_of_getElem? (i := 814) (by decide +kernel)⟩
theorem lw_p42 : lw_okq (⟨"BookPairsModel", "tellDay", "(I)I"⟩, 32) := ⟨⟨by decide +kernel, by decide +kernel⟩, List.mem_of_getElem? (i := 564) (by decide +kernel), List.mem_of_getElem? (i := 817) (by decide +kernel), List.mem_of_getElem? (i := 818) (by decide +kernel)⟩
theorem lw_p43 : lw_okq (⟨"BookPairsModel", "putBack", "()V"⟩, 32) := ⟨⟨by decide +kernel, by decide +kernel⟩, List.mem_of_getElem? (i := 564) (by decide +kernel), List.mem_of_getElem? (i := 821) (by decide +kernel), List.mem_of_getElem? (i := 822) (by decide +kernel)⟩
theorem lw_p44 : lw_okq (⟨"BookPairsModel", "areSo", "()Z"⟩, 32) := ⟨⟨by decide +kernel, by decide +kernel⟩, List.mem_of_getElem? (i := 564) (by decide +kernel), List.mem_of_getElem? (i := 845) (by decide +kernel), List.mem_of_getElem? (i := 846) (by decide +kernel)⟩
theorem lw_p45 : lw_okq (⟨"BookPairsModel", "lost", "(I)J"⟩, 32) := ⟨⟨by decide +kernel, by decide +kernel⟩, List.mem_of_getElem? (i := 564) (by decide +kernel), List.mem_of_getElem? (i := 877) (by decide +kernel), List.mem_of_getElem? (i := 878) (by decide +kernel)⟩
theorem lw_p46 : lw_okq (⟨"BookPairsModel", "begins", "(I)V"⟩, 32) := ⟨⟨by decide +kernel, by decide +kernel⟩, List.mem_of_getElem? (i := 564) (by decide +kernel), List.mem_of_getElem? (i := 889) (by decide +kernel), List.mem_of_getElem? (i := 890) (by decide +kernel)⟩
def lw_privs_3 : List (MethodName × Nat) := [(⟨"BookPairsModel", "costOf", "(III)I"⟩, 32), (⟨"BookPairsModel", "comes", "(III)V"⟩, 32), (⟨"BookPairsModel", "isOnBest", "(III)Z"⟩, 32), (⟨"BookPairsModel", "pairedWith", "(II)I"⟩, 32), (⟨"BookPairsModel", "isRight", "(I)Z"⟩, 32), (⟨"BookPairsModel", "goesUp", "(I)V"⟩, 32), (⟨"BookPairsModel", "tellBest", "(I)I"⟩, 32), (⟨"BookPairsModel", "keep", "()V"⟩, 32), (⟨"BookPairsModel", "goDay", "(II)I"⟩, 32), (⟨"BookPairsModel", "does", "(II)Z"⟩, 32), (⟨"BookPairsModel", "tellDay", "(I)I"⟩, 32), (⟨"BookPairsModel", "putBack", "()V"⟩, 32), (⟨"BookPairsModel", "areSo", "()Z"⟩, 32), (⟨"BookPairsModel", "lost", "(I)J"⟩, 32), (⟨"BookPairsModel", "begins", "(I)V"⟩, 32)]
theorem lw_r3 : ∀ q ∈ lw_privs_3, lw_okq q := List.forall_mem_cons.mpr ⟨lw_p32, List.forall_mem_cons.mpr ⟨lw_p33, List.forall_mem_cons.mpr ⟨lw_p34, List.forall_mem_cons.mpr ⟨lw_p35, List.forall_mem_cons.mpr ⟨lw_p36, List.forall_mem_cons.mpr ⟨lw_p37, List.forall_mem_cons.mpr ⟨lw_p38, List.forall_mem_cons.mpr ⟨lw_p39, List.forall_mem_cons.mpr ⟨lw_p40, List.forall_mem_cons.mpr ⟨lw_p41, List.forall_mem_cons.mpr ⟨lw_p42, List.forall_mem_cons.mpr ⟨lw_p43, List.forall_mem_cons.mpr ⟨lw_p44, List.forall_mem_cons.mpr ⟨lw_p45, List.forall_mem_cons.mpr ⟨lw_p46, fun _ h => absurd h List.not_mem_nil⟩⟩⟩⟩⟩⟩⟩⟩⟩⟩⟩⟩⟩⟩⟩
def lw_privs : List (MethodName × Nat) := lw_privs_1 ++ (lw_privs_2 ++ (lw_privs_3))
def lw_tbl : List Cond := k2_sels lw_privs ++ tables_1
theorem lw_privs_ok : ∀ q ∈ lw_privs, lw_okq q := by
  show ∀ q ∈ lw_privs_1 ++ (lw_privs_2 ++ (lw_privs_3)), lw_okq q
  exact List.forall_mem_append.mpr ⟨lw_r1, List.forall_mem_append.mpr ⟨lw_r2, lw_r3⟩⟩

theorem goodIn_r {big : List Cond} (ws : List Cond) (ps : List Nat) (hp : ws = ps.filterMap (fun i => big[i]?)) (h : ws.all goodWord = true) : GoodIn big ws := by
  intro w hw
  have h1 := List.all_eq_true.mp h w hw
  rw [hp] at hw
  obtain ⟨i, -, hi⟩ := List.mem_filterMap.mp hw
  have hm : w ∈ big := by first | exact List.mem_of_getElem? hi | exact List.getElem?_mem hi
  exact ⟨hm, good_of_word h1⟩
theorem goodIn_app {big a b : List Cond} (ha : GoodIn big a) (hb : GoodIn big b) : GoodIn big (a ++ b) := fun w h => (List.mem_append.mp h).elim (ha w) (hb w)
theorem goodIn_ca {big a b : List Cond} {c : Cond} (ha : GoodIn big (c :: a)) (hb : GoodIn big b) : GoodIn big (c :: (a ++ b)) := fun w h => (List.mem_cons.mp h).elim (fun e => ha w (List.mem_cons.mpr (Or.inl e))) (fun h => (List.mem_append.mp h).elim (fun h => ha w (List.mem_cons.mpr (Or.inr h))) (hb w))
theorem goodIn_sub {big ws : List Cond} (hm : ∀ w ∈ ws, w ∈ big) (h : ws.all goodWord = true) : GoodIn big ws := fun w hw => ⟨hm w hw, good_of_word (List.all_eq_true.mp h w hw)⟩

def RX0 : String := "BookPairs$Aligner"
def TX0 : u_T := fun k => match k with
  | 0 => ("BookPairs$Aligner", "pairCosts", "[I", true)
  | 1 => ("BookPairs$Aligner", "leastCosts", "[I", true)
  | 2 => ("BookPairs$Aligner", "nextCosts", "[I", true)
  | 3 => ("BookPairs$Aligner", "alikes", "[I", true)
  | 4 => ("BookPairs$Aligner", "firstSorts", "[I", true)
  | 5 => ("BookPairs$Aligner", "sorts", "[I", true)
  | 6 => ("BookPairs$Aligner", "leftsAhead", "[I", true)
  | 7 => ("BookPairs$Aligner", "rightsAhead", "[I", true)
  | 8 => ("BookPairs$Aligner", "leftCount", "I", false)
  | 9 => ("BookPairs$Aligner", "rightCount", "I", false)
  | _ => ("BookPairs$Aligner", "pairCount", "I", false)
def tyX0 : Nat → FieldType := fun k => match k with
  | 0 => .array .int
  | 1 => .array .int
  | 2 => .array .int
  | 3 => .array .int
  | 4 => .array .int
  | 5 => .array .int
  | 6 => .array .int
  | 7 => .array .int
  | 8 => .int
  | 9 => .int
  | _ => .int
abbrev wsX00 : List Cond := u_ws RX0 TX0 11
theorem nmX0 : ∀ a, a < 11 → ∀ b, b < 11 → a ≠ b → (TX0 a).2.1 ≠ (TX0 b).2.1 := by decide +kernel
theorem tyX0_ok : ∀ k, k < 11 → parseFieldDescriptor (TX0 k).2.2.1 = some (tyX0 k) := by decide +kernel
abbrev cX0_init : ByteArray := prog_2_method_1_code
def yX0_init : MethodName := ⟨RX0, "<init>", "()V"⟩
abbrev cX0_align : ByteArray := prog_2_method_2_code
def yX0_align : MethodName := ⟨RX0, "align", "(LBookPairs$Books;)V"⟩
abbrev cX0_take : ByteArray := prog_2_method_3_code
def yX0_take : MethodName := ⟨RX0, "take", "(LBookPairs$Books;)V"⟩
abbrev cX0_leastBy : ByteArray := prog_2_method_4_code
def yX0_leastBy : MethodName := ⟨RX0, "leastBy", "(I)I"⟩
abbrev cX0_fillLeast : ByteArray := prog_2_method_5_code
def yX0_fillLeast : MethodName := ⟨RX0, "fillLeast", "(I)V"⟩
abbrev cX0_fillOthers : ByteArray := prog_2_method_6_code
def yX0_fillOthers : MethodName := ⟨RX0, "fillOthers", "()V"⟩
abbrev cX0_fillOthersAt : ByteArray := prog_2_method_7_code
def yX0_fillOthersAt : MethodName := ⟨RX0, "fillOthersAt", "(I)V"⟩
abbrev cX0_addOthers : ByteArray := prog_2_method_8_code
def yX0_addOthers : MethodName := ⟨RX0, "addOthers", "(IIII)V"⟩
abbrev cX0_walkBest : ByteArray := prog_2_method_9_code
def yX0_walkBest : MethodName := ⟨RX0, "walkBest", "()V"⟩
abbrev cX0_end : ByteArray := prog_2_method_10_code
def yX0_end : MethodName := ⟨RX0, "end", "()I"⟩
abbrev cX0_orNone : ByteArray := prog_2_method_11_code
def yX0_orNone : MethodName := ⟨RX0, "orNone", "(I)I"⟩
abbrev cX0_answer : ByteArray := prog_2_method_12_code
def yX0_answer : MethodName := ⟨RX0, "answer", "(I)I"⟩
abbrev cX0_costOfPair : ByteArray := prog_2_method_13_code
def yX0_costOfPair : MethodName := ⟨RX0, "costOfPair", "(I)I"⟩
abbrev cX0_howManyOf : ByteArray := prog_2_method_14_code
def yX0_howManyOf : MethodName := ⟨RX0, "howManyOf", "(I)I"⟩
abbrev cX0_rightsWith : ByteArray := prog_2_method_15_code
def yX0_rightsWith : MethodName := ⟨RX0, "rightsWith", "(I)I"⟩
abbrev cX0_leftsWith : ByteArray := prog_2_method_16_code
def yX0_leftsWith : MethodName := ⟨RX0, "leftsWith", "(I)I"⟩
abbrev cX0_isIn : ByteArray := prog_2_method_17_code
def yX0_isIn : MethodName := ⟨RX0, "isIn", "(III)Z"⟩
abbrev cX0_setOf : ByteArray := prog_2_method_18_code
def yX0_setOf : MethodName := ⟨RX0, "setOf", "(II)I"⟩
def RX1 : String := "BookPairs$Books"
def TX1 : u_T := fun k => match k with
  | 0 => ("BookPairs$Books", "leftKinds", "[I", true)
  | 1 => ("BookPairs$Books", "leftLetters", "[I", true)
  | 2 => ("BookPairs$Books", "leftAnchors", "[I", true)
  | 3 => ("BookPairs$Books", "rightLetters", "[I", true)
  | 4 => ("BookPairs$Books", "rightAnchors", "[I", true)
  | 5 => ("BookPairs$Books", "leftCount", "I", false)
  | 6 => ("BookPairs$Books", "rightCount", "I", false)
  | 7 => ("BookPairs$Books", "skip", "I", false)
  | 8 => ("BookPairs$Books", "join", "I", false)
  | _ => ("BookPairs$Books", "band", "I", false)
def tyX1 : Nat → FieldType := fun k => match k with
  | 0 => .array .int
  | 1 => .array .int
  | 2 => .array .int
  | 3 => .array .int
  | 4 => .array .int
  | 5 => .int
  | 6 => .int
  | 7 => .int
  | 8 => .int
  | _ => .int
abbrev wsX10 : List Cond := u_ws RX1 TX1 10
theorem nmX1 : ∀ a, a < 10 → ∀ b, b < 10 → a ≠ b → (TX1 a).2.1 ≠ (TX1 b).2.1 := by decide +kernel
theorem tyX1_ok : ∀ k, k < 10 → parseFieldDescriptor (TX1 k).2.2.1 = some (tyX1 k) := by decide +kernel
abbrev cX1_init : ByteArray := prog_3_method_1_code
def yX1_init : MethodName := ⟨RX1, "<init>", "()V"⟩
abbrev cX1_begin : ByteArray := prog_3_method_2_code
def yX1_begin : MethodName := ⟨RX1, "begin", "()V"⟩
abbrev cX1_becomeLike : ByteArray := prog_3_method_3_code
def yX1_becomeLike : MethodName := ⟨RX1, "becomeLike", "(LBookPairs$Books;)V"⟩
abbrev cX1_areThere : ByteArray := prog_3_method_4_code
def yX1_areThere : MethodName := ⟨RX1, "areThere", "()Z"⟩
abbrev cX1_hasLeft : ByteArray := prog_3_method_5_code
def yX1_hasLeft : MethodName := ⟨RX1, "hasLeft", "(I)Z"⟩
abbrev cX1_hasRight : ByteArray := prog_3_method_6_code
def yX1_hasRight : MethodName := ⟨RX1, "hasRight", "(I)Z"⟩
abbrev cX1_leftLength : ByteArray := prog_3_method_7_code
def yX1_leftLength : MethodName := ⟨RX1, "leftLength", "(I)I"⟩
abbrev cX1_priceOf : ByteArray := prog_3_method_8_code
def yX1_priceOf : MethodName := ⟨RX1, "priceOf", "(I)I"⟩
abbrev cX1_setPrice : ByteArray := prog_3_method_9_code
def yX1_setPrice : MethodName := ⟨RX1, "setPrice", "(II)V"⟩
abbrev cX1_takeAct : ByteArray := prog_3_method_10_code
def yX1_takeAct : MethodName := ⟨RX1, "takeAct", "(II)Z"⟩
abbrev cX1_takeMoved : ByteArray := prog_3_method_11_code
def yX1_takeMoved : MethodName := ⟨RX1, "takeMoved", "(LBookPairs$Books;III)V"⟩
abbrev cX1_hasPair : ByteArray := prog_3_method_12_code
def yX1_hasPair : MethodName := ⟨RX1, "hasPair", "(III)Z"⟩
abbrev cX1_pairCost : ByteArray := prog_3_method_13_code
def yX1_pairCost : MethodName := ⟨RX1, "pairCost", "(III)I"⟩
abbrev cX1_anchorSet : ByteArray := prog_3_method_14_code
def yX1_anchorSet : MethodName := ⟨RX1, "anchorSet", "(I)I"⟩
def RX2 : String := "BookPairs$Sheet"
def TX2 : u_T := fun k => match k with
  | 0 => ("BookPairs$Sheet", "cells", "[I", true)
  | 1 => ("BookPairs$Sheet", "there", "Z", false)
  | 2 => ("BookPairs$Sheet", "lane", "I", false)
  | _ => ("BookPairs$Sheet", "size", "I", false)
def tyX2 : Nat → FieldType := fun k => match k with
  | 0 => .array .int
  | 1 => .boolean
  | 2 => .int
  | _ => .int
abbrev wsX20 : List Cond := u_ws RX2 TX2 4
theorem nmX2 : ∀ a, a < 4 → ∀ b, b < 4 → a ≠ b → (TX2 a).2.1 ≠ (TX2 b).2.1 := by decide +kernel
theorem tyX2_ok : ∀ k, k < 4 → parseFieldDescriptor (TX2 k).2.2.1 = some (tyX2 k) := by decide +kernel
abbrev cX2_init : ByteArray := prog_4_method_1_code
def yX2_init : MethodName := ⟨RX2, "<init>", "()V"⟩
abbrev cX2_begin : ByteArray := prog_4_method_2_code
def yX2_begin : MethodName := ⟨RX2, "begin", "(II)V"⟩
abbrev cX2_faultAs : ByteArray := prog_4_method_3_code
def yX2_faultAs : MethodName := ⟨RX2, "faultAs", "(I)I"⟩
abbrev cX2_hasCells : ByteArray := prog_4_method_4_code
def yX2_hasCells : MethodName := ⟨RX2, "hasCells", "(II)Z"⟩
abbrev cX2_cut : ByteArray := prog_4_method_5_code
def yX2_cut : MethodName := ⟨RX2, "cut", "(I)I"⟩
def RX3 : String := "BookPairs$TextTaker"
def TX3 : u_T := fun k => match k with
  | _ => ("BookPairs$TextTaker", "awaits", "I", false)
def tyX3 : Nat → FieldType := fun k => match k with
  | _ => .int
abbrev wsX30 : List Cond := u_ws RX3 TX3 1
theorem nmX3 : ∀ a, a < 1 → ∀ b, b < 1 → a ≠ b → (TX3 a).2.1 ≠ (TX3 b).2.1 := by decide +kernel
theorem tyX3_ok : ∀ k, k < 1 → parseFieldDescriptor (TX3 k).2.2.1 = some (tyX3 k) := by decide +kernel
abbrev cX3_init : ByteArray := prog_5_method_1_code
def yX3_init : MethodName := ⟨RX3, "<init>", "()V"⟩
abbrev cX3_firstFault : ByteArray := prog_5_method_2_code
def yX3_firstFault : MethodName := ⟨RX3, "firstFault", "(LBookPairs$Sheet;IILBookPairs$Books;)I"⟩
abbrev cX3_goesOn : ByteArray := prog_5_method_3_code
def yX3_goesOn : MethodName := ⟨RX3, "goesOn", "(ILBookPairs$Books;)Z"⟩
abbrev cX3_goesOnInLeft : ByteArray := prog_5_method_4_code
def yX3_goesOnInLeft : MethodName := ⟨RX3, "goesOnInLeft", "(ILBookPairs$Books;)Z"⟩
abbrev cX3_goesOnInRight : ByteArray := prog_5_method_5_code
def yX3_goesOnInRight : MethodName := ⟨RX3, "goesOnInRight", "(ILBookPairs$Books;)Z"⟩
abbrev cX3_isDigit : ByteArray := prog_5_method_6_code
def yX3_isDigit : MethodName := ⟨RX3, "isDigit", "(I)Z"⟩
abbrev cX3_kindOf : ByteArray := prog_5_method_7_code
def yX3_kindOf : MethodName := ⟨RX3, "kindOf", "(I)I"⟩
abbrev cX3_anchorOf : ByteArray := prog_5_method_8_code
def yX3_anchorOf : MethodName := ⟨RX3, "anchorOf", "(I)I"⟩
def RX4 : String := "BookPairs"
def TX4 : u_T := fun k => match k with
  | 0 => ("BookPairs", "sheets", "[LBookPairs$Sheet;", true)
  | 1 => ("BookPairs", "now", "LBookPairs$Books;", true)
  | 2 => ("BookPairs", "supposed", "LBookPairs$Books;", true)
  | 3 => ("BookPairs", "bestOfNow", "LBookPairs$Aligner;", true)
  | 4 => ("BookPairs", "trial", "LBookPairs$Aligner;", true)
  | 5 => ("BookPairs", "textTaker", "LBookPairs$TextTaker;", true)
  | 6 => ("BookPairs", "readingBands", "[I", true)
  | 7 => ("BookPairs", "readingCosts", "[I", true)
  | 8 => ("BookPairs", "readingCount", "I", false)
  | 9 => ("BookPairs", "aligned", "Z", false)
  | 10 => ("BookPairs", "trace", "I", false)
  | _ => ("BookPairs", "fault", "I", false)
def tyX4 : Nat → FieldType := fun k => match k with
  | 0 => .array (.object "BookPairs$Sheet")
  | 1 => .object "BookPairs$Books"
  | 2 => .object "BookPairs$Books"
  | 3 => .object "BookPairs$Aligner"
  | 4 => .object "BookPairs$Aligner"
  | 5 => .object "BookPairs$TextTaker"
  | 6 => .array .int
  | 7 => .array .int
  | 8 => .int
  | 9 => .boolean
  | 10 => .int
  | _ => .int
abbrev wsX40 : List Cond := u_ws RX4 TX4 12
theorem nmX4 : ∀ a, a < 12 → ∀ b, b < 12 → a ≠ b → (TX4 a).2.1 ≠ (TX4 b).2.1 := by decide +kernel
theorem tyX4_ok : ∀ k, k < 12 → parseFieldDescriptor (TX4 k).2.2.1 = some (tyX4 k) := by decide +kernel
abbrev cX4_init : ByteArray := prog_1_method_1_code
def yX4_init : MethodName := ⟨RX4, "<init>", "()V"⟩
abbrev cX4_books : ByteArray := prog_1_method_2_code
def yX4_books : MethodName := ⟨RX4, "books", "(IIII)I"⟩
abbrev cX4_ofLeft : ByteArray := prog_1_method_3_code
def yX4_ofLeft : MethodName := ⟨RX4, "ofLeft", "(II)I"⟩
abbrev cX4_ofRight : ByteArray := prog_1_method_4_code
def yX4_ofRight : MethodName := ⟨RX4, "ofRight", "(II)I"⟩
abbrev cX4_letters : ByteArray := prog_1_method_5_code
def yX4_letters : MethodName := ⟨RX4, "letters", "(III)I"⟩
abbrev cX4_price : ByteArray := prog_1_method_6_code
def yX4_price : MethodName := ⟨RX4, "price", "(II)I"⟩
abbrev cX4_move : ByteArray := prog_1_method_7_code
def yX4_move : MethodName := ⟨RX4, "move", "(III)I"⟩
abbrev cX4_best : ByteArray := prog_1_method_8_code
def yX4_best : MethodName := ⟨RX4, "best", "(I)I"⟩
abbrev cX4_ofPair : ByteArray := prog_1_method_9_code
def yX4_ofPair : MethodName := ⟨RX4, "ofPair", "(II)I"⟩
abbrev cX4_cost : ByteArray := prog_1_method_10_code
def yX4_cost : MethodName := ⟨RX4, "cost", "(III)I"⟩
abbrev cX4_day : ByteArray := prog_1_method_11_code
def yX4_day : MethodName := ⟨RX4, "day", "(IIIII)I"⟩
abbrev cX4_by : ByteArray := prog_1_method_12_code
def yX4_by : MethodName := ⟨RX4, "by", "(I)I"⟩
abbrev cX4_enough : ByteArray := prog_1_method_13_code
def yX4_enough : MethodName := ⟨RX4, "enough", "()I"⟩
abbrev cX4_reading : ByteArray := prog_1_method_14_code
def yX4_reading : MethodName := ⟨RX4, "reading", "(II)I"⟩
abbrev cX4_back : ByteArray := prog_1_method_15_code
def yX4_back : MethodName := ⟨RX4, "back", "(I)I"⟩
abbrev cX4_kinds : ByteArray := prog_1_method_16_code
def yX4_kinds : MethodName := ⟨RX4, "kinds", "(I)I"⟩
abbrev cX4_letterings : ByteArray := prog_1_method_17_code
def yX4_letterings : MethodName := ⟨RX4, "letterings", "(I)I"⟩
abbrev cX4_odds : ByteArray := prog_1_method_18_code
def yX4_odds : MethodName := ⟨RX4, "odds", "(II)J"⟩
abbrev cX4_sheet : ByteArray := prog_1_method_19_code
def yX4_sheet : MethodName := ⟨RX4, "sheet", "(III)I"⟩
abbrev cX4_lose : ByteArray := prog_1_method_20_code
def yX4_lose : MethodName := ⟨RX4, "lose", "(I)I"⟩
abbrev cX4_put : ByteArray := prog_1_method_21_code
def yX4_put : MethodName := ⟨RX4, "put", "(III)I"⟩
abbrev cX4_cell : ByteArray := prog_1_method_22_code
def yX4_cell : MethodName := ⟨RX4, "cell", "(III)J"⟩
abbrev cX4_copy : ByteArray := prog_1_method_23_code
def yX4_copy : MethodName := ⟨RX4, "copy", "(IIIII)I"⟩
abbrev cX4_tell : ByteArray := prog_1_method_24_code
def yX4_tell : MethodName := ⟨RX4, "tell", "(I)I"⟩
abbrev cX4_read : ByteArray := prog_1_method_25_code
def yX4_read : MethodName := ⟨RX4, "read", "(I)I"⟩
abbrev cX4_as : ByteArray := prog_1_method_26_code
def yX4_as : MethodName := ⟨RX4, "as", "(II)I"⟩
abbrev cX4_trace : ByteArray := prog_1_method_27_code
def yX4_trace : MethodName := ⟨RX4, "trace", "()I"⟩
abbrev cX4_fault : ByteArray := prog_1_method_28_code
def yX4_fault : MethodName := ⟨RX4, "fault", "()I"⟩
abbrev cX4_many : ByteArray := prog_1_method_29_code
def yX4_many : MethodName := ⟨RX4, "many", "(I)I"⟩
abbrev cX4_isSheet : ByteArray := prog_1_method_30_code
def yX4_isSheet : MethodName := ⟨RX4, "isSheet", "(I)Z"⟩
abbrev cX4_isLane : ByteArray := prog_1_method_31_code
def yX4_isLane : MethodName := ⟨RX4, "isLane", "(I)Z"⟩
abbrev cX4_isSort : ByteArray := prog_1_method_32_code
def yX4_isSort : MethodName := ⟨RX4, "isSort", "(I)Z"⟩
abbrev cX4_isLetters : ByteArray := prog_1_method_33_code
def yX4_isLetters : MethodName := ⟨RX4, "isLetters", "(I)Z"⟩
abbrev cX4_isPrice : ByteArray := prog_1_method_34_code
def yX4_isPrice : MethodName := ⟨RX4, "isPrice", "(II)Z"⟩
abbrev cX4_isAskedOfDay : ByteArray := prog_1_method_35_code
def yX4_isAskedOfDay : MethodName := ⟨RX4, "isAskedOfDay", "(I)Z"⟩
abbrev cX4_isAct : ByteArray := prog_1_method_36_code
def yX4_isAct : MethodName := ⟨RX4, "isAct", "(II)Z"⟩
abbrev cX4_areActs : ByteArray := prog_1_method_37_code
def yX4_areActs : MethodName := ⟨RX4, "areActs", "(LBookPairs$Sheet;II)Z"⟩
abbrev cX4_failed : ByteArray := prog_1_method_38_code
def yX4_failed : MethodName := ⟨RX4, "failed", "(I)I"⟩
abbrev cX4_alignmentOfNow : ByteArray := prog_1_method_39_code
def yX4_alignmentOfNow : MethodName := ⟨RX4, "alignmentOfNow", "()LBookPairs$Aligner;"⟩
abbrev cX4_supposeDay : ByteArray := prog_1_method_40_code
def yX4_supposeDay : MethodName := ⟨RX4, "supposeDay", "(LBookPairs$Sheet;II)I"⟩
abbrev cX4_answerOfDay : ByteArray := prog_1_method_41_code
def yX4_answerOfDay : MethodName := ⟨RX4, "answerOfDay", "(II)I"⟩
abbrev cX4_readingsHoldIfSupposed : ByteArray := prog_1_method_42_code
def yX4_readingsHoldIfSupposed : MethodName := ⟨RX4, "readingsHoldIfSupposed", "()Z"⟩
abbrev cX4_commonDivisor : ByteArray := prog_1_method_43_code
def yX4_commonDivisor : MethodName := ⟨RX4, "commonDivisor", "(II)I"⟩
abbrev cX4_leaveTrace : ByteArray := prog_1_method_44_code
def yX4_leaveTrace : MethodName := ⟨RX4, "leaveTrace", "(I)V"⟩
abbrev cX4_plainBody : ByteArray := prog_1_method_45_code
def yX4_plainBody : MethodName := ⟨RX4, "plainBody", "(I)I"⟩
abbrev cX4_longBody : ByteArray := prog_1_method_46_code
def yX4_longBody : MethodName := ⟨RX4, "longBody", "(I)I"⟩
abbrev cX4_doubleBody : ByteArray := prog_1_method_47_code
def yX4_doubleBody : MethodName := ⟨RX4, "doubleBody", "(I)I"⟩
abbrev cX4_lentBody : ByteArray := prog_1_method_48_code
def yX4_lentBody : MethodName := ⟨RX4, "lentBody", "(I)I"⟩
abbrev cX4_doublesOwnBody : ByteArray := prog_1_method_49_code
def yX4_doublesOwnBody : MethodName := ⟨RX4, "doublesOwnBody", "(I)I"⟩
def RX5 : String := "BookPairsModel"
def TX5 : u_T := fun k => match k with
  | 0 => ("BookPairsModel", "fault", "I", false)
  | 1 => ("BookPairsModel", "trace", "I", false)
  | 2 => ("BookPairsModel", "sorts", "[I", true)
  | 3 => ("BookPairsModel", "sheetLong", "[I", true)
  | 4 => ("BookPairsModel", "cells", "[I", true)
  | 5 => ("BookPairsModel", "lefts", "I", false)
  | 6 => ("BookPairsModel", "rights", "I", false)
  | 7 => ("BookPairsModel", "skip", "I", false)
  | 8 => ("BookPairsModel", "join", "I", false)
  | 9 => ("BookPairsModel", "band", "I", false)
  | 10 => ("BookPairsModel", "kind", "[I", true)
  | 11 => ("BookPairsModel", "leftLetters", "[I", true)
  | 12 => ("BookPairsModel", "leftAnchor", "[I", true)
  | 13 => ("BookPairsModel", "rightLetters", "[I", true)
  | 14 => ("BookPairsModel", "rightAnchor", "[I", true)
  | 15 => ("BookPairsModel", "at", "I", false)
  | 16 => ("BookPairsModel", "readLefts", "I", false)
  | 17 => ("BookPairsModel", "readRights", "I", false)
  | 18 => ("BookPairsModel", "readKind", "[I", true)
  | 19 => ("BookPairsModel", "readLetters", "[I", true)
  | 20 => ("BookPairsModel", "readAnchor", "[I", true)
  | 21 => ("BookPairsModel", "least", "[I", true)
  | 22 => ("BookPairsModel", "next", "[I", true)
  | 23 => ("BookPairsModel", "alike", "[I", true)
  | 24 => ("BookPairsModel", "pairs", "I", false)
  | 25 => ("BookPairsModel", "pairSort", "[I", true)
  | 26 => ("BookPairsModel", "pairLeft", "[I", true)
  | 27 => ("BookPairsModel", "pairRight", "[I", true)
  | 28 => ("BookPairsModel", "kept", "[I", true)
  | 29 => ("BookPairsModel", "readings", "I", false)
  | 30 => ("BookPairsModel", "readBand", "[I", true)
  | _ => ("BookPairsModel", "readCost", "[I", true)
def tyX5 : Nat → FieldType := fun k => match k with
  | 0 => .int
  | 1 => .int
  | 2 => .array .int
  | 3 => .array .int
  | 4 => .array .int
  | 5 => .int
  | 6 => .int
  | 7 => .int
  | 8 => .int
  | 9 => .int
  | 10 => .array .int
  | 11 => .array .int
  | 12 => .array .int
  | 13 => .array .int
  | 14 => .array .int
  | 15 => .int
  | 16 => .int
  | 17 => .int
  | 18 => .array .int
  | 19 => .array .int
  | 20 => .array .int
  | 21 => .array .int
  | 22 => .array .int
  | 23 => .array .int
  | 24 => .int
  | 25 => .array .int
  | 26 => .array .int
  | 27 => .array .int
  | 28 => .array .int
  | 29 => .int
  | 30 => .array .int
  | _ => .array .int
abbrev wsX50 : List Cond := u_ws RX5 TX5 32
theorem nmX5 : ∀ a, a < 32 → ∀ b, b < 32 → a ≠ b → (TX5 a).2.1 ≠ (TX5 b).2.1 := by decide +kernel
theorem tyX5_ok : ∀ k, k < 32 → parseFieldDescriptor (TX5 k).2.2.1 = some (tyX5 k) := by decide +kernel
abbrev cX5_init : ByteArray := prog_7_method_1_code
def yX5_init : MethodName := ⟨RX5, "<init>", "()V"⟩
abbrev cX5_fails : ByteArray := prog_7_method_3_code
def yX5_fails : MethodName := ⟨RX5, "fails", "(I)I"⟩
abbrev cX5_lost : ByteArray := prog_7_method_4_code
def yX5_lost : MethodName := ⟨RX5, "lost", "(I)J"⟩
abbrev cX5_within : ByteArray := prog_7_method_5_code
def yX5_within : MethodName := ⟨RX5, "within", "(III)Z"⟩
abbrev cX5_isSheet : ByteArray := prog_7_method_6_code
def yX5_isSheet : MethodName := ⟨RX5, "isSheet", "(I)Z"⟩
abbrev cX5_isSort : ByteArray := prog_7_method_7_code
def yX5_isSort : MethodName := ⟨RX5, "isSort", "(I)Z"⟩
abbrev cX5_against : ByteArray := prog_7_method_8_code
def yX5_against : MethodName := ⟨RX5, "against", "(IIII)I"⟩
abbrev cX5_isLeft : ByteArray := prog_7_method_9_code
def yX5_isLeft : MethodName := ⟨RX5, "isLeft", "(I)Z"⟩
abbrev cX5_isRight : ByteArray := prog_7_method_10_code
def yX5_isRight : MethodName := ⟨RX5, "isRight", "(I)Z"⟩
abbrev cX5_isSign : ByteArray := prog_7_method_11_code
def yX5_isSign : MethodName := ⟨RX5, "isSign", "(II)Z"⟩
abbrev cX5_books : ByteArray := prog_7_method_12_code
def yX5_books : MethodName := ⟨RX5, "books", "(IIII)I"⟩
abbrev cX5_readAll : ByteArray := prog_7_method_13_code
def yX5_readAll : MethodName := ⟨RX5, "readAll", "(I)Z"⟩
abbrev cX5_readKindNext : ByteArray := prog_7_method_14_code
def yX5_readKindNext : MethodName := ⟨RX5, "readKindNext", "(I)Z"⟩
abbrev cX5_readSentence : ByteArray := prog_7_method_15_code
def yX5_readSentence : MethodName := ⟨RX5, "readSentence", "(II)Z"⟩
abbrev cX5_lengthOf : ByteArray := prog_7_method_16_code
def yX5_lengthOf : MethodName := ⟨RX5, "lengthOf", "(I)I"⟩
abbrev cX5_leftsOf : ByteArray := prog_7_method_17_code
def yX5_leftsOf : MethodName := ⟨RX5, "leftsOf", "(I)I"⟩
abbrev cX5_rightsOf : ByteArray := prog_7_method_18_code
def yX5_rightsOf : MethodName := ⟨RX5, "rightsOf", "(I)I"⟩
abbrev cX5_anchorSet : ByteArray := prog_7_method_19_code
def yX5_anchorSet : MethodName := ⟨RX5, "anchorSet", "(I)I"⟩
abbrev cX5_costOf : ByteArray := prog_7_method_20_code
def yX5_costOf : MethodName := ⟨RX5, "costOf", "(III)I"⟩
abbrev cX5_isStand : ByteArray := prog_7_method_21_code
def yX5_isStand : MethodName := ⟨RX5, "isStand", "(III)Z"⟩
abbrev cX5_comes : ByteArray := prog_7_method_22_code
def yX5_comes : MethodName := ⟨RX5, "comes", "(III)V"⟩
abbrev cX5_findStand : ByteArray := prog_7_method_23_code
def yX5_findStand : MethodName := ⟨RX5, "findStand", "(III)V"⟩
abbrev cX5_findAll : ByteArray := prog_7_method_24_code
def yX5_findAll : MethodName := ⟨RX5, "findAll", "(I)I"⟩
abbrev cX5_findBest : ByteArray := prog_7_method_25_code
def yX5_findBest : MethodName := ⟨RX5, "findBest", "()I"⟩
abbrev cX5_isOnBest : ByteArray := prog_7_method_26_code
def yX5_isOnBest : MethodName := ⟨RX5, "isOnBest", "(III)Z"⟩
abbrev cX5_pairedWith : ByteArray := prog_7_method_27_code
def yX5_pairedWith : MethodName := ⟨RX5, "pairedWith", "(II)I"⟩
abbrev cX5_ofLeft : ByteArray := prog_7_method_28_code
def yX5_ofLeft : MethodName := ⟨RX5, "ofLeft", "(II)I"⟩
abbrev cX5_ofRight : ByteArray := prog_7_method_29_code
def yX5_ofRight : MethodName := ⟨RX5, "ofRight", "(II)I"⟩
abbrev cX5_letters : ByteArray := prog_7_method_30_code
def yX5_letters : MethodName := ⟨RX5, "letters", "(III)I"⟩
abbrev cX5_price : ByteArray := prog_7_method_31_code
def yX5_price : MethodName := ⟨RX5, "price", "(II)I"⟩
abbrev cX5_goesUp : ByteArray := prog_7_method_32_code
def yX5_goesUp : MethodName := ⟨RX5, "goesUp", "(I)V"⟩
abbrev cX5_move : ByteArray := prog_7_method_33_code
def yX5_move : MethodName := ⟨RX5, "move", "(III)I"⟩
abbrev cX5_best : ByteArray := prog_7_method_34_code
def yX5_best : MethodName := ⟨RX5, "best", "(I)I"⟩
abbrev cX5_tellBest : ByteArray := prog_7_method_35_code
def yX5_tellBest : MethodName := ⟨RX5, "tellBest", "(I)I"⟩
abbrev cX5_ofPair : ByteArray := prog_7_method_36_code
def yX5_ofPair : MethodName := ⟨RX5, "ofPair", "(II)I"⟩
abbrev cX5_cost : ByteArray := prog_7_method_37_code
def yX5_cost : MethodName := ⟨RX5, "cost", "(III)I"⟩
abbrev cX5_keep : ByteArray := prog_7_method_38_code
def yX5_keep : MethodName := ⟨RX5, "keep", "()V"⟩
abbrev cX5_putBack : ByteArray := prog_7_method_39_code
def yX5_putBack : MethodName := ⟨RX5, "putBack", "()V"⟩
abbrev cX5_does : ByteArray := prog_7_method_40_code
def yX5_does : MethodName := ⟨RX5, "does", "(II)Z"⟩
abbrev cX5_isPair : ByteArray := prog_7_method_41_code
def yX5_isPair : MethodName := ⟨RX5, "isPair", "(II)Z"⟩
abbrev cX5_goDay : ByteArray := prog_7_method_42_code
def yX5_goDay : MethodName := ⟨RX5, "goDay", "(II)I"⟩
abbrev cX5_day : ByteArray := prog_7_method_43_code
def yX5_day : MethodName := ⟨RX5, "day", "(IIIII)I"⟩
abbrev cX5_tellDay : ByteArray := prog_7_method_44_code
def yX5_tellDay : MethodName := ⟨RX5, "tellDay", "(I)I"⟩
abbrev cX5_by : ByteArray := prog_7_method_45_code
def yX5_by : MethodName := ⟨RX5, "by", "(I)I"⟩
abbrev cX5_enough : ByteArray := prog_7_method_46_code
def yX5_enough : MethodName := ⟨RX5, "enough", "()I"⟩
abbrev cX5_reading : ByteArray := prog_7_method_47_code
def yX5_reading : MethodName := ⟨RX5, "reading", "(II)I"⟩
abbrev cX5_back : ByteArray := prog_7_method_48_code
def yX5_back : MethodName := ⟨RX5, "back", "(I)I"⟩
abbrev cX5_areSo : ByteArray := prog_7_method_49_code
def yX5_areSo : MethodName := ⟨RX5, "areSo", "()Z"⟩
abbrev cX5_kinds : ByteArray := prog_7_method_50_code
def yX5_kinds : MethodName := ⟨RX5, "kinds", "(I)I"⟩
abbrev cX5_letterings : ByteArray := prog_7_method_51_code
def yX5_letterings : MethodName := ⟨RX5, "letterings", "(I)I"⟩
abbrev cX5_inLeastTerms : ByteArray := prog_7_method_52_code
def yX5_inLeastTerms : MethodName := ⟨RX5, "inLeastTerms", "(JJI)J"⟩
abbrev cX5_odds : ByteArray := prog_7_method_53_code
def yX5_odds : MethodName := ⟨RX5, "odds", "(II)J"⟩
abbrev cX5_sheet : ByteArray := prog_7_method_54_code
def yX5_sheet : MethodName := ⟨RX5, "sheet", "(III)I"⟩
abbrev cX5_lose : ByteArray := prog_7_method_55_code
def yX5_lose : MethodName := ⟨RX5, "lose", "(I)I"⟩
abbrev cX5_put : ByteArray := prog_7_method_56_code
def yX5_put : MethodName := ⟨RX5, "put", "(III)I"⟩
abbrev cX5_cell : ByteArray := prog_7_method_57_code
def yX5_cell : MethodName := ⟨RX5, "cell", "(III)J"⟩
abbrev cX5_copy : ByteArray := prog_7_method_58_code
def yX5_copy : MethodName := ⟨RX5, "copy", "(IIIII)I"⟩
abbrev cX5_begins : ByteArray := prog_7_method_59_code
def yX5_begins : MethodName := ⟨RX5, "begins", "(I)V"⟩
abbrev cX5_tell : ByteArray := prog_7_method_60_code
def yX5_tell : MethodName := ⟨RX5, "tell", "(I)I"⟩
abbrev cX5_read : ByteArray := prog_7_method_61_code
def yX5_read : MethodName := ⟨RX5, "read", "(I)I"⟩
abbrev cX5_as : ByteArray := prog_7_method_62_code
def yX5_as : MethodName := ⟨RX5, "as", "(II)I"⟩
abbrev cX5_trace : ByteArray := prog_7_method_63_code
def yX5_trace : MethodName := ⟨RX5, "trace", "()I"⟩
abbrev cX5_fault : ByteArray := prog_7_method_64_code
def yX5_fault : MethodName := ⟨RX5, "fault", "()I"⟩
abbrev cX5_many : ByteArray := prog_7_method_65_code
def yX5_many : MethodName := ⟨RX5, "many", "(I)I"⟩
def RJ9 : String := "java/lang/Math"
def TJ9 : u_T := fun k => match k with
  | _ => ("", "", "", false)
def tyJ9 : Nat → FieldType := fun k => match k with
  | _ => .int
abbrev wsJ90 : List Cond := u_ws RJ9 TJ9 0
theorem nmJ9 : ∀ a, a < 0 → ∀ b, b < 0 → a ≠ b → (TJ9 a).2.1 ≠ (TJ9 b).2.1 := by decide +kernel
theorem tyJ9_ok : ∀ k, k < 0 → parseFieldDescriptor (TJ9 k).2.2.1 = some (tyJ9 k) := by decide +kernel
abbrev cJ9_abs_0f7a4 : ByteArray := prog_8_method_59_code
def yJ9_abs_0f7a4 : MethodName := ⟨RJ9, "abs", "(I)I"⟩
abbrev cJ9_min_7cf53 : ByteArray := prog_8_method_69_code
def yJ9_min_7cf53 : MethodName := ⟨RJ9, "min", "(II)I"⟩
def RJ10 : String := "java/lang/System"
def TJ10 : u_T := fun k => match k with
  | _ => ("", "", "", false)
def tyJ10 : Nat → FieldType := fun k => match k with
  | _ => .int
abbrev wsJ100 : List Cond := u_ws RJ10 TJ10 0
theorem nmJ10 : ∀ a, a < 0 → ∀ b, b < 0 → a ≠ b → (TJ10 a).2.1 ≠ (TJ10 b).2.1 := by decide +kernel
theorem tyJ10_ok : ∀ k, k < 0 → parseFieldDescriptor (TJ10 k).2.2.1 = some (tyJ10 k) := by decide +kernel
def RJ7 : String := "java/util/Arrays"
def TJ7 : u_T := fun k => match k with
  | _ => ("", "", "", false)
def tyJ7 : Nat → FieldType := fun k => match k with
  | _ => .int
abbrev wsJ70 : List Cond := u_ws RJ7 TJ7 0
theorem nmJ7 : ∀ a, a < 0 → ∀ b, b < 0 → a ≠ b → (TJ7 a).2.1 ≠ (TJ7 b).2.1 := by decide +kernel
theorem tyJ7_ok : ∀ k, k < 0 → parseFieldDescriptor (TJ7 k).2.2.1 = some (tyJ7 k) := by decide +kernel
abbrev cJ7_fill_53178 : ByteArray := prog_10_method_103_code
def yJ7_fill_53178 : MethodName := ⟨RJ7, "fill", "([II)V"⟩
def RL : String := "BookPairsLaw"
abbrev cL_law : ByteArray := code
def yL_law : MethodName := ⟨RL, "law", "([I)Z"⟩
abbrev vwCl : List vw_C := [(RX0, TX0, 11), (RX1, TX1, 10), (RX2, TX2, 4), (RX3, TX3, 1), (RX4, TX4, 12), (RX5, TX5, 32)]
def TB : List Cond := lw_tbl.filter goodWord
theorem tbi1 {w : Cond} (h : w ∈ tables_1_1) : w ∈ lw_tbl := List.mem_append_right _ (show w ∈ tables_1_1 ++ (tables_1_2 ++ (tables_1_3 ++ tables_1_4)) from List.mem_append_left _ h)
theorem tb1 {w : Cond} (i : Nat) (h : tables_1_1[i]? = some w) (hg : goodWord w = true) : w ∈ TB := List.mem_filter.mpr ⟨tbi1 (List.mem_of_getElem? h), hg⟩
theorem tbi2 {w : Cond} (h : w ∈ tables_1_2) : w ∈ lw_tbl := List.mem_append_right _ (show w ∈ tables_1_1 ++ (tables_1_2 ++ (tables_1_3 ++ tables_1_4)) from List.mem_append_right _ (List.mem_append_left _ h))
theorem tb2 {w : Cond} (i : Nat) (h : tables_1_2[i]? = some w) (hg : goodWord w = true) : w ∈ TB := List.mem_filter.mpr ⟨tbi2 (List.mem_of_getElem? h), hg⟩
theorem tbi3 {w : Cond} (h : w ∈ tables_1_3) : w ∈ lw_tbl := List.mem_append_right _ (show w ∈ tables_1_1 ++ (tables_1_2 ++ (tables_1_3 ++ tables_1_4)) from List.mem_append_right _ (List.mem_append_right _ (List.mem_append_left _ h)))
theorem tb3 {w : Cond} (i : Nat) (h : tables_1_3[i]? = some w) (hg : goodWord w = true) : w ∈ TB := List.mem_filter.mpr ⟨tbi3 (List.mem_of_getElem? h), hg⟩
theorem tbi4 {w : Cond} (h : w ∈ tables_1_4) : w ∈ lw_tbl := List.mem_append_right _ (show w ∈ tables_1_1 ++ (tables_1_2 ++ (tables_1_3 ++ tables_1_4)) from List.mem_append_right _ (List.mem_append_right _ (List.mem_append_right _ h)))
theorem tb4 {w : Cond} (i : Nat) (h : tables_1_4[i]? = some w) (hg : goodWord w = true) : w ∈ TB := List.mem_filter.mpr ⟨tbi4 (List.mem_of_getElem? h), hg⟩
theorem tbp {w : Cond} (i : Nat) (h : (k2_sels lw_privs)[i]? = some w) (hg : goodWord w = true) : w ∈ TB := List.mem_filter.mpr ⟨List.mem_append_left _ (List.mem_of_getElem? h), hg⟩
theorem TB_good : GoodIn TB TB := fun w hw => ⟨hw, good_of_word (List.mem_filter.mp hw).2⟩
theorem inX0 : ∀ w ∈ wsX00, w ∈ TB := by
  intro w hw
  obtain ⟨k, hk, rfl⟩ := List.mem_map.mp hw
  have hk := List.mem_range.mp hk
  match k, hk with
  | 0, _ => exact tb1 99 (by decide +kernel) (by decide +kernel)
  | 1, _ => exact tb1 101 (by decide +kernel) (by decide +kernel)
  | 2, _ => exact tb1 103 (by decide +kernel) (by decide +kernel)
  | 3, _ => exact tb1 105 (by decide +kernel) (by decide +kernel)
  | 4, _ => exact tb1 107 (by decide +kernel) (by decide +kernel)
  | 5, _ => exact tb1 109 (by decide +kernel) (by decide +kernel)
  | 6, _ => exact tb1 111 (by decide +kernel) (by decide +kernel)
  | 7, _ => exact tb1 113 (by decide +kernel) (by decide +kernel)
  | 8, _ => exact tb1 115 (by decide +kernel) (by decide +kernel)
  | 9, _ => exact tb1 117 (by decide +kernel) (by decide +kernel)
  | 10, _ => exact tb1 119 (by decide +kernel) (by decide +kernel)
  | k + 11, hk => exact absurd hk (by omega)
theorem inX1 : ∀ w ∈ wsX10, w ∈ TB := by
  intro w hw
  obtain ⟨k, hk, rfl⟩ := List.mem_map.mp hw
  have hk := List.mem_range.mp hk
  match k, hk with
  | 0, _ => exact tb1 56 (by decide +kernel) (by decide +kernel)
  | 1, _ => exact tb1 58 (by decide +kernel) (by decide +kernel)
  | 2, _ => exact tb1 60 (by decide +kernel) (by decide +kernel)
  | 3, _ => exact tb1 62 (by decide +kernel) (by decide +kernel)
  | 4, _ => exact tb1 64 (by decide +kernel) (by decide +kernel)
  | 5, _ => exact tb1 66 (by decide +kernel) (by decide +kernel)
  | 6, _ => exact tb1 68 (by decide +kernel) (by decide +kernel)
  | 7, _ => exact tb1 70 (by decide +kernel) (by decide +kernel)
  | 8, _ => exact tb1 72 (by decide +kernel) (by decide +kernel)
  | 9, _ => exact tb1 74 (by decide +kernel) (by decide +kernel)
  | k + 10, hk => exact absurd hk (by omega)
theorem inX2 : ∀ w ∈ wsX20, w ∈ TB := by
  intro w hw
  obtain ⟨k, hk, rfl⟩ := List.mem_map.mp hw
  have hk := List.mem_range.mp hk
  match k, hk with
  | 0, _ => exact tb1 145 (by decide +kernel) (by decide +kernel)
  | 1, _ => exact tb1 147 (by decide +kernel) (by decide +kernel)
  | 2, _ => exact tb1 149 (by decide +kernel) (by decide +kernel)
  | 3, _ => exact tb1 151 (by decide +kernel) (by decide +kernel)
  | k + 4, hk => exact absurd hk (by omega)
theorem inX3 : ∀ w ∈ wsX30, w ∈ TB := by
  intro w hw
  obtain ⟨k, hk, rfl⟩ := List.mem_map.mp hw
  have hk := List.mem_range.mp hk
  match k, hk with
  | 0, _ => exact tb1 129 (by decide +kernel) (by decide +kernel)
  | k + 1, hk => exact absurd hk (by omega)
theorem inX4 : ∀ w ∈ wsX40, w ∈ TB := by
  intro w hw
  obtain ⟨k, hk, rfl⟩ := List.mem_map.mp hw
  have hk := List.mem_range.mp hk
  match k, hk with
  | 0, _ => exact tb1 166 (by decide +kernel) (by decide +kernel)
  | 1, _ => exact tb1 168 (by decide +kernel) (by decide +kernel)
  | 2, _ => exact tb1 170 (by decide +kernel) (by decide +kernel)
  | 3, _ => exact tb1 172 (by decide +kernel) (by decide +kernel)
  | 4, _ => exact tb1 174 (by decide +kernel) (by decide +kernel)
  | 5, _ => exact tb1 176 (by decide +kernel) (by decide +kernel)
  | 6, _ => exact tb1 178 (by decide +kernel) (by decide +kernel)
  | 7, _ => exact tb1 180 (by decide +kernel) (by decide +kernel)
  | 8, _ => exact tb1 182 (by decide +kernel) (by decide +kernel)
  | 9, _ => exact tb1 184 (by decide +kernel) (by decide +kernel)
  | 10, _ => exact tb1 186 (by decide +kernel) (by decide +kernel)
  | 11, _ => exact tb1 188 (by decide +kernel) (by decide +kernel)
  | k + 12, hk => exact absurd hk (by omega)
theorem inX5 : ∀ w ∈ wsX50, w ∈ TB := by
  intro w hw
  obtain ⟨k, hk, rfl⟩ := List.mem_map.mp hw
  have hk := List.mem_range.mp hk
  match k, hk with
  | 0, _ => exact tb3 121 (by decide +kernel) (by decide +kernel)
  | 1, _ => exact tb3 123 (by decide +kernel) (by decide +kernel)
  | 2, _ => exact tb3 125 (by decide +kernel) (by decide +kernel)
  | 3, _ => exact tb3 127 (by decide +kernel) (by decide +kernel)
  | 4, _ => exact tb3 129 (by decide +kernel) (by decide +kernel)
  | 5, _ => exact tb3 131 (by decide +kernel) (by decide +kernel)
  | 6, _ => exact tb3 133 (by decide +kernel) (by decide +kernel)
  | 7, _ => exact tb3 135 (by decide +kernel) (by decide +kernel)
  | 8, _ => exact tb3 137 (by decide +kernel) (by decide +kernel)
  | 9, _ => exact tb3 139 (by decide +kernel) (by decide +kernel)
  | 10, _ => exact tb3 141 (by decide +kernel) (by decide +kernel)
  | 11, _ => exact tb3 143 (by decide +kernel) (by decide +kernel)
  | 12, _ => exact tb3 145 (by decide +kernel) (by decide +kernel)
  | 13, _ => exact tb3 147 (by decide +kernel) (by decide +kernel)
  | 14, _ => exact tb3 149 (by decide +kernel) (by decide +kernel)
  | 15, _ => exact tb3 151 (by decide +kernel) (by decide +kernel)
  | 16, _ => exact tb3 153 (by decide +kernel) (by decide +kernel)
  | 17, _ => exact tb3 155 (by decide +kernel) (by decide +kernel)
  | 18, _ => exact tb3 157 (by decide +kernel) (by decide +kernel)
  | 19, _ => exact tb3 159 (by decide +kernel) (by decide +kernel)
  | 20, _ => exact tb3 161 (by decide +kernel) (by decide +kernel)
  | 21, _ => exact tb3 163 (by decide +kernel) (by decide +kernel)
  | 22, _ => exact tb3 165 (by decide +kernel) (by decide +kernel)
  | 23, _ => exact tb3 167 (by decide +kernel) (by decide +kernel)
  | 24, _ => exact tb3 169 (by decide +kernel) (by decide +kernel)
  | 25, _ => exact tb3 171 (by decide +kernel) (by decide +kernel)
  | 26, _ => exact tb3 173 (by decide +kernel) (by decide +kernel)
  | 27, _ => exact tb3 175 (by decide +kernel) (by decide +kernel)
  | 28, _ => exact tb3 177 (by decide +kernel) (by decide +kernel)
  | 29, _ => exact tb3 179 (by decide +kernel) (by decide +kernel)
  | 30, _ => exact tb3 181 (by decide +kernel) (by decide +kernel)
  | 31, _ => exact tb3 183 (by decide +kernel) (by decide +kernel)
  | k + 32, hk => exact absurd hk (by omega)
end
section
abbrev Mem : Type := Nat → Nat → Int32
abbrev CSh : Type := (Nat ⊕ List Nat) ⊕ (Nat × List (Option Nat))
def fO (ci c : Nat) : List (Option Nat) := match ci with
  | 0 => [some (c + 1), some (c + 2), some (c + 3), some (c + 4), some (c + 5), some (c + 6), some (c + 7), some (c + 8), none, none, none]
  | 1 => [some (c + 1), some (c + 2), some (c + 3), some (c + 4), some (c + 5), none, none, none, none, none]
  | 2 => [some (c + 1), none, none, none]
  | 3 => [none]
  | 4 => [some 1, some 2, some 8, some 14, some 23, some 32, some 33, some 34, none, none, none, none]
  | _ => [none, none, some 44, some 45, some 46, none, none, none, none, none, some 47, some 48, some 49, some 50, some 51, none, none, none, some 52, some 53, some 54, some 55, some 56, some 57, none, some 58, some 59, some 60, some 61, none, some 62, some 63]
def sh : List CSh := [.inr (4, fO 4 0), .inl (.inr [35, 37, 39, 41]),
  .inr (1, fO 1 2), .inl (.inl 7), .inl (.inl 7), .inl (.inl 7), .inl (.inl 7), .inl (.inl 7),
  .inr (1, fO 1 8), .inl (.inl 7), .inl (.inl 7), .inl (.inl 7), .inl (.inl 7), .inl (.inl 7),
  .inr (0, fO 0 14), .inl (.inl 320), .inl (.inl 64), .inl (.inl 64), .inl (.inl 64), .inl (.inl 64), .inl (.inl 14), .inl (.inl 14), .inl (.inl 14),
  .inr (0, fO 0 23), .inl (.inl 320), .inl (.inl 64), .inl (.inl 64), .inl (.inl 64), .inl (.inl 64), .inl (.inl 14), .inl (.inl 14), .inl (.inl 14),
  .inr (3, fO 3 32), .inl (.inl 8), .inl (.inl 8),
  .inr (2, fO 2 35), .inl (.inl 60), .inr (2, fO 2 37), .inl (.inl 60), .inr (2, fO 2 39), .inl (.inl 60), .inr (2, fO 2 41), .inl (.inl 60),
  .inr (5, fO 5 43), .inl (.inl 4), .inl (.inl 4), .inl (.inl 240), .inl (.inl 7), .inl (.inl 7), .inl (.inl 7), .inl (.inl 7), .inl (.inl 7),
  .inl (.inl 7), .inl (.inl 14), .inl (.inl 14), .inl (.inl 64), .inl (.inl 64), .inl (.inl 64), .inl (.inl 14), .inl (.inl 14), .inl (.inl 14), .inl (.inl 17), .inl (.inl 8), .inl (.inl 8)]
theorem sh_len : sh.length = 64 := rfl
abbrev isO (c ci : Nat) : Prop := sh[c]? = some (.inr (ci, fO ci c))
abbrev isA (c n : Nat) : Prop := sh[c]? = some (.inl (.inl n))
abbrev GG : Type := va_G × (Nat → Nat) × ClassId × ClassId × Nat × (Nat → Nat)
def gF (G : GG) (μ : Mem) (c : Nat) (fs : List (Option Nat)) : List Value := fs.mapIdx (fun i f => match f with | none => Value.int (μ c i) | some q => Value.ref (G.2.1 q))
def gE (G : GG) (μ : Mem) (c : Nat) (x : CSh) : va_E := match x with
  | .inl (.inl n) => .inl (G.2.2.1, n, .inl (μ c))
  | .inl (.inr rs) => .inl (G.2.2.2.1, rs.length, .inr (.inr (.inr (.inr (fun j => (rs[j]?).map G.2.1)))))
  | .inr o => .inr (o.1, gF G μ c o.2)
def gW (G : GG) (μ : Mem) : va_W := sh.mapIdx (fun c x => (G.2.1 c, gE G μ c x))
theorem gW_at {G : GG} {μ : Mem} {c : Nat} {x : CSh} (h : sh[c]? = some x) : (gW G μ)[c]? = some (G.2.1 c, gE G μ c x) := by
  rw [gW, List.getElem?_mapIdx, h]; rfl
theorem gF_I {G : GG} {μ : Mem} {c i : Nat} {fs : List (Option Nat)} (h : fs[i]? = some none) : (gF G μ c fs)[i]? = some (.int (μ c i)) := by
  rw [gF, List.getElem?_mapIdx, h]; rfl
theorem gF_R {G : GG} {μ : Mem} {c i q : Nat} {fs : List (Option Nat)} (h : fs[i]? = some (some q)) : (gF G μ c fs)[i]? = some (.ref (G.2.1 q)) := by
  rw [gF, List.getElem?_mapIdx, h]; rfl
theorem gF_len {G : GG} {μ : Mem} {c : Nat} {fs : List (Option Nat)} : (gF G μ c fs).length = fs.length := by rw [gF, List.length_mapIdx]
def up (μ : Mem) (c i : Nat) (v : Int32) : Mem := fun a b => if a = c ∧ b = i then v else μ a b
def cpm (μ : Mem) (c0 sp c1 dp n : Nat) : Mem := fun a b => if a = c1 then va_cpy (μ c0) (μ c1) sp dp n b else μ a b
theorem gE_ne {G : GG} {μ ν : Mem} {c : Nat} (h : ν c = μ c) (x : CSh) : gE G ν c x = gE G μ c x := by
  match x with
  | .inl (.inl n) => simp only [gE, h]
  | .inl (.inr rs) => rfl
  | .inr o => simp only [gE, gF, h]
theorem gW_set {G : GG} {μ ν : Mem} {c : Nat} {x : CSh} {z : va_E} (hc : sh[c]? = some x) (h : ∀ a, a ≠ c → ν a = μ a) (hz : gE G ν c x = z) : gW G ν = (gW G μ).set c (G.2.1 c, z) := by
  apply List.ext_getElem?
  intro k
  by_cases hk : k = c
  · subst hk
    rw [gW_at hc, List.getElem?_set_self (by rw [gW, List.length_mapIdx]; exact (List.getElem?_eq_some_iff.mp hc).1), hz]
  · rw [List.getElem?_set_ne (Ne.symm hk), gW, gW, List.getElem?_mapIdx, List.getElem?_mapIdx]
    cases hs : sh[k]? with
    | none => rfl
    | some y => simp only [Option.map_some, gE_ne (h k hk)]
theorem gW_upF {G : GG} {μ : Mem} {c ci i : Nat} {fs : List (Option Nat)} {v : Int32} (hc : sh[c]? = some (.inr (ci, fs))) (hf : fs[i]? = some none) : gW G (up μ c i v) = (gW G μ).set c (G.2.1 c, .inr (ci, (gF G μ c fs).set i (.int v))) := by
  refine gW_set hc (fun a ha => by funext b; simp [up, ha]) ?_
  show Sum.inr (ci, gF G (up μ c i v) c fs) = _
  congr 2
  apply List.ext_getElem?
  intro k
  by_cases hk : k = i
  · subst hk
    rw [gF_I hf, List.getElem?_set_self (by rw [gF_len]; exact (List.getElem?_eq_some_iff.mp hf).1)]
    simp [up]
  · rw [List.getElem?_set_ne (Ne.symm hk), gF, gF, List.getElem?_mapIdx, List.getElem?_mapIdx]
    cases hs : fs[k]? with
    | none => rfl
    | some y => cases y <;> simp [up, hk]
theorem gW_upA {G : GG} {μ : Mem} {c n i : Nat} {v : Int32} (hc : isA c n) : gW G (up μ c i v) = (gW G μ).set c (G.2.1 c, .inl (G.2.2.1, n, .inl (upd (μ c) i v))) := by
  refine gW_set hc (fun a ha => by funext b; simp [up, ha]) ?_
  show Sum.inl (G.2.2.1, n, Sum.inl (up μ c i v c)) = _
  congr 4
  funext b
  simp [up, upd]
theorem gW_cpm {G : GG} {μ : Mem} {c0 c1 n sp dp k : Nat} (hc : isA c1 n) : gW G (cpm μ c0 sp c1 dp k) = (gW G μ).set c1 (G.2.1 c1, .inl (G.2.2.1, n, .inl (va_cpy (μ c0) (μ c1) sp dp k))) := by
  refine gW_set hc (fun a ha => by funext b; simp [cpm, ha]) ?_
  show Sum.inl (G.2.2.1, n, Sum.inl (cpm μ c0 sp c1 dp k c1)) = _
  congr 4
  funext b
  simp [cpm]
def gA (G : GG) : Nat → Prop := fun q => G.2.2.2.2.1 ≤ q
def gT (G : GG) : List (ClassId × FieldType) := [(G.2.2.1, .int), (G.2.2.2.1, .object "BookPairs$Sheet")]
def snm (j : Nat) : String := match j with
  | 0 => "LEFTS_OF_SORT"
  | 1 => "RIGHTS_OF_SORT"
  | _ => "STEP_OF_SORT"
def stv (j i : Nat) : Int32 := match j with
  | 0 => ([1, 1, 0, 2, 1] : List Int32).getD i 0
  | 1 => ([1, 0, 1, 1, 2] : List Int32).getD i 0
  | _ => ([9, 8, 1, 17, 10] : List Int32).getD i 0
def nsts : List (String × Nat × Nat) := [("BookPairs$Books", 60, 0), ("BookPairs$Books", 63, 1), ("BookPairs$Aligner", 89, 2), ("BookPairs$Aligner", 106, 0), ("BookPairs$Aligner", 112, 1)]
def gDD (G : GG) : Prop := (∀ i j : Nat, i < 64 → j < 64 → G.2.1 i = G.2.1 j → i = j) ∧ ∀ i : Nat, i < 64 → G.2.2.2.2.1 ≤ G.2.1 i
def gST (G : GG) (U : State) (H : Heap) : Prop := ∀ j : Nat, j < 3 → va_Z "BookPairs" (snm j) "[I" (.ref (G.2.2.2.2.2 j)) (gA G) U H ∧ va_T .int (G.2.2.2.2.2 j) 5 (fun i => .int (stv j i)) (gA G) U H
def gNW (U : State) : Prop := ∀ q ∈ nsts, va_Nw (.fieldLinkNest q.1 q.2.1 "BookPairs" (snm q.2.2) "[I" "BookPairs") U
def gOK (G : GG) (U : State) (H : Heap) : Prop := va_K G.1 vwCl (gT G) U ∧ gDD G ∧ gST G U H ∧ gNW U
theorem gD_of {G : GG} {μ : Mem} (h : gDD G) : va_D (gA G) (gW G μ) := by
  have key : ∀ (i : Nat) (q : Nat × va_E), (gW G μ)[i]? = some q → i < 64 ∧ q.1 = G.2.1 i := by
    intro i q hq
    have hl := (List.getElem?_eq_some_iff.mp hq).1
    rw [gW, List.length_mapIdx, sh_len] at hl
    refine ⟨hl, ?_⟩
    rw [gW, List.getElem?_mapIdx] at hq
    cases hs : sh[i]? with
    | none => rw [hs] at hq; cases hq
    | some x => rw [hs] at hq; cases hq; rfl
  refine ⟨fun i j p q hi hj hpq => ?_, fun k q hk => ?_⟩
  · obtain ⟨a1, a2⟩ := key i p hi
    obtain ⟨b1, b2⟩ := key j q hj
    exact h.1 i j a1 b1 (by rw [← a2, ← b2]; exact hpq)
  · obtain ⟨a1, a2⟩ := key k q hk
    rw [gA, a2]
    exact h.2 k a1
theorem gOK_to {G : GG} {s U : State} {H : Heap} {locs : List Loc} (h : gOK G s s.heap) (hW : s.WarmedH U.vm) (hS : va_S (gA G) s.heap H locs) : gOK G U H := by
  refine ⟨va_K.moved hW.alike h.1, h.2.1, fun j hj => ?_, fun q hq => va_Nw.warmF hW (h.2.2.2 q hq)⟩
  obtain ⟨a, b⟩ := h.2.2.1 j hj
  exact ⟨(va_Z.moved hW.alike a).kept (fun q h1 h2 => hS.2.1 q h1 h2), (va_T.moved hW.alike b).kept (fun q h1 h2 => hS.2.1 q h1 h2)⟩
theorem gOK_same {G : GG} {s U : State} {H : Heap} (h : gOK G s H) (hv : s.vm = U.vm) : gOK G U H := by
  have ha : s.vm.Alike U.vm := by rw [hv]; exact Vm.Alike.refl _
  refine ⟨va_K.moved ha h.1, h.2.1, fun j hj => ?_, fun q hq => va_Nw.same rfl hv (h.2.2.2 q hq)⟩
  obtain ⟨a, b⟩ := h.2.2.1 j hj
  exact ⟨va_Z.moved ha a, va_T.moved ha b⟩
abbrev MD : Type := String × ByteArray × Nat × Option FieldType × Room
abbrev Oc : Type := Option Value × Mem
def gPre (G : GG) (av : List Value) (μ : Mem) : Array Value → State → Prop := va_Pc av (fun U => va_P G.1 vwCl (gW G μ) U.heap ∧ gOK G U U.heap)
def gPost (G : GG) (o : Oc) : Array Value → State → Outcome → State → Prop := fun _ st oc t => oc = .returned o.1 ∧ va_P G.1 vwCl (gW G o.2) t.heap ∧ va_F (gA G) st t
def gWs (J : MD) (y : MethodName) : List Cond := Cond.code y J.2.1 J.2.2.1 J.2.2.2.1 :: TB
def GM (G : GG) (J : MD) (y : MethodName) (av : List Value) (μ : Mem) (o : Oc) : Prop := ∀ l : Launch, Met l y (gWs J y) J.2.2.2.2 (gPre G av μ) (gPost G o) 0 0 (gA G)
theorem gBlind {G : GG} {av : List Value} {μ : Mem} : FrameBlind (gPre G av μ) := by
  intro a U g mk h
  exact ⟨h.1, h.2.1, gOK_same h.2.2 rfl⟩
def gCtx (G : GG) (J : MD) (p : Program) (s : State) (m : MethodId) (args : Array Value) (meth : Method) (c : Code) : Prop :=
  p.tables.exec = Jvm.exec ∧ c.code = J.2.1 ∧ c.maxLocals = J.2.2.1 ∧ meth.sig.returnType = J.2.2.2.1 ∧ s.vm.findClass J.1 = some m.cls ∧ (∀ w ∈ TB, w.before args s = true) ∧ meth.locks = false ∧ gOK G s s.heap
def V (G : GG) (J : MD) (pc : Nat) (lv : List (Nat × Value)) (st : List Value) (μ : Mem) {R : Type} (x : Option R) (k : R → Option Oc) : Prop :=
  ∀ r, x = some r → ∀ o, k r = some o → ∀ (p : Program) (l : Launch) (e : Env) (s : State) (m : MethodId) (args : Array Value) (below : List Frame) (meth : Method) (c : Code), gCtx G J p s m args meth c → ∀ (H : Heap) (locs : List Loc) (ls : Array Slot), va_P G.1 vwCl (gW G μ) H → va_S (gA G) s.heap H locs → lv_has ls J.2.2.1 lv →
    W p l e J.2.2.2.2 s m args below meth c H locs 0 0 (MQ below (gPost G o) args s 0 0 (gA G)) (F0 m pc ls st)
theorem gm_of {G : GG} {J : MD} {y : MethodName} {av : List Value} {μ : Mem} {R : Type} {x : Option R} {k : R → Option Oc} {t : R} {o : Oc} (hc : J.1 = y.cls) (hp : plainName y.cls = true) (hl : (lg_sl av).length ≤ J.2.2.1) (h : V G J 0 (lv_args 0 av) [] μ x k) (hx : x = some t) (hk : k t = some o) : GM G J y av μ o := by
  intro l
  refine Met.ofW (cc := J.2.1) (maxL := J.2.2.1) (ret := J.2.2.2.1) hp rfl ?_
  intro p e s m args below meth c s₁ B hml hv
  obtain ⟨rfl, hP, hO⟩ := hv
  have hts := atoms_spec (ws := gWs J y) B.pre
  have hl2 := lv_entry av hl
  rw [lg_entry_eq]
  exact h t hx o hk p l e s m _ below meth c ⟨B.exec, B.bytes, hml, B.returns, by rw [hc]; exact findClass_of_methodNamed B.named, fun w hw => hts w (List.mem_cons_of_mem _ hw), B.notSynchronized, hO⟩ s.heap [] _ hP va_S.rf hl2
def ck {R : Type} (b : Bool) (x : Option R) : Option R := if b = true then x else none
def lt {α R : Type} (e : α) (f : α → Option R) : Option R := f e
def inb (i : Int32) (n : Nat) : Bool := decide (¬ (i < 0 ∨ n ≤ i.toNatClampNeg))
theorem inb_vp {i : Int32} {n : Nat} (h : inb i n = true) : vp_in i n := by simpa [inb, vp_in] using h
def b1 {A R : Type} (x : Option A) (f : A → Option R) : Option R := x.bind f
def b2 {A B R : Type} (x : Option (A × B)) (f : A → B → Option R) : Option R := x.bind (fun p => f p.1 p.2)
def b3 {A B C R : Type} (x : Option (A × B × C)) (f : A → B → C → Option R) : Option R := x.bind (fun p => f p.1 p.2.1 p.2.2)
def b4 {A B C D R : Type} (x : Option (A × B × C × D)) (f : A → B → C → D → Option R) : Option R := x.bind (fun p => f p.1 p.2.1 p.2.2.1 p.2.2.2)
def b5 {A B C D E R : Type} (x : Option (A × B × C × D × E)) (f : A → B → C → D → E → Option R) : Option R := x.bind (fun p => f p.1 p.2.1 p.2.2.1 p.2.2.2.1 p.2.2.2.2)
def bs {A O R : Type} (x : Option (A ⊕ O)) (f : A → Option R) (g : O → Option R) : Option R := x.bind (fun p => match p with | .inl a => f a | .inr b => g b)
def bo (v : Int32) : Bool := decide (narrow .boolean (.int v) = Value.int v)
def shc (i : Int32) : Nat := 35 + 2 * i.toNatClampNeg
def kI (t : Int32 × Mem) : Option Oc := some (some (.int t.1), t.2)
def kL (t : Int64 × Mem) : Option Oc := some (some (.long t.1), t.2)
def kV (t : Mem) : Option Oc := some (none, t)
def kA (G : GG) (t : Mem) : Option Oc := some (some (.ref (G.2.1 14)), t)
def gFld (own : String) (idx ci i : Nat) : Prop := ∃ (C : String) (T : u_T) (N : Nat) (ref : String), vwCl[ci]? = some (C, T, N) ∧ i < N ∧ (∀ w ∈ u_ws C T N, w ∈ TB) ∧ Cond.fieldLink own idx ref (T i).2.1 (T i).2.2.1 ∈ TB ∧ ∀ (s : State) (x : ClassId × Class × Nat × Field), s.fieldFound? (T i).1 (T i).2.1 (T i).2.2.1 = some x → s.fieldFound? ref (T i).2.1 (T i).2.2.1 = some x
def gPut (own : String) (idx ci i : Nat) (ty : FieldType) : Prop := ∃ (C : String) (T : u_T) (N : Nat) (ref : String) (ty0 : Nat → FieldType), vwCl[ci]? = some (C, T, N) ∧ i < N ∧ (∀ w ∈ u_ws C T N, w ∈ TB) ∧ Cond.fieldLink own idx ref (T i).2.1 (T i).2.2.1 ∈ TB ∧ (∀ (s : State) (x : ClassId × Class × Nat × Field), s.fieldFound? (T i).1 (T i).2.1 (T i).2.2.1 = some x → s.fieldFound? ref (T i).2.1 (T i).2.2.1 = some x) ∧ (∀ k, k < N → parseFieldDescriptor (T k).2.2.1 = some (ty0 k)) ∧ (∀ a, a < N → ∀ b, b < N → a ≠ b → (T a).2.1 ≠ (T b).2.1) ∧ (T i).2.2.2 = false ∧ parseFieldDescriptor (T i).2.2.1 = some ty
def gCal (J : MD) (y : MethodName) (ci n : Nat) : Prop := (∃ (T : u_T) (N : Nat), vwCl[ci]? = some (y.cls, T, N)) ∧ Cond.code y J.2.1 J.2.2.1 J.2.2.2.1 ∈ TB ∧ Cond.instanceMethod y ∈ TB ∧ Cond.selects y.cls y y ∈ TB ∧ Cond.initialized y.cls ∈ TB ∧ J.2.2.2.2.cells = 0 ∧ J.2.2.2.2.slots = 0 ∧ y.cls ≠ "java/lang/invoke/MethodHandle" ∧ y.cls ≠ "java/lang/invoke/VarHandle" ∧ (parseMethodDescriptor y.desc).map (fun d => d.parameters.length) = some n
def gCalS (J : MD) (y : MethodName) (n : Nat) : Prop := Cond.code y J.2.1 J.2.2.1 J.2.2.2.1 ∈ TB ∧ Cond.static y ∈ TB ∧ Cond.initialized y.cls ∈ TB ∧ J.2.2.2.2.cells = 0 ∧ J.2.2.2.2.slots = 0 ∧ y.cls ≠ "java/lang/invoke/MethodHandle" ∧ y.cls ≠ "java/lang/invoke/VarHandle" ∧ (parseMethodDescriptor y.desc).map (fun d => d.parameters.length) = some n
theorem gWs_good {J : MD} {y : MethodName} (h : Cond.code y J.2.1 J.2.2.1 J.2.2.2.1 ∈ TB) : GoodIn TB (gWs J y) := by
  intro w hw
  rcases List.mem_cons.mp hw with rfl | hw
  · exact TB_good _ h
  · exact TB_good _ hw
end
section
theorem v_none {G : GG} {J : MD} {pc : Nat} {lv : List (Nat × Value)} {st : List Value} {μ : Mem} {R : Type} {k : R → Option Oc} : V G J pc lv st μ (none : Option R) k := by intro r hr; cases hr
theorem v_leaf {G : GG} {J : MD} {pc : Nat} {lv : List (Nat × Value)} {st : List Value} {μ : Mem} {R : Type} {k : R → Option Oc} {t : R} (h : V G J pc lv st μ (k t) some) : V G J pc lv st μ (some t) k := by
  intro r hr o ho
  cases hr
  exact h o ho o rfl
theorem v_sub {G : GG} {J : MD} {pc : Nat} {lv : List (Nat × Value)} {st : List Value} {μ : Mem} {R : Type} {x : Option R} {k : R → Option Oc} {lv' : List (Nat × Value)} (ks : List Nat) (hl : lv_pick lv ks = lv') (h : V G J pc lv' st μ x k) : V G J pc lv st μ x k := by
  intro r hr o ho p l e s m args below meth c C H locs ls hP hS hls
  exact h r hr o ho p l e s m args below meth c C H locs ls hP hS (lv_sub hls ks hl)
theorem v_lt {G : GG} {J : MD} {pc : Nat} {lv : List (Nat × Value)} {st : List Value} {μ : Mem} {R : Type} {k : R → Option Oc} {z : Int32} {f : Int32 → Option R} (h : ∀ y, V G J pc lv (.int y :: st) μ (f y) k) : V G J pc lv (.int z :: st) μ (lt z f) k := h z
theorem v_ltL {G : GG} {J : MD} {pc : Nat} {lv : List (Nat × Value)} {st : List Value} {μ : Mem} {R : Type} {k : R → Option Oc} {z : Int64} {f : Int64 → Option R} (h : ∀ y, V G J pc lv (.long y :: st) μ (f y) k) : V G J pc lv (.long z :: st) μ (lt z f) k := h z
theorem v_lm {G : GG} {J : MD} {pc : Nat} {lv : List (Nat × Value)} {st : List Value} {μ : Mem} {R : Type} {k : R → Option Oc} {f : Mem → Option R} (h : ∀ y, V G J pc lv st y (f y) k) : V G J pc lv st μ (lt μ f) k := h μ
theorem v_bind {G : GG} {J : MD} {pc : Nat} {lv : List (Nat × Value)} {st : List Value} {μ : Mem} {R : Type} {k : R → Option Oc} {A : Type} {z : Option A} {f : A → Option R} (h : V G J pc lv st μ z (fun a => (f a).bind k)) : V G J pc lv st μ (z.bind f) k := by
  intro r hr o ho
  cases z with
  | none => cases hr
  | some a => exact h a rfl o (by show (f a).bind k = some o; rw [show f a = some r from hr]; exact ho)
theorem v_some {G : GG} {J : MD} {pc : Nat} {lv : List (Nat × Value)} {st : List Value} {μ : Mem} {R : Type} {x : Option R} {k : R → Option Oc} (h : V G J pc lv st μ x k) : V G J pc lv st μ (x.bind k) some := by
  intro r hr o ho
  cases x with
  | none => cases hr
  | some a => cases ho; exact h a rfl r hr
theorem v_loop {G : GG} {J : MD} {pc : Nat} {lv : List (Nat × Value)} {st : List Value} {μ : Mem} {R : Type} {k : R → Option Oc} {T : Type} {z : Option T} {f : T → Option R} (hz : ∀ kk : T → Option Oc, (∀ t, kk t = (f t).bind k) → V G J pc lv st μ z kk) : V G J pc lv st μ (z.bind f) k := v_bind (hz _ (fun _ => rfl))
theorem v_iconst {G : GG} {J : MD} {pc : Nat} {lv : List (Nat × Value)} {st : List Value} {μ : Mem} {R : Type} {x : Option R} {k : R → Option Oc} {q : Int} {v : Int32} (d : decode J.2.1 pc = .ok (.iconst q, 1)) (hv : Int32.ofInt q = v) {n : Nat} (hn : pc + 1 = n) (h : V G J n lv (.int v :: st) μ x k) : V G J pc lv (st) μ x k := by
  subst hn
  intro r hr o ho p l e s m args below meth c C H locs ls hP hS hl
  exact lv_iconst C.1 C.2.1 d hv (h r hr o ho p l e s m args below meth c C H locs ls hP hS hl)
theorem v_bipush {G : GG} {J : MD} {pc : Nat} {lv : List (Nat × Value)} {st : List Value} {μ : Mem} {R : Type} {x : Option R} {k : R → Option Oc} {q : Int} {v : Int32} (d : decode J.2.1 pc = .ok (.bipush q, 2)) (hv : (Int8.ofInt q).toInt32 = v) {n : Nat} (hn : pc + 2 = n) (h : V G J n lv (.int v :: st) μ x k) : V G J pc lv (st) μ x k := by
  subst hn
  intro r hr o ho p l e s m args below meth c C H locs ls hP hS hl
  exact lv_bipush C.1 C.2.1 d hv (h r hr o ho p l e s m args below meth c C H locs ls hP hS hl)
theorem v_sipush {G : GG} {J : MD} {pc : Nat} {lv : List (Nat × Value)} {st : List Value} {μ : Mem} {R : Type} {x : Option R} {k : R → Option Oc} {q : Int} {v : Int32} (d : decode J.2.1 pc = .ok (.sipush q, 3)) (hv : (Int16.ofInt q).toInt32 = v) {n : Nat} (hn : pc + 3 = n) (h : V G J n lv (.int v :: st) μ x k) : V G J pc lv (st) μ x k := by
  subst hn
  intro r hr o ho p l e s m args below meth c C H locs ls hP hS hl
  exact lv_sipush C.1 C.2.1 d hv (h r hr o ho p l e s m args below meth c C H locs ls hP hS hl)
theorem v_lconst {G : GG} {J : MD} {pc : Nat} {lv : List (Nat × Value)} {st : List Value} {μ : Mem} {R : Type} {x : Option R} {k : R → Option Oc} {q : Fin 2} {v : Int64} (d : decode J.2.1 pc = .ok (.lconst q, 1)) (hv : Int64.ofNat (q : Nat) = v) {n : Nat} (hn : pc + 1 = n) (h : V G J n lv (.long v :: st) μ x k) : V G J pc lv (st) μ x k := by
  subst hn
  intro r hr o ho p l e s m args below meth c C H locs ls hP hS hl
  exact lv_lconst C.1 C.2.1 d hv (h r hr o ho p l e s m args below meth c C H locs ls hP hS hl)
theorem v_ldc {G : GG} {J : MD} {pc : Nat} {lv : List (Nat × Value)} {st : List Value} {μ : Mem} {R : Type} {x : Option R} {k : R → Option Oc} {idx : Nat} {v : Int32} (d : decode J.2.1 pc = .ok (.ldc idx, 2)) (hv : Cond.constant J.1 idx v ∈ TB) {n : Nat} (hn : pc + 2 = n) (h : V G J n lv (.int v :: st) μ x k) : V G J pc lv st μ x k := by
  subst hn
  intro r hr o ho p l e s m args below meth c C H locs ls hP hS hl
  exact lv_ldc C.1 C.2.1 C.2.2.2.2.1 (C.2.2.2.2.2.1 _ hv) d (h r hr o ho p l e s m args below meth c C H locs ls hP hS hl)
theorem v_ldc2 {G : GG} {J : MD} {pc : Nat} {lv : List (Nat × Value)} {st : List Value} {μ : Mem} {R : Type} {x : Option R} {k : R → Option Oc} {idx : Nat} {v : Int64} (d : decode J.2.1 pc = .ok (.ldc2_w idx, 3)) (hv : Cond.constantLong J.1 idx v ∈ TB) {n : Nat} (hn : pc + 3 = n) (h : V G J n lv (.long v :: st) μ x k) : V G J pc lv st μ x k := by
  subst hn
  intro r hr o ho p l e s m args below meth c C H locs ls hP hS hl
  exact lv_ldc2 C.1 C.2.1 C.2.2.2.2.1 (C.2.2.2.2.2.1 _ hv) d (h r hr o ho p l e s m args below meth c C H locs ls hP hS hl)
theorem v_iload_n {G : GG} {J : MD} {pc : Nat} {lv : List (Nat × Value)} {st : List Value} {μ : Mem} {R : Type} {x : Option R} {k : R → Option Oc} {q : Fin 4} {i : Nat} {v : Int32} (d : decode J.2.1 pc = .ok (.iload_n q, 1)) (hi : (q : Nat) = i) (j : Nat) (hj : lv[j]? = some (i, .int v)) {n : Nat} (hn : pc + 1 = n) (h : V G J n lv (.int v :: st) μ x k) : V G J pc lv (st) μ x k := by
  subst hn
  intro r hr o ho p l e s m args below meth c C H locs ls hP hS hl
  exact lv_iload_n C.1 C.2.1 d hi (lv_at hl j hj) (h r hr o ho p l e s m args below meth c C H locs ls hP hS hl)
theorem v_iload {G : GG} {J : MD} {pc : Nat} {lv : List (Nat × Value)} {st : List Value} {μ : Mem} {R : Type} {x : Option R} {k : R → Option Oc} {i : Nat} {v : Int32} (d : decode J.2.1 pc = .ok (.iload i, 2)) (j : Nat) (hj : lv[j]? = some (i, .int v)) {n : Nat} (hn : pc + 2 = n) (h : V G J n lv (.int v :: st) μ x k) : V G J pc lv (st) μ x k := by
  subst hn
  intro r hr o ho p l e s m args below meth c C H locs ls hP hS hl
  exact lv_iload C.1 C.2.1 d (lv_at hl j hj) (h r hr o ho p l e s m args below meth c C H locs ls hP hS hl)
theorem v_lload_n {G : GG} {J : MD} {pc : Nat} {lv : List (Nat × Value)} {st : List Value} {μ : Mem} {R : Type} {x : Option R} {k : R → Option Oc} {q : Fin 4} {i : Nat} {v : Int64} (d : decode J.2.1 pc = .ok (.lload_n q, 1)) (hi : (q : Nat) = i) (j : Nat) (hj : lv[j]? = some (i, .long v)) {n : Nat} (hn : pc + 1 = n) (h : V G J n lv (.long v :: st) μ x k) : V G J pc lv (st) μ x k := by
  subst hn
  intro r hr o ho p l e s m args below meth c C H locs ls hP hS hl
  exact lv_lload_n C.1 C.2.1 d hi (lv_at hl j hj) (h r hr o ho p l e s m args below meth c C H locs ls hP hS hl)
theorem v_lload {G : GG} {J : MD} {pc : Nat} {lv : List (Nat × Value)} {st : List Value} {μ : Mem} {R : Type} {x : Option R} {k : R → Option Oc} {i : Nat} {v : Int64} (d : decode J.2.1 pc = .ok (.lload i, 2)) (j : Nat) (hj : lv[j]? = some (i, .long v)) {n : Nat} (hn : pc + 2 = n) (h : V G J n lv (.long v :: st) μ x k) : V G J pc lv (st) μ x k := by
  subst hn
  intro r hr o ho p l e s m args below meth c C H locs ls hP hS hl
  exact lv_lload C.1 C.2.1 d (lv_at hl j hj) (h r hr o ho p l e s m args below meth c C H locs ls hP hS hl)
theorem v_aload_n {G : GG} {J : MD} {pc : Nat} {lv : List (Nat × Value)} {st : List Value} {μ : Mem} {R : Type} {x : Option R} {k : R → Option Oc} {q : Fin 4} {i : Nat} {v : Nat} (d : decode J.2.1 pc = .ok (.aload_n q, 1)) (hi : (q : Nat) = i) (j : Nat) (hj : lv[j]? = some (i, .ref v)) {n : Nat} (hn : pc + 1 = n) (h : V G J n lv (.ref v :: st) μ x k) : V G J pc lv (st) μ x k := by
  subst hn
  intro r hr o ho p l e s m args below meth c C H locs ls hP hS hl
  exact lv_aload_n C.1 C.2.1 d hi (lv_at hl j hj) (h r hr o ho p l e s m args below meth c C H locs ls hP hS hl)
theorem v_aload {G : GG} {J : MD} {pc : Nat} {lv : List (Nat × Value)} {st : List Value} {μ : Mem} {R : Type} {x : Option R} {k : R → Option Oc} {i : Nat} {v : Nat} (d : decode J.2.1 pc = .ok (.aload i, 2)) (j : Nat) (hj : lv[j]? = some (i, .ref v)) {n : Nat} (hn : pc + 2 = n) (h : V G J n lv (.ref v :: st) μ x k) : V G J pc lv (st) μ x k := by
  subst hn
  intro r hr o ho p l e s m args below meth c C H locs ls hP hS hl
  exact lv_aload C.1 C.2.1 d (lv_at hl j hj) (h r hr o ho p l e s m args below meth c C H locs ls hP hS hl)
theorem v_istore_n {G : GG} {J : MD} {pc : Nat} {lv : List (Nat × Value)} {st : List Value} {μ : Mem} {R : Type} {x : Option R} {k : R → Option Oc} {q : Fin 4} {i : Nat} {v : Int32} (lv' : List (Nat × Value)) (d : decode J.2.1 pc = .ok (.istore_n q, 1)) (hi : (q : Nat) = i) (hb : i < J.2.2.1) (hl' : (i, Value.int v) :: lv.filter (fun q => !(q.1 == i) && !(q.1 + 1 == i && q.2.category == 2)) = lv') {n : Nat} (hn : pc + 1 = n) (h : V G J n lv' st μ x k) : V G J pc lv (.int v :: st) μ x k := by
  subst hn
  intro r hr o ho p l e s m args below meth c C H locs ls hP hS hl
  exact lv_istore_n C.1 C.2.1 d hi hl hb hl' (fun ls hl => h r hr o ho p l e s m args below meth c C H locs ls hP hS hl)
theorem v_istore {G : GG} {J : MD} {pc : Nat} {lv : List (Nat × Value)} {st : List Value} {μ : Mem} {R : Type} {x : Option R} {k : R → Option Oc} {i : Nat} {v : Int32} (lv' : List (Nat × Value)) (d : decode J.2.1 pc = .ok (.istore i, 2)) (hb : i < J.2.2.1) (hl' : (i, Value.int v) :: lv.filter (fun q => !(q.1 == i) && !(q.1 + 1 == i && q.2.category == 2)) = lv') {n : Nat} (hn : pc + 2 = n) (h : V G J n lv' st μ x k) : V G J pc lv (.int v :: st) μ x k := by
  subst hn
  intro r hr o ho p l e s m args below meth c C H locs ls hP hS hl
  exact lv_istore C.1 C.2.1 d hl hb hl' (fun ls hl => h r hr o ho p l e s m args below meth c C H locs ls hP hS hl)
theorem v_lstore_n {G : GG} {J : MD} {pc : Nat} {lv : List (Nat × Value)} {st : List Value} {μ : Mem} {R : Type} {x : Option R} {k : R → Option Oc} {q : Fin 4} {i : Nat} {v : Int64} (lv' : List (Nat × Value)) (d : decode J.2.1 pc = .ok (.lstore_n q, 1)) (hi : (q : Nat) = i) (hb : i + 1 < J.2.2.1) (hl' : (i, Value.long v) :: lv.filter (fun q => !(q.1 == i) && (!(q.1 == i + 1) && !(q.1 + 1 == i && q.2.category == 2))) = lv') {n : Nat} (hn : pc + 1 = n) (h : V G J n lv' st μ x k) : V G J pc lv (.long v :: st) μ x k := by
  subst hn
  intro r hr o ho p l e s m args below meth c C H locs ls hP hS hl
  exact lv_lstore_n C.1 C.2.1 d hi hl hb hl' (fun ls hl => h r hr o ho p l e s m args below meth c C H locs ls hP hS hl)
theorem v_lstore {G : GG} {J : MD} {pc : Nat} {lv : List (Nat × Value)} {st : List Value} {μ : Mem} {R : Type} {x : Option R} {k : R → Option Oc} {i : Nat} {v : Int64} (lv' : List (Nat × Value)) (d : decode J.2.1 pc = .ok (.lstore i, 2)) (hb : i + 1 < J.2.2.1) (hl' : (i, Value.long v) :: lv.filter (fun q => !(q.1 == i) && (!(q.1 == i + 1) && !(q.1 + 1 == i && q.2.category == 2))) = lv') {n : Nat} (hn : pc + 2 = n) (h : V G J n lv' st μ x k) : V G J pc lv (.long v :: st) μ x k := by
  subst hn
  intro r hr o ho p l e s m args below meth c C H locs ls hP hS hl
  exact lv_lstore C.1 C.2.1 d hl hb hl' (fun ls hl => h r hr o ho p l e s m args below meth c C H locs ls hP hS hl)
theorem v_astore_n {G : GG} {J : MD} {pc : Nat} {lv : List (Nat × Value)} {st : List Value} {μ : Mem} {R : Type} {x : Option R} {k : R → Option Oc} {q : Fin 4} {i : Nat} {v : Nat} (lv' : List (Nat × Value)) (d : decode J.2.1 pc = .ok (.astore_n q, 1)) (hi : (q : Nat) = i) (hb : i < J.2.2.1) (hl' : (i, Value.ref v) :: lv.filter (fun q => !(q.1 == i) && !(q.1 + 1 == i && q.2.category == 2)) = lv') {n : Nat} (hn : pc + 1 = n) (h : V G J n lv' st μ x k) : V G J pc lv (.ref v :: st) μ x k := by
  subst hn
  intro r hr o ho p l e s m args below meth c C H locs ls hP hS hl
  exact lv_astore_n C.1 C.2.1 d hi hl hb hl' (fun ls hl => h r hr o ho p l e s m args below meth c C H locs ls hP hS hl)
theorem v_astore {G : GG} {J : MD} {pc : Nat} {lv : List (Nat × Value)} {st : List Value} {μ : Mem} {R : Type} {x : Option R} {k : R → Option Oc} {i : Nat} {v : Nat} (lv' : List (Nat × Value)) (d : decode J.2.1 pc = .ok (.astore i, 2)) (hb : i < J.2.2.1) (hl' : (i, Value.ref v) :: lv.filter (fun q => !(q.1 == i) && !(q.1 + 1 == i && q.2.category == 2)) = lv') {n : Nat} (hn : pc + 2 = n) (h : V G J n lv' st μ x k) : V G J pc lv (.ref v :: st) μ x k := by
  subst hn
  intro r hr o ho p l e s m args below meth c C H locs ls hP hS hl
  exact lv_astore C.1 C.2.1 d hl hb hl' (fun ls hl => h r hr o ho p l e s m args below meth c C H locs ls hP hS hl)
theorem v_iinc {G : GG} {J : MD} {pc : Nat} {lv : List (Nat × Value)} {st : List Value} {μ : Mem} {R : Type} {k : R → Option Oc} {i : Nat} {q : Int} {z w : Int32} {f : Int32 → Option R} (lv' : Int32 → List (Nat × Value)) (d : decode J.2.1 pc = .ok (.iinc i q, 3)) (j : Nat) (hj : lv[j]? = some (i, .int z)) (hw : Int32.ofInt q = w) (hb : i < J.2.2.1) (hl' : ∀ v, (i, Value.int v) :: lv.filter (fun q => !(q.1 == i) && !(q.1 + 1 == i && q.2.category == 2)) = lv' v) {n : Nat} (hn : pc + 3 = n) (h : ∀ v, V G J n (lv' v) st μ (f v) k) : V G J pc lv st μ (lt (z + w) f) k := by
  subst hn
  subst hw
  intro r hr o ho p l e s m args below meth c C H locs ls hP hS hl
  exact lv_iinc (v := z + Int32.ofInt q) C.1 C.2.1 d hl hj rfl hb (hl' _) (fun ls hl => h _ r hr o ho p l e s m args below meth c C H locs ls hP hS hl)
theorem v_iadd {G : GG} {J : MD} {pc : Nat} {lv : List (Nat × Value)} {st : List Value} {μ : Mem} {R : Type} {x : Option R} {k : R → Option Oc} {a b : Int32} (d : decode J.2.1 pc = .ok (.iadd, 1)) {n : Nat} (hn : pc + 1 = n) (h : V G J n lv (.int (a + b) :: st) μ x k) : V G J pc lv (.int b :: .int a :: st) μ x k := by
  subst hn
  intro r hr o ho p l e s m args below meth c C H locs ls hP hS hl
  exact lv_iadd C.1 C.2.1 d  (h r hr o ho p l e s m args below meth c C H locs ls hP hS hl)
theorem v_isub {G : GG} {J : MD} {pc : Nat} {lv : List (Nat × Value)} {st : List Value} {μ : Mem} {R : Type} {x : Option R} {k : R → Option Oc} {a b : Int32} (d : decode J.2.1 pc = .ok (.isub, 1)) {n : Nat} (hn : pc + 1 = n) (h : V G J n lv (.int (a - b) :: st) μ x k) : V G J pc lv (.int b :: .int a :: st) μ x k := by
  subst hn
  intro r hr o ho p l e s m args below meth c C H locs ls hP hS hl
  exact lv_isub C.1 C.2.1 d  (h r hr o ho p l e s m args below meth c C H locs ls hP hS hl)
theorem v_imul {G : GG} {J : MD} {pc : Nat} {lv : List (Nat × Value)} {st : List Value} {μ : Mem} {R : Type} {x : Option R} {k : R → Option Oc} {a b : Int32} (d : decode J.2.1 pc = .ok (.imul, 1)) {n : Nat} (hn : pc + 1 = n) (h : V G J n lv (.int (a * b) :: st) μ x k) : V G J pc lv (.int b :: .int a :: st) μ x k := by
  subst hn
  intro r hr o ho p l e s m args below meth c C H locs ls hP hS hl
  exact lv_imul C.1 C.2.1 d  (h r hr o ho p l e s m args below meth c C H locs ls hP hS hl)
theorem v_iand {G : GG} {J : MD} {pc : Nat} {lv : List (Nat × Value)} {st : List Value} {μ : Mem} {R : Type} {x : Option R} {k : R → Option Oc} {a b : Int32} (d : decode J.2.1 pc = .ok (.iand, 1)) {n : Nat} (hn : pc + 1 = n) (h : V G J n lv (.int (a &&& b) :: st) μ x k) : V G J pc lv (.int b :: .int a :: st) μ x k := by
  subst hn
  intro r hr o ho p l e s m args below meth c C H locs ls hP hS hl
  exact lv_iand C.1 C.2.1 d  (h r hr o ho p l e s m args below meth c C H locs ls hP hS hl)
theorem v_ior {G : GG} {J : MD} {pc : Nat} {lv : List (Nat × Value)} {st : List Value} {μ : Mem} {R : Type} {x : Option R} {k : R → Option Oc} {a b : Int32} (d : decode J.2.1 pc = .ok (.ior, 1)) {n : Nat} (hn : pc + 1 = n) (h : V G J n lv (.int (a ||| b) :: st) μ x k) : V G J pc lv (.int b :: .int a :: st) μ x k := by
  subst hn
  intro r hr o ho p l e s m args below meth c C H locs ls hP hS hl
  exact lv_ior C.1 C.2.1 d  (h r hr o ho p l e s m args below meth c C H locs ls hP hS hl)
theorem v_ishl {G : GG} {J : MD} {pc : Nat} {lv : List (Nat × Value)} {st : List Value} {μ : Mem} {R : Type} {x : Option R} {k : R → Option Oc} {a b : Int32} (d : decode J.2.1 pc = .ok (.ishl, 1)) {n : Nat} (hn : pc + 1 = n) (h : V G J n lv (.int (a <<< (b &&& 31)) :: st) μ x k) : V G J pc lv (.int b :: .int a :: st) μ x k := by
  subst hn
  intro r hr o ho p l e s m args below meth c C H locs ls hP hS hl
  exact lv_ishl C.1 C.2.1 d  (h r hr o ho p l e s m args below meth c C H locs ls hP hS hl)
theorem v_ineg {G : GG} {J : MD} {pc : Nat} {lv : List (Nat × Value)} {st : List Value} {μ : Mem} {R : Type} {x : Option R} {k : R → Option Oc} {a : Int32} (d : decode J.2.1 pc = .ok (.ineg, 1)) {n : Nat} (hn : pc + 1 = n) (h : V G J n lv (.int (-a) :: st) μ x k) : V G J pc lv (.int a :: st) μ x k := by
  subst hn
  intro r hr o ho p l e s m args below meth c C H locs ls hP hS hl
  exact lv_ineg C.1 C.2.1 d  (h r hr o ho p l e s m args below meth c C H locs ls hP hS hl)
theorem v_i2l {G : GG} {J : MD} {pc : Nat} {lv : List (Nat × Value)} {st : List Value} {μ : Mem} {R : Type} {x : Option R} {k : R → Option Oc} {a : Int32} (d : decode J.2.1 pc = .ok (.i2l, 1)) {n : Nat} (hn : pc + 1 = n) (h : V G J n lv (.long (a.toInt64) :: st) μ x k) : V G J pc lv (.int a :: st) μ x k := by
  subst hn
  intro r hr o ho p l e s m args below meth c C H locs ls hP hS hl
  exact lv_i2l C.1 C.2.1 d rfl (h r hr o ho p l e s m args below meth c C H locs ls hP hS hl)
theorem v_i2b {G : GG} {J : MD} {pc : Nat} {lv : List (Nat × Value)} {st : List Value} {μ : Mem} {R : Type} {x : Option R} {k : R → Option Oc} {a : Int32} (d : decode J.2.1 pc = .ok (.i2b, 1)) {n : Nat} (hn : pc + 1 = n) (h : V G J n lv (.int (a.toInt8.toInt32) :: st) μ x k) : V G J pc lv (.int a :: st) μ x k := by
  subst hn
  intro r hr o ho p l e s m args below meth c C H locs ls hP hS hl
  exact lv_i2b C.1 C.2.1 d rfl (h r hr o ho p l e s m args below meth c C H locs ls hP hS hl)
theorem v_i2s {G : GG} {J : MD} {pc : Nat} {lv : List (Nat × Value)} {st : List Value} {μ : Mem} {R : Type} {x : Option R} {k : R → Option Oc} {a : Int32} (d : decode J.2.1 pc = .ok (.i2s, 1)) {n : Nat} (hn : pc + 1 = n) (h : V G J n lv (.int (a.toInt16.toInt32) :: st) μ x k) : V G J pc lv (.int a :: st) μ x k := by
  subst hn
  intro r hr o ho p l e s m args below meth c C H locs ls hP hS hl
  exact lv_i2s C.1 C.2.1 d rfl (h r hr o ho p l e s m args below meth c C H locs ls hP hS hl)
theorem v_lcmp {G : GG} {J : MD} {pc : Nat} {lv : List (Nat × Value)} {st : List Value} {μ : Mem} {R : Type} {x : Option R} {k : R → Option Oc} {a b : Int64} (d : decode J.2.1 pc = .ok (.lcmp, 1)) {n : Nat} (hn : pc + 1 = n) (h : V G J n lv (.int (lg_cmp a b) :: st) μ x k) : V G J pc lv (.long b :: .long a :: st) μ x k := by
  subst hn
  intro r hr o ho p l e s m args below meth c C H locs ls hP hS hl
  exact W.lcmp C.1 C.2.1 d  (h r hr o ho p l e s m args below meth c C H locs ls hP hS hl)
theorem v_dup {G : GG} {J : MD} {pc : Nat} {lv : List (Nat × Value)} {st : List Value} {μ : Mem} {R : Type} {x : Option R} {k : R → Option Oc} {a : Value} (d : decode J.2.1 pc = .ok (.dup, 1)) (ha : a.category = 1) {n : Nat} (hn : pc + 1 = n) (h : V G J n lv (a :: a :: st) μ x k) : V G J pc lv (a :: st) μ x k := by
  subst hn
  intro r hr o ho p l e s m args below meth c C H locs ls hP hS hl
  exact lv_dup C.1 C.2.1 d ha (h r hr o ho p l e s m args below meth c C H locs ls hP hS hl)
theorem v_pop {G : GG} {J : MD} {pc : Nat} {lv : List (Nat × Value)} {st : List Value} {μ : Mem} {R : Type} {x : Option R} {k : R → Option Oc} {a : Value} (d : decode J.2.1 pc = .ok (.pop, 1)) (ha : a.category = 1) {n : Nat} (hn : pc + 1 = n) (h : V G J n lv (st) μ x k) : V G J pc lv (a :: st) μ x k := by
  subst hn
  intro r hr o ho p l e s m args below meth c C H locs ls hP hS hl
  exact lv_pop C.1 C.2.1 d ha (h r hr o ho p l e s m args below meth c C H locs ls hP hS hl)
theorem v_dup2 {G : GG} {J : MD} {pc : Nat} {lv : List (Nat × Value)} {st : List Value} {μ : Mem} {R : Type} {x : Option R} {k : R → Option Oc} {a b : Value} (d : decode J.2.1 pc = .ok (.dup2, 1)) (ha : a.category = 1) (hb : b.category = 1) {n : Nat} (hn : pc + 1 = n) (h : V G J n lv (a :: b :: a :: b :: st) μ x k) : V G J pc lv (a :: b :: st) μ x k := by
  subst hn
  intro r hr o ho p l e s m args below meth c C H locs ls hP hS hl
  exact lv_dup2_11 C.1 C.2.1 d ha hb (h r hr o ho p l e s m args below meth c C H locs ls hP hS hl)
theorem v_idiv {G : GG} {J : MD} {pc : Nat} {lv : List (Nat × Value)} {st : List Value} {μ : Mem} {R : Type} {x : Option R} {k : R → Option Oc} {a b : Int32} (d : decode J.2.1 pc = .ok (.idiv, 1)) {n : Nat} (hn : pc + 1 = n) (h : V G J n lv (.int (a / b) :: st) μ x k) : V G J pc lv (.int b :: .int a :: st) μ (ck (decide (¬ b = 0)) x) k := by
  subst hn
  intro r hr o ho p l e s m args below meth c C H locs ls hP hS hl
  by_cases hz : b = 0
  · rw [ck, if_neg (by simp [hz])] at hr; cases hr
  · rw [ck, if_pos (by simp [hz])] at hr
    exact lv_idiv C.1 C.2.1 d hz (h r hr o ho p l e s m args below meth c C H locs ls hP hS hl)
theorem v_irem {G : GG} {J : MD} {pc : Nat} {lv : List (Nat × Value)} {st : List Value} {μ : Mem} {R : Type} {x : Option R} {k : R → Option Oc} {a b : Int32} (d : decode J.2.1 pc = .ok (.irem, 1)) {n : Nat} (hn : pc + 1 = n) (h : V G J n lv (.int (a - a / b * b) :: st) μ x k) : V G J pc lv (.int b :: .int a :: st) μ (ck (decide (¬ b = 0)) x) k := by
  subst hn
  intro r hr o ho p l e s m args below meth c C H locs ls hP hS hl
  by_cases hz : b = 0
  · rw [ck, if_neg (by simp [hz])] at hr; cases hr
  · rw [ck, if_pos (by simp [hz])] at hr
    exact lv_irem C.1 C.2.1 d hz (h r hr o ho p l e s m args below meth c C H locs ls hP hS hl)
theorem v_ldiv {G : GG} {J : MD} {pc : Nat} {lv : List (Nat × Value)} {st : List Value} {μ : Mem} {R : Type} {x : Option R} {k : R → Option Oc} {a b : Int64} (d : decode J.2.1 pc = .ok (.ldiv, 1)) {n : Nat} (hn : pc + 1 = n) (h : V G J n lv (.long (a / b) :: st) μ x k) : V G J pc lv (.long b :: .long a :: st) μ (ck (decide (¬ b = 0)) x) k := by
  subst hn
  intro r hr o ho p l e s m args below meth c C H locs ls hP hS hl
  by_cases hz : b = 0
  · rw [ck, if_neg (by simp [hz])] at hr; cases hr
  · rw [ck, if_pos (by simp [hz])] at hr
    exact lv_ldiv C.1 C.2.1 d hz (h r hr o ho p l e s m args below meth c C H locs ls hP hS hl)
theorem v_lrem {G : GG} {J : MD} {pc : Nat} {lv : List (Nat × Value)} {st : List Value} {μ : Mem} {R : Type} {x : Option R} {k : R → Option Oc} {a b : Int64} (d : decode J.2.1 pc = .ok (.lrem, 1)) {n : Nat} (hn : pc + 1 = n) (h : V G J n lv (.long (a - a / b * b) :: st) μ x k) : V G J pc lv (.long b :: .long a :: st) μ (ck (decide (¬ b = 0)) x) k := by
  subst hn
  intro r hr o ho p l e s m args below meth c C H locs ls hP hS hl
  by_cases hz : b = 0
  · rw [ck, if_neg (by simp [hz])] at hr; cases hr
  · rw [ck, if_pos (by simp [hz])] at hr
    exact lv_lrem C.1 C.2.1 d hz (h r hr o ho p l e s m args below meth c C H locs ls hP hS hl)
theorem v_if_eq {G : GG} {J : MD} {pc : Nat} {lv : List (Nat × Value)} {st : List Value} {μ : Mem} {R : Type} {k : R → Option Oc} {A B : Option R} {a : Int32} {off : Int} {tgt n : Nat} (d : decode J.2.1 pc = .ok (.ifCond .eq off, 3)) (ht : (pc : Int) + off = (tgt : Int)) (hn : pc + 3 = n) (h1 : V G J tgt lv st μ A k) (h2 : V G J n lv st μ B k) : V G J pc lv (.int a :: st) μ (if a = 0 then A else B) k := by
  subst hn
  intro r hr o ho p l e s m args below meth c C H locs ls hP hS hl
  exact lv_if_eq C.1 C.2.1 d ht (fun q => by rw [if_pos q] at hr; exact h1 r hr o ho p l e s m args below meth c C H locs ls hP hS hl) (fun q => by rw [if_neg q] at hr; exact h2 r hr o ho p l e s m args below meth c C H locs ls hP hS hl)
theorem v_icmp_eq {G : GG} {J : MD} {pc : Nat} {lv : List (Nat × Value)} {st : List Value} {μ : Mem} {R : Type} {k : R → Option Oc} {A B : Option R} {a b : Int32} {off : Int} {tgt n : Nat} (d : decode J.2.1 pc = .ok (.if_icmp .eq off, 3)) (ht : (pc : Int) + off = (tgt : Int)) (hn : pc + 3 = n) (h1 : V G J tgt lv st μ A k) (h2 : V G J n lv st μ B k) : V G J pc lv (.int b :: .int a :: st) μ (if a = b then A else B) k := by
  subst hn
  intro r hr o ho p l e s m args below meth c C H locs ls hP hS hl
  exact lv_icmp_eq C.1 C.2.1 d ht (fun q => by rw [if_pos q] at hr; exact h1 r hr o ho p l e s m args below meth c C H locs ls hP hS hl) (fun q => by rw [if_neg q] at hr; exact h2 r hr o ho p l e s m args below meth c C H locs ls hP hS hl)
theorem v_if_ne {G : GG} {J : MD} {pc : Nat} {lv : List (Nat × Value)} {st : List Value} {μ : Mem} {R : Type} {k : R → Option Oc} {A B : Option R} {a : Int32} {off : Int} {tgt n : Nat} (d : decode J.2.1 pc = .ok (.ifCond .ne off, 3)) (ht : (pc : Int) + off = (tgt : Int)) (hn : pc + 3 = n) (h1 : V G J n lv st μ A k) (h2 : V G J tgt lv st μ B k) : V G J pc lv (.int a :: st) μ (if a = 0 then A else B) k := by
  subst hn
  intro r hr o ho p l e s m args below meth c C H locs ls hP hS hl
  exact lv_if_ne C.1 C.2.1 d ht (fun q => by rw [if_neg q] at hr; exact h2 r hr o ho p l e s m args below meth c C H locs ls hP hS hl) (fun q => by rw [if_pos q] at hr; exact h1 r hr o ho p l e s m args below meth c C H locs ls hP hS hl)
theorem v_icmp_ne {G : GG} {J : MD} {pc : Nat} {lv : List (Nat × Value)} {st : List Value} {μ : Mem} {R : Type} {k : R → Option Oc} {A B : Option R} {a b : Int32} {off : Int} {tgt n : Nat} (d : decode J.2.1 pc = .ok (.if_icmp .ne off, 3)) (ht : (pc : Int) + off = (tgt : Int)) (hn : pc + 3 = n) (h1 : V G J n lv st μ A k) (h2 : V G J tgt lv st μ B k) : V G J pc lv (.int b :: .int a :: st) μ (if a = b then A else B) k := by
  subst hn
  intro r hr o ho p l e s m args below meth c C H locs ls hP hS hl
  exact lv_icmp_ne C.1 C.2.1 d ht (fun q => by rw [if_neg q] at hr; exact h2 r hr o ho p l e s m args below meth c C H locs ls hP hS hl) (fun q => by rw [if_pos q] at hr; exact h1 r hr o ho p l e s m args below meth c C H locs ls hP hS hl)
theorem v_if_lt {G : GG} {J : MD} {pc : Nat} {lv : List (Nat × Value)} {st : List Value} {μ : Mem} {R : Type} {k : R → Option Oc} {A B : Option R} {a : Int32} {off : Int} {tgt n : Nat} (d : decode J.2.1 pc = .ok (.ifCond .lt off, 3)) (ht : (pc : Int) + off = (tgt : Int)) (hn : pc + 3 = n) (h1 : V G J tgt lv st μ A k) (h2 : V G J n lv st μ B k) : V G J pc lv (.int a :: st) μ (if a < 0 then A else B) k := by
  subst hn
  intro r hr o ho p l e s m args below meth c C H locs ls hP hS hl
  exact lv_if_lt C.1 C.2.1 d ht (fun q => by rw [if_pos q] at hr; exact h1 r hr o ho p l e s m args below meth c C H locs ls hP hS hl) (fun q => by rw [if_neg q] at hr; exact h2 r hr o ho p l e s m args below meth c C H locs ls hP hS hl)
theorem v_icmp_lt {G : GG} {J : MD} {pc : Nat} {lv : List (Nat × Value)} {st : List Value} {μ : Mem} {R : Type} {k : R → Option Oc} {A B : Option R} {a b : Int32} {off : Int} {tgt n : Nat} (d : decode J.2.1 pc = .ok (.if_icmp .lt off, 3)) (ht : (pc : Int) + off = (tgt : Int)) (hn : pc + 3 = n) (h1 : V G J tgt lv st μ A k) (h2 : V G J n lv st μ B k) : V G J pc lv (.int b :: .int a :: st) μ (if a < b then A else B) k := by
  subst hn
  intro r hr o ho p l e s m args below meth c C H locs ls hP hS hl
  exact lv_icmp_lt C.1 C.2.1 d ht (fun q => by rw [if_pos q] at hr; exact h1 r hr o ho p l e s m args below meth c C H locs ls hP hS hl) (fun q => by rw [if_neg q] at hr; exact h2 r hr o ho p l e s m args below meth c C H locs ls hP hS hl)
theorem v_if_ge {G : GG} {J : MD} {pc : Nat} {lv : List (Nat × Value)} {st : List Value} {μ : Mem} {R : Type} {k : R → Option Oc} {A B : Option R} {a : Int32} {off : Int} {tgt n : Nat} (d : decode J.2.1 pc = .ok (.ifCond .ge off, 3)) (ht : (pc : Int) + off = (tgt : Int)) (hn : pc + 3 = n) (h1 : V G J tgt lv st μ A k) (h2 : V G J n lv st μ B k) : V G J pc lv (.int a :: st) μ (if 0 ≤ a then A else B) k := by
  subst hn
  intro r hr o ho p l e s m args below meth c C H locs ls hP hS hl
  exact lv_if_ge C.1 C.2.1 d ht (fun q => by rw [if_pos q] at hr; exact h1 r hr o ho p l e s m args below meth c C H locs ls hP hS hl) (fun q => by rw [if_neg q] at hr; exact h2 r hr o ho p l e s m args below meth c C H locs ls hP hS hl)
theorem v_icmp_ge {G : GG} {J : MD} {pc : Nat} {lv : List (Nat × Value)} {st : List Value} {μ : Mem} {R : Type} {k : R → Option Oc} {A B : Option R} {a b : Int32} {off : Int} {tgt n : Nat} (d : decode J.2.1 pc = .ok (.if_icmp .ge off, 3)) (ht : (pc : Int) + off = (tgt : Int)) (hn : pc + 3 = n) (h1 : V G J tgt lv st μ A k) (h2 : V G J n lv st μ B k) : V G J pc lv (.int b :: .int a :: st) μ (if b ≤ a then A else B) k := by
  subst hn
  intro r hr o ho p l e s m args below meth c C H locs ls hP hS hl
  exact lv_icmp_ge C.1 C.2.1 d ht (fun q => by rw [if_pos q] at hr; exact h1 r hr o ho p l e s m args below meth c C H locs ls hP hS hl) (fun q => by rw [if_neg q] at hr; exact h2 r hr o ho p l e s m args below meth c C H locs ls hP hS hl)
theorem v_if_gt {G : GG} {J : MD} {pc : Nat} {lv : List (Nat × Value)} {st : List Value} {μ : Mem} {R : Type} {k : R → Option Oc} {A B : Option R} {a : Int32} {off : Int} {tgt n : Nat} (d : decode J.2.1 pc = .ok (.ifCond .gt off, 3)) (ht : (pc : Int) + off = (tgt : Int)) (hn : pc + 3 = n) (h1 : V G J tgt lv st μ A k) (h2 : V G J n lv st μ B k) : V G J pc lv (.int a :: st) μ (if 0 < a then A else B) k := by
  subst hn
  intro r hr o ho p l e s m args below meth c C H locs ls hP hS hl
  exact lv_if_gt C.1 C.2.1 d ht (fun q => by rw [if_pos q] at hr; exact h1 r hr o ho p l e s m args below meth c C H locs ls hP hS hl) (fun q => by rw [if_neg q] at hr; exact h2 r hr o ho p l e s m args below meth c C H locs ls hP hS hl)
theorem v_icmp_gt {G : GG} {J : MD} {pc : Nat} {lv : List (Nat × Value)} {st : List Value} {μ : Mem} {R : Type} {k : R → Option Oc} {A B : Option R} {a b : Int32} {off : Int} {tgt n : Nat} (d : decode J.2.1 pc = .ok (.if_icmp .gt off, 3)) (ht : (pc : Int) + off = (tgt : Int)) (hn : pc + 3 = n) (h1 : V G J tgt lv st μ A k) (h2 : V G J n lv st μ B k) : V G J pc lv (.int b :: .int a :: st) μ (if b < a then A else B) k := by
  subst hn
  intro r hr o ho p l e s m args below meth c C H locs ls hP hS hl
  exact lv_icmp_gt C.1 C.2.1 d ht (fun q => by rw [if_pos q] at hr; exact h1 r hr o ho p l e s m args below meth c C H locs ls hP hS hl) (fun q => by rw [if_neg q] at hr; exact h2 r hr o ho p l e s m args below meth c C H locs ls hP hS hl)
theorem v_if_le {G : GG} {J : MD} {pc : Nat} {lv : List (Nat × Value)} {st : List Value} {μ : Mem} {R : Type} {k : R → Option Oc} {A B : Option R} {a : Int32} {off : Int} {tgt n : Nat} (d : decode J.2.1 pc = .ok (.ifCond .le off, 3)) (ht : (pc : Int) + off = (tgt : Int)) (hn : pc + 3 = n) (h1 : V G J tgt lv st μ A k) (h2 : V G J n lv st μ B k) : V G J pc lv (.int a :: st) μ (if a ≤ 0 then A else B) k := by
  subst hn
  intro r hr o ho p l e s m args below meth c C H locs ls hP hS hl
  exact lv_if_le C.1 C.2.1 d ht (fun q => by rw [if_pos q] at hr; exact h1 r hr o ho p l e s m args below meth c C H locs ls hP hS hl) (fun q => by rw [if_neg q] at hr; exact h2 r hr o ho p l e s m args below meth c C H locs ls hP hS hl)
theorem v_icmp_le {G : GG} {J : MD} {pc : Nat} {lv : List (Nat × Value)} {st : List Value} {μ : Mem} {R : Type} {k : R → Option Oc} {A B : Option R} {a b : Int32} {off : Int} {tgt n : Nat} (d : decode J.2.1 pc = .ok (.if_icmp .le off, 3)) (ht : (pc : Int) + off = (tgt : Int)) (hn : pc + 3 = n) (h1 : V G J tgt lv st μ A k) (h2 : V G J n lv st μ B k) : V G J pc lv (.int b :: .int a :: st) μ (if a ≤ b then A else B) k := by
  subst hn
  intro r hr o ho p l e s m args below meth c C H locs ls hP hS hl
  exact lv_icmp_le C.1 C.2.1 d ht (fun q => by rw [if_pos q] at hr; exact h1 r hr o ho p l e s m args below meth c C H locs ls hP hS hl) (fun q => by rw [if_neg q] at hr; exact h2 r hr o ho p l e s m args below meth c C H locs ls hP hS hl)
theorem v_goto {G : GG} {J : MD} {pc : Nat} {lv : List (Nat × Value)} {st : List Value} {μ : Mem} {R : Type} {x : Option R} {k : R → Option Oc} {off : Int} {tgt : Nat} (d : decode J.2.1 pc = .ok (.goto off, 3)) (ht : (pc : Int) + off = (tgt : Int)) (h : V G J tgt lv st μ x k) : V G J pc lv st μ x k := by
  intro r hr o ho p l e s m args below meth c C H locs ls hP hS hl
  exact lv_goto C.1 C.2.1 d ht (h r hr o ho p l e s m args below meth c C H locs ls hP hS hl)
theorem v_swif {G : GG} {J : MD} {pc : Nat} {lv : List (Nat × Value)} {st : List Value} {μ : Mem} {R : Type} {k : R → Option Oc} {A B : Option R} {z a : Int32} (h1 : V G J pc lv (.int a :: st) μ A k) (h2 : ¬ z = a → V G J pc lv (.int z :: st) μ B k) : V G J pc lv (.int z :: st) μ (if z = a then A else B) k := by
  by_cases h : z = a
  · subst h; rw [if_pos rfl]; exact h1
  · rw [if_neg h]; exact h2 h
theorem v_tblI {G : GG} {J : MD} {pc : Nat} {lv : List (Nat × Value)} {st : List Value} {μ : Mem} {R : Type} {x : Option R} {k : R → Option Oc} {dflt lo hi : Int} {offs : Array Int} {len : Nat} {a : Int32} {off : Int} {tgt : Nat} (d : decode J.2.1 pc = .ok (.tableswitch dflt lo hi offs, len)) (h1 : ¬ a.toInt < lo) (h2 : ¬ hi < a.toInt) (hof : offs[(a.toInt - lo).toNat]? = some off) (ht : (pc : Int) + off = (tgt : Int)) (h : V G J tgt lv st μ x k) : V G J pc lv (.int a :: st) μ x k := by
  intro r hr o ho p l e s m args below meth c C H locs ls hP hS hl
  exact lv_tableIn C.1 C.2.1 d h1 h2 hof ht (h r hr o ho p l e s m args below meth c C H locs ls hP hS hl)
theorem v_tblO {G : GG} {J : MD} {pc : Nat} {lv : List (Nat × Value)} {st : List Value} {μ : Mem} {R : Type} {x : Option R} {k : R → Option Oc} {dflt lo hi : Int} {offs : Array Int} {len : Nat} {a : Int32} {tgt : Nat} (d : decode J.2.1 pc = .ok (.tableswitch dflt lo hi offs, len)) (h1 : a.toInt < lo ∨ hi < a.toInt) (ht : (pc : Int) + dflt = (tgt : Int)) (h : V G J tgt lv st μ x k) : V G J pc lv (.int a :: st) μ x k := by
  intro r hr o ho p l e s m args below meth c C H locs ls hP hS hl
  exact lv_tableOut C.1 C.2.1 d h1 ht (h r hr o ho p l e s m args below meth c C H locs ls hP hS hl)
theorem v_lkp {G : GG} {J : MD} {pc : Nat} {lv : List (Nat × Value)} {st : List Value} {μ : Mem} {R : Type} {x : Option R} {k : R → Option Oc} {dflt : Int} {ps : Array (Int × Int)} {len : Nat} {a : Int32} {off : Int} {tgt : Nat} (d : decode J.2.1 pc = .ok (.lookupswitch dflt ps, len)) (hp : (ps.toList.zip (ps.toList.drop 1)).all (fun (a, next) => a.1 < next.1) = true) (hof : Op.lookupswitch.offset ps.toList dflt a.toInt = off) (ht : (pc : Int) + off = (tgt : Int)) (h : V G J tgt lv st μ x k) : V G J pc lv (.int a :: st) μ x k := by
  intro r hr o ho p l e s m args below meth c C H locs ls hP hS hl
  exact lv_lookup C.1 C.2.1 d hp hof ht (h r hr o ho p l e s m args below meth c C H locs ls hP hS hl)
theorem v_getI {G : GG} {J : MD} {pc : Nat} {lv : List (Nat × Value)} {st : List Value} {μ : Mem} {R : Type} {x : Option R} {k : R → Option Oc} {q ci i idx : Nat} {fs : List (Option Nat)} (d : decode J.2.1 pc = .ok (.getfield idx, 3)) (hc : sh[q]? = some (.inr (ci, fs))) (hf : fs[i]? = some none) (F : gFld J.1 idx ci i) {n : Nat} (hn : pc + 3 = n) (h : V G J n lv (.int (μ q i) :: st) μ x k) : V G J pc lv (.ref (G.2.1 q) :: st) μ x k := by
  subst hn
  intro r hr o ho p l e s m args below meth c C H locs ls hP hS hl
  obtain ⟨hx, hb, hml, hre, hown, hts, hlk, hK, hDD, hST, hNW⟩ := id C
  obtain ⟨Cn, T, N, ref, h1, h2, h3, h4, h5⟩ := F
  exact va_get (D := G.1) (ci := ci) (v := .int (μ q i)) (C := Cn) (T := T) (N := N) hx hb hts h3 hown hK hP q (gW_at hc) h1 i h2 (hts _ h4) (h5 s) (gF_I hf) d (h r hr o ho p l e s m args below meth c C H locs ls hP hS hl)
theorem v_getR {G : GG} {J : MD} {pc : Nat} {lv : List (Nat × Value)} {st : List Value} {μ : Mem} {R : Type} {x : Option R} {k : R → Option Oc} {q ci i idx q2 : Nat} {fs : List (Option Nat)} (d : decode J.2.1 pc = .ok (.getfield idx, 3)) (hc : sh[q]? = some (.inr (ci, fs))) (hf : fs[i]? = some (some q2)) (F : gFld J.1 idx ci i) {n : Nat} (hn : pc + 3 = n) (h : V G J n lv (.ref (G.2.1 q2) :: st) μ x k) : V G J pc lv (.ref (G.2.1 q) :: st) μ x k := by
  subst hn
  intro r hr o ho p l e s m args below meth c C H locs ls hP hS hl
  obtain ⟨hx, hb, hml, hre, hown, hts, hlk, hK, hDD, hST, hNW⟩ := id C
  obtain ⟨Cn, T, N, ref, h1, h2, h3, h4, h5⟩ := F
  exact va_get (D := G.1) (ci := ci) (v := .ref (G.2.1 q2)) (C := Cn) (T := T) (N := N) hx hb hts h3 hown hK hP q (gW_at hc) h1 i h2 (hts _ h4) (h5 s) (gF_R hf) d (h r hr o ho p l e s m args below meth c C H locs ls hP hS hl)
theorem v_put {G : GG} {J : MD} {pc : Nat} {lv : List (Nat × Value)} {st : List Value} {μ : Mem} {R : Type} {x : Option R} {k : R → Option Oc} {q ci i idx : Nat} {fs : List (Option Nat)} {ty : FieldType} {v : Int32} (d : decode J.2.1 pc = .ok (.putfield idx, 3)) (hc : sh[q]? = some (.inr (ci, fs))) (hf : fs[i]? = some none) (F : gPut J.1 idx ci i ty) (hnw : narrow ty (.int v) = .int v) (hft : fits ty (.int v) = true) {n : Nat} (hn : pc + 3 = n) (h : V G J n lv st (up μ q i v) x k) : V G J pc lv (.int v :: .ref (G.2.1 q) :: st) μ x k := by
  subst hn
  intro r hr o ho p l e s m args below meth c C H locs ls hP hS hl
  obtain ⟨hx, hb, hml, hre, hown, hts, hlk, hK, hDD, hST, hNW⟩ := id C
  obtain ⟨Cn, T, N, ref, ty0, h1, h2, h3, h4, h5, h6, h7, h8, h9⟩ := F
  refine va_put (D := G.1) (ci := ci) (v := .int v) (ty := ty) (C := Cn) (T := T) (N := N) hx hb hts h3 ty0 h6 h7 hown hK hP (gD_of hDD) hS q (gW_at hc) h1 i h2 (hts _ h4) (h5 s) h8 h9 hnw hft (by show i < (gF G μ q fs).length; rw [gF_len]; exact (List.getElem?_eq_some_iff.mp hf).1) d (fun H1 locs1 hP1 _ hS1 => ?_)
  refine h r hr o ho p l e s m args below meth c C H1 locs1 ls ?_ hS1 hl
  rw [gW_upF hc hf]
  exact hP1
theorem v_iald {G : GG} {J : MD} {pc : Nat} {lv : List (Nat × Value)} {st : List Value} {μ : Mem} {R : Type} {x : Option R} {k : R → Option Oc} {q N : Nat} {i : Int32} (d : decode J.2.1 pc = .ok (.iaload, 1)) (hc : isA q N) {n : Nat} (hn : pc + 1 = n) (h : V G J n lv (.int (μ q i.toNatClampNeg) :: st) μ x k) : V G J pc lv (.int i :: .ref (G.2.1 q) :: st) μ (ck (inb i N) x) k := by
  subst hn
  intro r hr o ho p l e s m args below meth c C H locs ls hP hS hl
  obtain ⟨hx, hb, hml, hre, hown, hts, hlk, hK, hDD, hST, hNW⟩ := id C
  by_cases hi : inb i N = true
  · rw [ck, if_pos hi] at hr
    exact va_iald hx hb hK hP q 0 (gW_at hc) rfl (inb_vp hi) d (h r hr o ho p l e s m args below meth c C H locs ls hP hS hl)
  · rw [ck, if_neg hi] at hr; cases hr
theorem v_iast {G : GG} {J : MD} {pc : Nat} {lv : List (Nat × Value)} {st : List Value} {μ : Mem} {R : Type} {x : Option R} {k : R → Option Oc} {q N : Nat} {i v : Int32} (d : decode J.2.1 pc = .ok (.iastore, 1)) (hc : isA q N) {n : Nat} (hn : pc + 1 = n) (h : V G J n lv st (up μ q i.toNatClampNeg v) x k) : V G J pc lv (.int v :: .int i :: .ref (G.2.1 q) :: st) μ (ck (inb i N) x) k := by
  subst hn
  intro r hr o ho p l e s m args below meth c C H locs ls hP hS hl
  obtain ⟨hx, hb, hml, hre, hown, hts, hlk, hK, hDD, hST, hNW⟩ := id C
  by_cases hi : inb i N = true
  · rw [ck, if_pos hi] at hr
    refine va_iast hx hb hK hP (gD_of hDD) hS q 0 (gW_at hc) rfl (inb_vp hi) d (fun H1 locs1 hP1 _ hS1 => ?_)
    refine h r hr o ho p l e s m args below meth c C H1 locs1 ls ?_ hS1 hl
    rw [gW_upA hc]
    exact hP1
  · rw [ck, if_neg hi] at hr; cases hr
theorem v_alen {G : GG} {J : MD} {pc : Nat} {lv : List (Nat × Value)} {st : List Value} {μ : Mem} {R : Type} {x : Option R} {k : R → Option Oc} {q N : Nat} {v : Int32} (d : decode J.2.1 pc = .ok (.arraylength, 1)) (hc : isA q N) (hv : Int32.ofNat N = v) {n : Nat} (hn : pc + 1 = n) (h : V G J n lv (.int v :: st) μ x k) : V G J pc lv (.ref (G.2.1 q) :: st) μ x k := by
  subst hn
  subst hv
  intro r hr o ho p l e s m args below meth c C H locs ls hP hS hl
  obtain ⟨hx, hb, hml, hre, hown, hts, hlk, hK, hDD, hST, hNW⟩ := id C
  exact va_alen hx hb hK hP q 0 (gW_at hc) rfl rfl d (h r hr o ho p l e s m args below meth c C H locs ls hP hS hl)
theorem shc_ok {i : Int32} (h : inb i 4 = true) : isO (shc i) 2 ∧ ([35, 37, 39, 41] : List Nat)[i.toNatClampNeg]? = some (shc i) := by
  have hlt : i.toNatClampNeg < 4 := Nat.not_le.mp fun q => inb_vp h (Or.inr q)
  unfold shc
  generalize i.toNatClampNeg = a at hlt
  rcases (show a = 0 ∨ a = 1 ∨ a = 2 ∨ a = 3 by omega) with rfl | rfl | rfl | rfl <;> exact ⟨rfl, rfl⟩
theorem v_aald {G : GG} {J : MD} {pc : Nat} {lv : List (Nat × Value)} {st : List Value} {μ : Mem} {R : Type} {k : R → Option Oc} {i : Int32} {f : Nat → Option R} (d : decode J.2.1 pc = .ok (.aaload, 1)) {n : Nat} (hn : pc + 1 = n) (h : ∀ q, isO q 2 → V G J n lv (.ref (G.2.1 q) :: st) μ (f q) k) : V G J pc lv (.int i :: .ref (G.2.1 1) :: st) μ (ck (inb i 4) (lt (shc i) f)) k := by
  subst hn
  intro r hr o ho p l e s m args below meth c C H locs ls hP hS hl
  obtain ⟨hx, hb, hml, hre, hown, hts, hlk, hK, hDD, hST, hNW⟩ := id C
  by_cases hi : inb i 4 = true
  · rw [ck, if_pos hi] at hr
    obtain ⟨e1, e2⟩ := shc_ok hi
    refine va_aldq hx hb hK hP 1 1 (gW_at (x := .inl (.inr [35, 37, 39, 41])) rfl) rfl (inb_vp hi) d ?_
    have hz := h (shc i) e1 r hr o ho p l e s m args below meth c C H locs ls hP hS hl
    have ez : va_rf ((([35, 37, 39, 41] : List Nat)[i.toNatClampNeg]?).map G.2.1) = .ref (G.2.1 (shc i)) := by rw [e2]; rfl
    show W p l e J.2.2.2.2 s m args below meth c H locs 0 0 _ (F0 m (pc + 1) ls (va_rf ((([35, 37, 39, 41] : List Nat)[i.toNatClampNeg]?).map G.2.1) :: st))
    rw [ez]
    exact hz
  · rw [ck, if_neg hi] at hr; cases hr
theorem v_gets {G : GG} {J : MD} {pc : Nat} {lv : List (Nat × Value)} {st : List Value} {μ : Mem} {R : Type} {x : Option R} {k : R → Option Oc} (j : Nat) {idx : Nat} (d : decode J.2.1 pc = .ok (.getstatic idx, 3)) (hj : j < 3) (hm : (J.1, idx, j) ∈ nsts) {n : Nat} (hn : pc + 3 = n) (h : V G J n lv (.ref (G.2.2.2.2.2 j) :: st) μ x k) : V G J pc lv st μ x k := by
  subst hn
  intro r hr o ho p l e s m args below meth c C H locs ls hP hS hl
  obtain ⟨hx, hb, hml, hre, hown, hts, hlk, hK, hDD, hST, hNW⟩ := id C
  exact va_getsN hx hb (hST j hj).1 hS hown (va_Nw.use rfl (hNW _ hm)) (fun _ h => h) d (h r hr o ho p l e s m args below meth c C H locs ls hP hS hl)
theorem v_sald {G : GG} {J : MD} {pc : Nat} {lv : List (Nat × Value)} {st : List Value} {μ : Mem} {R : Type} {x : Option R} {k : R → Option Oc} {j : Nat} {i : Int32} (d : decode J.2.1 pc = .ok (.iaload, 1)) (hj : j < 3) {n : Nat} (hn : pc + 1 = n) (h : V G J n lv (.int (stv j i.toNatClampNeg) :: st) μ x k) : V G J pc lv (.int i :: .ref (G.2.2.2.2.2 j) :: st) μ (ck (inb i 5) x) k := by
  subst hn
  intro r hr o ho p l e s m args below meth c C H locs ls hP hS hl
  obtain ⟨hx, hb, hml, hre, hown, hts, hlk, hK, hDD, hST, hNW⟩ := id C
  by_cases hi : inb i 5 = true
  · rw [ck, if_pos hi] at hr
    exact va_ti hx hb (hST j hj).2 hS (inb_vp hi) rfl d (h r hr o ho p l e s m args below meth c C H locs ls hP hS hl)
  · rw [ck, if_neg hi] at hr; cases hr
def cpk (sp dp n : Int32) (n0 n1 : Nat) : Bool := decide (¬ sp < 0 ∧ ¬ dp < 0 ∧ ¬ n < 0 ∧ sp.toNatClampNeg + n.toNatClampNeg ≤ n0 ∧ dp.toNatClampNeg + n.toNatClampNeg ≤ n1)
theorem v_acopy {G : GG} {J : MD} {pc : Nat} {lv : List (Nat × Value)} {st : List Value} {μ : Mem} {R : Type} {x : Option R} {k : R → Option Oc} {q0 q1 n0 n1 idx : Nat} {sp dp z : Int32} (d : decode J.2.1 pc = .ok (.invokestatic idx, 3)) (hl1 : Cond.methodLink J.1 idx arraycopyName ∈ TB) (hl2 : Cond.native arraycopyName ∈ TB) (hl3 : Cond.static arraycopyName ∈ TB) (hl4 : Cond.initialized "java/lang/System" ∈ TB) (hc0 : isA q0 n0) (hc1 : isA q1 n1) (hfr : 1 ≤ J.2.2.2.2.frames) (hlo : (st.map fun v => v.category).sum + (nativeFrameWords "java/lang/System" "arraycopy" 5 + 11) ≤ J.2.2.2.2.locals) {n : Nat} (hn : pc + 3 = n) (h : V G J n lv st (cpm μ q0 sp.toNatClampNeg q1 dp.toNatClampNeg z.toNatClampNeg) x k) : V G J pc lv (.int z :: .int dp :: .ref (G.2.1 q1) :: .int sp :: .ref (G.2.1 q0) :: st) μ (ck (cpk sp dp z n0 n1) x) k := by
  subst hn
  intro r hr o ho p l e s m args below meth c C H locs ls hP hS hl
  obtain ⟨hx, hb, hml, hre, hown, hts, hlk, hK, hDD, hST, hNW⟩ := id C
  by_cases hi : cpk sp dp z n0 n1 = true
  · rw [ck, if_pos hi] at hr
    have hi2 := hi
    rw [cpk, decide_eq_true_eq] at hi2
    obtain ⟨g1, g2, g3, g4, g5⟩ := hi2
    refine va_copyi hx hb (hml.trans hl.1.symm) hown (hts _ hl1) (hts _ hl2) (hts _ hl3) (hts _ hl4) hK hP (gD_of hDD) hS q0 q1 0 0 (gW_at hc0) (gW_at hc1) rfl rfl rfl g1 g2 g3 g4 g5 (fun _ _ => rfl) hfr hlo d (fun H1 locs1 hP1 _ hS1 => ?_)
    refine h r hr o ho p l e s m args below meth c C H1 locs1 ls ?_ hS1 hl
    rw [gW_cpm hc1]
    exact hP1
  · rw [ck, if_neg hi] at hr; cases hr
theorem w_call {p : Program} {l : Launch} {e : Env} {R : Room} {s : State} {m : MethodId} {args : Array Value} {below : List Frame} {meth : Method} {c : Code} {H : Heap} {locs : List Loc} {cells slots : Nat} {Q : State → Prop} {G : GG} {o : Oc} {pc : Nat} {ls : Array Slot} {st0 rest : List Value} {a : Array Value}
    (hr : va_Run p l e R s m args below meth c H locs cells slots 0 0 (F0 m pc ls st0) rest (gPost G o a) (gA G)) (hS : va_S (gA G) s.heap H locs)
    (kk : ∀ (H1 : Heap) (locs1 : List Loc), va_P G.1 vwCl (gW G o.2) H1 → va_S (gA G) s.heap H1 locs1 → W p l e R s m args below meth c H1 locs1 cells slots Q (F0 m (pc + 3) ls (o.1.toList ++ rest))) : W p l e R s m args below meth c H locs cells slots Q (F0 m pc ls st0) := by
  intro T hT X
  obtain ⟨v, st₀, t, T', L, h0, X', hL, e1, e2, ⟨hv, hp, hz, hk⟩, st⟩ := hr T hT X
  cases hv
  rw [h0] at hz hk
  obtain ⟨t2, a1, b1⟩ := kk T'.heap (locs ++ L) (by rw [e1]; exact hp)
    ⟨Nat.le_trans hS.1 (by rw [e1]; exact hz), fun q h1 h2 => by rw [e1, hk q (Nat.lt_of_lt_of_le h1 hS.1) h2]; exact hS.2.1 q h1 h2, fun q hq => by
      rcases List.mem_append.mp hq with h | h
      · exact hS.2.2 q h
      · exact hL q h⟩ T' rfl X'
  exact ⟨t2, st t2 a1, b1⟩
theorem v_callV {G : GG} {J : MD} {pc : Nat} {lv : List (Nat × Value)} {st : List Value} {μ : Mem} {R : Type} {k : R → Option Oc} {T : Type} {fx : Option T} {f : T → Option R} (toO : T → Oc) {J2 : MD} {y : MethodName} {idx ci q na : Nat} {fs : List (Option Nat)} {st0 : List Value} (As : List Value) (d : decode J.2.1 pc = .ok (.invokevirtual idx, 3)) (hM : ∀ t, fx = some t → GM G J2 y (.ref (G.2.1 q) :: As) μ (toO t)) (Cal : gCal J2 y ci na) (Lk : Cond.methodLink J.1 idx y ∈ TB) (hc : sh[q]? = some (.inr (ci, fs))) (hna : As.length = na) (hst : st0 = As.reverse ++ .ref (G.2.1 q) :: st) (hW : (st.map fun v => v.category).sum ≤ 8)
    (hR : J2.2.2.2.2.frames + 1 ≤ J.2.2.2.2.frames ∧ 8 + (J2.2.2.1 + 11) + J2.2.2.2.2.locals ≤ J.2.2.2.2.locals) (h : ∀ t, V G J (pc + 3) lv ((toO t).1.toList ++ st) (toO t).2 (f t) k) : V G J pc lv st0 μ (fx.bind f) k := by
  intro r hr o ho p l e s m args below meth c C H locs ls hP hS hl
  obtain ⟨hx, hb, hml, hre, hown, hts, hlk, hK, hDD, hST, hNW⟩ := id C
  cases hfx : fx with
  | none => rw [hfx] at hr; cases hr
  | some t =>
    rw [hfx] at hr
    obtain ⟨⟨T0, N0, c1⟩, c2, c3, c4, c5, c6, c7, c8, c9, c10⟩ := Cal
    have hT : GoodIn TB (wsV J.1 idx y.cls y (gWs J2 y)) := goodIn_app (fun w hw => by
      simp only [List.mem_cons, List.not_mem_nil, or_false] at hw
      rcases hw with rfl | rfl | rfl | rfl
      · exact TB_good _ Lk
      · exact TB_good _ c3
      · exact TB_good _ c4
      · exact TB_good _ c5) (gWs_good c2)
    have run := va_runV (As := As) (rest := st) (g := F0 m pc ls st0) (locs := locs) (cells := 0) (slots := 0) (e := e) (below := below) (meth := meth) ⟨hx, hb, hml, hown, hts⟩ (hM t hfx l) (cwV (R := J.2.2.2.2) na hts hT rfl c6 c7 ⟨rfl, c8, c9, c10⟩ hR) ⟨gBlind, va_recv hK hP c1 (gW_at hc), fun U hU hWm => ⟨rfl, by rw [hU]; exact hP, by rw [hU]; exact gOK_to C.2.2.2.2.2.2.2 hWm hS⟩⟩ rfl hna hl.1 hst (lv_room hW) d ⟨Nat.zero_le _, Nat.zero_le _⟩
    exact w_call run hS (fun H1 locs1 hP1 hS1 => h t r hr o ho p l e s m args below meth c C H1 locs1 ls hP1 hS1 hl)
theorem v_callS {G : GG} {J : MD} {pc : Nat} {lv : List (Nat × Value)} {st : List Value} {μ : Mem} {R : Type} {k : R → Option Oc} {T : Type} {fx : Option T} {f : T → Option R} (toO : T → Oc) {J2 : MD} {y : MethodName} {idx na : Nat} {st0 : List Value} (As : List Value) (d : decode J.2.1 pc = .ok (.invokestatic idx, 3)) (hM : ∀ t, fx = some t → GM G J2 y As μ (toO t)) (Cal : gCalS J2 y na) (Lk : Cond.methodLink J.1 idx y ∈ TB) (hna : As.length = na) (hst : st0 = As.reverse ++ st) (hW : (st.map fun v => v.category).sum ≤ 8)
    (hR : J2.2.2.2.2.frames + 1 ≤ J.2.2.2.2.frames ∧ 8 + (J2.2.2.1 + 11) + J2.2.2.2.2.locals ≤ J.2.2.2.2.locals) (h : ∀ t, V G J (pc + 3) lv ((toO t).1.toList ++ st) (toO t).2 (f t) k) : V G J pc lv st0 μ (fx.bind f) k := by
  intro r hr o ho p l e s m args below meth c C H locs ls hP hS hl
  obtain ⟨hx, hb, hml, hre, hown, hts, hlk, hK, hDD, hST, hNW⟩ := id C
  cases hfx : fx with
  | none => rw [hfx] at hr; cases hr
  | some t =>
    rw [hfx] at hr
    obtain ⟨c2, c3, c5, c6, c7, c8, c9, c10⟩ := Cal
    have hT : GoodIn TB (va_wsS J.1 idx y (gWs J2 y)) := goodIn_app (fun w hw => by
      simp only [List.mem_cons, List.not_mem_nil, or_false] at hw
      rcases hw with rfl | rfl | rfl
      · exact TB_good _ Lk
      · exact TB_good _ c3
      · exact TB_good _ c5) (gWs_good c2)
    have run := va_runS (As := As) (rest := st) (g := F0 m pc ls st0) (locs := locs) (cells := 0) (slots := 0) (e := e) (below := below) (meth := meth) ⟨hx, hb, hml, hown, hts⟩ (hM t hfx l) (va_cwS (R := J.2.2.2.2) na hts hT rfl c6 c7 ⟨c8, c9, c10⟩ hR) ⟨gBlind, fun U hU hWm => ⟨rfl, by rw [hU]; exact hP, by rw [hU]; exact gOK_to C.2.2.2.2.2.2.2 hWm hS⟩⟩ rfl hna hl.1 hst (lv_room hW) d ⟨Nat.zero_le _, Nat.zero_le _⟩
    exact w_call run hS (fun H1 locs1 hP1 hS1 => h t r hr o ho p l e s m args below meth c C H1 locs1 ls hP1 hS1 hl)
theorem v_cVi {G : GG} {J : MD} {pc : Nat} {lv : List (Nat × Value)} {st : List Value} {μ : Mem} {R : Type} {k : R → Option Oc} {fx : Option (Int32 × Mem)} {f : Int32 → Mem → Option R} {J2 : MD} {y : MethodName} {idx ci q na : Nat} {fs : List (Option Nat)} {st0 : List Value} (As : List Value) (d : decode J.2.1 pc = .ok (.invokevirtual idx, 3)) (hM : ∀ t, fx = some t → GM G J2 y (.ref (G.2.1 q) :: As) μ ((fun t => (some (.int t.1), t.2)) t)) (Cal : gCal J2 y ci na) (Lk : Cond.methodLink J.1 idx y ∈ TB) (hc : sh[q]? = some (.inr (ci, fs))) (hna : As.length = na) (hst : st0 = As.reverse ++ .ref (G.2.1 q) :: st) (hW : (st.map fun v => v.category).sum ≤ 8) (hR : J2.2.2.2.2.frames + 1 ≤ J.2.2.2.2.frames ∧ 8 + (J2.2.2.1 + 11) + J2.2.2.2.2.locals ≤ J.2.2.2.2.locals) {n : Nat} (hn : pc + 3 = n) (h : ∀ (v : Int32) (ν : Mem), V G J n lv (.int v :: st) ν (f v ν) k) : V G J pc lv st0 μ (b2 fx f) k := by
  subst hn
  exact v_callV (fun t => (some (.int t.1), t.2)) As d hM Cal Lk hc hna hst hW hR (fun t => h t.1 t.2)
theorem v_cSi {G : GG} {J : MD} {pc : Nat} {lv : List (Nat × Value)} {st : List Value} {μ : Mem} {R : Type} {k : R → Option Oc} {fx : Option (Int32 × Mem)} {f : Int32 → Mem → Option R} {J2 : MD} {y : MethodName} {idx na : Nat} {st0 : List Value} (As : List Value) (d : decode J.2.1 pc = .ok (.invokestatic idx, 3)) (hM : ∀ t, fx = some t → GM G J2 y As μ ((fun t => (some (.int t.1), t.2)) t)) (Cal : gCalS J2 y na) (Lk : Cond.methodLink J.1 idx y ∈ TB) (hna : As.length = na) (hst : st0 = As.reverse ++ st) (hW : (st.map fun v => v.category).sum ≤ 8) (hR : J2.2.2.2.2.frames + 1 ≤ J.2.2.2.2.frames ∧ 8 + (J2.2.2.1 + 11) + J2.2.2.2.2.locals ≤ J.2.2.2.2.locals) {n : Nat} (hn : pc + 3 = n) (h : ∀ (v : Int32) (ν : Mem), V G J n lv (.int v :: st) ν (f v ν) k) : V G J pc lv st0 μ (b2 fx f) k := by
  subst hn
  exact v_callS (fun t => (some (.int t.1), t.2)) As d hM Cal Lk hna hst hW hR (fun t => h t.1 t.2)
theorem v_cVl {G : GG} {J : MD} {pc : Nat} {lv : List (Nat × Value)} {st : List Value} {μ : Mem} {R : Type} {k : R → Option Oc} {fx : Option (Int64 × Mem)} {f : Int64 → Mem → Option R} {J2 : MD} {y : MethodName} {idx ci q na : Nat} {fs : List (Option Nat)} {st0 : List Value} (As : List Value) (d : decode J.2.1 pc = .ok (.invokevirtual idx, 3)) (hM : ∀ t, fx = some t → GM G J2 y (.ref (G.2.1 q) :: As) μ ((fun t => (some (.long t.1), t.2)) t)) (Cal : gCal J2 y ci na) (Lk : Cond.methodLink J.1 idx y ∈ TB) (hc : sh[q]? = some (.inr (ci, fs))) (hna : As.length = na) (hst : st0 = As.reverse ++ .ref (G.2.1 q) :: st) (hW : (st.map fun v => v.category).sum ≤ 8) (hR : J2.2.2.2.2.frames + 1 ≤ J.2.2.2.2.frames ∧ 8 + (J2.2.2.1 + 11) + J2.2.2.2.2.locals ≤ J.2.2.2.2.locals) {n : Nat} (hn : pc + 3 = n) (h : ∀ (v : Int64) (ν : Mem), V G J n lv (.long v :: st) ν (f v ν) k) : V G J pc lv st0 μ (b2 fx f) k := by
  subst hn
  exact v_callV (fun t => (some (.long t.1), t.2)) As d hM Cal Lk hc hna hst hW hR (fun t => h t.1 t.2)
theorem v_cSl {G : GG} {J : MD} {pc : Nat} {lv : List (Nat × Value)} {st : List Value} {μ : Mem} {R : Type} {k : R → Option Oc} {fx : Option (Int64 × Mem)} {f : Int64 → Mem → Option R} {J2 : MD} {y : MethodName} {idx na : Nat} {st0 : List Value} (As : List Value) (d : decode J.2.1 pc = .ok (.invokestatic idx, 3)) (hM : ∀ t, fx = some t → GM G J2 y As μ ((fun t => (some (.long t.1), t.2)) t)) (Cal : gCalS J2 y na) (Lk : Cond.methodLink J.1 idx y ∈ TB) (hna : As.length = na) (hst : st0 = As.reverse ++ st) (hW : (st.map fun v => v.category).sum ≤ 8) (hR : J2.2.2.2.2.frames + 1 ≤ J.2.2.2.2.frames ∧ 8 + (J2.2.2.1 + 11) + J2.2.2.2.2.locals ≤ J.2.2.2.2.locals) {n : Nat} (hn : pc + 3 = n) (h : ∀ (v : Int64) (ν : Mem), V G J n lv (.long v :: st) ν (f v ν) k) : V G J pc lv st0 μ (b2 fx f) k := by
  subst hn
  exact v_callS (fun t => (some (.long t.1), t.2)) As d hM Cal Lk hna hst hW hR (fun t => h t.1 t.2)
theorem v_cVv {G : GG} {J : MD} {pc : Nat} {lv : List (Nat × Value)} {st : List Value} {μ : Mem} {R : Type} {k : R → Option Oc} {fx : Option (Mem)} {f : Mem → Option R} {J2 : MD} {y : MethodName} {idx ci q na : Nat} {fs : List (Option Nat)} {st0 : List Value} (As : List Value) (d : decode J.2.1 pc = .ok (.invokevirtual idx, 3)) (hM : ∀ t, fx = some t → GM G J2 y (.ref (G.2.1 q) :: As) μ ((fun t => (none, t)) t)) (Cal : gCal J2 y ci na) (Lk : Cond.methodLink J.1 idx y ∈ TB) (hc : sh[q]? = some (.inr (ci, fs))) (hna : As.length = na) (hst : st0 = As.reverse ++ .ref (G.2.1 q) :: st) (hW : (st.map fun v => v.category).sum ≤ 8) (hR : J2.2.2.2.2.frames + 1 ≤ J.2.2.2.2.frames ∧ 8 + (J2.2.2.1 + 11) + J2.2.2.2.2.locals ≤ J.2.2.2.2.locals) {n : Nat} (hn : pc + 3 = n) (h : ∀ (ν : Mem), V G J n lv st ν (f ν) k) : V G J pc lv st0 μ (b1 fx f) k := by
  subst hn
  exact v_callV (fun t => (none, t)) As d hM Cal Lk hc hna hst hW hR (fun t => h t)
theorem v_cSv {G : GG} {J : MD} {pc : Nat} {lv : List (Nat × Value)} {st : List Value} {μ : Mem} {R : Type} {k : R → Option Oc} {fx : Option (Mem)} {f : Mem → Option R} {J2 : MD} {y : MethodName} {idx na : Nat} {st0 : List Value} (As : List Value) (d : decode J.2.1 pc = .ok (.invokestatic idx, 3)) (hM : ∀ t, fx = some t → GM G J2 y As μ ((fun t => (none, t)) t)) (Cal : gCalS J2 y na) (Lk : Cond.methodLink J.1 idx y ∈ TB) (hna : As.length = na) (hst : st0 = As.reverse ++ st) (hW : (st.map fun v => v.category).sum ≤ 8) (hR : J2.2.2.2.2.frames + 1 ≤ J.2.2.2.2.frames ∧ 8 + (J2.2.2.1 + 11) + J2.2.2.2.2.locals ≤ J.2.2.2.2.locals) {n : Nat} (hn : pc + 3 = n) (h : ∀ (ν : Mem), V G J n lv st ν (f ν) k) : V G J pc lv st0 μ (b1 fx f) k := by
  subst hn
  exact v_callS (fun t => (none, t)) As d hM Cal Lk hna hst hW hR (fun t => h t)
theorem v_cVa {G : GG} {J : MD} {pc : Nat} {lv : List (Nat × Value)} {st : List Value} {μ : Mem} {R : Type} {k : R → Option Oc} {fx : Option (Mem)} {f : Mem → Option R} {J2 : MD} {y : MethodName} {idx ci q na : Nat} {fs : List (Option Nat)} {st0 : List Value} (As : List Value) (d : decode J.2.1 pc = .ok (.invokevirtual idx, 3)) (hM : ∀ t, fx = some t → GM G J2 y (.ref (G.2.1 q) :: As) μ ((fun t => (some (.ref (G.2.1 14)), t)) t)) (Cal : gCal J2 y ci na) (Lk : Cond.methodLink J.1 idx y ∈ TB) (hc : sh[q]? = some (.inr (ci, fs))) (hna : As.length = na) (hst : st0 = As.reverse ++ .ref (G.2.1 q) :: st) (hW : (st.map fun v => v.category).sum ≤ 8) (hR : J2.2.2.2.2.frames + 1 ≤ J.2.2.2.2.frames ∧ 8 + (J2.2.2.1 + 11) + J2.2.2.2.2.locals ≤ J.2.2.2.2.locals) {n : Nat} (hn : pc + 3 = n) (h : ∀ (ν : Mem), V G J n lv (.ref (G.2.1 14) :: st) ν (f ν) k) : V G J pc lv st0 μ (b1 fx f) k := by
  subst hn
  exact v_callV (fun t => (some (.ref (G.2.1 14)), t)) As d hM Cal Lk hc hna hst hW hR (fun t => h t)
theorem v_cSa {G : GG} {J : MD} {pc : Nat} {lv : List (Nat × Value)} {st : List Value} {μ : Mem} {R : Type} {k : R → Option Oc} {fx : Option (Mem)} {f : Mem → Option R} {J2 : MD} {y : MethodName} {idx na : Nat} {st0 : List Value} (As : List Value) (d : decode J.2.1 pc = .ok (.invokestatic idx, 3)) (hM : ∀ t, fx = some t → GM G J2 y As μ ((fun t => (some (.ref (G.2.1 14)), t)) t)) (Cal : gCalS J2 y na) (Lk : Cond.methodLink J.1 idx y ∈ TB) (hna : As.length = na) (hst : st0 = As.reverse ++ st) (hW : (st.map fun v => v.category).sum ≤ 8) (hR : J2.2.2.2.2.frames + 1 ≤ J.2.2.2.2.frames ∧ 8 + (J2.2.2.1 + 11) + J2.2.2.2.2.locals ≤ J.2.2.2.2.locals) {n : Nat} (hn : pc + 3 = n) (h : ∀ (ν : Mem), V G J n lv (.ref (G.2.1 14) :: st) ν (f ν) k) : V G J pc lv st0 μ (b1 fx f) k := by
  subst hn
  exact v_callS (fun t => (some (.ref (G.2.1 14)), t)) As d hM Cal Lk hna hst hW hR (fun t => h t)
theorem v_iret {G : GG} {J : MD} {pc : Nat} {lv : List (Nat × Value)} {st : List Value} {μ : Mem} {R : Type} {k : R → Option Oc} {t : R} {v : Int32} (d : decode J.2.1 pc = .ok (.ireturn, 1)) (hrt : J.2.2.2.1 = some .int) (hk : k t = some (some (.int v), μ)) : V G J pc lv [.int v] μ (some t) k := by
  intro r hr o ho p l e s m args below meth c C H locs ls hP hS hl
  obtain ⟨hx, hb, hml, hre, hown, hts, hlk, hK, hDD, hST, hNW⟩ := id C
  cases hr
  cases hk.symm.trans ho
  exact W.iret (v := v) hx hb (hre.trans hrt) (fun t ht hW => ⟨rfl, by rw [ht]; exact hP, hS.F ht⟩) hS.2.2 d hlk
theorem v_zret {G : GG} {J : MD} {pc : Nat} {lv : List (Nat × Value)} {st : List Value} {μ : Mem} {R : Type} {k : R → Option Oc} {t : R} {v : Int32} (d : decode J.2.1 pc = .ok (.ireturn, 1)) (hrt : J.2.2.2.1 = some .boolean) (hv : narrow .boolean (.int v) = .int v) (hk : k t = some (some (.int v), μ)) : V G J pc lv [.int v] μ (some t) k := by
  intro r hr o ho p l e s m args below meth c C H locs ls hP hS hl
  obtain ⟨hx, hb, hml, hre, hown, hts, hlk, hK, hDD, hST, hNW⟩ := id C
  cases hr
  cases hk.symm.trans ho
  exact W.zret (v := v) hx hb (hre.trans hrt) hv (fun t ht hW => ⟨rfl, by rw [ht]; exact hP, hS.F ht⟩) hS.2.2 d hlk
theorem v_zretV {G : GG} {J : MD} {pc : Nat} {lv : List (Nat × Value)} {st : List Value} {μ : Mem} {R : Type} {k : R → Option Oc} {t : R} {v : Int32} (d : decode J.2.1 pc = .ok (.ireturn, 1)) (hrt : J.2.2.2.1 = some .boolean) (hk : k t = some (some (.int v), μ)) : V G J pc lv [.int v] μ (ck (bo v) (some t)) k := by
  by_cases h : bo v = true
  · rw [ck, if_pos h]
    exact v_zret d hrt (by simpa [bo] using h) hk
  · rw [ck, if_neg h]
    exact v_none
theorem v_lret {G : GG} {J : MD} {pc : Nat} {lv : List (Nat × Value)} {st : List Value} {μ : Mem} {R : Type} {k : R → Option Oc} {t : R} {v : Int64} (d : decode J.2.1 pc = .ok (.lreturn, 1)) (hrt : J.2.2.2.1 = some .long) (hk : k t = some (some (.long v), μ)) : V G J pc lv [.long v] μ (some t) k := by
  intro r hr o ho p l e s m args below meth c C H locs ls hP hS hl
  obtain ⟨hx, hb, hml, hre, hown, hts, hlk, hK, hDD, hST, hNW⟩ := id C
  cases hr
  cases hk.symm.trans ho
  exact W.lret (v := v) hx hb (hre.trans hrt) (fun t ht hW => ⟨rfl, by rw [ht]; exact hP, hS.F ht⟩) hS.2.2 d hlk
theorem v_vret {G : GG} {J : MD} {pc : Nat} {lv : List (Nat × Value)} {st : List Value} {μ : Mem} {R : Type} {k : R → Option Oc} {t : R} (d : decode J.2.1 pc = .ok (.return_, 1)) (hrt : J.2.2.2.1 = none) (hk : k t = some (none, μ)) : V G J pc lv [] μ (some t) k := by
  intro r hr o ho p l e s m args below meth c C H locs ls hP hS hl
  obtain ⟨hx, hb, hml, hre, hown, hts, hlk, hK, hDD, hST, hNW⟩ := id C
  cases hr
  cases hk.symm.trans ho
  exact W.vret hx hb (hre.trans hrt) (fun t ht hW => ⟨rfl, by rw [ht]; exact hP, hS.F ht⟩) hS.2.2 d hlk
theorem v_aret {G : GG} {J : MD} {pc : Nat} {lv : List (Nat × Value)} {st : List Value} {μ : Mem} {R : Type} {k : R → Option Oc} {t : R} {q : Nat} {nm : String} (d : decode J.2.1 pc = .ok (.areturn, 1)) (hrt : J.2.2.2.1 = some (.object nm)) (hk : k t = some (some (.ref (G.2.1 q)), μ)) : V G J pc lv [.ref (G.2.1 q)] μ (some t) k := by
  intro r hr o ho p l e s m args below meth c C H locs ls hP hS hl
  obtain ⟨hx, hb, hml, hre, hown, hts, hlk, hK, hDD, hST, hNW⟩ := id C
  cases hr
  cases hk.symm.trans ho
  exact W.aret (v := .ref (G.2.1 q)) hx hb (hre.trans hrt) (Or.inl ⟨nm, rfl⟩) (Or.inr ⟨_, rfl⟩) (fun t ht hW => ⟨rfl, by rw [ht]; exact hP, hS.F ht⟩) hS.2.2 d hlk
theorem v_x1 {G : GG} {J : MD} {pc : Nat} {lv : List (Nat × Value)} {st : List Value} {μ : Mem} {R : Type} {k : R → Option Oc} {A : Type} {z : Option (A)} {f : A → Option R} {px : Nat} {lx : A → List (Nat × Value)} {mx : A → Mem} (hz : ∀ kk : A → Option Oc, (∀ (a0 : A), V G J px (lx a0) [] (mx a0) (kk a0) some) → V G J pc lv st μ z kk) (h : ∀ (a0 : A), V G J px (lx a0) [] (mx a0) (f a0) k) : V G J pc lv st μ (b1 z f) k :=
  v_bind (hz _ (fun a0 => v_some (h a0)))
theorem v_x2 {G : GG} {J : MD} {pc : Nat} {lv : List (Nat × Value)} {st : List Value} {μ : Mem} {R : Type} {k : R → Option Oc} {A B : Type} {z : Option (A × B)} {f : A → B → Option R} {px : Nat} {lx : A → B → List (Nat × Value)} {mx : A → B → Mem} (hz : ∀ kk : A × B → Option Oc, (∀ (a0 : A) (b0 : B), V G J px (lx a0 b0) [] (mx a0 b0) (kk (a0, b0)) some) → V G J pc lv st μ z kk) (h : ∀ (a0 : A) (b0 : B), V G J px (lx a0 b0) [] (mx a0 b0) (f a0 b0) k) : V G J pc lv st μ (b2 z f) k :=
  v_bind (hz _ (fun a0 b0 => v_some (h a0 b0)))
theorem v_x3 {G : GG} {J : MD} {pc : Nat} {lv : List (Nat × Value)} {st : List Value} {μ : Mem} {R : Type} {k : R → Option Oc} {A B C : Type} {z : Option (A × B × C)} {f : A → B → C → Option R} {px : Nat} {lx : A → B → C → List (Nat × Value)} {mx : A → B → C → Mem} (hz : ∀ kk : A × B × C → Option Oc, (∀ (a0 : A) (b0 : B) (c0 : C), V G J px (lx a0 b0 c0) [] (mx a0 b0 c0) (kk (a0, b0, c0)) some) → V G J pc lv st μ z kk) (h : ∀ (a0 : A) (b0 : B) (c0 : C), V G J px (lx a0 b0 c0) [] (mx a0 b0 c0) (f a0 b0 c0) k) : V G J pc lv st μ (b3 z f) k :=
  v_bind (hz _ (fun a0 b0 c0 => v_some (h a0 b0 c0)))
theorem v_x4 {G : GG} {J : MD} {pc : Nat} {lv : List (Nat × Value)} {st : List Value} {μ : Mem} {R : Type} {k : R → Option Oc} {A B C D : Type} {z : Option (A × B × C × D)} {f : A → B → C → D → Option R} {px : Nat} {lx : A → B → C → D → List (Nat × Value)} {mx : A → B → C → D → Mem} (hz : ∀ kk : A × B × C × D → Option Oc, (∀ (a0 : A) (b0 : B) (c0 : C) (d0 : D), V G J px (lx a0 b0 c0 d0) [] (mx a0 b0 c0 d0) (kk (a0, b0, c0, d0)) some) → V G J pc lv st μ z kk) (h : ∀ (a0 : A) (b0 : B) (c0 : C) (d0 : D), V G J px (lx a0 b0 c0 d0) [] (mx a0 b0 c0 d0) (f a0 b0 c0 d0) k) : V G J pc lv st μ (b4 z f) k :=
  v_bind (hz _ (fun a0 b0 c0 d0 => v_some (h a0 b0 c0 d0)))
theorem v_x5 {G : GG} {J : MD} {pc : Nat} {lv : List (Nat × Value)} {st : List Value} {μ : Mem} {R : Type} {k : R → Option Oc} {A B C D E : Type} {z : Option (A × B × C × D × E)} {f : A → B → C → D → E → Option R} {px : Nat} {lx : A → B → C → D → E → List (Nat × Value)} {mx : A → B → C → D → E → Mem} (hz : ∀ kk : A × B × C × D × E → Option Oc, (∀ (a0 : A) (b0 : B) (c0 : C) (d0 : D) (e0 : E), V G J px (lx a0 b0 c0 d0 e0) [] (mx a0 b0 c0 d0 e0) (kk (a0, b0, c0, d0, e0)) some) → V G J pc lv st μ z kk) (h : ∀ (a0 : A) (b0 : B) (c0 : C) (d0 : D) (e0 : E), V G J px (lx a0 b0 c0 d0 e0) [] (mx a0 b0 c0 d0 e0) (f a0 b0 c0 d0 e0) k) : V G J pc lv st μ (b5 z f) k :=
  v_bind (hz _ (fun a0 b0 c0 d0 e0 => v_some (h a0 b0 c0 d0 e0)))
end
