section
-- ===== PART A: goes FIRST, ahead of the names: the tables' words, and 'selects' of the private methods out of them =====
/-- a private method of a class that the tables say can be made, by its rows of tables_1 -/
def lw_okq (q : MethodName × Nat) : Prop := (q.1.cls ≠ "java/lang/invoke/MethodHandle" ∧ q.1.cls ≠ "java/lang/invoke/VarHandle") ∧ Cond.instantiable q.1.cls q.2 ∈ tables_1 ∧ Cond.privateMethod q.1 ∈ tables_1 ∧ Cond.instanceMethod q.1 ∈ tables_1
theorem lw_p0 : lw_okq (⟨"GiftTable", "refuse", "(I)I"⟩, 20) := ⟨⟨by decide +kernel, by decide +kernel⟩, List.mem_of_getElem? (i := 21) (by decide +kernel), List.mem_of_getElem? (i := 574) (by decide +kernel), List.mem_of_getElem? (i := 575) (by decide +kernel)⟩
theorem lw_p1 : lw_okq (⟨"GiftTable", "altered", "(I)I"⟩, 20) := ⟨⟨by decide +kernel, by decide +kernel⟩, List.mem_of_getElem? (i := 21) (by decide +kernel), List.mem_of_getElem? (i := 578) (by decide +kernel), List.mem_of_getElem? (i := 579) (by decide +kernel)⟩
theorem lw_p2 : lw_okq (⟨"GiftTable", "accept", "(I)I"⟩, 20) := ⟨⟨by decide +kernel, by decide +kernel⟩, List.mem_of_getElem? (i := 21) (by decide +kernel), List.mem_of_getElem? (i := 582) (by decide +kernel), List.mem_of_getElem? (i := 583) (by decide +kernel)⟩
theorem lw_p3 : lw_okq (⟨"GiftTable", "feedFour", "(I)V"⟩, 20) := ⟨⟨by decide +kernel, by decide +kernel⟩, List.mem_of_getElem? (i := 21) (by decide +kernel), List.mem_of_getElem? (i := 658) (by decide +kernel), List.mem_of_getElem? (i := 659) (by decide +kernel)⟩
theorem lw_p4 : lw_okq (⟨"GiftTable$Reader", "split", "([II)V"⟩, 10) := ⟨⟨by decide +kernel, by decide +kernel⟩, List.mem_of_getElem? (i := 113) (by decide +kernel), List.mem_of_getElem? (i := 682) (by decide +kernel), List.mem_of_getElem? (i := 683) (by decide +kernel)⟩
theorem lw_p5 : lw_okq (⟨"GiftTable$Reader", "addToken", "(II)V"⟩, 10) := ⟨⟨by decide +kernel, by decide +kernel⟩, List.mem_of_getElem? (i := 113) (by decide +kernel), List.mem_of_getElem? (i := 743) (by decide +kernel), List.mem_of_getElem? (i := 744) (by decide +kernel)⟩
theorem lw_p6 : lw_okq (⟨"GiftTable$Reader", "readClause", "()V"⟩, 10) := ⟨⟨by decide +kernel, by decide +kernel⟩, List.mem_of_getElem? (i := 113) (by decide +kernel), List.mem_of_getElem? (i := 747) (by decide +kernel), List.mem_of_getElem? (i := 748) (by decide +kernel)⟩
theorem lw_p7 : lw_okq (⟨"GiftTable$Reader", "takes", "(I)Z"⟩, 10) := ⟨⟨by decide +kernel, by decide +kernel⟩, List.mem_of_getElem? (i := 113) (by decide +kernel), List.mem_of_getElem? (i := 751) (by decide +kernel), List.mem_of_getElem? (i := 752) (by decide +kernel)⟩
theorem lw_p8 : lw_okq (⟨"GiftTable$Reader", "fail", "()V"⟩, 10) := ⟨⟨by decide +kernel, by decide +kernel⟩, List.mem_of_getElem? (i := 113) (by decide +kernel), List.mem_of_getElem? (i := 755) (by decide +kernel), List.mem_of_getElem? (i := 756) (by decide +kernel)⟩
theorem lw_p9 : lw_okq (⟨"GiftTable$Reader", "readSum", "(I)V"⟩, 10) := ⟨⟨by decide +kernel, by decide +kernel⟩, List.mem_of_getElem? (i := 113) (by decide +kernel), List.mem_of_getElem? (i := 759) (by decide +kernel), List.mem_of_getElem? (i := 760) (by decide +kernel)⟩
theorem lw_p10 : lw_okq (⟨"GiftTable$Reader", "readTerm", "(I)V"⟩, 10) := ⟨⟨by decide +kernel, by decide +kernel⟩, List.mem_of_getElem? (i := 113) (by decide +kernel), List.mem_of_getElem? (i := 763) (by decide +kernel), List.mem_of_getElem? (i := 764) (by decide +kernel)⟩
theorem lw_p11 : lw_okq (⟨"GiftTable$Reader", "readPart", "(I)V"⟩, 10) := ⟨⟨by decide +kernel, by decide +kernel⟩, List.mem_of_getElem? (i := 113) (by decide +kernel), List.mem_of_getElem? (i := 767) (by decide +kernel), List.mem_of_getElem? (i := 768) (by decide +kernel)⟩
theorem lw_p12 : lw_okq (⟨"GiftTable$Reader", "opens", "(IC)Z"⟩, 10) := ⟨⟨by decide +kernel, by decide +kernel⟩, List.mem_of_getElem? (i := 113) (by decide +kernel), List.mem_of_getElem? (i := 771) (by decide +kernel), List.mem_of_getElem? (i := 772) (by decide +kernel)⟩
theorem lw_p13 : lw_okq (⟨"GiftTable$Reader", "closes", "(C)V"⟩, 10) := ⟨⟨by decide +kernel, by decide +kernel⟩, List.mem_of_getElem? (i := 113) (by decide +kernel), List.mem_of_getElem? (i := 775) (by decide +kernel), List.mem_of_getElem? (i := 776) (by decide +kernel)⟩
theorem lw_p14 : lw_okq (⟨"GiftTable$Reader", "write", "(II)V"⟩, 10) := ⟨⟨by decide +kernel, by decide +kernel⟩, List.mem_of_getElem? (i := 113) (by decide +kernel), List.mem_of_getElem? (i := 779) (by decide +kernel), List.mem_of_getElem? (i := 780) (by decide +kernel)⟩
theorem lw_p15 : lw_okq (⟨"GiftTable$Reader", "readTest", "(I)V"⟩, 10) := ⟨⟨by decide +kernel, by decide +kernel⟩, List.mem_of_getElem? (i := 113) (by decide +kernel), List.mem_of_getElem? (i := 783) (by decide +kernel), List.mem_of_getElem? (i := 784) (by decide +kernel)⟩
def lw_privs_1 : List (MethodName × Nat) := [(⟨"GiftTable", "refuse", "(I)I"⟩, 20), (⟨"GiftTable", "altered", "(I)I"⟩, 20), (⟨"GiftTable", "accept", "(I)I"⟩, 20), (⟨"GiftTable", "feedFour", "(I)V"⟩, 20), (⟨"GiftTable$Reader", "split", "([II)V"⟩, 10), (⟨"GiftTable$Reader", "addToken", "(II)V"⟩, 10), (⟨"GiftTable$Reader", "readClause", "()V"⟩, 10), (⟨"GiftTable$Reader", "takes", "(I)Z"⟩, 10), (⟨"GiftTable$Reader", "fail", "()V"⟩, 10), (⟨"GiftTable$Reader", "readSum", "(I)V"⟩, 10), (⟨"GiftTable$Reader", "readTerm", "(I)V"⟩, 10), (⟨"GiftTable$Reader", "readPart", "(I)V"⟩, 10), (⟨"GiftTable$Reader", "opens", "(IC)Z"⟩, 10), (⟨"GiftTable$Reader", "closes", "(C)V"⟩, 10), (⟨"GiftTable$Reader", "write", "(II)V"⟩, 10), (⟨"GiftTable$Reader", "readTest", "(I)V"⟩, 10)]
theorem lw_r1 : ∀ q ∈ lw_privs_1, lw_okq q := List.forall_mem_cons.mpr ⟨lw_p0, List.forall_mem_cons.mpr ⟨lw_p1, List.forall_mem_cons.mpr ⟨lw_p2, List.forall_mem_cons.mpr ⟨lw_p3, List.forall_mem_cons.mpr ⟨lw_p4, List.forall_mem_cons.mpr ⟨lw_p5, List.forall_mem_cons.mpr ⟨lw_p6, List.forall_mem_cons.mpr ⟨lw_p7, List.forall_mem_cons.mpr ⟨lw_p8, List.forall_mem_cons.mpr ⟨lw_p9, List.forall_mem_cons.mpr ⟨lw_p10, List.forall_mem_cons.mpr ⟨lw_p11, List.forall_mem_cons.mpr ⟨lw_p12, List.forall_mem_cons.mpr ⟨lw_p13, List.forall_mem_cons.mpr ⟨lw_p14, List.forall_mem_cons.mpr ⟨lw_p15, fun _ h => absurd h List.not_mem_nil⟩⟩⟩⟩⟩⟩⟩⟩⟩⟩⟩⟩⟩⟩⟩⟩
theorem lw_p16 : lw_okq (⟨"GiftTable$Reader", "readBoth", "(I)V"⟩, 10) := ⟨⟨by decide +kernel, by decide +kernel⟩, List.mem_of_getElem? (i := 113) (by decide +kernel), List.mem_of_getElem? (i := 787) (by decide +kernel), List.mem_of_getElem? (i := 788) (by decide +kernel)⟩
theorem lw_p17 : lw_okq (⟨"GiftTable$Reader", "readPlain", "(I)V"⟩, 10) := ⟨⟨by decide +kernel, by decide +kernel⟩, List.mem_of_getElem? (i := 113) (by decide +kernel), List.mem_of_getElem? (i := 791) (by decide +kernel), List.mem_of_getElem? (i := 792) (by decide +kernel)⟩
theorem lw_p18 : lw_okq (⟨"GiftTable$Reader", "readComparison", "(I)V"⟩, 10) := ⟨⟨by decide +kernel, by decide +kernel⟩, List.mem_of_getElem? (i := 113) (by decide +kernel), List.mem_of_getElem? (i := 795) (by decide +kernel), List.mem_of_getElem? (i := 796) (by decide +kernel)⟩
theorem lw_p19 : lw_okq (⟨"GiftTable$Reader", "fill", "(II)V"⟩, 10) := ⟨⟨by decide +kernel, by decide +kernel⟩, List.mem_of_getElem? (i := 113) (by decide +kernel), List.mem_of_getElem? (i := 799) (by decide +kernel), List.mem_of_getElem? (i := 800) (by decide +kernel)⟩
theorem lw_p20 : lw_okq (⟨"GiftTable", "giverOf", "(I)I"⟩, 20) := ⟨⟨by decide +kernel, by decide +kernel⟩, List.mem_of_getElem? (i := 21) (by decide +kernel), List.mem_of_getElem? (i := 843) (by decide +kernel), List.mem_of_getElem? (i := 844) (by decide +kernel)⟩
theorem lw_p21 : lw_okq (⟨"GiftTable$Party", "seatGiver", "(LGiftTable$State;I)V"⟩, 13) := ⟨⟨by decide +kernel, by decide +kernel⟩, List.mem_of_getElem? (i := 237) (by decide +kernel), List.mem_of_getElem? (i := 852) (by decide +kernel), List.mem_of_getElem? (i := 853) (by decide +kernel)⟩
theorem lw_p22 : lw_okq (⟨"GiftTable", "isChoice", "(I)Z"⟩, 20) := ⟨⟨by decide +kernel, by decide +kernel⟩, List.mem_of_getElem? (i := 21) (by decide +kernel), List.mem_of_getElem? (i := 861) (by decide +kernel), List.mem_of_getElem? (i := 862) (by decide +kernel)⟩
theorem lw_p23 : lw_okq (⟨"GiftTable$Party", "clauseWeight", "(LGiftTable$State;III)I"⟩, 13) := ⟨⟨by decide +kernel, by decide +kernel⟩, List.mem_of_getElem? (i := 237) (by decide +kernel), List.mem_of_getElem? (i := 869) (by decide +kernel), List.mem_of_getElem? (i := 870) (by decide +kernel)⟩
theorem lw_p24 : lw_okq (⟨"GiftTable$Text", "reckon", "(II[I[J)J"⟩, 2) := ⟨⟨by decide +kernel, by decide +kernel⟩, List.mem_of_getElem? (i := 803) (by decide +kernel), List.mem_of_getElem? (i := 881) (by decide +kernel), List.mem_of_getElem? (i := 882) (by decide +kernel)⟩
theorem lw_p25 : lw_okq (⟨"GiftTable", "tellHeap", "(IIII)Z"⟩, 20) := ⟨⟨by decide +kernel, by decide +kernel⟩, List.mem_of_getElem? (i := 21) (by decide +kernel), List.mem_of_getElem? (i := 905) (by decide +kernel), List.mem_of_getElem? (i := 906) (by decide +kernel)⟩
theorem lw_p26 : lw_okq (⟨"GiftTable", "fillTold", "(IIII)V"⟩, 20) := ⟨⟨by decide +kernel, by decide +kernel⟩, List.mem_of_getElem? (i := 21) (by decide +kernel), List.mem_of_getElem? (i := 909) (by decide +kernel), List.mem_of_getElem? (i := 910) (by decide +kernel)⟩
theorem lw_p27 : lw_okq (⟨"GiftTable$Heaps", "makeUp", "(LGiftTable$State;I)V"⟩, 19) := ⟨⟨by decide +kernel, by decide +kernel⟩, List.mem_of_getElem? (i := 152) (by decide +kernel), List.mem_of_getElem? (i := 919) (by decide +kernel), List.mem_of_getElem? (i := 920) (by decide +kernel)⟩
theorem lw_p28 : lw_okq (⟨"GiftTable", "workMean", "()V"⟩, 20) := ⟨⟨by decide +kernel, by decide +kernel⟩, List.mem_of_getElem? (i := 21) (by decide +kernel), List.mem_of_getElem? (i := 927) (by decide +kernel), List.mem_of_getElem? (i := 928) (by decide +kernel)⟩
theorem lw_p29 : lw_okq (⟨"GiftTable$Heaps", "shape", "(I)V"⟩, 19) := ⟨⟨by decide +kernel, by decide +kernel⟩, List.mem_of_getElem? (i := 152) (by decide +kernel), List.mem_of_getElem? (i := 944) (by decide +kernel), List.mem_of_getElem? (i := 945) (by decide +kernel)⟩
theorem lw_p30 : lw_okq (⟨"GiftTable$Heaps", "grow", "(III)I"⟩, 19) := ⟨⟨by decide +kernel, by decide +kernel⟩, List.mem_of_getElem? (i := 152) (by decide +kernel), List.mem_of_getElem? (i := 948) (by decide +kernel), List.mem_of_getElem? (i := 949) (by decide +kernel)⟩
theorem lw_p31 : lw_okq (⟨"GiftTable$Mean", "addMoney", "(LGiftTable$Party;I)V"⟩, 9) := ⟨⟨by decide +kernel, by decide +kernel⟩, List.mem_of_getElem? (i := 300) (by decide +kernel), List.mem_of_getElem? (i := 970) (by decide +kernel), List.mem_of_getElem? (i := 971) (by decide +kernel)⟩
def lw_privs_2 : List (MethodName × Nat) := [(⟨"GiftTable$Reader", "readBoth", "(I)V"⟩, 10), (⟨"GiftTable$Reader", "readPlain", "(I)V"⟩, 10), (⟨"GiftTable$Reader", "readComparison", "(I)V"⟩, 10), (⟨"GiftTable$Reader", "fill", "(II)V"⟩, 10), (⟨"GiftTable", "giverOf", "(I)I"⟩, 20), (⟨"GiftTable$Party", "seatGiver", "(LGiftTable$State;I)V"⟩, 13), (⟨"GiftTable", "isChoice", "(I)Z"⟩, 20), (⟨"GiftTable$Party", "clauseWeight", "(LGiftTable$State;III)I"⟩, 13), (⟨"GiftTable$Text", "reckon", "(II[I[J)J"⟩, 2), (⟨"GiftTable", "tellHeap", "(IIII)Z"⟩, 20), (⟨"GiftTable", "fillTold", "(IIII)V"⟩, 20), (⟨"GiftTable$Heaps", "makeUp", "(LGiftTable$State;I)V"⟩, 19), (⟨"GiftTable", "workMean", "()V"⟩, 20), (⟨"GiftTable$Heaps", "shape", "(I)V"⟩, 19), (⟨"GiftTable$Heaps", "grow", "(III)I"⟩, 19), (⟨"GiftTable$Mean", "addMoney", "(LGiftTable$Party;I)V"⟩, 9)]
theorem lw_r2 : ∀ q ∈ lw_privs_2, lw_okq q := List.forall_mem_cons.mpr ⟨lw_p16, List.forall_mem_cons.mpr ⟨lw_p17, List.forall_mem_cons.mpr ⟨lw_p18, List.forall_mem_cons.mpr ⟨lw_p19, List.forall_mem_cons.mpr ⟨lw_p20, List.forall_mem_cons.mpr ⟨lw_p21, List.forall_mem_cons.mpr ⟨lw_p22, List.forall_mem_cons.mpr ⟨lw_p23, List.forall_mem_cons.mpr ⟨lw_p24, List.forall_mem_cons.mpr ⟨lw_p25, List.forall_mem_cons.mpr ⟨lw_p26, List.forall_mem_cons.mpr ⟨lw_p27, List.forall_mem_cons.mpr ⟨lw_p28, List.forall_mem_cons.mpr ⟨lw_p29, List.forall_mem_cons.mpr ⟨lw_p30, List.forall_mem_cons.mpr ⟨lw_p31, fun _ h => absurd h List.not_mem_nil⟩⟩⟩⟩⟩⟩⟩⟩⟩⟩⟩⟩⟩⟩⟩⟩
theorem lw_p32 : lw_okq (⟨"GiftTable$Mean", "addGifts", "(LGiftTable$Party;LGiftTable$Heaps;I)V"⟩, 9) := ⟨⟨by decide +kernel, by decide +kernel⟩, List.mem_of_getElem? (i := 300) (by decide +kernel), List.mem_of_getElem? (i := 986) (by decide +kernel), List.mem_of_getElem? (i := 987) (by decide +kernel)⟩
theorem lw_p33 : lw_okq (⟨"GiftTable$Mean", "carryAll", "(I)V"⟩, 9) := ⟨⟨by decide +kernel, by decide +kernel⟩, List.mem_of_getElem? (i := 300) (by decide +kernel), List.mem_of_getElem? (i := 994) (by decide +kernel), List.mem_of_getElem? (i := 995) (by decide +kernel)⟩
theorem lw_p34 : lw_okq (⟨"GiftTable$Mean", "meanOf", "([II[J)I"⟩, 9) := ⟨⟨by decide +kernel, by decide +kernel⟩, List.mem_of_getElem? (i := 300) (by decide +kernel), List.mem_of_getElem? (i := 998) (by decide +kernel), List.mem_of_getElem? (i := 999) (by decide +kernel)⟩
theorem lw_p35 : lw_okq (⟨"GiftTable$Mean", "quotient", "()I"⟩, 9) := ⟨⟨by decide +kernel, by decide +kernel⟩, List.mem_of_getElem? (i := 300) (by decide +kernel), List.mem_of_getElem? (i := 1002) (by decide +kernel), List.mem_of_getElem? (i := 1003) (by decide +kernel)⟩
theorem lw_p36 : lw_okq (⟨"GiftTable", "speakOut", "()V"⟩, 20) := ⟨⟨by decide +kernel, by decide +kernel⟩, List.mem_of_getElem? (i := 21) (by decide +kernel), List.mem_of_getElem? (i := 1027) (by decide +kernel), List.mem_of_getElem? (i := 1028) (by decide +kernel)⟩
theorem lw_p37 : lw_okq (⟨"GiftTable$Together", "workLayer", "(LGiftTable$Party;LGiftTable$Heaps;I)V"⟩, 8) := ⟨⟨by decide +kernel, by decide +kernel⟩, List.mem_of_getElem? (i := 335) (by decide +kernel), List.mem_of_getElem? (i := 1039) (by decide +kernel), List.mem_of_getElem? (i := 1040) (by decide +kernel)⟩
theorem lw_p38 : lw_okq (⟨"GiftTable$Together", "walkFirst", "(LGiftTable$Party;LGiftTable$Heaps;)V"⟩, 8) := ⟨⟨by decide +kernel, by decide +kernel⟩, List.mem_of_getElem? (i := 335) (by decide +kernel), List.mem_of_getElem? (i := 1048) (by decide +kernel), List.mem_of_getElem? (i := 1049) (by decide +kernel)⟩
theorem lw_p39 : lw_okq (⟨"GiftTable$Together", "valueAfter", "(LGiftTable$Party;LGiftTable$Heaps;III)I"⟩, 8) := ⟨⟨by decide +kernel, by decide +kernel⟩, List.mem_of_getElem? (i := 335) (by decide +kernel), List.mem_of_getElem? (i := 1057) (by decide +kernel), List.mem_of_getElem? (i := 1058) (by decide +kernel)⟩
theorem lw_p40 : lw_okq (⟨"GiftTable$Together", "tryLayer", "(LGiftTable$Party;LGiftTable$Heaps;I)V"⟩, 8) := ⟨⟨by decide +kernel, by decide +kernel⟩, List.mem_of_getElem? (i := 335) (by decide +kernel), List.mem_of_getElem? (i := 1082) (by decide +kernel), List.mem_of_getElem? (i := 1083) (by decide +kernel)⟩
theorem lw_p41 : lw_okq (⟨"GiftTable$Blind", "shapeLevels", "()V"⟩, 12) := ⟨⟨by decide +kernel, by decide +kernel⟩, List.mem_of_getElem? (i := 369) (by decide +kernel), List.mem_of_getElem? (i := 1099) (by decide +kernel), List.mem_of_getElem? (i := 1100) (by decide +kernel)⟩
theorem lw_p42 : lw_okq (⟨"GiftTable$Blind", "countHeaps", "(LGiftTable$State;LGiftTable$Heaps;)V"⟩, 12) := ⟨⟨by decide +kernel, by decide +kernel⟩, List.mem_of_getElem? (i := 369) (by decide +kernel), List.mem_of_getElem? (i := 1109) (by decide +kernel), List.mem_of_getElem? (i := 1110) (by decide +kernel)⟩
theorem lw_p43 : lw_okq (⟨"GiftTable$Blind", "spread", "(II)V"⟩, 12) := ⟨⟨by decide +kernel, by decide +kernel⟩, List.mem_of_getElem? (i := 369) (by decide +kernel), List.mem_of_getElem? (i := 1121) (by decide +kernel), List.mem_of_getElem? (i := 1122) (by decide +kernel)⟩
theorem lw_p44 : lw_okq (⟨"GiftTable$Blind", "putFirst", "(I)V"⟩, 12) := ⟨⟨by decide +kernel, by decide +kernel⟩, List.mem_of_getElem? (i := 369) (by decide +kernel), List.mem_of_getElem? (i := 1125) (by decide +kernel), List.mem_of_getElem? (i := 1126) (by decide +kernel)⟩
theorem lw_p45 : lw_okq (⟨"GiftTable$Blind", "putIn", "(II)V"⟩, 12) := ⟨⟨by decide +kernel, by decide +kernel⟩, List.mem_of_getElem? (i := 369) (by decide +kernel), List.mem_of_getElem? (i := 1129) (by decide +kernel), List.mem_of_getElem? (i := 1130) (by decide +kernel)⟩
theorem lw_p46 : lw_okq (⟨"GiftTable$Blind", "compare", "(I)V"⟩, 12) := ⟨⟨by decide +kernel, by decide +kernel⟩, List.mem_of_getElem? (i := 369) (by decide +kernel), List.mem_of_getElem? (i := 1133) (by decide +kernel), List.mem_of_getElem? (i := 1134) (by decide +kernel)⟩
theorem lw_p47 : lw_okq (⟨"GiftTable$Quiet", "gatherCandidates", "(LGiftTable$Party;)V"⟩, 14) := ⟨⟨by decide +kernel, by decide +kernel⟩, List.mem_of_getElem? (i := 417) (by decide +kernel), List.mem_of_getElem? (i := 1152) (by decide +kernel), List.mem_of_getElem? (i := 1153) (by decide +kernel)⟩
def lw_privs_3 : List (MethodName × Nat) := [(⟨"GiftTable$Mean", "addGifts", "(LGiftTable$Party;LGiftTable$Heaps;I)V"⟩, 9), (⟨"GiftTable$Mean", "carryAll", "(I)V"⟩, 9), (⟨"GiftTable$Mean", "meanOf", "([II[J)I"⟩, 9), (⟨"GiftTable$Mean", "quotient", "()I"⟩, 9), (⟨"GiftTable", "speakOut", "()V"⟩, 20), (⟨"GiftTable$Together", "workLayer", "(LGiftTable$Party;LGiftTable$Heaps;I)V"⟩, 8), (⟨"GiftTable$Together", "walkFirst", "(LGiftTable$Party;LGiftTable$Heaps;)V"⟩, 8), (⟨"GiftTable$Together", "valueAfter", "(LGiftTable$Party;LGiftTable$Heaps;III)I"⟩, 8), (⟨"GiftTable$Together", "tryLayer", "(LGiftTable$Party;LGiftTable$Heaps;I)V"⟩, 8), (⟨"GiftTable$Blind", "shapeLevels", "()V"⟩, 12), (⟨"GiftTable$Blind", "countHeaps", "(LGiftTable$State;LGiftTable$Heaps;)V"⟩, 12), (⟨"GiftTable$Blind", "spread", "(II)V"⟩, 12), (⟨"GiftTable$Blind", "putFirst", "(I)V"⟩, 12), (⟨"GiftTable$Blind", "putIn", "(II)V"⟩, 12), (⟨"GiftTable$Blind", "compare", "(I)V"⟩, 12), (⟨"GiftTable$Quiet", "gatherCandidates", "(LGiftTable$Party;)V"⟩, 14)]
theorem lw_r3 : ∀ q ∈ lw_privs_3, lw_okq q := List.forall_mem_cons.mpr ⟨lw_p32, List.forall_mem_cons.mpr ⟨lw_p33, List.forall_mem_cons.mpr ⟨lw_p34, List.forall_mem_cons.mpr ⟨lw_p35, List.forall_mem_cons.mpr ⟨lw_p36, List.forall_mem_cons.mpr ⟨lw_p37, List.forall_mem_cons.mpr ⟨lw_p38, List.forall_mem_cons.mpr ⟨lw_p39, List.forall_mem_cons.mpr ⟨lw_p40, List.forall_mem_cons.mpr ⟨lw_p41, List.forall_mem_cons.mpr ⟨lw_p42, List.forall_mem_cons.mpr ⟨lw_p43, List.forall_mem_cons.mpr ⟨lw_p44, List.forall_mem_cons.mpr ⟨lw_p45, List.forall_mem_cons.mpr ⟨lw_p46, List.forall_mem_cons.mpr ⟨lw_p47, fun _ h => absurd h List.not_mem_nil⟩⟩⟩⟩⟩⟩⟩⟩⟩⟩⟩⟩⟩⟩⟩⟩
theorem lw_p48 : lw_okq (⟨"GiftTable$Quiet", "tryBounds", "(LGiftTable$Party;LGiftTable$Heaps;II)V"⟩, 14) := ⟨⟨by decide +kernel, by decide +kernel⟩, List.mem_of_getElem? (i := 417) (by decide +kernel), List.mem_of_getElem? (i := 1156) (by decide +kernel), List.mem_of_getElem? (i := 1157) (by decide +kernel)⟩
theorem lw_p49 : lw_okq (⟨"GiftTable$Quiet", "tryRule", "(LGiftTable$Party;LGiftTable$Heaps;)V"⟩, 14) := ⟨⟨by decide +kernel, by decide +kernel⟩, List.mem_of_getElem? (i := 417) (by decide +kernel), List.mem_of_getElem? (i := 1160) (by decide +kernel), List.mem_of_getElem? (i := 1161) (by decide +kernel)⟩
theorem lw_p50 : lw_okq (⟨"GiftTable", "settle", "()V"⟩, 20) := ⟨⟨by decide +kernel, by decide +kernel⟩, List.mem_of_getElem? (i := 21) (by decide +kernel), List.mem_of_getElem? (i := 1185) (by decide +kernel), List.mem_of_getElem? (i := 1186) (by decide +kernel)⟩
theorem lw_p51 : lw_okq (⟨"GiftTable$Quiet", "lay", "(LGiftTable$Party;III)V"⟩, 14) := ⟨⟨by decide +kernel, by decide +kernel⟩, List.mem_of_getElem? (i := 417) (by decide +kernel), List.mem_of_getElem? (i := 1193) (by decide +kernel), List.mem_of_getElem? (i := 1194) (by decide +kernel)⟩
theorem lw_p52 : lw_okq (⟨"GiftTable$Quiet", "goRound", "(LGiftTable$State;LGiftTable$Party;LGiftTable$Heaps;)Z"⟩, 14) := ⟨⟨by decide +kernel, by decide +kernel⟩, List.mem_of_getElem? (i := 417) (by decide +kernel), List.mem_of_getElem? (i := 1197) (by decide +kernel), List.mem_of_getElem? (i := 1198) (by decide +kernel)⟩
theorem lw_p53 : lw_okq (⟨"GiftTable$Quiet", "valueNow", "(LGiftTable$State;LGiftTable$Heaps;)I"⟩, 14) := ⟨⟨by decide +kernel, by decide +kernel⟩, List.mem_of_getElem? (i := 417) (by decide +kernel), List.mem_of_getElem? (i := 1201) (by decide +kernel), List.mem_of_getElem? (i := 1202) (by decide +kernel)⟩
theorem lw_p54 : lw_okq (⟨"GiftTable$Wedding", "choose", "(LGiftTable$State;LGiftTable$Party;LGiftTable$Heaps;IZ)I"⟩, 6) := ⟨⟨by decide +kernel, by decide +kernel⟩, List.mem_of_getElem? (i := 473) (by decide +kernel), List.mem_of_getElem? (i := 1219) (by decide +kernel), List.mem_of_getElem? (i := 1220) (by decide +kernel)⟩
theorem lw_p55 : lw_okq (⟨"GiftTable$Wedding", "bestByList", "(LGiftTable$State;LGiftTable$Party;LGiftTable$Heaps;I)I"⟩, 6) := ⟨⟨by decide +kernel, by decide +kernel⟩, List.mem_of_getElem? (i := 473) (by decide +kernel), List.mem_of_getElem? (i := 1223) (by decide +kernel), List.mem_of_getElem? (i := 1224) (by decide +kernel)⟩
theorem lw_p56 : lw_okq (⟨"GiftTable$Wedding", "drawnChoice", "(LGiftTable$Party;I)I"⟩, 6) := ⟨⟨by decide +kernel, by decide +kernel⟩, List.mem_of_getElem? (i := 473) (by decide +kernel), List.mem_of_getElem? (i := 1229) (by decide +kernel), List.mem_of_getElem? (i := 1230) (by decide +kernel)⟩
theorem lw_p57 : lw_okq (⟨"GiftTable$Heaps", "tryChange", "(LGiftTable$State;[IIII)V"⟩, 19) := ⟨⟨by decide +kernel, by decide +kernel⟩, List.mem_of_getElem? (i := 152) (by decide +kernel), List.mem_of_getElem? (i := 1257) (by decide +kernel), List.mem_of_getElem? (i := 1258) (by decide +kernel)⟩
theorem lw_p58 : lw_okq (⟨"GiftTable$Party", "likedBest", "(LGiftTable$State;I)I"⟩, 13) := ⟨⟨by decide +kernel, by decide +kernel⟩, List.mem_of_getElem? (i := 237) (by decide +kernel), List.mem_of_getElem? (i := 1269) (by decide +kernel), List.mem_of_getElem? (i := 1270) (by decide +kernel)⟩
theorem lw_p59 : lw_okq (⟨"GiftTableModel", "tell", "(I)I"⟩, 69) := ⟨⟨by decide +kernel, by decide +kernel⟩, List.mem_of_getElem? (i := 1299) (by decide +kernel), List.mem_of_getElem? (i := 1530) (by decide +kernel), List.mem_of_getElem? (i := 1531) (by decide +kernel)⟩
theorem lw_p60 : lw_okq (⟨"GiftTableModel", "isThing", "(I)Z"⟩, 69) := ⟨⟨by decide +kernel, by decide +kernel⟩, List.mem_of_getElem? (i := 1299) (by decide +kernel), List.mem_of_getElem? (i := 1552) (by decide +kernel), List.mem_of_getElem? (i := 1553) (by decide +kernel)⟩
theorem lw_p61 : lw_okq (⟨"GiftTableModel", "change", "(II)I"⟩, 69) := ⟨⟨by decide +kernel, by decide +kernel⟩, List.mem_of_getElem? (i := 1299) (by decide +kernel), List.mem_of_getElem? (i := 1556) (by decide +kernel), List.mem_of_getElem? (i := 1557) (by decide +kernel)⟩
theorem lw_p62 : lw_okq (⟨"GiftTableModel", "was", "(I)I"⟩, 69) := ⟨⟨by decide +kernel, by decide +kernel⟩, List.mem_of_getElem? (i := 1299) (by decide +kernel), List.mem_of_getElem? (i := 1560) (by decide +kernel), List.mem_of_getElem? (i := 1561) (by decide +kernel)⟩
theorem lw_p63 : lw_okq (⟨"GiftTableModel", "add", "(IIII)V"⟩, 69) := ⟨⟨by decide +kernel, by decide +kernel⟩, List.mem_of_getElem? (i := 1299) (by decide +kernel), List.mem_of_getElem? (i := 1582) (by decide +kernel), List.mem_of_getElem? (i := 1583) (by decide +kernel)⟩
def lw_privs_4 : List (MethodName × Nat) := [(⟨"GiftTable$Quiet", "tryBounds", "(LGiftTable$Party;LGiftTable$Heaps;II)V"⟩, 14), (⟨"GiftTable$Quiet", "tryRule", "(LGiftTable$Party;LGiftTable$Heaps;)V"⟩, 14), (⟨"GiftTable", "settle", "()V"⟩, 20), (⟨"GiftTable$Quiet", "lay", "(LGiftTable$Party;III)V"⟩, 14), (⟨"GiftTable$Quiet", "goRound", "(LGiftTable$State;LGiftTable$Party;LGiftTable$Heaps;)Z"⟩, 14), (⟨"GiftTable$Quiet", "valueNow", "(LGiftTable$State;LGiftTable$Heaps;)I"⟩, 14), (⟨"GiftTable$Wedding", "choose", "(LGiftTable$State;LGiftTable$Party;LGiftTable$Heaps;IZ)I"⟩, 6), (⟨"GiftTable$Wedding", "bestByList", "(LGiftTable$State;LGiftTable$Party;LGiftTable$Heaps;I)I"⟩, 6), (⟨"GiftTable$Wedding", "drawnChoice", "(LGiftTable$Party;I)I"⟩, 6), (⟨"GiftTable$Heaps", "tryChange", "(LGiftTable$State;[IIII)V"⟩, 19), (⟨"GiftTable$Party", "likedBest", "(LGiftTable$State;I)I"⟩, 13), (⟨"GiftTableModel", "tell", "(I)I"⟩, 69), (⟨"GiftTableModel", "isThing", "(I)Z"⟩, 69), (⟨"GiftTableModel", "change", "(II)I"⟩, 69), (⟨"GiftTableModel", "was", "(I)I"⟩, 69), (⟨"GiftTableModel", "add", "(IIII)V"⟩, 69)]
theorem lw_r4 : ∀ q ∈ lw_privs_4, lw_okq q := List.forall_mem_cons.mpr ⟨lw_p48, List.forall_mem_cons.mpr ⟨lw_p49, List.forall_mem_cons.mpr ⟨lw_p50, List.forall_mem_cons.mpr ⟨lw_p51, List.forall_mem_cons.mpr ⟨lw_p52, List.forall_mem_cons.mpr ⟨lw_p53, List.forall_mem_cons.mpr ⟨lw_p54, List.forall_mem_cons.mpr ⟨lw_p55, List.forall_mem_cons.mpr ⟨lw_p56, List.forall_mem_cons.mpr ⟨lw_p57, List.forall_mem_cons.mpr ⟨lw_p58, List.forall_mem_cons.mpr ⟨lw_p59, List.forall_mem_cons.mpr ⟨lw_p60, List.forall_mem_cons.mpr ⟨lw_p61, List.forall_mem_cons.mpr ⟨lw_p62, List.forall_mem_cons.mpr ⟨lw_p63, fun _ h => absurd h List.not_mem_nil⟩⟩⟩⟩⟩⟩⟩⟩⟩⟩⟩⟩⟩⟩⟩⟩
theorem lw_p64 : lw_okq (⟨"GiftTableModel", "isGuest", "(I)Z"⟩, 69) := ⟨⟨by decide +kernel, by decide +kernel⟩, List.mem_of_getElem? (i := 1299) (by decide +kernel), List.mem_of_getElem? (i := 1590) (by decide +kernel), List.mem_of_getElem? (i := 1591) (by decide +kernel)⟩
theorem lw_p65 : lw_okq (⟨"GiftTableModel", "ofGuest", "(II)I"⟩, 69) := ⟨⟨by decide +kernel, by decide +kernel⟩, List.mem_of_getElem? (i := 1299) (by decide +kernel), List.mem_of_getElem? (i := 1602) (by decide +kernel), List.mem_of_getElem? (i := 1603) (by decide +kernel)⟩
theorem lw_p66 : lw_okq (⟨"GiftTableModel", "isGiver", "(I)Z"⟩, 69) := ⟨⟨by decide +kernel, by decide +kernel⟩, List.mem_of_getElem? (i := 1299) (by decide +kernel), List.mem_of_getElem? (i := 1615) (by decide +kernel), List.mem_of_getElem? (i := 1616) (by decide +kernel)⟩
theorem lw_p67 : lw_okq (⟨"GiftTableModel", "pays", "(I)I"⟩, 69) := ⟨⟨by decide +kernel, by decide +kernel⟩, List.mem_of_getElem? (i := 1299) (by decide +kernel), List.mem_of_getElem? (i := 1619) (by decide +kernel), List.mem_of_getElem? (i := 1620) (by decide +kernel)⟩
theorem lw_p68 : lw_okq (⟨"GiftTableModel", "four", "(I)V"⟩, 69) := ⟨⟨by decide +kernel, by decide +kernel⟩, List.mem_of_getElem? (i := 1299) (by decide +kernel), List.mem_of_getElem? (i := 1635) (by decide +kernel), List.mem_of_getElem? (i := 1636) (by decide +kernel)⟩
theorem lw_p69 : lw_okq (⟨"GiftTableModel", "begin", "()V"⟩, 69) := ⟨⟨by decide +kernel, by decide +kernel⟩, List.mem_of_getElem? (i := 1299) (by decide +kernel), List.mem_of_getElem? (i := 1651) (by decide +kernel), List.mem_of_getElem? (i := 1652) (by decide +kernel)⟩
theorem lw_p70 : lw_okq (⟨"GiftTableModel", "next", "()V"⟩, 69) := ⟨⟨by decide +kernel, by decide +kernel⟩, List.mem_of_getElem? (i := 1299) (by decide +kernel), List.mem_of_getElem? (i := 1655) (by decide +kernel), List.mem_of_getElem? (i := 1656) (by decide +kernel)⟩
theorem lw_p71 : lw_okq (⟨"GiftTableModel", "readClause", "()V"⟩, 69) := ⟨⟨by decide +kernel, by decide +kernel⟩, List.mem_of_getElem? (i := 1299) (by decide +kernel), List.mem_of_getElem? (i := 1671) (by decide +kernel), List.mem_of_getElem? (i := 1672) (by decide +kernel)⟩
theorem lw_p72 : lw_okq (⟨"GiftTableModel", "isWord", "(J)Z"⟩, 69) := ⟨⟨by decide +kernel, by decide +kernel⟩, List.mem_of_getElem? (i := 1299) (by decide +kernel), List.mem_of_getElem? (i := 1676) (by decide +kernel), List.mem_of_getElem? (i := 1677) (by decide +kernel)⟩
theorem lw_p73 : lw_okq (⟨"GiftTableModel", "must", "(Z)V"⟩, 69) := ⟨⟨by decide +kernel, by decide +kernel⟩, List.mem_of_getElem? (i := 1299) (by decide +kernel), List.mem_of_getElem? (i := 1681) (by decide +kernel), List.mem_of_getElem? (i := 1682) (by decide +kernel)⟩
theorem lw_p74 : lw_okq (⟨"GiftTableModel", "readExpression", "(Z)V"⟩, 69) := ⟨⟨by decide +kernel, by decide +kernel⟩, List.mem_of_getElem? (i := 1299) (by decide +kernel), List.mem_of_getElem? (i := 1685) (by decide +kernel), List.mem_of_getElem? (i := 1686) (by decide +kernel)⟩
theorem lw_p75 : lw_okq (⟨"GiftTableModel", "readPlain", "()I"⟩, 69) := ⟨⟨by decide +kernel, by decide +kernel⟩, List.mem_of_getElem? (i := 1299) (by decide +kernel), List.mem_of_getElem? (i := 1689) (by decide +kernel), List.mem_of_getElem? (i := 1690) (by decide +kernel)⟩
theorem lw_p76 : lw_okq (⟨"GiftTableModel", "push", "(II)V"⟩, 69) := ⟨⟨by decide +kernel, by decide +kernel⟩, List.mem_of_getElem? (i := 1299) (by decide +kernel), List.mem_of_getElem? (i := 1694) (by decide +kernel), List.mem_of_getElem? (i := 1695) (by decide +kernel)⟩
theorem lw_p77 : lw_okq (⟨"GiftTableModel", "isSign", "(I)Z"⟩, 69) := ⟨⟨by decide +kernel, by decide +kernel⟩, List.mem_of_getElem? (i := 1299) (by decide +kernel), List.mem_of_getElem? (i := 1698) (by decide +kernel), List.mem_of_getElem? (i := 1699) (by decide +kernel)⟩
theorem lw_p78 : lw_okq (⟨"GiftTableModel", "openBracket", "(I)V"⟩, 69) := ⟨⟨by decide +kernel, by decide +kernel⟩, List.mem_of_getElem? (i := 1299) (by decide +kernel), List.mem_of_getElem? (i := 1702) (by decide +kernel), List.mem_of_getElem? (i := 1703) (by decide +kernel)⟩
theorem lw_p79 : lw_okq (⟨"GiftTableModel", "readPart", "()I"⟩, 69) := ⟨⟨by decide +kernel, by decide +kernel⟩, List.mem_of_getElem? (i := 1299) (by decide +kernel), List.mem_of_getElem? (i := 1706) (by decide +kernel), List.mem_of_getElem? (i := 1707) (by decide +kernel)⟩
def lw_privs_5 : List (MethodName × Nat) := [(⟨"GiftTableModel", "isGuest", "(I)Z"⟩, 69), (⟨"GiftTableModel", "ofGuest", "(II)I"⟩, 69), (⟨"GiftTableModel", "isGiver", "(I)Z"⟩, 69), (⟨"GiftTableModel", "pays", "(I)I"⟩, 69), (⟨"GiftTableModel", "four", "(I)V"⟩, 69), (⟨"GiftTableModel", "begin", "()V"⟩, 69), (⟨"GiftTableModel", "next", "()V"⟩, 69), (⟨"GiftTableModel", "readClause", "()V"⟩, 69), (⟨"GiftTableModel", "isWord", "(J)Z"⟩, 69), (⟨"GiftTableModel", "must", "(Z)V"⟩, 69), (⟨"GiftTableModel", "readExpression", "(Z)V"⟩, 69), (⟨"GiftTableModel", "readPlain", "()I"⟩, 69), (⟨"GiftTableModel", "push", "(II)V"⟩, 69), (⟨"GiftTableModel", "isSign", "(I)Z"⟩, 69), (⟨"GiftTableModel", "openBracket", "(I)V"⟩, 69), (⟨"GiftTableModel", "readPart", "()I"⟩, 69)]
theorem lw_r5 : ∀ q ∈ lw_privs_5, lw_okq q := List.forall_mem_cons.mpr ⟨lw_p64, List.forall_mem_cons.mpr ⟨lw_p65, List.forall_mem_cons.mpr ⟨lw_p66, List.forall_mem_cons.mpr ⟨lw_p67, List.forall_mem_cons.mpr ⟨lw_p68, List.forall_mem_cons.mpr ⟨lw_p69, List.forall_mem_cons.mpr ⟨lw_p70, List.forall_mem_cons.mpr ⟨lw_p71, List.forall_mem_cons.mpr ⟨lw_p72, List.forall_mem_cons.mpr ⟨lw_p73, List.forall_mem_cons.mpr ⟨lw_p74, List.forall_mem_cons.mpr ⟨lw_p75, List.forall_mem_cons.mpr ⟨lw_p76, List.forall_mem_cons.mpr ⟨lw_p77, List.forall_mem_cons.mpr ⟨lw_p78, List.forall_mem_cons.mpr ⟨lw_p79, fun _ h => absurd h List.not_mem_nil⟩⟩⟩⟩⟩⟩⟩⟩⟩⟩⟩⟩⟩⟩⟩⟩
theorem lw_p80 : lw_okq (⟨"GiftTableModel", "partAt", "()I"⟩, 69) := ⟨⟨by decide +kernel, by decide +kernel⟩, List.mem_of_getElem? (i := 1299) (by decide +kernel), List.mem_of_getElem? (i := 1710) (by decide +kernel), List.mem_of_getElem? (i := 1711) (by decide +kernel)⟩
theorem lw_p81 : lw_okq (⟨"GiftTableModel", "leaf", "(ZII)V"⟩, 69) := ⟨⟨by decide +kernel, by decide +kernel⟩, List.mem_of_getElem? (i := 1299) (by decide +kernel), List.mem_of_getElem? (i := 1715) (by decide +kernel), List.mem_of_getElem? (i := 1716) (by decide +kernel)⟩
theorem lw_p82 : lw_okq (⟨"GiftTableModel", "emit", "(II)V"⟩, 69) := ⟨⟨by decide +kernel, by decide +kernel⟩, List.mem_of_getElem? (i := 1299) (by decide +kernel), List.mem_of_getElem? (i := 1719) (by decide +kernel), List.mem_of_getElem? (i := 1720) (by decide +kernel)⟩
theorem lw_p83 : lw_okq (⟨"GiftTableModel", "behindSum", "(Z)I"⟩, 69) := ⟨⟨by decide +kernel, by decide +kernel⟩, List.mem_of_getElem? (i := 1299) (by decide +kernel), List.mem_of_getElem? (i := 1723) (by decide +kernel), List.mem_of_getElem? (i := 1724) (by decide +kernel)⟩
theorem lw_p84 : lw_okq (⟨"GiftTableModel", "settle", "(I)V"⟩, 69) := ⟨⟨by decide +kernel, by decide +kernel⟩, List.mem_of_getElem? (i := 1299) (by decide +kernel), List.mem_of_getElem? (i := 1730) (by decide +kernel), List.mem_of_getElem? (i := 1731) (by decide +kernel)⟩
theorem lw_p85 : lw_okq (⟨"GiftTableModel", "inner", "()I"⟩, 69) := ⟨⟨by decide +kernel, by decide +kernel⟩, List.mem_of_getElem? (i := 1299) (by decide +kernel), List.mem_of_getElem? (i := 1734) (by decide +kernel), List.mem_of_getElem? (i := 1735) (by decide +kernel)⟩
theorem lw_p86 : lw_okq (⟨"GiftTableModel", "isCompared", "()Z"⟩, 69) := ⟨⟨by decide +kernel, by decide +kernel⟩, List.mem_of_getElem? (i := 1299) (by decide +kernel), List.mem_of_getElem? (i := 1738) (by decide +kernel), List.mem_of_getElem? (i := 1739) (by decide +kernel)⟩
theorem lw_p87 : lw_okq (⟨"GiftTableModel", "behindTest", "()I"⟩, 69) := ⟨⟨by decide +kernel, by decide +kernel⟩, List.mem_of_getElem? (i := 1299) (by decide +kernel), List.mem_of_getElem? (i := 1746) (by decide +kernel), List.mem_of_getElem? (i := 1747) (by decide +kernel)⟩
theorem lw_p88 : lw_okq (⟨"GiftTableModel", "isText", "(I)Z"⟩, 69) := ⟨⟨by decide +kernel, by decide +kernel⟩, List.mem_of_getElem? (i := 1299) (by decide +kernel), List.mem_of_getElem? (i := 1757) (by decide +kernel), List.mem_of_getElem? (i := 1758) (by decide +kernel)⟩
theorem lw_p89 : lw_okq (⟨"GiftTableModel", "weigh", "(III)I"⟩, 69) := ⟨⟨by decide +kernel, by decide +kernel⟩, List.mem_of_getElem? (i := 1299) (by decide +kernel), List.mem_of_getElem? (i := 1766) (by decide +kernel), List.mem_of_getElem? (i := 1767) (by decide +kernel)⟩
theorem lw_p90 : lw_okq (⟨"GiftTableModel", "canPay", "(II)Z"⟩, 69) := ⟨⟨by decide +kernel, by decide +kernel⟩, List.mem_of_getElem? (i := 1299) (by decide +kernel), List.mem_of_getElem? (i := 1770) (by decide +kernel), List.mem_of_getElem? (i := 1771) (by decide +kernel)⟩
theorem lw_p91 : lw_okq (⟨"GiftTableModel", "ofThing", "(II)I"⟩, 69) := ⟨⟨by decide +kernel, by decide +kernel⟩, List.mem_of_getElem? (i := 1299) (by decide +kernel), List.mem_of_getElem? (i := 1774) (by decide +kernel), List.mem_of_getElem? (i := 1775) (by decide +kernel)⟩
theorem lw_p92 : lw_okq (⟨"GiftTableModel", "asks", "(III)I"⟩, 69) := ⟨⟨by decide +kernel, by decide +kernel⟩, List.mem_of_getElem? (i := 1299) (by decide +kernel), List.mem_of_getElem? (i := 1778) (by decide +kernel), List.mem_of_getElem? (i := 1779) (by decide +kernel)⟩
theorem lw_p93 : lw_okq (⟨"GiftTableModel", "givers", "()I"⟩, 69) := ⟨⟨by decide +kernel, by decide +kernel⟩, List.mem_of_getElem? (i := 1299) (by decide +kernel), List.mem_of_getElem? (i := 1782) (by decide +kernel), List.mem_of_getElem? (i := 1783) (by decide +kernel)⟩
theorem lw_p94 : lw_okq (⟨"GiftTableModel", "isSo", "(I)Z"⟩, 69) := ⟨⟨by decide +kernel, by decide +kernel⟩, List.mem_of_getElem? (i := 1299) (by decide +kernel), List.mem_of_getElem? (i := 1786) (by decide +kernel), List.mem_of_getElem? (i := 1787) (by decide +kernel)⟩
theorem lw_p95 : lw_okq (⟨"GiftTableModel", "reckonAll", "(II)V"⟩, 69) := ⟨⟨by decide +kernel, by decide +kernel⟩, List.mem_of_getElem? (i := 1299) (by decide +kernel), List.mem_of_getElem? (i := 1790) (by decide +kernel), List.mem_of_getElem? (i := 1791) (by decide +kernel)⟩
def lw_privs_6 : List (MethodName × Nat) := [(⟨"GiftTableModel", "partAt", "()I"⟩, 69), (⟨"GiftTableModel", "leaf", "(ZII)V"⟩, 69), (⟨"GiftTableModel", "emit", "(II)V"⟩, 69), (⟨"GiftTableModel", "behindSum", "(Z)I"⟩, 69), (⟨"GiftTableModel", "settle", "(I)V"⟩, 69), (⟨"GiftTableModel", "inner", "()I"⟩, 69), (⟨"GiftTableModel", "isCompared", "()Z"⟩, 69), (⟨"GiftTableModel", "behindTest", "()I"⟩, 69), (⟨"GiftTableModel", "isText", "(I)Z"⟩, 69), (⟨"GiftTableModel", "weigh", "(III)I"⟩, 69), (⟨"GiftTableModel", "canPay", "(II)Z"⟩, 69), (⟨"GiftTableModel", "ofThing", "(II)I"⟩, 69), (⟨"GiftTableModel", "asks", "(III)I"⟩, 69), (⟨"GiftTableModel", "givers", "()I"⟩, 69), (⟨"GiftTableModel", "isSo", "(I)Z"⟩, 69), (⟨"GiftTableModel", "reckonAll", "(II)V"⟩, 69)]
theorem lw_r6 : ∀ q ∈ lw_privs_6, lw_okq q := List.forall_mem_cons.mpr ⟨lw_p80, List.forall_mem_cons.mpr ⟨lw_p81, List.forall_mem_cons.mpr ⟨lw_p82, List.forall_mem_cons.mpr ⟨lw_p83, List.forall_mem_cons.mpr ⟨lw_p84, List.forall_mem_cons.mpr ⟨lw_p85, List.forall_mem_cons.mpr ⟨lw_p86, List.forall_mem_cons.mpr ⟨lw_p87, List.forall_mem_cons.mpr ⟨lw_p88, List.forall_mem_cons.mpr ⟨lw_p89, List.forall_mem_cons.mpr ⟨lw_p90, List.forall_mem_cons.mpr ⟨lw_p91, List.forall_mem_cons.mpr ⟨lw_p92, List.forall_mem_cons.mpr ⟨lw_p93, List.forall_mem_cons.mpr ⟨lw_p94, List.forall_mem_cons.mpr ⟨lw_p95, fun _ h => absurd h List.not_mem_nil⟩⟩⟩⟩⟩⟩⟩⟩⟩⟩⟩⟩⟩⟩⟩⟩
theorem lw_p96 : lw_okq (⟨"GiftTableModel", "reckon", "(IJJ)J"⟩, 69) := ⟨⟨by decide +kernel, by decide +kernel⟩, List.mem_of_getElem? (i := 1299) (by decide +kernel), List.mem_of_getElem? (i := 1794) (by decide +kernel), List.mem_of_getElem? (i := 1795) (by decide +kernel)⟩
theorem lw_p97 : lw_okq (⟨"GiftTableModel", "isHeap", "(IIII)Z"⟩, 69) := ⟨⟨by decide +kernel, by decide +kernel⟩, List.mem_of_getElem? (i := 1299) (by decide +kernel), List.mem_of_getElem? (i := 1804) (by decide +kernel), List.mem_of_getElem? (i := 1805) (by decide +kernel)⟩
theorem lw_p98 : lw_okq (⟨"GiftTableModel", "worthOf", "(I)I"⟩, 69) := ⟨⟨by decide +kernel, by decide +kernel⟩, List.mem_of_getElem? (i := 1299) (by decide +kernel), List.mem_of_getElem? (i := 1809) (by decide +kernel), List.mem_of_getElem? (i := 1810) (by decide +kernel)⟩
theorem lw_p99 : lw_okq (⟨"GiftTableModel", "meanOf", "(I)I"⟩, 69) := ⟨⟨by decide +kernel, by decide +kernel⟩, List.mem_of_getElem? (i := 1299) (by decide +kernel), List.mem_of_getElem? (i := 1826) (by decide +kernel), List.mem_of_getElem? (i := 1827) (by decide +kernel)⟩
theorem lw_p100 : lw_okq (⟨"GiftTableModel", "spread", "()V"⟩, 69) := ⟨⟨by decide +kernel, by decide +kernel⟩, List.mem_of_getElem? (i := 1299) (by decide +kernel), List.mem_of_getElem? (i := 1830) (by decide +kernel), List.mem_of_getElem? (i := 1831) (by decide +kernel)⟩
theorem lw_p101 : lw_okq (⟨"GiftTableModel", "findWorths", "()V"⟩, 69) := ⟨⟨by decide +kernel, by decide +kernel⟩, List.mem_of_getElem? (i := 1299) (by decide +kernel), List.mem_of_getElem? (i := 1834) (by decide +kernel), List.mem_of_getElem? (i := 1835) (by decide +kernel)⟩
theorem lw_p102 : lw_okq (⟨"GiftTableModel", "weighAll", "(I)I"⟩, 69) := ⟨⟨by decide +kernel, by decide +kernel⟩, List.mem_of_getElem? (i := 1299) (by decide +kernel), List.mem_of_getElem? (i := 1841) (by decide +kernel), List.mem_of_getElem? (i := 1842) (by decide +kernel)⟩
theorem lw_p103 : lw_okq (⟨"GiftTableModel", "spreadOne", "(I)V"⟩, 69) := ⟨⟨by decide +kernel, by decide +kernel⟩, List.mem_of_getElem? (i := 1299) (by decide +kernel), List.mem_of_getElem? (i := 1848) (by decide +kernel), List.mem_of_getElem? (i := 1849) (by decide +kernel)⟩
theorem lw_p104 : lw_okq (⟨"GiftTableModel", "addMoney", "()V"⟩, 69) := ⟨⟨by decide +kernel, by decide +kernel⟩, List.mem_of_getElem? (i := 1299) (by decide +kernel), List.mem_of_getElem? (i := 1858) (by decide +kernel), List.mem_of_getElem? (i := 1859) (by decide +kernel)⟩
theorem lw_p105 : lw_okq (⟨"GiftTableModel", "coinOf", "(I)I"⟩, 69) := ⟨⟨by decide +kernel, by decide +kernel⟩, List.mem_of_getElem? (i := 1299) (by decide +kernel), List.mem_of_getElem? (i := 1862) (by decide +kernel), List.mem_of_getElem? (i := 1863) (by decide +kernel)⟩
theorem lw_p106 : lw_okq (⟨"GiftTableModel", "ratio", "()I"⟩, 69) := ⟨⟨by decide +kernel, by decide +kernel⟩, List.mem_of_getElem? (i := 1299) (by decide +kernel), List.mem_of_getElem? (i := 1866) (by decide +kernel), List.mem_of_getElem? (i := 1867) (by decide +kernel)⟩
theorem lw_p107 : lw_okq (⟨"GiftTableModel", "gather", "(II)V"⟩, 69) := ⟨⟨by decide +kernel, by decide +kernel⟩, List.mem_of_getElem? (i := 1299) (by decide +kernel), List.mem_of_getElem? (i := 1883) (by decide +kernel), List.mem_of_getElem? (i := 1884) (by decide +kernel)⟩
theorem lw_p108 : lw_okq (⟨"GiftTableModel", "gatherOne", "(III)V"⟩, 69) := ⟨⟨by decide +kernel, by decide +kernel⟩, List.mem_of_getElem? (i := 1299) (by decide +kernel), List.mem_of_getElem? (i := 1888) (by decide +kernel), List.mem_of_getElem? (i := 1889) (by decide +kernel)⟩
theorem lw_p109 : lw_okq (⟨"GiftTableModel", "may", "(II)Z"⟩, 69) := ⟨⟨by decide +kernel, by decide +kernel⟩, List.mem_of_getElem? (i := 1299) (by decide +kernel), List.mem_of_getElem? (i := 1892) (by decide +kernel), List.mem_of_getElem? (i := 1893) (by decide +kernel)⟩
theorem lw_p110 : lw_okq (⟨"GiftTableModel", "moneyOf", "(II)I"⟩, 69) := ⟨⟨by decide +kernel, by decide +kernel⟩, List.mem_of_getElem? (i := 1299) (by decide +kernel), List.mem_of_getElem? (i := 1896) (by decide +kernel), List.mem_of_getElem? (i := 1897) (by decide +kernel)⟩
theorem lw_p111 : lw_okq (⟨"GiftTableModel", "greatest", "()I"⟩, 69) := ⟨⟨by decide +kernel, by decide +kernel⟩, List.mem_of_getElem? (i := 1299) (by decide +kernel), List.mem_of_getElem? (i := 1901) (by decide +kernel), List.mem_of_getElem? (i := 1902) (by decide +kernel)⟩
def lw_privs_7 : List (MethodName × Nat) := [(⟨"GiftTableModel", "reckon", "(IJJ)J"⟩, 69), (⟨"GiftTableModel", "isHeap", "(IIII)Z"⟩, 69), (⟨"GiftTableModel", "worthOf", "(I)I"⟩, 69), (⟨"GiftTableModel", "meanOf", "(I)I"⟩, 69), (⟨"GiftTableModel", "spread", "()V"⟩, 69), (⟨"GiftTableModel", "findWorths", "()V"⟩, 69), (⟨"GiftTableModel", "weighAll", "(I)I"⟩, 69), (⟨"GiftTableModel", "spreadOne", "(I)V"⟩, 69), (⟨"GiftTableModel", "addMoney", "()V"⟩, 69), (⟨"GiftTableModel", "coinOf", "(I)I"⟩, 69), (⟨"GiftTableModel", "ratio", "()I"⟩, 69), (⟨"GiftTableModel", "gather", "(II)V"⟩, 69), (⟨"GiftTableModel", "gatherOne", "(III)V"⟩, 69), (⟨"GiftTableModel", "may", "(II)Z"⟩, 69), (⟨"GiftTableModel", "moneyOf", "(II)I"⟩, 69), (⟨"GiftTableModel", "greatest", "()I"⟩, 69)]
theorem lw_r7 : ∀ q ∈ lw_privs_7, lw_okq q := List.forall_mem_cons.mpr ⟨lw_p96, List.forall_mem_cons.mpr ⟨lw_p97, List.forall_mem_cons.mpr ⟨lw_p98, List.forall_mem_cons.mpr ⟨lw_p99, List.forall_mem_cons.mpr ⟨lw_p100, List.forall_mem_cons.mpr ⟨lw_p101, List.forall_mem_cons.mpr ⟨lw_p102, List.forall_mem_cons.mpr ⟨lw_p103, List.forall_mem_cons.mpr ⟨lw_p104, List.forall_mem_cons.mpr ⟨lw_p105, List.forall_mem_cons.mpr ⟨lw_p106, List.forall_mem_cons.mpr ⟨lw_p107, List.forall_mem_cons.mpr ⟨lw_p108, List.forall_mem_cons.mpr ⟨lw_p109, List.forall_mem_cons.mpr ⟨lw_p110, List.forall_mem_cons.mpr ⟨lw_p111, fun _ h => absurd h List.not_mem_nil⟩⟩⟩⟩⟩⟩⟩⟩⟩⟩⟩⟩⟩⟩⟩⟩
theorem lw_p112 : lw_okq (⟨"GiftTableModel", "findFirst", "(I)V"⟩, 69) := ⟨⟨by decide +kernel, by decide +kernel⟩, List.mem_of_getElem? (i := 1299) (by decide +kernel), List.mem_of_getElem? (i := 1905) (by decide +kernel), List.mem_of_getElem? (i := 1906) (by decide +kernel)⟩
theorem lw_p113 : lw_okq (⟨"GiftTableModel", "isOnWay", "(IIII)Z"⟩, 69) := ⟨⟨by decide +kernel, by decide +kernel⟩, List.mem_of_getElem? (i := 1299) (by decide +kernel), List.mem_of_getElem? (i := 1909) (by decide +kernel), List.mem_of_getElem? (i := 1910) (by decide +kernel)⟩
theorem lw_p114 : lw_okq (⟨"GiftTableModel", "findBlind", "(I)V"⟩, 69) := ⟨⟨by decide +kernel, by decide +kernel⟩, List.mem_of_getElem? (i := 1299) (by decide +kernel), List.mem_of_getElem? (i := 1930) (by decide +kernel), List.mem_of_getElem? (i := 1931) (by decide +kernel)⟩
theorem lw_p115 : lw_okq (⟨"GiftTableModel", "findShares", "(I)V"⟩, 69) := ⟨⟨by decide +kernel, by decide +kernel⟩, List.mem_of_getElem? (i := 1299) (by decide +kernel), List.mem_of_getElem? (i := 1934) (by decide +kernel), List.mem_of_getElem? (i := 1935) (by decide +kernel)⟩
theorem lw_p116 : lw_okq (⟨"GiftTableModel", "tryTenths", "(I)V"⟩, 69) := ⟨⟨by decide +kernel, by decide +kernel⟩, List.mem_of_getElem? (i := 1299) (by decide +kernel), List.mem_of_getElem? (i := 1941) (by decide +kernel), List.mem_of_getElem? (i := 1942) (by decide +kernel)⟩
theorem lw_p117 : lw_okq (⟨"GiftTableModel", "blindMean", "(I)J"⟩, 69) := ⟨⟨by decide +kernel, by decide +kernel⟩, List.mem_of_getElem? (i := 1299) (by decide +kernel), List.mem_of_getElem? (i := 1945) (by decide +kernel), List.mem_of_getElem? (i := 1946) (by decide +kernel)⟩
theorem lw_p118 : lw_okq (⟨"GiftTableModel", "ruleValue", "()I"⟩, 69) := ⟨⟨by decide +kernel, by decide +kernel⟩, List.mem_of_getElem? (i := 1299) (by decide +kernel), List.mem_of_getElem? (i := 1953) (by decide +kernel), List.mem_of_getElem? (i := 1954) (by decide +kernel)⟩
theorem lw_p119 : lw_okq (⟨"GiftTableModel", "byRule", "(I)I"⟩, 69) := ⟨⟨by decide +kernel, by decide +kernel⟩, List.mem_of_getElem? (i := 1299) (by decide +kernel), List.mem_of_getElem? (i := 1957) (by decide +kernel), List.mem_of_getElem? (i := 1958) (by decide +kernel)⟩
theorem lw_p120 : lw_okq (⟨"GiftTableModel", "nextBounds", "()Z"⟩, 69) := ⟨⟨by decide +kernel, by decide +kernel⟩, List.mem_of_getElem? (i := 1299) (by decide +kernel), List.mem_of_getElem? (i := 1961) (by decide +kernel), List.mem_of_getElem? (i := 1962) (by decide +kernel)⟩
theorem lw_p121 : lw_okq (⟨"GiftTableModel", "findRest", "()V"⟩, 69) := ⟨⟨by decide +kernel, by decide +kernel⟩, List.mem_of_getElem? (i := 1299) (by decide +kernel), List.mem_of_getElem? (i := 1973) (by decide +kernel), List.mem_of_getElem? (i := 1974) (by decide +kernel)⟩
theorem lw_p122 : lw_okq (⟨"GiftTableModel", "goesOn", "(I)Z"⟩, 69) := ⟨⟨by decide +kernel, by decide +kernel⟩, List.mem_of_getElem? (i := 1299) (by decide +kernel), List.mem_of_getElem? (i := 1978) (by decide +kernel), List.mem_of_getElem? (i := 1979) (by decide +kernel)⟩
theorem lw_p123 : lw_okq (⟨"GiftTableModel", "drawAll", "()I"⟩, 69) := ⟨⟨by decide +kernel, by decide +kernel⟩, List.mem_of_getElem? (i := 1299) (by decide +kernel), List.mem_of_getElem? (i := 1990) (by decide +kernel), List.mem_of_getElem? (i := 1991) (by decide +kernel)⟩
theorem lw_p124 : lw_okq (⟨"GiftTableModel", "best", "(II)I"⟩, 69) := ⟨⟨by decide +kernel, by decide +kernel⟩, List.mem_of_getElem? (i := 1299) (by decide +kernel), List.mem_of_getElem? (i := 1994) (by decide +kernel), List.mem_of_getElem? (i := 1995) (by decide +kernel)⟩
theorem lw_p125 : lw_okq (⟨"GiftTableModel", "drawnBy", "(I)I"⟩, 69) := ⟨⟨by decide +kernel, by decide +kernel⟩, List.mem_of_getElem? (i := 1299) (by decide +kernel), List.mem_of_getElem? (i := 1998) (by decide +kernel), List.mem_of_getElem? (i := 1999) (by decide +kernel)⟩
theorem lw_p126 : lw_okq (⟨"GiftTableModel", "draw", "(I)I"⟩, 69) := ⟨⟨by decide +kernel, by decide +kernel⟩, List.mem_of_getElem? (i := 1299) (by decide +kernel), List.mem_of_getElem? (i := 2002) (by decide +kernel), List.mem_of_getElem? (i := 2003) (by decide +kernel)⟩
theorem lw_p127 : lw_okq (⟨"GiftTableModel", "likedBy", "(I)I"⟩, 69) := ⟨⟨by decide +kernel, by decide +kernel⟩, List.mem_of_getElem? (i := 1299) (by decide +kernel), List.mem_of_getElem? (i := 2029) (by decide +kernel), List.mem_of_getElem? (i := 2030) (by decide +kernel)⟩
def lw_privs_8 : List (MethodName × Nat) := [(⟨"GiftTableModel", "findFirst", "(I)V"⟩, 69), (⟨"GiftTableModel", "isOnWay", "(IIII)Z"⟩, 69), (⟨"GiftTableModel", "findBlind", "(I)V"⟩, 69), (⟨"GiftTableModel", "findShares", "(I)V"⟩, 69), (⟨"GiftTableModel", "tryTenths", "(I)V"⟩, 69), (⟨"GiftTableModel", "blindMean", "(I)J"⟩, 69), (⟨"GiftTableModel", "ruleValue", "()I"⟩, 69), (⟨"GiftTableModel", "byRule", "(I)I"⟩, 69), (⟨"GiftTableModel", "nextBounds", "()Z"⟩, 69), (⟨"GiftTableModel", "findRest", "()V"⟩, 69), (⟨"GiftTableModel", "goesOn", "(I)Z"⟩, 69), (⟨"GiftTableModel", "drawAll", "()I"⟩, 69), (⟨"GiftTableModel", "best", "(II)I"⟩, 69), (⟨"GiftTableModel", "drawnBy", "(I)I"⟩, 69), (⟨"GiftTableModel", "draw", "(I)I"⟩, 69), (⟨"GiftTableModel", "likedBy", "(I)I"⟩, 69)]
theorem lw_r8 : ∀ q ∈ lw_privs_8, lw_okq q := List.forall_mem_cons.mpr ⟨lw_p112, List.forall_mem_cons.mpr ⟨lw_p113, List.forall_mem_cons.mpr ⟨lw_p114, List.forall_mem_cons.mpr ⟨lw_p115, List.forall_mem_cons.mpr ⟨lw_p116, List.forall_mem_cons.mpr ⟨lw_p117, List.forall_mem_cons.mpr ⟨lw_p118, List.forall_mem_cons.mpr ⟨lw_p119, List.forall_mem_cons.mpr ⟨lw_p120, List.forall_mem_cons.mpr ⟨lw_p121, List.forall_mem_cons.mpr ⟨lw_p122, List.forall_mem_cons.mpr ⟨lw_p123, List.forall_mem_cons.mpr ⟨lw_p124, List.forall_mem_cons.mpr ⟨lw_p125, List.forall_mem_cons.mpr ⟨lw_p126, List.forall_mem_cons.mpr ⟨lw_p127, fun _ h => absurd h List.not_mem_nil⟩⟩⟩⟩⟩⟩⟩⟩⟩⟩⟩⟩⟩⟩⟩⟩
def lw_privs : List (MethodName × Nat) := lw_privs_1 ++ (lw_privs_2 ++ (lw_privs_3 ++ (lw_privs_4 ++ (lw_privs_5 ++ (lw_privs_6 ++ (lw_privs_7 ++ (lw_privs_8)))))))
def lw_tbl : List Cond := k2_sels lw_privs ++ tables_1
theorem lw_privs_ok : ∀ q ∈ lw_privs, lw_okq q := by
  show ∀ q ∈ lw_privs_1 ++ (lw_privs_2 ++ (lw_privs_3 ++ (lw_privs_4 ++ (lw_privs_5 ++ (lw_privs_6 ++ (lw_privs_7 ++ (lw_privs_8))))))), lw_okq q
  exact List.forall_mem_append.mpr ⟨lw_r1, List.forall_mem_append.mpr ⟨lw_r2, List.forall_mem_append.mpr ⟨lw_r3, List.forall_mem_append.mpr ⟨lw_r4, List.forall_mem_append.mpr ⟨lw_r5, List.forall_mem_append.mpr ⟨lw_r6, List.forall_mem_append.mpr ⟨lw_r7, lw_r8⟩⟩⟩⟩⟩⟩⟩
-- ===== end of PART A; then your names; then what follows =====
end
section
/-! ===== BEGIN words of one list among another's, by their places ===== -/
theorem goodIn_r {big : List Cond} (ws : List Cond) (ps : List Nat) (hp : ws = ps.filterMap (fun i => big[i]?)) (h : ws.all goodWord = true) : GoodIn big ws := by
  intro w hw
  have h1 := List.all_eq_true.mp h w hw
  rw [hp] at hw
  obtain ⟨i, -, hi⟩ := List.mem_filterMap.mp hw
  have hm : w ∈ big := by first | exact List.mem_of_getElem? hi | exact List.getElem?_mem hi
  exact ⟨hm, good_of_word h1⟩
theorem goodIn_app {big a b : List Cond} (ha : GoodIn big a) (hb : GoodIn big b) : GoodIn big (a ++ b) := fun w h => (List.mem_append.mp h).elim (ha w) (hb w)
theorem goodIn_ca {big a b : List Cond} {c : Cond} (ha : GoodIn big (c :: a)) (hb : GoodIn big b) : GoodIn big (c :: (a ++ b)) := fun w h => (List.mem_cons.mp h).elim (fun e => ha w (List.mem_cons.mpr (Or.inl e))) (fun h => (List.mem_append.mp h).elim (fun h => ha w (List.mem_cons.mpr (Or.inr h))) (hb w))
theorem goodIn_sub {big ws : List Cond} (hm : ∀ w ∈ ws, w ∈ big) (h : ws.all goodWord = true) : GoodIn big ws := fun w hw => ⟨hm w hw, good_of_word (List.all_eq_true.mp h w hw)⟩
/-! ===== END ===== -/
/-! ===== BEGIN printed: names, fields, word lists, decode rows ===== -/
def RX0 : String := "GiftTable$Blind"
def TX0 : u_T := fun k => match k with
  | 0 => ("GiftTable$Blind", "counted", "[J", true)
  | 1 => ("GiftTable$Blind", "levels", "[[J", true)
  | 2 => ("GiftTable$Blind", "powers", "[[I", true)
  | 3 => ("GiftTable$Blind", "sizes", "[I", true)
  | 4 => ("GiftTable$Blind", "heap", "[I", true)
  | 5 => ("GiftTable$Blind", "row", "[I", true)
  | 6 => ("GiftTable$Blind", "bestRow", "[I", true)
  | 7 => ("GiftTable$Blind", "best", "J", false)
  | 8 => ("GiftTable$Blind", "things", "I", false)
  | 9 => ("GiftTable$Blind", "givers", "I", false)
  | 10 => ("GiftTable$Blind", "worked", "I", false)
  | _ => ("GiftTable$Blind", "hundredths", "I", false)
def tyX0 : Nat → FieldType := fun k => match k with
  | 0 => .array .long
  | 1 => .array (.array .long)
  | 2 => .array (.array .int)
  | 3 => .array .int
  | 4 => .array .int
  | 5 => .array .int
  | 6 => .array .int
  | 7 => .long
  | 8 => .int
  | 9 => .int
  | 10 => .int
  | _ => .int
abbrev wsX00 : List Cond := u_ws RX0 TX0 12
theorem nmX0 : ∀ a, a < 12 → ∀ b, b < 12 → a ≠ b → (TX0 a).2.1 ≠ (TX0 b).2.1 := by decide +kernel
theorem tyX0_ok : ∀ k, k < 12 → parseFieldDescriptor (TX0 k).2.2.1 = some (tyX0 k) := by decide +kernel
abbrev cX0_init : ByteArray := prog_2_method_1_code
def yX0_init : MethodName := ⟨RX0, "<init>", "()V"⟩
abbrev cX0_work : ByteArray := prog_2_method_2_code
def yX0_work : MethodName := ⟨RX0, "work", "(LGiftTable$State;LGiftTable$Heaps;II)V"⟩
abbrev cX0_tenthsOf : ByteArray := prog_2_method_3_code
def yX0_tenthsOf : MethodName := ⟨RX0, "tenthsOf", "(II)I"⟩
abbrev cX0_shapeLevels : ByteArray := prog_2_method_4_code
def yX0_shapeLevels : MethodName := ⟨RX0, "shapeLevels", "()V"⟩
abbrev cX0_monomial : ByteArray := prog_2_method_5_code
def yX0_monomial : MethodName := ⟨RX0, "monomial", "(III)I"⟩
abbrev cX0_degree : ByteArray := prog_2_method_6_code
def yX0_degree : MethodName := ⟨RX0, "degree", "(I)I"⟩
abbrev cX0_powerOf : ByteArray := prog_2_method_7_code
def yX0_powerOf : MethodName := ⟨RX0, "powerOf", "(II)I"⟩
abbrev cX0_countHeaps : ByteArray := prog_2_method_8_code
def yX0_countHeaps : MethodName := ⟨RX0, "countHeaps", "(LGiftTable$State;LGiftTable$Heaps;)V"⟩
abbrev cX0_factorial : ByteArray := prog_2_method_9_code
def yX0_factorial : MethodName := ⟨RX0, "factorial", "(I)J"⟩
abbrev cX0_spread : ByteArray := prog_2_method_10_code
def yX0_spread : MethodName := ⟨RX0, "spread", "(II)V"⟩
abbrev cX0_putFirst : ByteArray := prog_2_method_11_code
def yX0_putFirst : MethodName := ⟨RX0, "putFirst", "(I)V"⟩
abbrev cX0_putIn : ByteArray := prog_2_method_12_code
def yX0_putIn : MethodName := ⟨RX0, "putIn", "(II)V"⟩
abbrev cX0_compare : ByteArray := prog_2_method_13_code
def yX0_compare : MethodName := ⟨RX0, "compare", "(I)V"⟩
def RX1 : String := "GiftTable$Heaps"
def TX1 : u_T := fun k => match k with
  | 0 => ("GiftTable$Heaps", "spare", "[I", true)
  | 1 => ("GiftTable$Heaps", "lacks", "[I", true)
  | 2 => ("GiftTable$Heaps", "row", "[I", true)
  | 3 => ("GiftTable$Heaps", "value", "I", false)
  | 4 => ("GiftTable$Heaps", "doubled", "I", false)
  | 5 => ("GiftTable$Heaps", "missing", "I", false)
  | 6 => ("GiftTable$Heaps", "gain", "I", false)
  | 7 => ("GiftTable$Heaps", "given", "I", false)
  | 8 => ("GiftTable$Heaps", "gotten", "I", false)
  | 9 => ("GiftTable$Heaps", "things", "I", false)
  | 10 => ("GiftTable$Heaps", "priced", "I", false)
  | 11 => ("GiftTable$Heaps", "upTo", "[I", true)
  | 12 => ("GiftTable$Heaps", "counts", "[I", true)
  | 13 => ("GiftTable$Heaps", "next", "[I", true)
  | 14 => ("GiftTable$Heaps", "parent", "[I", true)
  | 15 => ("GiftTable$Heaps", "highest", "[I", true)
  | 16 => ("GiftTable$Heaps", "values", "[I", true)
  | 17 => ("GiftTable$Heaps", "doubles", "[I", true)
  | _ => ("GiftTable$Heaps", "misses", "[I", true)
def tyX1 : Nat → FieldType := fun k => match k with
  | 0 => .array .int
  | 1 => .array .int
  | 2 => .array .int
  | 3 => .int
  | 4 => .int
  | 5 => .int
  | 6 => .int
  | 7 => .int
  | 8 => .int
  | 9 => .int
  | 10 => .int
  | 11 => .array .int
  | 12 => .array .int
  | 13 => .array .int
  | 14 => .array .int
  | 15 => .array .int
  | 16 => .array .int
  | 17 => .array .int
  | _ => .array .int
abbrev wsX10 : List Cond := u_ws RX1 TX1 19
theorem nmX1 : ∀ a, a < 19 → ∀ b, b < 19 → a ≠ b → (TX1 a).2.1 ≠ (TX1 b).2.1 := by decide +kernel
theorem tyX1_ok : ∀ k, k < 19 → parseFieldDescriptor (TX1 k).2.2.1 = some (tyX1 k) := by decide +kernel
abbrev cX1_init : ByteArray := prog_3_method_1_code
def yX1_init : MethodName := ⟨RX1, "<init>", "()V"⟩
abbrev cX1_weigh : ByteArray := prog_3_method_2_code
def yX1_weigh : MethodName := ⟨RX1, "weigh", "(LGiftTable$State;[I)V"⟩
abbrev cX1_makeUp : ByteArray := prog_3_method_3_code
def yX1_makeUp : MethodName := ⟨RX1, "makeUp", "(LGiftTable$State;I)V"⟩
abbrev cX1_findChange : ByteArray := prog_3_method_4_code
def yX1_findChange : MethodName := ⟨RX1, "findChange", "(LGiftTable$State;[II)V"⟩
abbrev cX1_tryChange : ByteArray := prog_3_method_5_code
def yX1_tryChange : MethodName := ⟨RX1, "tryChange", "(LGiftTable$State;[IIII)V"⟩
abbrev cX1_after : ByteArray := prog_3_method_6_code
def yX1_after : MethodName := ⟨RX1, "after", "(II)I"⟩
abbrev cX1_price : ByteArray := prog_3_method_7_code
def yX1_price : MethodName := ⟨RX1, "price", "(LGiftTable$State;II)V"⟩
abbrev cX1_shape : ByteArray := prog_3_method_8_code
def yX1_shape : MethodName := ⟨RX1, "shape", "(I)V"⟩
abbrev cX1_grow : ByteArray := prog_3_method_9_code
def yX1_grow : MethodName := ⟨RX1, "grow", "(III)I"⟩
def RX2 : String := "GiftTable$Mean"
def TX2 : u_T := fun k => match k with
  | 0 => ("GiftTable$Mean", "low", "[J", true)
  | 1 => ("GiftTable$Mean", "middle", "[J", true)
  | 2 => ("GiftTable$Mean", "high", "[J", true)
  | 3 => ("GiftTable$Mean", "whole", "[J", true)
  | 4 => ("GiftTable$Mean", "money", "[J", true)
  | 5 => ("GiftTable$Mean", "sum", "[J", true)
  | 6 => ("GiftTable$Mean", "divisor", "[J", true)
  | 7 => ("GiftTable$Mean", "means", "[I", true)
  | _ => ("GiftTable$Mean", "worked", "I", false)
def tyX2 : Nat → FieldType := fun k => match k with
  | 0 => .array .long
  | 1 => .array .long
  | 2 => .array .long
  | 3 => .array .long
  | 4 => .array .long
  | 5 => .array .long
  | 6 => .array .long
  | 7 => .array .int
  | _ => .int
abbrev wsX20 : List Cond := u_ws RX2 TX2 9
theorem nmX2 : ∀ a, a < 9 → ∀ b, b < 9 → a ≠ b → (TX2 a).2.1 ≠ (TX2 b).2.1 := by decide +kernel
theorem tyX2_ok : ∀ k, k < 9 → parseFieldDescriptor (TX2 k).2.2.1 = some (tyX2 k) := by decide +kernel
abbrev cX2_init : ByteArray := prog_4_method_1_code
def yX2_init : MethodName := ⟨RX2, "<init>", "()V"⟩
abbrev cX2_work : ByteArray := prog_4_method_2_code
def yX2_work : MethodName := ⟨RX2, "work", "(LGiftTable$Party;LGiftTable$Heaps;I)V"⟩
abbrev cX2_addMoney : ByteArray := prog_4_method_3_code
def yX2_addMoney : MethodName := ⟨RX2, "addMoney", "(LGiftTable$Party;I)V"⟩
abbrev cX2_addGifts : ByteArray := prog_4_method_4_code
def yX2_addGifts : MethodName := ⟨RX2, "addGifts", "(LGiftTable$Party;LGiftTable$Heaps;I)V"⟩
abbrev cX2_carryAll : ByteArray := prog_4_method_5_code
def yX2_carryAll : MethodName := ⟨RX2, "carryAll", "(I)V"⟩
abbrev cX2_meanOf : ByteArray := prog_4_method_6_code
def yX2_meanOf : MethodName := ⟨RX2, "meanOf", "([II[J)I"⟩
abbrev cX2_lacking : ByteArray := prog_4_method_7_code
def yX2_lacking : MethodName := ⟨RX2, "lacking", "(LGiftTable$Party;I)I"⟩
abbrev cX2_quotient : ByteArray := prog_4_method_8_code
def yX2_quotient : MethodName := ⟨RX2, "quotient", "()I"⟩
abbrev cX2_set : ByteArray := prog_4_method_9_code
def yX2_set : MethodName := ⟨RX2, "set", "([JJ)V"⟩
abbrev cX2_carry : ByteArray := prog_4_method_10_code
def yX2_carry : MethodName := ⟨RX2, "carry", "([J)V"⟩
abbrev cX2_multiply : ByteArray := prog_4_method_11_code
def yX2_multiply : MethodName := ⟨RX2, "multiply", "([JI)V"⟩
abbrev cX2_add : ByteArray := prog_4_method_12_code
def yX2_add : MethodName := ⟨RX2, "add", "([J[J)V"⟩
abbrev cX2_subtract : ByteArray := prog_4_method_13_code
def yX2_subtract : MethodName := ⟨RX2, "subtract", "([J[J)V"⟩
abbrev cX2_halve : ByteArray := prog_4_method_14_code
def yX2_halve : MethodName := ⟨RX2, "halve", "([J)V"⟩
abbrev cX2_below : ByteArray := prog_4_method_15_code
def yX2_below : MethodName := ⟨RX2, "below", "([J[J)Z"⟩
def RX3 : String := "GiftTable$Party"
def TX3 : u_T := fun k => match k with
  | 0 => ("GiftTable$Party", "givers", "I", false)
  | 1 => ("GiftTable$Party", "guestAt", "[I", true)
  | 2 => ("GiftTable$Party", "giverAt", "[I", true)
  | 3 => ("GiftTable$Party", "purse", "[I", true)
  | 4 => ("GiftTable$Party", "money", "[I", true)
  | 5 => ("GiftTable$Party", "letter", "[I", true)
  | 6 => ("GiftTable$Party", "fixed", "[I", true)
  | 7 => ("GiftTable$Party", "choices", "[I", true)
  | 8 => ("GiftTable$Party", "chances", "[I", true)
  | 9 => ("GiftTable$Party", "asked", "[I", true)
  | 10 => ("GiftTable$Party", "stack", "[J", true)
  | 11 => ("GiftTable$Party", "seated", "I", false)
  | _ => ("GiftTable$Party", "chanced", "I", false)
def tyX3 : Nat → FieldType := fun k => match k with
  | 0 => .int
  | 1 => .array .int
  | 2 => .array .int
  | 3 => .array .int
  | 4 => .array .int
  | 5 => .array .int
  | 6 => .array .int
  | 7 => .array .int
  | 8 => .array .int
  | 9 => .array .int
  | 10 => .array .long
  | 11 => .int
  | _ => .int
abbrev wsX30 : List Cond := u_ws RX3 TX3 13
theorem nmX3 : ∀ a, a < 13 → ∀ b, b < 13 → a ≠ b → (TX3 a).2.1 ≠ (TX3 b).2.1 := by decide +kernel
theorem tyX3_ok : ∀ k, k < 13 → parseFieldDescriptor (TX3 k).2.2.1 = some (tyX3 k) := by decide +kernel
abbrev cX3_init : ByteArray := prog_5_method_1_code
def yX3_init : MethodName := ⟨RX3, "<init>", "()V"⟩
abbrev cX3_seat : ByteArray := prog_5_method_2_code
def yX3_seat : MethodName := ⟨RX3, "seat", "(LGiftTable$State;I)V"⟩
abbrev cX3_seatGiver : ByteArray := prog_5_method_3_code
def yX3_seatGiver : MethodName := ⟨RX3, "seatGiver", "(LGiftTable$State;I)V"⟩
abbrev cX3_moneyBy : ByteArray := prog_5_method_4_code
def yX3_moneyBy : MethodName := ⟨RX3, "moneyBy", "(II)I"⟩
abbrev cX3_canBring : ByteArray := prog_5_method_5_code
def yX3_canBring : MethodName := ⟨RX3, "canBring", "(II)Z"⟩
abbrev cX3_weightOf : ByteArray := prog_5_method_6_code
def yX3_weightOf : MethodName := ⟨RX3, "weightOf", "(LGiftTable$State;III)I"⟩
abbrev cX3_clauseWeight : ByteArray := prog_5_method_7_code
def yX3_clauseWeight : MethodName := ⟨RX3, "clauseWeight", "(LGiftTable$State;III)I"⟩
abbrev cX3_fillChances : ByteArray := prog_5_method_8_code
def yX3_fillChances : MethodName := ⟨RX3, "fillChances", "(LGiftTable$State;I)V"⟩
abbrev cX3_chanceSum : ByteArray := prog_5_method_9_code
def yX3_chanceSum : MethodName := ⟨RX3, "chanceSum", "(I)I"⟩
abbrev cX3_mostLiked : ByteArray := prog_5_method_10_code
def yX3_mostLiked : MethodName := ⟨RX3, "mostLiked", "(LGiftTable$State;[I)I"⟩
abbrev cX3_likedBest : ByteArray := prog_5_method_11_code
def yX3_likedBest : MethodName := ⟨RX3, "likedBest", "(LGiftTable$State;I)I"⟩
def RX4 : String := "GiftTable$Quiet"
def TX4 : u_T := fun k => match k with
  | 0 => ("GiftTable$Quiet", "heap", "[I", true)
  | 1 => ("GiftTable$Quiet", "candidates", "[I", true)
  | 2 => ("GiftTable$Quiet", "candidateCount", "I", false)
  | 3 => ("GiftTable$Quiet", "bounds", "[I", true)
  | 4 => ("GiftTable$Quiet", "bestBounds", "[I", true)
  | 5 => ("GiftTable$Quiet", "ruleValue", "I", false)
  | 6 => ("GiftTable$Quiet", "ruled", "I", false)
  | 7 => ("GiftTable$Quiet", "restBrings", "[I", true)
  | 8 => ("GiftTable$Quiet", "restMoney", "I", false)
  | 9 => ("GiftTable$Quiet", "restValue", "I", false)
  | 10 => ("GiftTable$Quiet", "restDoubled", "I", false)
  | 11 => ("GiftTable$Quiet", "restMissing", "I", false)
  | 12 => ("GiftTable$Quiet", "rounds", "I", false)
  | _ => ("GiftTable$Quiet", "settled", "I", false)
def tyX4 : Nat → FieldType := fun k => match k with
  | 0 => .array .int
  | 1 => .array .int
  | 2 => .int
  | 3 => .array .int
  | 4 => .array .int
  | 5 => .int
  | 6 => .int
  | 7 => .array .int
  | 8 => .int
  | 9 => .int
  | 10 => .int
  | 11 => .int
  | 12 => .int
  | _ => .int
abbrev wsX40 : List Cond := u_ws RX4 TX4 14
theorem nmX4 : ∀ a, a < 14 → ∀ b, b < 14 → a ≠ b → (TX4 a).2.1 ≠ (TX4 b).2.1 := by decide +kernel
theorem tyX4_ok : ∀ k, k < 14 → parseFieldDescriptor (TX4 k).2.2.1 = some (tyX4 k) := by decide +kernel
abbrev cX4_init : ByteArray := prog_6_method_1_code
def yX4_init : MethodName := ⟨RX4, "<init>", "()V"⟩
abbrev cX4_choiceBy : ByteArray := prog_6_method_2_code
def yX4_choiceBy : MethodName := ⟨RX4, "choiceBy", "(LGiftTable$Party;I[II)I"⟩
abbrev cX4_valueBy : ByteArray := prog_6_method_3_code
def yX4_valueBy : MethodName := ⟨RX4, "valueBy", "(LGiftTable$State;LGiftTable$Party;LGiftTable$Heaps;[I)I"⟩
abbrev cX4_findRule : ByteArray := prog_6_method_4_code
def yX4_findRule : MethodName := ⟨RX4, "findRule", "(LGiftTable$Party;LGiftTable$Heaps;I)V"⟩
abbrev cX4_gatherCandidates : ByteArray := prog_6_method_5_code
def yX4_gatherCandidates : MethodName := ⟨RX4, "gatherCandidates", "(LGiftTable$Party;)V"⟩
abbrev cX4_tryBounds : ByteArray := prog_6_method_6_code
def yX4_tryBounds : MethodName := ⟨RX4, "tryBounds", "(LGiftTable$Party;LGiftTable$Heaps;II)V"⟩
abbrev cX4_tryRule : ByteArray := prog_6_method_7_code
def yX4_tryRule : MethodName := ⟨RX4, "tryRule", "(LGiftTable$Party;LGiftTable$Heaps;)V"⟩
abbrev cX4_settle : ByteArray := prog_6_method_8_code
def yX4_settle : MethodName := ⟨RX4, "settle", "(LGiftTable$State;LGiftTable$Party;LGiftTable$Heaps;I)V"⟩
abbrev cX4_lay : ByteArray := prog_6_method_9_code
def yX4_lay : MethodName := ⟨RX4, "lay", "(LGiftTable$Party;III)V"⟩
abbrev cX4_valueNow : ByteArray := prog_6_method_10_code
def yX4_valueNow : MethodName := ⟨RX4, "valueNow", "(LGiftTable$State;LGiftTable$Heaps;)I"⟩
abbrev cX4_goRound : ByteArray := prog_6_method_11_code
def yX4_goRound : MethodName := ⟨RX4, "goRound", "(LGiftTable$State;LGiftTable$Party;LGiftTable$Heaps;)Z"⟩
def RX5 : String := "GiftTable$Reader"
def TX5 : u_T := fun k => match k with
  | 0 => ("GiftTable$Reader", "tokens", "[I", true)
  | 1 => ("GiftTable$Reader", "places", "[I", true)
  | 2 => ("GiftTable$Reader", "code", "[I", true)
  | 3 => ("GiftTable$Reader", "clauses", "[I", true)
  | 4 => ("GiftTable$Reader", "tokenCount", "I", false)
  | 5 => ("GiftTable$Reader", "at", "I", false)
  | 6 => ("GiftTable$Reader", "size", "I", false)
  | 7 => ("GiftTable$Reader", "clauseCount", "I", false)
  | 8 => ("GiftTable$Reader", "parts", "I", false)
  | _ => ("GiftTable$Reader", "faultAt", "I", false)
def tyX5 : Nat → FieldType := fun k => match k with
  | 0 => .array .int
  | 1 => .array .int
  | 2 => .array .int
  | 3 => .array .int
  | 4 => .int
  | 5 => .int
  | 6 => .int
  | 7 => .int
  | 8 => .int
  | _ => .int
abbrev wsX50 : List Cond := u_ws RX5 TX5 10
theorem nmX5 : ∀ a, a < 10 → ∀ b, b < 10 → a ≠ b → (TX5 a).2.1 ≠ (TX5 b).2.1 := by decide +kernel
theorem tyX5_ok : ∀ k, k < 10 → parseFieldDescriptor (TX5 k).2.2.1 = some (tyX5 k) := by decide +kernel
abbrev cX5_init : ByteArray := prog_7_method_1_code
def yX5_init : MethodName := ⟨RX5, "<init>", "()V"⟩
abbrev cX5_read : ByteArray := prog_7_method_2_code
def yX5_read : MethodName := ⟨RX5, "read", "([II)LGiftTable$Text;"⟩
abbrev cX5_split : ByteArray := prog_7_method_3_code
def yX5_split : MethodName := ⟨RX5, "split", "([II)V"⟩
abbrev cX5_addToken : ByteArray := prog_7_method_4_code
def yX5_addToken : MethodName := ⟨RX5, "addToken", "(II)V"⟩
abbrev cX5_rowKind : ByteArray := prog_7_method_5_code
def yX5_rowKind : MethodName := ⟨RX5, "rowKind", "(I)I"⟩
abbrev cX5_tokenOf : ByteArray := prog_7_method_6_code
def yX5_tokenOf : MethodName := ⟨RX5, "tokenOf", "([III)I"⟩
abbrev cX5_wordOf : ByteArray := prog_7_method_7_code
def yX5_wordOf : MethodName := ⟨RX5, "wordOf", "([III)I"⟩
abbrev cX5_numberOf : ByteArray := prog_7_method_8_code
def yX5_numberOf : MethodName := ⟨RX5, "numberOf", "([III)I"⟩
abbrev cX5_takes : ByteArray := prog_7_method_9_code
def yX5_takes : MethodName := ⟨RX5, "takes", "(I)Z"⟩
abbrev cX5_fail : ByteArray := prog_7_method_10_code
def yX5_fail : MethodName := ⟨RX5, "fail", "()V"⟩
abbrev cX5_write : ByteArray := prog_7_method_11_code
def yX5_write : MethodName := ⟨RX5, "write", "(II)V"⟩
abbrev cX5_readClause : ByteArray := prog_7_method_12_code
def yX5_readClause : MethodName := ⟨RX5, "readClause", "()V"⟩
abbrev cX5_readTest : ByteArray := prog_7_method_13_code
def yX5_readTest : MethodName := ⟨RX5, "readTest", "(I)V"⟩
abbrev cX5_readBoth : ByteArray := prog_7_method_14_code
def yX5_readBoth : MethodName := ⟨RX5, "readBoth", "(I)V"⟩
abbrev cX5_fill : ByteArray := prog_7_method_15_code
def yX5_fill : MethodName := ⟨RX5, "fill", "(II)V"⟩
abbrev cX5_readPlain : ByteArray := prog_7_method_16_code
def yX5_readPlain : MethodName := ⟨RX5, "readPlain", "(I)V"⟩
abbrev cX5_readComparison : ByteArray := prog_7_method_17_code
def yX5_readComparison : MethodName := ⟨RX5, "readComparison", "(I)V"⟩
abbrev cX5_opens : ByteArray := prog_7_method_18_code
def yX5_opens : MethodName := ⟨RX5, "opens", "(IC)Z"⟩
abbrev cX5_closes : ByteArray := prog_7_method_19_code
def yX5_closes : MethodName := ⟨RX5, "closes", "(C)V"⟩
abbrev cX5_readSum : ByteArray := prog_7_method_20_code
def yX5_readSum : MethodName := ⟨RX5, "readSum", "(I)V"⟩
abbrev cX5_readTerm : ByteArray := prog_7_method_21_code
def yX5_readTerm : MethodName := ⟨RX5, "readTerm", "(I)V"⟩
abbrev cX5_readPart : ByteArray := prog_7_method_22_code
def yX5_readPart : MethodName := ⟨RX5, "readPart", "(I)V"⟩
def RX6 : String := "GiftTable$State"
def TX6 : u_T := fun k => match k with
  | 0 => ("GiftTable$State", "things", "I", false)
  | 1 => ("GiftTable$State", "thingFacts", "[I", true)
  | 2 => ("GiftTable$State", "insteadBy", "[I", true)
  | 3 => ("GiftTable$State", "insteadHundredths", "[I", true)
  | 4 => ("GiftTable$State", "bonuses", "[I", true)
  | 5 => ("GiftTable$State", "guests", "I", false)
  | 6 => ("GiftTable$State", "guestFacts", "[I", true)
  | 7 => ("GiftTable$State", "alwaysBrings", "[I", true)
  | 8 => ("GiftTable$State", "seesList", "[I", true)
  | 9 => ("GiftTable$State", "with", "[I", true)
  | 10 => ("GiftTable$State", "coinHundredths", "I", false)
  | 11 => ("GiftTable$State", "texts", "I", false)
  | 12 => ("GiftTable$State", "written", "[LGiftTable$Text;", true)
  | _ => ("GiftTable$State", "ways", "[I", true)
def tyX6 : Nat → FieldType := fun k => match k with
  | 0 => .int
  | 1 => .array .int
  | 2 => .array .int
  | 3 => .array .int
  | 4 => .array .int
  | 5 => .int
  | 6 => .array .int
  | 7 => .array .int
  | 8 => .array .int
  | 9 => .array .int
  | 10 => .int
  | 11 => .int
  | 12 => .array (.object "GiftTable$Text")
  | _ => .array .int
abbrev wsX60 : List Cond := u_ws RX6 TX6 14
theorem nmX6 : ∀ a, a < 14 → ∀ b, b < 14 → a ≠ b → (TX6 a).2.1 ≠ (TX6 b).2.1 := by decide +kernel
theorem tyX6_ok : ∀ k, k < 14 → parseFieldDescriptor (TX6 k).2.2.1 = some (tyX6 k) := by decide +kernel
abbrev cX6_init : ByteArray := prog_8_method_1_code
def yX6_init : MethodName := ⟨RX6, "<init>", "()V"⟩
abbrev cX6_copyFrom : ByteArray := prog_8_method_2_code
def yX6_copyFrom : MethodName := ⟨RX6, "copyFrom", "(LGiftTable$State;)V"⟩
abbrev cX6_hasThing : ByteArray := prog_8_method_3_code
def yX6_hasThing : MethodName := ⟨RX6, "hasThing", "(I)Z"⟩
abbrev cX6_hasGuest : ByteArray := prog_8_method_4_code
def yX6_hasGuest : MethodName := ⟨RX6, "hasGuest", "(I)Z"⟩
abbrev cX6_fact : ByteArray := prog_8_method_5_code
def yX6_fact : MethodName := ⟨RX6, "fact", "(II)I"⟩
abbrev cX6_addGuest : ByteArray := prog_8_method_6_code
def yX6_addGuest : MethodName := ⟨RX6, "addGuest", "(IIII)I"⟩
abbrev cX6_part : ByteArray := prog_8_method_7_code
def yX6_part : MethodName := ⟨RX6, "part", "(I)V"⟩
abbrev cX6_isWithThird : ByteArray := prog_8_method_8_code
def yX6_isWithThird : MethodName := ⟨RX6, "isWithThird", "(II)Z"⟩
abbrev cX6_isGiver : ByteArray := prog_8_method_9_code
def yX6_isGiver : MethodName := ⟨RX6, "isGiver", "(I)Z"⟩
abbrev cX6_countGivers : ByteArray := prog_8_method_10_code
def yX6_countGivers : MethodName := ⟨RX6, "countGivers", "()I"⟩
abbrev cX6_purseOf : ByteArray := prog_8_method_11_code
def yX6_purseOf : MethodName := ⟨RX6, "purseOf", "(I)I"⟩
abbrev cX6_wayOf : ByteArray := prog_8_method_12_code
def yX6_wayOf : MethodName := ⟨RX6, "wayOf", "(I)LGiftTable$Text;"⟩
def RX7 : String := "GiftTable$Text"
def TX7 : u_T := fun k => match k with
  | 0 => ("GiftTable$Text", "code", "[I", true)
  | _ => ("GiftTable$Text", "clauses", "[I", true)
def tyX7 : Nat → FieldType := fun k => match k with
  | 0 => .array .int
  | _ => .array .int
abbrev wsX70 : List Cond := u_ws RX7 TX7 2
theorem nmX7 : ∀ a, a < 2 → ∀ b, b < 2 → a ≠ b → (TX7 a).2.1 ≠ (TX7 b).2.1 := by decide +kernel
theorem tyX7_ok : ∀ k, k < 2 → parseFieldDescriptor (TX7 k).2.2.1 = some (tyX7 k) := by decide +kernel
abbrev cX7_init : ByteArray := prog_9_method_1_code
def yX7_init : MethodName := ⟨RX7, "<init>", "([I[I)V"⟩
abbrev cX7_tells : ByteArray := prog_9_method_2_code
def yX7_tells : MethodName := ⟨RX7, "tells", "(I[I[J)I"⟩
abbrev cX7_reckon : ByteArray := prog_9_method_3_code
def yX7_reckon : MethodName := ⟨RX7, "reckon", "(II[I[J)J"⟩
abbrev cX7_join : ByteArray := prog_9_method_4_code
def yX7_join : MethodName := ⟨RX7, "join", "(IJJ)J"⟩
def RX8 : String := "GiftTable$Together"
def TX8 : u_T := fun k => match k with
  | 0 => ("GiftTable$Together", "best", "[I", true)
  | 1 => ("GiftTable$Together", "start", "[I", true)
  | 2 => ("GiftTable$Together", "ways", "[I", true)
  | 3 => ("GiftTable$Together", "trial", "[I", true)
  | 4 => ("GiftTable$Together", "firsts", "[I", true)
  | 5 => ("GiftTable$Together", "doubled", "I", false)
  | 6 => ("GiftTable$Together", "missing", "I", false)
  | _ => ("GiftTable$Together", "worked", "I", false)
def tyX8 : Nat → FieldType := fun k => match k with
  | 0 => .array .int
  | 1 => .array .int
  | 2 => .array .int
  | 3 => .array .int
  | 4 => .array .int
  | 5 => .int
  | 6 => .int
  | _ => .int
abbrev wsX80 : List Cond := u_ws RX8 TX8 8
theorem nmX8 : ∀ a, a < 8 → ∀ b, b < 8 → a ≠ b → (TX8 a).2.1 ≠ (TX8 b).2.1 := by decide +kernel
theorem tyX8_ok : ∀ k, k < 8 → parseFieldDescriptor (TX8 k).2.2.1 = some (tyX8 k) := by decide +kernel
abbrev cX8_init : ByteArray := prog_10_method_1_code
def yX8_init : MethodName := ⟨RX8, "<init>", "()V"⟩
abbrev cX8_work : ByteArray := prog_10_method_2_code
def yX8_work : MethodName := ⟨RX8, "work", "(LGiftTable$Party;LGiftTable$Heaps;I)V"⟩
abbrev cX8_greatest : ByteArray := prog_10_method_3_code
def yX8_greatest : MethodName := ⟨RX8, "greatest", "()I"⟩
abbrev cX8_countedWays : ByteArray := prog_10_method_4_code
def yX8_countedWays : MethodName := ⟨RX8, "countedWays", "()I"⟩
abbrev cX8_valueAfter : ByteArray := prog_10_method_5_code
def yX8_valueAfter : MethodName := ⟨RX8, "valueAfter", "(LGiftTable$Party;LGiftTable$Heaps;III)I"⟩
abbrev cX8_workLayer : ByteArray := prog_10_method_6_code
def yX8_workLayer : MethodName := ⟨RX8, "workLayer", "(LGiftTable$Party;LGiftTable$Heaps;I)V"⟩
abbrev cX8_walkFirst : ByteArray := prog_10_method_7_code
def yX8_walkFirst : MethodName := ⟨RX8, "walkFirst", "(LGiftTable$Party;LGiftTable$Heaps;)V"⟩
abbrev cX8_lessWith : ByteArray := prog_10_method_8_code
def yX8_lessWith : MethodName := ⟨RX8, "lessWith", "(LGiftTable$Party;LGiftTable$Heaps;II)I"⟩
abbrev cX8_tryLayer : ByteArray := prog_10_method_9_code
def yX8_tryLayer : MethodName := ⟨RX8, "tryLayer", "(LGiftTable$Party;LGiftTable$Heaps;I)V"⟩
def RX9 : String := "GiftTable$Wedding"
def TX9 : u_T := fun k => match k with
  | 0 => ("GiftTable$Wedding", "held", "Z", false)
  | 1 => ("GiftTable$Wedding", "value", "I", false)
  | 2 => ("GiftTable$Wedding", "drawn", "I", false)
  | 3 => ("GiftTable$Wedding", "heap", "[I", true)
  | 4 => ("GiftTable$Wedding", "broughtBy", "[I", true)
  | _ => ("GiftTable$Wedding", "struck", "[I", true)
def tyX9 : Nat → FieldType := fun k => match k with
  | 0 => .boolean
  | 1 => .int
  | 2 => .int
  | 3 => .array .int
  | 4 => .array .int
  | _ => .array .int
abbrev wsX90 : List Cond := u_ws RX9 TX9 6
theorem nmX9 : ∀ a, a < 6 → ∀ b, b < 6 → a ≠ b → (TX9 a).2.1 ≠ (TX9 b).2.1 := by decide +kernel
theorem tyX9_ok : ∀ k, k < 6 → parseFieldDescriptor (TX9 k).2.2.1 = some (tyX9 k) := by decide +kernel
abbrev cX9_init : ByteArray := prog_11_method_1_code
def yX9_init : MethodName := ⟨RX9, "<init>", "()V"⟩
abbrev cX9_hold : ByteArray := prog_11_method_2_code
def yX9_hold : MethodName := ⟨RX9, "hold", "(LGiftTable$State;LGiftTable$Party;LGiftTable$Heaps;I)V"⟩
abbrev cX9_choose : ByteArray := prog_11_method_3_code
def yX9_choose : MethodName := ⟨RX9, "choose", "(LGiftTable$State;LGiftTable$Party;LGiftTable$Heaps;IZ)I"⟩
abbrev cX9_bestByList : ByteArray := prog_11_method_4_code
def yX9_bestByList : MethodName := ⟨RX9, "bestByList", "(LGiftTable$State;LGiftTable$Party;LGiftTable$Heaps;I)I"⟩
abbrev cX9_drawnChoice : ByteArray := prog_11_method_5_code
def yX9_drawnChoice : MethodName := ⟨RX9, "drawnChoice", "(LGiftTable$Party;I)I"⟩
def RX10 : String := "GiftTable"
def TX10 : u_T := fun k => match k with
  | 0 => ("GiftTable", "state", "LGiftTable$State;", true)
  | 1 => ("GiftTable", "images", "[LGiftTable$State;", true)
  | 2 => ("GiftTable", "imageKept", "[Z", true)
  | 3 => ("GiftTable", "tape", "[I", true)
  | 4 => ("GiftTable", "tapeLength", "I", false)
  | 5 => ("GiftTable", "faultAt", "I", false)
  | 6 => ("GiftTable", "lateGuests", "I", false)
  | 7 => ("GiftTable", "refusedBy", "I", false)
  | 8 => ("GiftTable", "refusals", "[I", true)
  | 9 => ("GiftTable", "version", "I", false)
  | 10 => ("GiftTable", "told", "[I", true)
  | 11 => ("GiftTable", "reader", "LGiftTable$Reader;", true)
  | 12 => ("GiftTable", "heaps", "LGiftTable$Heaps;", true)
  | 13 => ("GiftTable", "party", "LGiftTable$Party;", true)
  | 14 => ("GiftTable", "meanHeap", "LGiftTable$Mean;", true)
  | 15 => ("GiftTable", "speaking", "LGiftTable$Together;", true)
  | 16 => ("GiftTable", "blindWay", "LGiftTable$Blind;", true)
  | 17 => ("GiftTable", "quiet", "LGiftTable$Quiet;", true)
  | 18 => ("GiftTable", "latest", "LGiftTable$Wedding;", true)
  | _ => ("GiftTable", "passing", "LGiftTable$Wedding;", true)
def tyX10 : Nat → FieldType := fun k => match k with
  | 0 => .object "GiftTable$State"
  | 1 => .array (.object "GiftTable$State")
  | 2 => .array .boolean
  | 3 => .array .int
  | 4 => .int
  | 5 => .int
  | 6 => .int
  | 7 => .int
  | 8 => .array .int
  | 9 => .int
  | 10 => .array .int
  | 11 => .object "GiftTable$Reader"
  | 12 => .object "GiftTable$Heaps"
  | 13 => .object "GiftTable$Party"
  | 14 => .object "GiftTable$Mean"
  | 15 => .object "GiftTable$Together"
  | 16 => .object "GiftTable$Blind"
  | 17 => .object "GiftTable$Quiet"
  | 18 => .object "GiftTable$Wedding"
  | _ => .object "GiftTable$Wedding"
abbrev wsX100 : List Cond := u_ws RX10 TX10 20
theorem nmX10 : ∀ a, a < 20 → ∀ b, b < 20 → a ≠ b → (TX10 a).2.1 ≠ (TX10 b).2.1 := by decide +kernel
theorem tyX10_ok : ∀ k, k < 20 → parseFieldDescriptor (TX10 k).2.2.1 = some (tyX10 k) := by decide +kernel
abbrev cX10_init : ByteArray := prog_1_method_1_code
def yX10_init : MethodName := ⟨RX10, "<init>", "()V"⟩
abbrev cX10_thing : ByteArray := prog_1_method_2_code
def yX10_thing : MethodName := ⟨RX10, "thing", "(IIII)I"⟩
abbrev cX10_put : ByteArray := prog_1_method_3_code
def yX10_put : MethodName := ⟨RX10, "put", "(III)I"⟩
abbrev cX10_instead : ByteArray := prog_1_method_4_code
def yX10_instead : MethodName := ⟨RX10, "instead", "(III)I"⟩
abbrev cX10_bonus : ByteArray := prog_1_method_5_code
def yX10_bonus : MethodName := ⟨RX10, "bonus", "(III)I"⟩
abbrev cX10_guest : ByteArray := prog_1_method_6_code
def yX10_guest : MethodName := ⟨RX10, "guest", "(IIII)I"⟩
abbrev cX10_always : ByteArray := prog_1_method_7_code
def yX10_always : MethodName := ⟨RX10, "always", "(II)I"⟩
abbrev cX10_sees : ByteArray := prog_1_method_8_code
def yX10_sees : MethodName := ⟨RX10, "sees", "(II)I"⟩
abbrev cX10_pair : ByteArray := prog_1_method_9_code
def yX10_pair : MethodName := ⟨RX10, "pair", "(II)I"⟩
abbrev cX10_coin : ByteArray := prog_1_method_10_code
def yX10_coin : MethodName := ⟨RX10, "coin", "(I)I"⟩
abbrev cX10_of : ByteArray := prog_1_method_11_code
def yX10_of : MethodName := ⟨RX10, "of", "(II)I"⟩
abbrev cX10_feed : ByteArray := prog_1_method_12_code
def yX10_feed : MethodName := ⟨RX10, "feed", "(IIIII)I"⟩
abbrev cX10_end : ByteArray := prog_1_method_13_code
def yX10_end : MethodName := ⟨RX10, "end", "(I)I"⟩
abbrev cX10_row : ByteArray := prog_1_method_14_code
def yX10_row : MethodName := ⟨RX10, "row", "()I"⟩
abbrev cX10_late : ByteArray := prog_1_method_15_code
def yX10_late : MethodName := ⟨RX10, "late", "()I"⟩
abbrev cX10_text : ByteArray := prog_1_method_16_code
def yX10_text : MethodName := ⟨RX10, "text", "()I"⟩
abbrev cX10_fault : ByteArray := prog_1_method_17_code
def yX10_fault : MethodName := ⟨RX10, "fault", "()I"⟩
abbrev cX10_way : ByteArray := prog_1_method_18_code
def yX10_way : MethodName := ⟨RX10, "way", "(II)I"⟩
abbrev cX10_weight : ByteArray := prog_1_method_19_code
def yX10_weight : MethodName := ⟨RX10, "weight", "(III)I"⟩
abbrev cX10_heap : ByteArray := prog_1_method_20_code
def yX10_heap : MethodName := ⟨RX10, "heap", "(IIIII)I"⟩
abbrev cX10_mean : ByteArray := prog_1_method_21_code
def yX10_mean : MethodName := ⟨RX10, "mean", "(I)I"⟩
abbrev cX10_none : ByteArray := prog_1_method_22_code
def yX10_none : MethodName := ⟨RX10, "none", "(I)I"⟩
abbrev cX10_together : ByteArray := prog_1_method_23_code
def yX10_together : MethodName := ⟨RX10, "together", "(I)I"⟩
abbrev cX10_brings : ByteArray := prog_1_method_24_code
def yX10_brings : MethodName := ⟨RX10, "brings", "(I)I"⟩
abbrev cX10_dear : ByteArray := prog_1_method_25_code
def yX10_dear : MethodName := ⟨RX10, "dear", "(II)I"⟩
abbrev cX10_loss : ByteArray := prog_1_method_26_code
def yX10_loss : MethodName := ⟨RX10, "loss", "()I"⟩
abbrev cX10_blind : ByteArray := prog_1_method_27_code
def yX10_blind : MethodName := ⟨RX10, "blind", "(II)I"⟩
abbrev cX10_rule : ByteArray := prog_1_method_28_code
def yX10_rule : MethodName := ⟨RX10, "rule", "(I)I"⟩
abbrev cX10_letters : ByteArray := prog_1_method_29_code
def yX10_letters : MethodName := ⟨RX10, "letters", "(IIII)I"⟩
abbrev cX10_rest : ByteArray := prog_1_method_30_code
def yX10_rest : MethodName := ⟨RX10, "rest", "(I)I"⟩
abbrev cX10_find : ByteArray := prog_1_method_31_code
def yX10_find : MethodName := ⟨RX10, "find", "(I)I"⟩
abbrev cX10_wed : ByteArray := prog_1_method_32_code
def yX10_wed : MethodName := ⟨RX10, "wed", "(I)I"⟩
abbrev cX10_had : ByteArray := prog_1_method_33_code
def yX10_had : MethodName := ⟨RX10, "had", "(I)I"⟩
abbrev cX10_brought : ByteArray := prog_1_method_34_code
def yX10_brought : MethodName := ⟨RX10, "brought", "(I)I"⟩
abbrev cX10_round : ByteArray := prog_1_method_35_code
def yX10_round : MethodName := ⟨RX10, "round", "(II)I"⟩
abbrev cX10_change : ByteArray := prog_1_method_36_code
def yX10_change : MethodName := ⟨RX10, "change", "(IIIIII)I"⟩
abbrev cX10_sure : ByteArray := prog_1_method_37_code
def yX10_sure : MethodName := ⟨RX10, "sure", "(I)I"⟩
abbrev cX10_image : ByteArray := prog_1_method_38_code
def yX10_image : MethodName := ⟨RX10, "image", "(I)I"⟩
abbrev cX10_back : ByteArray := prog_1_method_39_code
def yX10_back : MethodName := ⟨RX10, "back", "(I)I"⟩
abbrev cX10_count : ByteArray := prog_1_method_40_code
def yX10_count : MethodName := ⟨RX10, "count", "(I)I"⟩
abbrev cX10_status : ByteArray := prog_1_method_41_code
def yX10_status : MethodName := ⟨RX10, "status", "()I"⟩
abbrev cX10_within : ByteArray := prog_1_method_42_code
def yX10_within : MethodName := ⟨RX10, "within", "(III)Z"⟩
abbrev cX10_thingFactCanBe : ByteArray := prog_1_method_43_code
def yX10_thingFactCanBe : MethodName := ⟨RX10, "thingFactCanBe", "(II)Z"⟩
abbrev cX10_guestCanBe : ByteArray := prog_1_method_44_code
def yX10_guestCanBe : MethodName := ⟨RX10, "guestCanBe", "(IIII)Z"⟩
abbrev cX10_refuse : ByteArray := prog_1_method_45_code
def yX10_refuse : MethodName := ⟨RX10, "refuse", "(I)I"⟩
abbrev cX10_accept : ByteArray := prog_1_method_46_code
def yX10_accept : MethodName := ⟨RX10, "accept", "(I)I"⟩
abbrev cX10_altered : ByteArray := prog_1_method_47_code
def yX10_altered : MethodName := ⟨RX10, "altered", "(I)I"⟩
abbrev cX10_feedFour : ByteArray := prog_1_method_48_code
def yX10_feedFour : MethodName := ⟨RX10, "feedFour", "(I)V"⟩
abbrev cX10_giverOf : ByteArray := prog_1_method_49_code
def yX10_giverOf : MethodName := ⟨RX10, "giverOf", "(I)I"⟩
abbrev cX10_isChoice : ByteArray := prog_1_method_50_code
def yX10_isChoice : MethodName := ⟨RX10, "isChoice", "(I)Z"⟩
abbrev cX10_fillTold : ByteArray := prog_1_method_51_code
def yX10_fillTold : MethodName := ⟨RX10, "fillTold", "(IIII)V"⟩
abbrev cX10_tellHeap : ByteArray := prog_1_method_52_code
def yX10_tellHeap : MethodName := ⟨RX10, "tellHeap", "(IIII)Z"⟩
abbrev cX10_workMean : ByteArray := prog_1_method_53_code
def yX10_workMean : MethodName := ⟨RX10, "workMean", "()V"⟩
abbrev cX10_speakOut : ByteArray := prog_1_method_54_code
def yX10_speakOut : MethodName := ⟨RX10, "speakOut", "()V"⟩
abbrev cX10_settle : ByteArray := prog_1_method_55_code
def yX10_settle : MethodName := ⟨RX10, "settle", "()V"⟩
def RX11 : String := "GiftTableModel"
def TX11 : u_T := fun k => match k with
  | 0 => ("GiftTableModel", "thrown", "I", false)
  | 1 => ("GiftTableModel", "status", "I", false)
  | 2 => ("GiftTableModel", "refusals", "[I", true)
  | 3 => ("GiftTableModel", "row", "[I", true)
  | 4 => ("GiftTableModel", "images", "[I", true)
  | 5 => ("GiftTableModel", "isKept", "[Z", true)
  | 6 => ("GiftTableModel", "late", "I", false)
  | 7 => ("GiftTableModel", "tape", "[I", true)
  | 8 => ("GiftTableModel", "taped", "I", false)
  | 9 => ("GiftTableModel", "from", "I", false)
  | 10 => ("GiftTableModel", "to", "I", false)
  | 11 => ("GiftTableModel", "sort", "I", false)
  | 12 => ("GiftTableModel", "worth", "J", false)
  | 13 => ("GiftTableModel", "fault", "I", false)
  | 14 => ("GiftTableModel", "bad", "Z", false)
  | 15 => ("GiftTableModel", "nClauses", "I", false)
  | 16 => ("GiftTableModel", "nClause", "[I", true)
  | 17 => ("GiftTableModel", "nCode", "I", false)
  | 18 => ("GiftTableModel", "nOp", "[I", true)
  | 19 => ("GiftTableModel", "nArg", "[I", true)
  | 20 => ("GiftTableModel", "nLeaves", "I", false)
  | 21 => ("GiftTableModel", "pile", "[I", true)
  | 22 => ("GiftTableModel", "pileAt", "[I", true)
  | 23 => ("GiftTableModel", "piled", "I", false)
  | 24 => ("GiftTableModel", "opened", "I", false)
  | 25 => ("GiftTableModel", "words", "[J", true)
  | 26 => ("GiftTableModel", "law", "I", false)
  | 27 => ("GiftTableModel", "set", "[J", true)
  | 28 => ("GiftTableModel", "rest", "[J", true)
  | 29 => ("GiftTableModel", "broken", "Z", false)
  | 30 => ("GiftTableModel", "value", "J", false)
  | 31 => ("GiftTableModel", "sum", "J", false)
  | 32 => ("GiftTableModel", "weights", "[I", true)
  | 33 => ("GiftTableModel", "heaps", "[I", true)
  | 34 => ("GiftTableModel", "numbers", "[I", true)
  | 35 => ("GiftTableModel", "worths", "[I", true)
  | 36 => ("GiftTableModel", "doubled", "[I", true)
  | 37 => ("GiftTableModel", "missing", "[I", true)
  | 38 => ("GiftTableModel", "spare", "[I", true)
  | 39 => ("GiftTableModel", "lacks", "[I", true)
  | 40 => ("GiftTableModel", "now", "[J", true)
  | 41 => ("GiftTableModel", "then", "[J", true)
  | 42 => ("GiftTableModel", "whole", "[J", true)
  | 43 => ("GiftTableModel", "part", "[J", true)
  | 44 => ("GiftTableModel", "tried", "[J", true)
  | 45 => ("GiftTableModel", "money", "[I", true)
  | 46 => ("GiftTableModel", "ways", "[I", true)
  | 47 => ("GiftTableModel", "waysBest", "I", false)
  | 48 => ("GiftTableModel", "took", "[I", true)
  | 49 => ("GiftTableModel", "firstHeap", "I", false)
  | 50 => ("GiftTableModel", "tenths", "[I", true)
  | 51 => ("GiftTableModel", "bestTenths", "[I", true)
  | 52 => ("GiftTableModel", "powers", "[J", true)
  | 53 => ("GiftTableModel", "shares", "[J", true)
  | 54 => ("GiftTableModel", "blindBest", "J", false)
  | 55 => ("GiftTableModel", "bounds", "[I", true)
  | 56 => ("GiftTableModel", "bestBounds", "[I", true)
  | 57 => ("GiftTableModel", "rests", "[I", true)
  | 58 => ("GiftTableModel", "restHeap", "I", false)
  | 59 => ("GiftTableModel", "restMoney", "I", false)
  | 60 => ("GiftTableModel", "rounds", "I", false)
  | 61 => ("GiftTableModel", "state", "J", false)
  | 62 => ("GiftTableModel", "brought", "[I", true)
  | 63 => ("GiftTableModel", "wedGuests", "I", false)
  | 64 => ("GiftTableModel", "wedHeap", "I", false)
  | 65 => ("GiftTableModel", "wedMoney", "I", false)
  | 66 => ("GiftTableModel", "choices", "[I", true)
  | 67 => ("GiftTableModel", "drawnHeap", "I", false)
  | _ => ("GiftTableModel", "drawnMoney", "I", false)
def tyX11 : Nat → FieldType := fun k => match k with
  | 0 => .int
  | 1 => .int
  | 2 => .array .int
  | 3 => .array .int
  | 4 => .array .int
  | 5 => .array .boolean
  | 6 => .int
  | 7 => .array .int
  | 8 => .int
  | 9 => .int
  | 10 => .int
  | 11 => .int
  | 12 => .long
  | 13 => .int
  | 14 => .boolean
  | 15 => .int
  | 16 => .array .int
  | 17 => .int
  | 18 => .array .int
  | 19 => .array .int
  | 20 => .int
  | 21 => .array .int
  | 22 => .array .int
  | 23 => .int
  | 24 => .int
  | 25 => .array .long
  | 26 => .int
  | 27 => .array .long
  | 28 => .array .long
  | 29 => .boolean
  | 30 => .long
  | 31 => .long
  | 32 => .array .int
  | 33 => .array .int
  | 34 => .array .int
  | 35 => .array .int
  | 36 => .array .int
  | 37 => .array .int
  | 38 => .array .int
  | 39 => .array .int
  | 40 => .array .long
  | 41 => .array .long
  | 42 => .array .long
  | 43 => .array .long
  | 44 => .array .long
  | 45 => .array .int
  | 46 => .array .int
  | 47 => .int
  | 48 => .array .int
  | 49 => .int
  | 50 => .array .int
  | 51 => .array .int
  | 52 => .array .long
  | 53 => .array .long
  | 54 => .long
  | 55 => .array .int
  | 56 => .array .int
  | 57 => .array .int
  | 58 => .int
  | 59 => .int
  | 60 => .int
  | 61 => .long
  | 62 => .array .int
  | 63 => .int
  | 64 => .int
  | 65 => .int
  | 66 => .array .int
  | 67 => .int
  | _ => .int
abbrev wsX110 : List Cond := u_ws RX11 TX11 69
theorem nmX11 : ∀ a, a < 69 → ∀ b, b < 69 → a ≠ b → (TX11 a).2.1 ≠ (TX11 b).2.1 := by decide +kernel
theorem tyX11_ok : ∀ k, k < 69 → parseFieldDescriptor (TX11 k).2.2.1 = some (tyX11 k) := by decide +kernel
abbrev cX11_init : ByteArray := prog_13_method_1_code
def yX11_init : MethodName := ⟨RX11, "<init>", "()V"⟩
abbrev cX11_in : ByteArray := prog_13_method_3_code
def yX11_in : MethodName := ⟨RX11, "in", "(JJJ)Z"⟩
abbrev cX11_tell : ByteArray := prog_13_method_4_code
def yX11_tell : MethodName := ⟨RX11, "tell", "(I)I"⟩
abbrev cX11_was : ByteArray := prog_13_method_5_code
def yX11_was : MethodName := ⟨RX11, "was", "(I)I"⟩
abbrev cX11_change : ByteArray := prog_13_method_6_code
def yX11_change : MethodName := ⟨RX11, "change", "(II)I"⟩
abbrev cX11_image : ByteArray := prog_13_method_7_code
def yX11_image : MethodName := ⟨RX11, "image", "(I)I"⟩
abbrev cX11_back : ByteArray := prog_13_method_8_code
def yX11_back : MethodName := ⟨RX11, "back", "(I)I"⟩
abbrev cX11_isThing : ByteArray := prog_13_method_9_code
def yX11_isThing : MethodName := ⟨RX11, "isThing", "(I)Z"⟩
abbrev cX11_isGuest : ByteArray := prog_13_method_10_code
def yX11_isGuest : MethodName := ⟨RX11, "isGuest", "(I)Z"⟩
abbrev cX11_isText : ByteArray := prog_13_method_11_code
def yX11_isText : MethodName := ⟨RX11, "isText", "(I)Z"⟩
abbrev cX11_fits : ByteArray := prog_13_method_12_code
def yX11_fits : MethodName := ⟨RX11, "fits", "(II)Z"⟩
abbrev cX11_ofThing : ByteArray := prog_13_method_13_code
def yX11_ofThing : MethodName := ⟨RX11, "ofThing", "(II)I"⟩
abbrev cX11_ofGuest : ByteArray := prog_13_method_14_code
def yX11_ofGuest : MethodName := ⟨RX11, "ofGuest", "(II)I"⟩
abbrev cX11_thing : ByteArray := prog_13_method_15_code
def yX11_thing : MethodName := ⟨RX11, "thing", "(IIII)I"⟩
abbrev cX11_put : ByteArray := prog_13_method_16_code
def yX11_put : MethodName := ⟨RX11, "put", "(III)I"⟩
abbrev cX11_instead : ByteArray := prog_13_method_17_code
def yX11_instead : MethodName := ⟨RX11, "instead", "(III)I"⟩
abbrev cX11_bonus : ByteArray := prog_13_method_18_code
def yX11_bonus : MethodName := ⟨RX11, "bonus", "(III)I"⟩
abbrev cX11_isNew : ByteArray := prog_13_method_19_code
def yX11_isNew : MethodName := ⟨RX11, "isNew", "(IIII)Z"⟩
abbrev cX11_add : ByteArray := prog_13_method_20_code
def yX11_add : MethodName := ⟨RX11, "add", "(IIII)V"⟩
abbrev cX11_guest : ByteArray := prog_13_method_21_code
def yX11_guest : MethodName := ⟨RX11, "guest", "(IIII)I"⟩
abbrev cX11_always : ByteArray := prog_13_method_22_code
def yX11_always : MethodName := ⟨RX11, "always", "(II)I"⟩
abbrev cX11_sees : ByteArray := prog_13_method_23_code
def yX11_sees : MethodName := ⟨RX11, "sees", "(II)I"⟩
abbrev cX11_pair : ByteArray := prog_13_method_24_code
def yX11_pair : MethodName := ⟨RX11, "pair", "(II)I"⟩
abbrev cX11_coin : ByteArray := prog_13_method_25_code
def yX11_coin : MethodName := ⟨RX11, "coin", "(I)I"⟩
abbrev cX11_isGiver : ByteArray := prog_13_method_26_code
def yX11_isGiver : MethodName := ⟨RX11, "isGiver", "(I)Z"⟩
abbrev cX11_pays : ByteArray := prog_13_method_27_code
def yX11_pays : MethodName := ⟨RX11, "pays", "(I)I"⟩
abbrev cX11_givers : ByteArray := prog_13_method_28_code
def yX11_givers : MethodName := ⟨RX11, "givers", "()I"⟩
abbrev cX11_of : ByteArray := prog_13_method_29_code
def yX11_of : MethodName := ⟨RX11, "of", "(II)I"⟩
abbrev cX11_row : ByteArray := prog_13_method_30_code
def yX11_row : MethodName := ⟨RX11, "row", "()I"⟩
abbrev cX11_late : ByteArray := prog_13_method_31_code
def yX11_late : MethodName := ⟨RX11, "late", "()I"⟩
abbrev cX11_four : ByteArray := prog_13_method_32_code
def yX11_four : MethodName := ⟨RX11, "four", "(I)V"⟩
abbrev cX11_feed : ByteArray := prog_13_method_33_code
def yX11_feed : MethodName := ⟨RX11, "feed", "(IIIII)I"⟩
abbrev cX11_end : ByteArray := prog_13_method_34_code
def yX11_end : MethodName := ⟨RX11, "end", "(I)I"⟩
abbrev cX11_isSmall : ByteArray := prog_13_method_35_code
def yX11_isSmall : MethodName := ⟨RX11, "isSmall", "(I)Z"⟩
abbrev cX11_isDigit : ByteArray := prog_13_method_36_code
def yX11_isDigit : MethodName := ⟨RX11, "isDigit", "(I)Z"⟩
abbrev cX11_begin : ByteArray := prog_13_method_37_code
def yX11_begin : MethodName := ⟨RX11, "begin", "()V"⟩
abbrev cX11_next : ByteArray := prog_13_method_38_code
def yX11_next : MethodName := ⟨RX11, "next", "()V"⟩
abbrev cX11_isWord : ByteArray := prog_13_method_39_code
def yX11_isWord : MethodName := ⟨RX11, "isWord", "(J)Z"⟩
abbrev cX11_isSign : ByteArray := prog_13_method_40_code
def yX11_isSign : MethodName := ⟨RX11, "isSign", "(I)Z"⟩
abbrev cX11_must : ByteArray := prog_13_method_41_code
def yX11_must : MethodName := ⟨RX11, "must", "(Z)V"⟩
abbrev cX11_fault : ByteArray := prog_13_method_43_code
def yX11_fault : MethodName := ⟨RX11, "fault", "()I"⟩
abbrev cX11_emit : ByteArray := prog_13_method_44_code
def yX11_emit : MethodName := ⟨RX11, "emit", "(II)V"⟩
abbrev cX11_push : ByteArray := prog_13_method_45_code
def yX11_push : MethodName := ⟨RX11, "push", "(II)V"⟩
abbrev cX11_binds : ByteArray := prog_13_method_46_code
def yX11_binds : MethodName := ⟨RX11, "binds", "(I)I"⟩
abbrev cX11_settle : ByteArray := prog_13_method_47_code
def yX11_settle : MethodName := ⟨RX11, "settle", "(I)V"⟩
abbrev cX11_inner : ByteArray := prog_13_method_48_code
def yX11_inner : MethodName := ⟨RX11, "inner", "()I"⟩
abbrev cX11_isCompared : ByteArray := prog_13_method_49_code
def yX11_isCompared : MethodName := ⟨RX11, "isCompared", "()Z"⟩
abbrev cX11_partAt : ByteArray := prog_13_method_50_code
def yX11_partAt : MethodName := ⟨RX11, "partAt", "()I"⟩
abbrev cX11_openBracket : ByteArray := prog_13_method_51_code
def yX11_openBracket : MethodName := ⟨RX11, "openBracket", "(I)V"⟩
abbrev cX11_leaf : ByteArray := prog_13_method_52_code
def yX11_leaf : MethodName := ⟨RX11, "leaf", "(ZII)V"⟩
abbrev cX11_readPart : ByteArray := prog_13_method_53_code
def yX11_readPart : MethodName := ⟨RX11, "readPart", "()I"⟩
abbrev cX11_readPlain : ByteArray := prog_13_method_54_code
def yX11_readPlain : MethodName := ⟨RX11, "readPlain", "()I"⟩
abbrev cX11_behindSum : ByteArray := prog_13_method_55_code
def yX11_behindSum : MethodName := ⟨RX11, "behindSum", "(Z)I"⟩
abbrev cX11_behindTest : ByteArray := prog_13_method_56_code
def yX11_behindTest : MethodName := ⟨RX11, "behindTest", "()I"⟩
abbrev cX11_readExpression : ByteArray := prog_13_method_57_code
def yX11_readExpression : MethodName := ⟨RX11, "readExpression", "(Z)V"⟩
abbrev cX11_readClause : ByteArray := prog_13_method_58_code
def yX11_readClause : MethodName := ⟨RX11, "readClause", "()V"⟩
abbrev cX11_text : ByteArray := prog_13_method_59_code
def yX11_text : MethodName := ⟨RX11, "text", "()I"⟩
abbrev cX11_way : ByteArray := prog_13_method_60_code
def yX11_way : MethodName := ⟨RX11, "way", "(II)I"⟩
abbrev cX11_reckon : ByteArray := prog_13_method_61_code
def yX11_reckon : MethodName := ⟨RX11, "reckon", "(IJJ)J"⟩
abbrev cX11_reckonAll : ByteArray := prog_13_method_62_code
def yX11_reckonAll : MethodName := ⟨RX11, "reckonAll", "(II)V"⟩
abbrev cX11_isSo : ByteArray := prog_13_method_63_code
def yX11_isSo : MethodName := ⟨RX11, "isSo", "(I)Z"⟩
abbrev cX11_asks : ByteArray := prog_13_method_64_code
def yX11_asks : MethodName := ⟨RX11, "asks", "(III)I"⟩
abbrev cX11_canPay : ByteArray := prog_13_method_65_code
def yX11_canPay : MethodName := ⟨RX11, "canPay", "(II)Z"⟩
abbrev cX11_weigh : ByteArray := prog_13_method_66_code
def yX11_weigh : MethodName := ⟨RX11, "weigh", "(III)I"⟩
abbrev cX11_weight : ByteArray := prog_13_method_67_code
def yX11_weight : MethodName := ⟨RX11, "weight", "(III)I"⟩
abbrev cX11_coinOf : ByteArray := prog_13_method_68_code
def yX11_coinOf : MethodName := ⟨RX11, "coinOf", "(I)I"⟩
abbrev cX11_scale : ByteArray := prog_13_method_69_code
def yX11_scale : MethodName := ⟨RX11, "scale", "(I)I"⟩
abbrev cX11_many : ByteArray := prog_13_method_70_code
def yX11_many : MethodName := ⟨RX11, "many", "(II)I"⟩
abbrev cX11_worthOf : ByteArray := prog_13_method_71_code
def yX11_worthOf : MethodName := ⟨RX11, "worthOf", "(I)I"⟩
abbrev cX11_all : ByteArray := prog_13_method_72_code
def yX11_all : MethodName := ⟨RX11, "all", "([I)I"⟩
abbrev cX11_findWorths : ByteArray := prog_13_method_73_code
def yX11_findWorths : MethodName := ⟨RX11, "findWorths", "()V"⟩
abbrev cX11_isHeap : ByteArray := prog_13_method_74_code
def yX11_isHeap : MethodName := ⟨RX11, "isHeap", "(IIII)Z"⟩
abbrev cX11_heap : ByteArray := prog_13_method_75_code
def yX11_heap : MethodName := ⟨RX11, "heap", "(IIIII)I"⟩
abbrev cX11_may : ByteArray := prog_13_method_76_code
def yX11_may : MethodName := ⟨RX11, "may", "(II)Z"⟩
abbrev cX11_moneyOf : ByteArray := prog_13_method_77_code
def yX11_moneyOf : MethodName := ⟨RX11, "moneyOf", "(II)I"⟩
abbrev cX11_step : ByteArray := prog_13_method_78_code
def yX11_step : MethodName := ⟨RX11, "step", "(I)I"⟩
abbrev cX11_setTo : ByteArray := prog_13_method_79_code
def yX11_setTo : MethodName := ⟨RX11, "setTo", "([JJ)V"⟩
abbrev cX11_times : ByteArray := prog_13_method_80_code
def yX11_times : MethodName := ⟨RX11, "times", "([JJ)V"⟩
abbrev cX11_add_ : ByteArray := prog_13_method_81_code
def yX11_add_ : MethodName := ⟨RX11, "add", "([JI[JIJ)V"⟩
abbrev cX11_compare : ByteArray := prog_13_method_82_code
def yX11_compare : MethodName := ⟨RX11, "compare", "([J[J)I"⟩
abbrev cX11_ratio : ByteArray := prog_13_method_83_code
def yX11_ratio : MethodName := ⟨RX11, "ratio", "()I"⟩
abbrev cX11_weighAll : ByteArray := prog_13_method_84_code
def yX11_weighAll : MethodName := ⟨RX11, "weighAll", "(I)I"⟩
abbrev cX11_spread : ByteArray := prog_13_method_85_code
def yX11_spread : MethodName := ⟨RX11, "spread", "()V"⟩
abbrev cX11_spreadOne : ByteArray := prog_13_method_86_code
def yX11_spreadOne : MethodName := ⟨RX11, "spreadOne", "(I)V"⟩
abbrev cX11_addMoney : ByteArray := prog_13_method_87_code
def yX11_addMoney : MethodName := ⟨RX11, "addMoney", "()V"⟩
abbrev cX11_meanOf : ByteArray := prog_13_method_88_code
def yX11_meanOf : MethodName := ⟨RX11, "meanOf", "(I)I"⟩
abbrev cX11_mean : ByteArray := prog_13_method_89_code
def yX11_mean : MethodName := ⟨RX11, "mean", "(I)I"⟩
abbrev cX11_none : ByteArray := prog_13_method_90_code
def yX11_none : MethodName := ⟨RX11, "none", "(I)I"⟩
abbrev cX11_gather : ByteArray := prog_13_method_91_code
def yX11_gather : MethodName := ⟨RX11, "gather", "(II)V"⟩
abbrev cX11_gatherOne : ByteArray := prog_13_method_92_code
def yX11_gatherOne : MethodName := ⟨RX11, "gatherOne", "(III)V"⟩
abbrev cX11_greatest : ByteArray := prog_13_method_93_code
def yX11_greatest : MethodName := ⟨RX11, "greatest", "()I"⟩
abbrev cX11_findFirst : ByteArray := prog_13_method_94_code
def yX11_findFirst : MethodName := ⟨RX11, "findFirst", "(I)V"⟩
abbrev cX11_isOnWay : ByteArray := prog_13_method_95_code
def yX11_isOnWay : MethodName := ⟨RX11, "isOnWay", "(IIII)Z"⟩
abbrev cX11_together : ByteArray := prog_13_method_96_code
def yX11_together : MethodName := ⟨RX11, "together", "(I)I"⟩
abbrev cX11_brings : ByteArray := prog_13_method_97_code
def yX11_brings : MethodName := ⟨RX11, "brings", "(I)I"⟩
abbrev cX11_dear : ByteArray := prog_13_method_98_code
def yX11_dear : MethodName := ⟨RX11, "dear", "(II)I"⟩
abbrev cX11_loss : ByteArray := prog_13_method_99_code
def yX11_loss : MethodName := ⟨RX11, "loss", "()I"⟩
abbrev cX11_over : ByteArray := prog_13_method_100_code
def yX11_over : MethodName := ⟨RX11, "over", "(II)J"⟩
abbrev cX11_findShares : ByteArray := prog_13_method_101_code
def yX11_findShares : MethodName := ⟨RX11, "findShares", "(I)V"⟩
abbrev cX11_blindMean : ByteArray := prog_13_method_102_code
def yX11_blindMean : MethodName := ⟨RX11, "blindMean", "(I)J"⟩
abbrev cX11_findBlind : ByteArray := prog_13_method_103_code
def yX11_findBlind : MethodName := ⟨RX11, "findBlind", "(I)V"⟩
abbrev cX11_tryTenths : ByteArray := prog_13_method_104_code
def yX11_tryTenths : MethodName := ⟨RX11, "tryTenths", "(I)V"⟩
abbrev cX11_blind : ByteArray := prog_13_method_105_code
def yX11_blind : MethodName := ⟨RX11, "blind", "(II)I"⟩
abbrev cX11_byRule : ByteArray := prog_13_method_106_code
def yX11_byRule : MethodName := ⟨RX11, "byRule", "(I)I"⟩
abbrev cX11_ruleValue : ByteArray := prog_13_method_107_code
def yX11_ruleValue : MethodName := ⟨RX11, "ruleValue", "()I"⟩
abbrev cX11_nextBounds : ByteArray := prog_13_method_108_code
def yX11_nextBounds : MethodName := ⟨RX11, "nextBounds", "()Z"⟩
abbrev cX11_rule : ByteArray := prog_13_method_109_code
def yX11_rule : MethodName := ⟨RX11, "rule", "(I)I"⟩
abbrev cX11_letters : ByteArray := prog_13_method_110_code
def yX11_letters : MethodName := ⟨RX11, "letters", "(IIII)I"⟩
abbrev cX11_goesOn : ByteArray := prog_13_method_111_code
def yX11_goesOn : MethodName := ⟨RX11, "goesOn", "(I)Z"⟩
abbrev cX11_findRest : ByteArray := prog_13_method_112_code
def yX11_findRest : MethodName := ⟨RX11, "findRest", "()V"⟩
abbrev cX11_rest : ByteArray := prog_13_method_113_code
def yX11_rest : MethodName := ⟨RX11, "rest", "(I)I"⟩
abbrev cX11_find : ByteArray := prog_13_method_114_code
def yX11_find : MethodName := ⟨RX11, "find", "(I)I"⟩
abbrev cX11_draw : ByteArray := prog_13_method_115_code
def yX11_draw : MethodName := ⟨RX11, "draw", "(I)I"⟩
abbrev cX11_best : ByteArray := prog_13_method_116_code
def yX11_best : MethodName := ⟨RX11, "best", "(II)I"⟩
abbrev cX11_drawnBy : ByteArray := prog_13_method_117_code
def yX11_drawnBy : MethodName := ⟨RX11, "drawnBy", "(I)I"⟩
abbrev cX11_drawAll : ByteArray := prog_13_method_118_code
def yX11_drawAll : MethodName := ⟨RX11, "drawAll", "()I"⟩
abbrev cX11_wed : ByteArray := prog_13_method_119_code
def yX11_wed : MethodName := ⟨RX11, "wed", "(I)I"⟩
abbrev cX11_had : ByteArray := prog_13_method_120_code
def yX11_had : MethodName := ⟨RX11, "had", "(I)I"⟩
abbrev cX11_brought : ByteArray := prog_13_method_121_code
def yX11_brought : MethodName := ⟨RX11, "brought", "(I)I"⟩
abbrev cX11_round : ByteArray := prog_13_method_122_code
def yX11_round : MethodName := ⟨RX11, "round", "(II)I"⟩
abbrev cX11_change_ : ByteArray := prog_13_method_123_code
def yX11_change_ : MethodName := ⟨RX11, "change", "(IIIIII)I"⟩
abbrev cX11_likedBy : ByteArray := prog_13_method_124_code
def yX11_likedBy : MethodName := ⟨RX11, "likedBy", "(I)I"⟩
abbrev cX11_sure : ByteArray := prog_13_method_125_code
def yX11_sure : MethodName := ⟨RX11, "sure", "(I)I"⟩
abbrev cX11_count : ByteArray := prog_13_method_126_code
def yX11_count : MethodName := ⟨RX11, "count", "(I)I"⟩
abbrev cX11_status : ByteArray := prog_13_method_127_code
def yX11_status : MethodName := ⟨RX11, "status", "()I"⟩
def RJx145de : String := "java/io/Serializable"
def TJx145de : u_T := fun k => match k with
  | _ => ("", "", "", false)
def tyJx145de : Nat → FieldType := fun k => match k with
  | _ => .int
abbrev wsJx145de0 : List Cond := u_ws RJx145de TJx145de 0
theorem nmJx145de : ∀ a, a < 0 → ∀ b, b < 0 → a ≠ b → (TJx145de a).2.1 ≠ (TJx145de b).2.1 := by decide +kernel
theorem tyJx145de_ok : ∀ k, k < 0 → parseFieldDescriptor (TJx145de k).2.2.1 = some (tyJx145de k) := by decide +kernel
def RJx9f9b0 : String := "java/lang/CharSequence"
def TJx9f9b0 : u_T := fun k => match k with
  | _ => ("", "", "", false)
def tyJx9f9b0 : Nat → FieldType := fun k => match k with
  | _ => .int
abbrev wsJx9f9b00 : List Cond := u_ws RJx9f9b0 TJx9f9b0 0
theorem nmJx9f9b0 : ∀ a, a < 0 → ∀ b, b < 0 → a ≠ b → (TJx9f9b0 a).2.1 ≠ (TJx9f9b0 b).2.1 := by decide +kernel
theorem tyJx9f9b0_ok : ∀ k, k < 0 → parseFieldDescriptor (TJx9f9b0 k).2.2.1 = some (tyJx9f9b0 k) := by decide +kernel
def RJx8e188 : String := "java/lang/Cloneable"
def TJx8e188 : u_T := fun k => match k with
  | _ => ("", "", "", false)
def tyJx8e188 : Nat → FieldType := fun k => match k with
  | _ => .int
abbrev wsJx8e1880 : List Cond := u_ws RJx8e188 TJx8e188 0
theorem nmJx8e188 : ∀ a, a < 0 → ∀ b, b < 0 → a ≠ b → (TJx8e188 a).2.1 ≠ (TJx8e188 b).2.1 := by decide +kernel
theorem tyJx8e188_ok : ∀ k, k < 0 → parseFieldDescriptor (TJx8e188 k).2.2.1 = some (tyJx8e188 k) := by decide +kernel
def RJxb160c : String := "java/lang/Comparable"
def TJxb160c : u_T := fun k => match k with
  | _ => ("", "", "", false)
def tyJxb160c : Nat → FieldType := fun k => match k with
  | _ => .int
abbrev wsJxb160c0 : List Cond := u_ws RJxb160c TJxb160c 0
theorem nmJxb160c : ∀ a, a < 0 → ∀ b, b < 0 → a ≠ b → (TJxb160c a).2.1 ≠ (TJxb160c b).2.1 := by decide +kernel
theorem tyJxb160c_ok : ∀ k, k < 0 → parseFieldDescriptor (TJxb160c k).2.2.1 = some (tyJxb160c k) := by decide +kernel
def RJ9 : String := "java/lang/Math"
def TJ9 : u_T := fun k => match k with
  | _ => ("", "", "", false)
def tyJ9 : Nat → FieldType := fun k => match k with
  | _ => .int
abbrev wsJ90 : List Cond := u_ws RJ9 TJ9 0
theorem nmJ9 : ∀ a, a < 0 → ∀ b, b < 0 → a ≠ b → (TJ9 a).2.1 ≠ (TJ9 b).2.1 := by decide +kernel
theorem tyJ9_ok : ∀ k, k < 0 → parseFieldDescriptor (TJ9 k).2.2.1 = some (tyJ9 k) := by decide +kernel
abbrev cJ9_max_7cf53 : ByteArray := prog_15_method_65_code
def yJ9_max_7cf53 : MethodName := ⟨RJ9, "max", "(II)I"⟩
abbrev cJ9_max_f86c9 : ByteArray := prog_15_method_66_code
def yJ9_max_f86c9 : MethodName := ⟨RJ9, "max", "(JJ)J"⟩
abbrev cJ9_min_7cf53 : ByteArray := prog_15_method_69_code
def yJ9_min_7cf53 : MethodName := ⟨RJ9, "min", "(II)I"⟩
abbrev cJ9_min_f86c9 : ByteArray := prog_15_method_70_code
def yJ9_min_f86c9 : MethodName := ⟨RJ9, "min", "(JJ)J"⟩
def RJ0 : String := "java/lang/String"
def TJ0 : u_T := fun k => match k with
  | _ => ("", "", "", false)
def tyJ0 : Nat → FieldType := fun k => match k with
  | _ => .int
abbrev wsJ00 : List Cond := u_ws RJ0 TJ0 0
theorem nmJ0 : ∀ a, a < 0 → ∀ b, b < 0 → a ≠ b → (TJ0 a).2.1 ≠ (TJ0 b).2.1 := by decide +kernel
theorem tyJ0_ok : ∀ k, k < 0 → parseFieldDescriptor (TJ0 k).2.2.1 = some (tyJ0 k) := by decide +kernel
abbrev cJ0_charAt_5068e : ByteArray := prog_16_method_56_code
def yJ0_charAt_5068e : MethodName := ⟨RJ0, "charAt", "(I)C"⟩
abbrev cJ0_isLatin1_aae02 : ByteArray := prog_16_method_154_code
def yJ0_isLatin1_aae02 : MethodName := ⟨RJ0, "isLatin1", "()Z"⟩
abbrev cJ0_checkIndex_df160 : ByteArray := prog_16_method_155_code
def yJ0_checkIndex_df160 : MethodName := ⟨RJ0, "checkIndex", "(II)V"⟩
def RJ1 : String := "java/lang/StringLatin1"
def TJ1 : u_T := fun k => match k with
  | _ => ("", "", "", false)
def tyJ1 : Nat → FieldType := fun k => match k with
  | _ => .int
abbrev wsJ10 : List Cond := u_ws RJ1 TJ1 0
theorem nmJ1 : ∀ a, a < 0 → ∀ b, b < 0 → a ≠ b → (TJ1 a).2.1 ≠ (TJ1 b).2.1 := by decide +kernel
theorem tyJ1_ok : ∀ k, k < 0 → parseFieldDescriptor (TJ1 k).2.2.1 = some (tyJ1 k) := by decide +kernel
abbrev cJ1_charAt_3b067 : ByteArray := prog_17_method_2_code
def yJ1_charAt_3b067 : MethodName := ⟨RJ1, "charAt", "([BI)C"⟩
def RJ2 : String := "java/lang/StringUTF16"
def TJ2 : u_T := fun k => match k with
  | _ => ("", "", "", false)
def tyJ2 : Nat → FieldType := fun k => match k with
  | _ => .int
abbrev wsJ20 : List Cond := u_ws RJ2 TJ2 0
theorem nmJ2 : ∀ a, a < 0 → ∀ b, b < 0 → a ≠ b → (TJ2 a).2.1 ≠ (TJ2 b).2.1 := by decide +kernel
theorem tyJ2_ok : ∀ k, k < 0 → parseFieldDescriptor (TJ2 k).2.2.1 = some (tyJ2 k) := by decide +kernel
abbrev cJ2_getChar_3b067 : ByteArray := prog_18_method_5_code
def yJ2_getChar_3b067 : MethodName := ⟨RJ2, "getChar", "([BI)C"⟩
abbrev cJ2_length_9d52b : ByteArray := prog_18_method_6_code
def yJ2_length_9d52b : MethodName := ⟨RJ2, "length", "([B)I"⟩
abbrev cJ2_charAt_3b067 : ByteArray := prog_18_method_83_code
def yJ2_charAt_3b067 : MethodName := ⟨RJ2, "charAt", "([BI)C"⟩
abbrev cJ2_checkIndex_2214a : ByteArray := prog_18_method_91_code
def yJ2_checkIndex_2214a : MethodName := ⟨RJ2, "checkIndex", "(I[B)V"⟩
def RJ10 : String := "java/lang/System"
def TJ10 : u_T := fun k => match k with
  | _ => ("", "", "", false)
def tyJ10 : Nat → FieldType := fun k => match k with
  | _ => .int
abbrev wsJ100 : List Cond := u_ws RJ10 TJ10 0
theorem nmJ10 : ∀ a, a < 0 → ∀ b, b < 0 → a ≠ b → (TJ10 a).2.1 ≠ (TJ10 b).2.1 := by decide +kernel
theorem tyJ10_ok : ∀ k, k < 0 → parseFieldDescriptor (TJ10 k).2.2.1 = some (tyJ10 k) := by decide +kernel
def RJxfd54e : String := "java/lang/constant/Constable"
def TJxfd54e : u_T := fun k => match k with
  | _ => ("", "", "", false)
def tyJxfd54e : Nat → FieldType := fun k => match k with
  | _ => .int
abbrev wsJxfd54e0 : List Cond := u_ws RJxfd54e TJxfd54e 0
theorem nmJxfd54e : ∀ a, a < 0 → ∀ b, b < 0 → a ≠ b → (TJxfd54e a).2.1 ≠ (TJxfd54e b).2.1 := by decide +kernel
theorem tyJxfd54e_ok : ∀ k, k < 0 → parseFieldDescriptor (TJxfd54e k).2.2.1 = some (tyJxfd54e k) := by decide +kernel
def RJx3cf43 : String := "java/lang/constant/ConstantDesc"
def TJx3cf43 : u_T := fun k => match k with
  | _ => ("", "", "", false)
def tyJx3cf43 : Nat → FieldType := fun k => match k with
  | _ => .int
abbrev wsJx3cf430 : List Cond := u_ws RJx3cf43 TJx3cf43 0
theorem nmJx3cf43 : ∀ a, a < 0 → ∀ b, b < 0 → a ≠ b → (TJx3cf43 a).2.1 ≠ (TJx3cf43 b).2.1 := by decide +kernel
theorem tyJx3cf43_ok : ∀ k, k < 0 → parseFieldDescriptor (TJx3cf43 k).2.2.1 = some (tyJx3cf43 k) := by decide +kernel
def RJ7 : String := "java/util/Arrays"
def TJ7 : u_T := fun k => match k with
  | _ => ("", "", "", false)
def tyJ7 : Nat → FieldType := fun k => match k with
  | _ => .int
abbrev wsJ70 : List Cond := u_ws RJ7 TJ7 0
theorem nmJ7 : ∀ a, a < 0 → ∀ b, b < 0 → a ≠ b → (TJ7 a).2.1 ≠ (TJ7 b).2.1 := by decide +kernel
theorem tyJ7_ok : ∀ k, k < 0 → parseFieldDescriptor (TJ7 k).2.2.1 = some (tyJ7 k) := by decide +kernel
abbrev cJ7_rangeCheck_23922 : ByteArray := prog_20_method_30_code
def yJ7_rangeCheck_23922 : MethodName := ⟨RJ7, "rangeCheck", "(III)V"⟩
abbrev cJ7_fill_d0a16 : ByteArray := prog_20_method_101_code
def yJ7_fill_d0a16 : MethodName := ⟨RJ7, "fill", "([JJ)V"⟩
abbrev cJ7_fill_bad5a : ByteArray := prog_20_method_102_code
def yJ7_fill_bad5a : MethodName := ⟨RJ7, "fill", "([JIIJ)V"⟩
abbrev cJ7_fill_53178 : ByteArray := prog_20_method_103_code
def yJ7_fill_53178 : MethodName := ⟨RJ7, "fill", "([II)V"⟩
abbrev cJ7_fill_fda19 : ByteArray := prog_20_method_104_code
def yJ7_fill_fda19 : MethodName := ⟨RJ7, "fill", "([IIII)V"⟩
abbrev cJ7_copyOf_59c91 : ByteArray := prog_20_method_123_code
def yJ7_copyOf_59c91 : MethodName := ⟨RJ7, "copyOf", "([II)[I"⟩
def RJ3 : String := "jdk/internal/util/Preconditions"
def TJ3 : u_T := fun k => match k with
  | _ => ("", "", "", false)
def tyJ3 : Nat → FieldType := fun k => match k with
  | _ => .int
abbrev wsJ30 : List Cond := u_ws RJ3 TJ3 0
theorem nmJ3 : ∀ a, a < 0 → ∀ b, b < 0 → a ≠ b → (TJ3 a).2.1 ≠ (TJ3 b).2.1 := by decide +kernel
theorem tyJ3_ok : ∀ k, k < 0 → parseFieldDescriptor (TJ3 k).2.2.1 = some (tyJ3 k) := by decide +kernel
abbrev cJ3_checkIndex_8e157 : ByteArray := prog_21_method_11_code
def yJ3_checkIndex_8e157 : MethodName := ⟨RJ3, "checkIndex", "(IILjava/util/function/BiFunction;)I"⟩
def RL : String := "GiftTableLaw"
abbrev cL_law : ByteArray := code
abbrev vwCl : List vw_C := [(RX0, TX0, 12), (RX1, TX1, 19), (RX2, TX2, 9), (RX3, TX3, 13), (RX4, TX4, 14), (RX5, TX5, 10), (RX6, TX6, 14), (RX7, TX7, 2), (RX8, TX8, 8), (RX9, TX9, 6), (RX10, TX10, 20), (RX11, TX11, 69)]
end
section
/-! THE SMALL MACHINE: a store of numbered cells, a step of one instruction over it, as a function. No word of the claim's own stands here. -/
abbrev gt_S : Type := (Nat → Nat → Int32) × (Nat → Nat → Int64) × (Nat → Nat → Option Nat) × List (Nat × Nat)
abbrev gt_K : Type := (FieldType × Nat × List Nat) ⊕ (Nat × List (Option (Option Nat)))
/-- the fixed cells: what each is, and how many -/
abbrev gt_KS : Type := (Nat → Option gt_K) × Nat
abbrev gt_L : Type := List (Nat × Value)
abbrev gt_F : Type := Nat × gt_L × List Value × gt_S
abbrev gt_I : Type := Nat × Instr × Nat
abbrev gt_G : Type := List Value → gt_S → Option (Option Value × gt_S)
/-- fields, int constants, long constants, calls (0 virtual, 1 static, 2 special; 0 nothing, 1 an int, 2 a long, 3 a reference comes back; how many words it takes; what it does), each by its pool number; special steps, by their place -/
abbrev gt_E : Type := List (Nat × Nat × Nat × Nat) × List (Nat × Int32) × List (Nat × Int64) × List (Nat × Nat × Nat × Nat × gt_G) × List (Nat × (gt_L → List Value → gt_S → Option gt_F))
def gt_len : Instr → Nat
  | .bipush _ | .ldc _ | .iload _ | .lload _ | .aload _ | .istore _ | .lstore _ | .astore _ => 2
  | .sipush _ | .ldc_w _ | .ldc2_w _ | .iinc _ _ | .goto _ | .ifCond _ _ | .if_icmp _ _ | .ifnull _ | .ifnonnull _ | .getfield _ | .putfield _ | .invokevirtual _ | .invokestatic _ | .invokespecial _ => 3
  | _ => 1
def gt_lok (q : gt_I) : Bool := match q.2.1 with
  | .tableswitch _ _ _ _ => true
  | .lookupswitch _ _ => true
  | i => Nat.beq q.2.2 (gt_len i)
def gt_dok (cc : ByteArray) (cs : List gt_I) : Prop := ∀ q ∈ cs, decode cc q.1 = .ok (q.2.1, q.2.2) ∧ gt_lok q = true
theorem gt_dok_of {cc : ByteArray} {cs : List gt_I} (h : cs.all (fun q => decide (decode cc q.1 = .ok (q.2.1, q.2.2)) && gt_lok q) = true) : gt_dok cc cs := by
  intro q hq
  have := List.all_eq_true.mp h q hq
  simp only [Bool.and_eq_true, decide_eq_true_eq] at this
  exact this
def gt_isN : Cond → Bool
  | .fieldLinkNest .. => true
  | .methodLinkNest .. => true
  | _ => false
/-- the tables' words of nest mates -/
def gt_N : List Cond := lw_tbl.filter gt_isN
/-- the words that every method has: those of the tables that last -/
def gt_T : List Cond := lw_tbl.filter goodWord
theorem gt_T_in {w : Cond} (h : w ∈ lw_tbl) (g : goodWord w = true) : w ∈ gt_T := List.mem_filter.mpr ⟨h, g⟩
/-! a word of the tables, by its place -/
theorem gt_Ti (i : Nat) {w : Cond} (h : tables_1[i]? = some w) (g : goodWord w = true) : w ∈ gt_T := gt_T_in (List.mem_append_right _ (List.mem_of_getElem? h)) g
theorem gt_Ni (i : Nat) {w : Cond} (h : tables_1[i]? = some w) (g : gt_isN w = true) : w ∈ gt_N := List.mem_filter.mpr ⟨List.mem_append_right _ (List.mem_of_getElem? h), g⟩
theorem gt_Pi (i : Nat) {w : Cond} (h : (k2_sels lw_privs)[i]? = some w) (g : goodWord w = true) : w ∈ gt_T := gt_T_in (List.mem_append_left _ (List.mem_of_getElem? h)) g
/-! a word of one of the nine tables, by its place there -/
def gt_nth : List Cond → Nat → Option Cond
  | [], _ => none
  | a :: _, 0 => some a
  | _ :: t, n + 1 => gt_nth t n
theorem gt_nth_mem : ∀ {l : List Cond} {n : Nat} {w : Cond}, gt_nth l n = some w → w ∈ l
  | [], _, _, h => by cases h
  | a :: t, 0, w, h => by cases h; exact List.mem_cons_self
  | a :: t, n + 1, w, h => List.mem_cons_of_mem _ (gt_nth_mem h)
theorem gt_T9 {w : Cond} (h : w ∈ tables_1) (g : goodWord w = true) : w ∈ gt_T := gt_T_in (List.mem_append_right _ h) g
theorem gt_t1 (i : Nat) {w : Cond} (h : gt_nth tables_1_1 i = some w) (g : goodWord w = true) : w ∈ gt_T := gt_T9 (List.mem_append_left _ (gt_nth_mem h)) g
theorem gt_t2 (i : Nat) {w : Cond} (h : gt_nth tables_1_2 i = some w) (g : goodWord w = true) : w ∈ gt_T := gt_T9 (List.mem_append_right _ (List.mem_append_left _ (gt_nth_mem h))) g
theorem gt_t3 (i : Nat) {w : Cond} (h : gt_nth tables_1_3 i = some w) (g : goodWord w = true) : w ∈ gt_T := gt_T9 (List.mem_append_right _ (List.mem_append_right _ (List.mem_append_left _ (gt_nth_mem h)))) g
theorem gt_t4 (i : Nat) {w : Cond} (h : gt_nth tables_1_4 i = some w) (g : goodWord w = true) : w ∈ gt_T := gt_T9 (List.mem_append_right _ (List.mem_append_right _ (List.mem_append_right _ (List.mem_append_left _ (gt_nth_mem h))))) g
theorem gt_t5 (i : Nat) {w : Cond} (h : gt_nth tables_1_5 i = some w) (g : goodWord w = true) : w ∈ gt_T := gt_T9 (List.mem_append_right _ (List.mem_append_right _ (List.mem_append_right _ (List.mem_append_right _ (List.mem_append_left _ (gt_nth_mem h)))))) g
theorem gt_t6 (i : Nat) {w : Cond} (h : gt_nth tables_1_6 i = some w) (g : goodWord w = true) : w ∈ gt_T := gt_T9 (List.mem_append_right _ (List.mem_append_right _ (List.mem_append_right _ (List.mem_append_right _ (List.mem_append_right _ (List.mem_append_left _ (gt_nth_mem h))))))) g
theorem gt_t7 (i : Nat) {w : Cond} (h : gt_nth tables_1_7 i = some w) (g : goodWord w = true) : w ∈ gt_T := gt_T9 (List.mem_append_right _ (List.mem_append_right _ (List.mem_append_right _ (List.mem_append_right _ (List.mem_append_right _ (List.mem_append_right _ (List.mem_append_left _ (gt_nth_mem h)))))))) g
theorem gt_t8 (i : Nat) {w : Cond} (h : gt_nth tables_1_8 i = some w) (g : goodWord w = true) : w ∈ gt_T := gt_T9 (List.mem_append_right _ (List.mem_append_right _ (List.mem_append_right _ (List.mem_append_right _ (List.mem_append_right _ (List.mem_append_right _ (List.mem_append_right _ (List.mem_append_left _ (gt_nth_mem h))))))))) g
theorem gt_t9 (i : Nat) {w : Cond} (h : gt_nth tables_1_9 i = some w) (g : goodWord w = true) : w ∈ gt_T := gt_T9 (List.mem_append_right _ (List.mem_append_right _ (List.mem_append_right _ (List.mem_append_right _ (List.mem_append_right _ (List.mem_append_right _ (List.mem_append_right _ (List.mem_append_right _ (gt_nth_mem h))))))))) g
def gt_nthp : List (MethodName × Nat) → Nat → Option (MethodName × Nat)
  | [], _ => none
  | a :: _, 0 => some a
  | _ :: t, n + 1 => gt_nthp t n
theorem gt_nthp_mem : ∀ {l : List (MethodName × Nat)} {n : Nat} {w : MethodName × Nat}, gt_nthp l n = some w → w ∈ l
  | [], _, _, h => by cases h
  | a :: t, 0, w, h => by cases h; exact List.mem_cons_self
  | a :: t, n + 1, w, h => List.mem_cons_of_mem _ (gt_nthp_mem h)
theorem gt_ps {q : MethodName × Nat} (h : q ∈ lw_privs) : Cond.selects q.1.cls q.1 q.1 ∈ gt_T := gt_T_in (List.mem_append_left _ (List.mem_map.mpr ⟨q, h, rfl⟩)) rfl
theorem gt_p1 (i : Nat) {y : MethodName} {n : Nat} (h : gt_nthp lw_privs_1 i = some (y, n)) : Cond.selects y.cls y y ∈ gt_T := gt_ps (q := (y, n)) (List.mem_append_left _ (gt_nthp_mem h))
theorem gt_p2 (i : Nat) {y : MethodName} {n : Nat} (h : gt_nthp lw_privs_2 i = some (y, n)) : Cond.selects y.cls y y ∈ gt_T := gt_ps (q := (y, n)) (List.mem_append_right _ (List.mem_append_left _ (gt_nthp_mem h)))
theorem gt_p3 (i : Nat) {y : MethodName} {n : Nat} (h : gt_nthp lw_privs_3 i = some (y, n)) : Cond.selects y.cls y y ∈ gt_T := gt_ps (q := (y, n)) (List.mem_append_right _ (List.mem_append_right _ (List.mem_append_left _ (gt_nthp_mem h))))
theorem gt_p4 (i : Nat) {y : MethodName} {n : Nat} (h : gt_nthp lw_privs_4 i = some (y, n)) : Cond.selects y.cls y y ∈ gt_T := gt_ps (q := (y, n)) (List.mem_append_right _ (List.mem_append_right _ (List.mem_append_right _ (List.mem_append_left _ (gt_nthp_mem h)))))
theorem gt_p5 (i : Nat) {y : MethodName} {n : Nat} (h : gt_nthp lw_privs_5 i = some (y, n)) : Cond.selects y.cls y y ∈ gt_T := gt_ps (q := (y, n)) (List.mem_append_right _ (List.mem_append_right _ (List.mem_append_right _ (List.mem_append_right _ (List.mem_append_left _ (gt_nthp_mem h))))))
theorem gt_p6 (i : Nat) {y : MethodName} {n : Nat} (h : gt_nthp lw_privs_6 i = some (y, n)) : Cond.selects y.cls y y ∈ gt_T := gt_ps (q := (y, n)) (List.mem_append_right _ (List.mem_append_right _ (List.mem_append_right _ (List.mem_append_right _ (List.mem_append_right _ (List.mem_append_left _ (gt_nthp_mem h)))))))
theorem gt_p7 (i : Nat) {y : MethodName} {n : Nat} (h : gt_nthp lw_privs_7 i = some (y, n)) : Cond.selects y.cls y y ∈ gt_T := gt_ps (q := (y, n)) (List.mem_append_right _ (List.mem_append_right _ (List.mem_append_right _ (List.mem_append_right _ (List.mem_append_right _ (List.mem_append_right _ (List.mem_append_left _ (gt_nthp_mem h))))))))
theorem gt_p8 (i : Nat) {y : MethodName} {n : Nat} (h : gt_nthp lw_privs_8 i = some (y, n)) : Cond.selects y.cls y y ∈ gt_T := gt_ps (q := (y, n)) (List.mem_append_right _ (List.mem_append_right _ (List.mem_append_right _ (List.mem_append_right _ (List.mem_append_right _ (List.mem_append_right _ (List.mem_append_right _ (gt_nthp_mem h))))))))
def gt_fok (Ts : List Cond) (own : String) (cl : List vw_C) (q : Nat × Nat × Nat × Nat) : Prop := ∃ (C : String) (T : u_T) (N : Nat) (ty : Nat → FieldType), cl[q.2.1]? = some (C, T, N) ∧ q.2.2.1 < N ∧ (∀ w ∈ u_ws C T N, w ∈ Ts) ∧ (∀ k, k < N → parseFieldDescriptor (T k).2.2.1 = some (ty k)) ∧ (∀ a, a < N → ∀ b, b < N → a ≠ b → (T a).2.1 ≠ (T b).2.1) ∧
  (Cond.fieldLink own q.1 (T q.2.2.1).1 (T q.2.2.1).2.1 (T q.2.2.1).2.2.1 ∈ Ts ∨ ∃ host, Cond.fieldLinkNest own q.1 (T q.2.2.1).1 (T q.2.2.1).2.1 (T q.2.2.1).2.2.1 host ∈ Ts) ∧
  (q.2.2.2 = 0 ∨ ((T q.2.2.1).2.2.2 = false ∧ ((q.2.2.2 = 1 ∧ ty q.2.2.1 = .int) ∨ (q.2.2.2 = 2 ∧ ty q.2.2.1 = .boolean) ∨ (q.2.2.2 = 3 ∧ ty q.2.2.1 = .long))))
theorem gt_fall {Ts : List Cond} {own : String} {cl : List vw_C} {q : Nat × Nat × Nat × Nat} {t : List (Nat × Nat × Nat × Nat)} (h : gt_fok Ts own cl q) (ht : ∀ q ∈ t, gt_fok Ts own cl q) : ∀ x ∈ q :: t, gt_fok Ts own cl x := List.forall_mem_cons.mpr ⟨h, ht⟩
theorem gt_4 {a b c d : Cond} (ha : a ∈ gt_T) (hb : b ∈ gt_T) (hc : c ∈ gt_T) (hd : d ∈ gt_T) : ∀ w ∈ ([a, b, c, d] : List Cond), w ∈ gt_T := List.forall_mem_cons.mpr ⟨ha, List.forall_mem_cons.mpr ⟨hb, List.forall_mem_cons.mpr ⟨hc, List.forall_mem_cons.mpr ⟨hd, fun _ h => absurd h List.not_mem_nil⟩⟩⟩⟩
end
section
def gt_u {α : Type} (f : Nat → Nat → α) (j k : Nat) (v : α) : Nat → Nat → α := fun a b => if a = j then (if b = k then v else f a b) else f a b
def gt_lk {α : Type} : List (Nat × α) → Nat → Option α
  | [], _ => none
  | q :: t, n => bif Nat.beq q.1 n then some q.2 else gt_lk t n
/-- what a cell is: the fixed ones by the list, behind them three for each text -/
def gt_kd (ks : gt_KS) (tx : List (Nat × Nat)) (j : Nat) : Option gt_K :=
  if j < ks.2 then ks.1 j else
    match tx[(j - ks.2) / 3]? with
    | none => none
    | some ab => if (j - ks.2) % 3 = 0 then some (.inr (7, [some (some (j + 1)), some (some (j + 2))])) else if (j - ks.2) % 3 = 1 then some (.inl (.int, ab.1, [])) else some (.inl (.int, ab.2, []))
def gt_rf (rs : List Nat) (σ : gt_S) (j k : Nat) : Option Nat := match rs with
  | [] => σ.2.2.1 j k
  | r => r[k]?
def gt_sv (ad : Nat → Nat) (σ : gt_S) (j k : Nat) : Option (Option Nat) → Value
  | none => .int (σ.1 j k)
  | some none => .long (σ.2.1 j k)
  | some (some r) => .ref (ad r)
def gt_fv (ad : Nat → Nat) (σ : gt_S) (j : Nat) : Nat → List (Option (Option Nat)) → List Value
  | _, [] => []
  | k, s :: t => gt_sv ad σ j k s :: gt_fv ad σ j (k + 1) t
def gt_ct (ad : Nat → Nat) (σ : gt_S) (j : Nat) (ty : FieldType) (rs : List Nat) : (Nat → Int32) ⊕ (Nat → Int64) ⊕ (Nat → UInt32) ⊕ (Nat → UInt64) ⊕ (Nat → Option Nat) := match ty with
  | .long => .inr (.inl (σ.2.1 j))
  | .object _ => .inr (.inr (.inr (.inr (fun k => (gt_rf rs σ j k).map ad))))
  | .array _ => .inr (.inr (.inr (.inr (fun k => (gt_rf rs σ j k).map ad))))
  | _ => .inl (σ.1 j)
def gt_c (cA : FieldType → Nat) (ad : Nat → Nat) (σ : gt_S) (j : Nat) : gt_K → va_E
  | .inl q => .inl (cA q.1, q.2.1, gt_ct ad σ j q.1 q.2.2)
  | .inr q => .inr (q.1, gt_fv ad σ j 0 q.2)
def gt_n (ks : gt_KS) (tx : List (Nat × Nat)) : Nat := ks.2 + 3 * tx.length
def gt_w (ks : gt_KS) (cA : FieldType → Nat) (ad : Nat → Nat) (σ : gt_S) : va_W := (List.range (gt_n ks σ.2.2.2)).map fun j => (ad j, match gt_kd ks σ.2.2.2 j with
  | some k => gt_c cA ad σ j k
  | none => .inr (0, []))
theorem gt_kd_lt {ks : gt_KS} {tx : List (Nat × Nat)} {j : Nat} {k : gt_K} (h : gt_kd ks tx j = some k) : j < gt_n ks tx := by
  unfold gt_kd at h
  unfold gt_n
  split at h
  · omega
  · split at h
    · cases h
    · rename_i q
      have := (List.getElem?_eq_some_iff.mp q).1
      omega
theorem gt_w_at {ks : gt_KS} {cA : FieldType → Nat} {ad : Nat → Nat} {σ : gt_S} {j : Nat} {k : gt_K} (h : gt_kd ks σ.2.2.2 j = some k) : (gt_w ks cA ad σ)[j]? = some (ad j, gt_c cA ad σ j k) := by
  have hl := gt_kd_lt h
  unfold gt_w
  rw [List.getElem?_map, List.getElem?_range hl]
  simp [h]
theorem gt_fv_congr {ad : Nat → Nat} {σ σ' : gt_S} {j : Nat} (h1 : σ'.1 j = σ.1 j) (h2 : σ'.2.1 j = σ.2.1 j) : ∀ (sl : List (Option (Option Nat))) (k : Nat), gt_fv ad σ' j k sl = gt_fv ad σ j k sl
  | [], _ => rfl
  | s :: t, k => by
    unfold gt_fv
    rw [gt_fv_congr h1 h2 t (k + 1)]
    congr 1
    rcases s with _ | _ | r
    · simp [gt_sv, h1]
    · simp [gt_sv, h2]
    · simp [gt_sv]
theorem gt_c_congr {cA : FieldType → Nat} {ad : Nat → Nat} {σ σ' : gt_S} {j : Nat} (h1 : σ'.1 j = σ.1 j) (h2 : σ'.2.1 j = σ.2.1 j) (h3 : σ'.2.2.1 j = σ.2.2.1 j) (k : gt_K) : gt_c cA ad σ' j k = gt_c cA ad σ j k := by
  rcases k with ⟨ty, n, rs⟩ | ⟨ci, sl⟩
  · have hr : gt_rf rs σ' j = gt_rf rs σ j := by
      funext k
      unfold gt_rf
      split
      · rw [h3]
      · rfl
    unfold gt_c gt_ct
    dsimp only
    rw [h1, h2, hr]
  · unfold gt_c
    dsimp only
    rw [gt_fv_congr h1 h2]
theorem gt_w_set {ks : gt_KS} {cA : FieldType → Nat} {ad : Nat → Nat} {σ σ' : gt_S} {j : Nat} {k : gt_K} (ht : σ'.2.2.2 = σ.2.2.2) (hne : ∀ i, i ≠ j → σ'.1 i = σ.1 i ∧ σ'.2.1 i = σ.2.1 i ∧ σ'.2.2.1 i = σ.2.2.1 i) (h : gt_kd ks σ.2.2.2 j = some k) : (gt_w ks cA ad σ).set j (ad j, gt_c cA ad σ' j k) = gt_w ks cA ad σ' := by
  have hl := gt_kd_lt h
  have hlen : (gt_w ks cA ad σ).length = gt_n ks σ.2.2.2 := by simp [gt_w]
  apply List.ext_getElem?
  intro i
  by_cases hij : i = j
  · subst hij
    rw [List.getElem?_set_self (by rw [hlen]; exact hl), gt_w_at (by rw [ht]; exact h)]
  · rw [List.getElem?_set_ne (Ne.symm hij)]
    unfold gt_w
    rw [ht, List.getElem?_map, List.getElem?_map]
    obtain ⟨a1, a2, a3⟩ := hne i hij
    cases hr : (List.range (gt_n ks σ.2.2.2))[i]? with
    | none => rfl
    | some x =>
      have hx : x = i := by
        obtain ⟨q1, q2⟩ := List.getElem?_eq_some_iff.mp hr
        rw [List.getElem_range] at q2
        exact q2.symm
      subst hx
      cases hk : gt_kd ks σ.2.2.2 x with
      | none => simp [hk]
      | some kk => simp [hk, gt_c_congr a1 a2 a3]
def gt_v (ad : Nat → Nat) : Value → Value
  | .ref j => .ref (ad j)
  | .retAddr k => .ref (ad (1000000 + k))
  | v => v
theorem gt_v_cat (ad : Nat → Nat) (v : Value) : (gt_v ad v).category = v.category := by cases v <;> rfl
def gt_lm (ad : Nat → Nat) (q : Nat × Value) : Nat × Value := (q.1, gt_v ad q.2)
def gt_tys (cA : FieldType → Nat) : List (ClassId × FieldType) := [(cA .int, .int), (cA .long, .long), (cA .boolean, .boolean), (cA (.object "GiftTable$State"), .object "GiftTable$State"), (cA (.object "GiftTable$Text"), .object "GiftTable$Text"), (cA (.array .long), .array .long), (cA (.array .int), .array .int)]
/-! reads and writes -/
def gt_ldI (ks : gt_KS) (σ : gt_S) (j : Nat) (i : Int32) : Option Int32 := match gt_kd ks σ.2.2.2 j with
  | some (.inl (.int, n, _)) => if i < 0 ∨ n ≤ i.toNatClampNeg then none else some (σ.1 j i.toNatClampNeg)
  | _ => none
def gt_ldZ (ks : gt_KS) (σ : gt_S) (j : Nat) (i : Int32) : Option Int32 := match gt_kd ks σ.2.2.2 j with
  | some (.inl (.boolean, n, _)) => if i < 0 ∨ n ≤ i.toNatClampNeg then none else some (σ.1 j i.toNatClampNeg)
  | _ => none
def gt_ldL (ks : gt_KS) (σ : gt_S) (j : Nat) (i : Int32) : Option Int64 := match gt_kd ks σ.2.2.2 j with
  | some (.inl (.long, n, _)) => if i < 0 ∨ n ≤ i.toNatClampNeg then none else some (σ.2.1 j i.toNatClampNeg)
  | _ => none
def gt_isT (ty : FieldType) : Bool := ty == .object "GiftTable$State" || (ty == .object "GiftTable$Text" || (ty == .array .long || ty == .array .int))
def gt_ldR (ks : gt_KS) (σ : gt_S) (j : Nat) (i : Int32) : Option (Option Nat) := match gt_kd ks σ.2.2.2 j with
  | some (.inl (ty, n, rs)) => if gt_isT ty = true then (if i < 0 ∨ n ≤ i.toNatClampNeg then none else some (gt_rf rs σ j i.toNatClampNeg)) else none
  | _ => none
def gt_stI (ks : gt_KS) (σ : gt_S) (j : Nat) (i v : Int32) : Option gt_S := match gt_kd ks σ.2.2.2 j with
  | some (.inl (.int, n, _)) => if i < 0 ∨ n ≤ i.toNatClampNeg then none else some (gt_u σ.1 j i.toNatClampNeg v, σ.2)
  | _ => none
def gt_stZ (ks : gt_KS) (σ : gt_S) (j : Nat) (i v : Int32) : Option gt_S := match gt_kd ks σ.2.2.2 j with
  | some (.inl (.boolean, n, _)) => if i < 0 ∨ n ≤ i.toNatClampNeg then none else some (gt_u σ.1 j i.toNatClampNeg (vp_nar .boolean v), σ.2)
  | _ => none
def gt_stL (ks : gt_KS) (σ : gt_S) (j : Nat) (i : Int32) (v : Int64) : Option gt_S := match gt_kd ks σ.2.2.2 j with
  | some (.inl (.long, n, _)) => if i < 0 ∨ n ≤ i.toNatClampNeg then none else some (σ.1, gt_u σ.2.1 j i.toNatClampNeg v, σ.2.2)
  | _ => none
/-- a text, or none, into a row of texts -/
def gt_stR (ks : gt_KS) (σ : gt_S) (j : Nat) (i : Int32) (v : Option Nat) : Option gt_S := match gt_kd ks σ.2.2.2 j with
  | some (.inl (.object C, n, [])) => if C = "GiftTable$Text" then (if i < 0 ∨ n ≤ i.toNatClampNeg then none else match v with
    | none => some (σ.1, σ.2.1, gt_u σ.2.2.1 j i.toNatClampNeg none, σ.2.2.2)
    | some t => (match gt_kd ks σ.2.2.2 t with
      | some (.inr (ci, _)) => if ci = 7 then some (σ.1, σ.2.1, gt_u σ.2.2.1 j i.toNatClampNeg (some t), σ.2.2.2) else none
      | _ => none)) else none
  | _ => none
def gt_ln (ks : gt_KS) (σ : gt_S) (j : Nat) : Option Nat := match gt_kd ks σ.2.2.2 j with
  | some (.inl (ty, n, _)) => if ty = .int ∨ ty = .long ∨ ty = .boolean then some n else none
  | _ => none
def gt_gf (ks : gt_KS) (σ : gt_S) (j ci k : Nat) : Option Value := match gt_kd ks σ.2.2.2 j with
  | some (.inr q) => if q.1 = ci then (match q.2[k]? with
    | some s => some (gt_sv id σ j k s)
    | none => none) else none
  | _ => none
/-- t: 1 an int field, 2 a boolean one, 3 a long one, 0 none that is written -/
def gt_pfI (ks : gt_KS) (σ : gt_S) (j ci k t : Nat) (x : Int32) : Option gt_S := match gt_kd ks σ.2.2.2 j with
  | some (.inr q) => if q.1 = ci then (match q.2[k]? with
    | some none => if t = 1 ∨ (t = 2 ∧ (x = 0 ∨ x = 1)) then some (gt_u σ.1 j k x, σ.2) else none
    | _ => none) else none
  | _ => none
def gt_pfL (ks : gt_KS) (σ : gt_S) (j ci k t : Nat) (x : Int64) : Option gt_S := match gt_kd ks σ.2.2.2 j with
  | some (.inr q) => if q.1 = ci then (match q.2[k]? with
    | some (some none) => if t = 3 then some (σ.1, gt_u σ.2.1 j k x, σ.2.2) else none
    | _ => none) else none
  | _ => none
/-! the step -/
def gt_i1 {α : Type} (st : List Value) (k : Int32 → List Value → Option α) : Option α := match st with
  | .int x :: r => k x r
  | _ => none
def gt_i2 {α : Type} (st : List Value) (k : Int32 → Int32 → List Value → Option α) : Option α := match st with
  | .int y :: .int x :: r => k x y r
  | _ => none
def gt_l1 {α : Type} (st : List Value) (k : Int64 → List Value → Option α) : Option α := match st with
  | .long x :: r => k x r
  | _ => none
def gt_l2 {α : Type} (st : List Value) (k : Int64 → Int64 → List Value → Option α) : Option α := match st with
  | .long y :: .long x :: r => k x y r
  | _ => none
def gt_li {α : Type} (st : List Value) (k : Int64 → Int32 → List Value → Option α) : Option α := match st with
  | .int y :: .long x :: r => k x y r
  | _ => none
def gt_a1 {α : Type} (st : List Value) (k : Nat → List Value → Option α) : Option α := match st with
  | .ref a :: r => k a r
  | _ => none
def gt_ai {α : Type} (st : List Value) (k : Nat → Int32 → List Value → Option α) : Option α := match st with
  | .int i :: .ref a :: r => k a i r
  | _ => none
def gt_aii {α : Type} (st : List Value) (k : Nat → Int32 → Int32 → List Value → Option α) : Option α := match st with
  | .int x :: .int i :: .ref a :: r => k a i x r
  | _ => none
def gt_ail {α : Type} (st : List Value) (k : Nat → Int32 → Int64 → List Value → Option α) : Option α := match st with
  | .long x :: .int i :: .ref a :: r => k a i x r
  | _ => none
def gt_aiq {α : Type} (st : List Value) (k : Nat → Int32 → Option Nat → List Value → Option α) : Option α := match st with
  | .ref v :: .int i :: .ref a :: r => k a i (some v) r
  | .null :: .int i :: .ref a :: r => k a i none r
  | _ => none
theorem gt_i1_s {α : Type} {st : List Value} {k : Int32 → List Value → Option α} {o : α} (h : gt_i1 st k = some o) : ∃ x r, st = .int x :: r ∧ k x r = some o := by
  unfold gt_i1 at h; split at h
  · exact ⟨_, _, rfl, h⟩
  · cases h
theorem gt_i2_s {α : Type} {st : List Value} {k : Int32 → Int32 → List Value → Option α} {o : α} (h : gt_i2 st k = some o) : ∃ x y r, st = .int y :: .int x :: r ∧ k x y r = some o := by
  unfold gt_i2 at h; split at h
  · exact ⟨_, _, _, rfl, h⟩
  · cases h
theorem gt_l1_s {α : Type} {st : List Value} {k : Int64 → List Value → Option α} {o : α} (h : gt_l1 st k = some o) : ∃ x r, st = .long x :: r ∧ k x r = some o := by
  unfold gt_l1 at h; split at h
  · exact ⟨_, _, rfl, h⟩
  · cases h
theorem gt_l2_s {α : Type} {st : List Value} {k : Int64 → Int64 → List Value → Option α} {o : α} (h : gt_l2 st k = some o) : ∃ x y r, st = .long y :: .long x :: r ∧ k x y r = some o := by
  unfold gt_l2 at h; split at h
  · exact ⟨_, _, _, rfl, h⟩
  · cases h
theorem gt_li_s {α : Type} {st : List Value} {k : Int64 → Int32 → List Value → Option α} {o : α} (h : gt_li st k = some o) : ∃ x y r, st = .int y :: .long x :: r ∧ k x y r = some o := by
  unfold gt_li at h; split at h
  · exact ⟨_, _, _, rfl, h⟩
  · cases h
theorem gt_a1_s {α : Type} {st : List Value} {k : Nat → List Value → Option α} {o : α} (h : gt_a1 st k = some o) : ∃ x r, st = .ref x :: r ∧ k x r = some o := by
  unfold gt_a1 at h; split at h
  · exact ⟨_, _, rfl, h⟩
  · cases h
theorem gt_ai_s {α : Type} {st : List Value} {k : Nat → Int32 → List Value → Option α} {o : α} (h : gt_ai st k = some o) : ∃ a i r, st = .int i :: .ref a :: r ∧ k a i r = some o := by
  unfold gt_ai at h; split at h
  · exact ⟨_, _, _, rfl, h⟩
  · cases h
theorem gt_aii_s {α : Type} {st : List Value} {k : Nat → Int32 → Int32 → List Value → Option α} {o : α} (h : gt_aii st k = some o) : ∃ a i x r, st = .int x :: .int i :: .ref a :: r ∧ k a i x r = some o := by
  unfold gt_aii at h; split at h
  · exact ⟨_, _, _, _, rfl, h⟩
  · cases h
theorem gt_ail_s {α : Type} {st : List Value} {k : Nat → Int32 → Int64 → List Value → Option α} {o : α} (h : gt_ail st k = some o) : ∃ a i x r, st = .long x :: .int i :: .ref a :: r ∧ k a i x r = some o := by
  unfold gt_ail at h; split at h
  · exact ⟨_, _, _, _, rfl, h⟩
  · cases h
theorem gt_aiq_s {α : Type} {st : List Value} {k : Nat → Int32 → Option Nat → List Value → Option α} {o : α} (h : gt_aiq st k = some o) : ∃ a i x r, st = va_rf x :: .int i :: .ref a :: r ∧ k a i x r = some o := by
  unfold gt_aiq at h; split at h
  · exact ⟨_, _, some _, _, rfl, h⟩
  · exact ⟨_, _, none, _, rfl, h⟩
  · cases h
def gt_jp {α : Type} (pc : Nat) (off : Int) (k : Nat → Option α) : Option α := match (pc : Int) + off with
  | .ofNat n => k n
  | .negSucc _ => none
theorem gt_jp_s {α : Type} {pc : Nat} {off : Int} {k : Nat → Option α} {o : α} (h : gt_jp pc off k = some o) : ∃ n : Nat, (pc : Int) + off = (n : Int) ∧ k n = some o := by
  unfold gt_jp at h; split at h
  · rename_i q; exact ⟨_, q, h⟩
  · cases h
/-- one after another: x against lo, lo + 1 .. -/
def gt_ts {α : Type} (x : Int32) (d : Int) (k : Int → Option α) : Int → List Int → Option α
  | _, [] => k d
  | lo, o :: t => if x = Int32.ofInt lo then k o else gt_ts x d k (lo + 1) t
def gt_lsw {α : Type} (x : Int32) (d : Int) (k : Int → Option α) : List (Int × Int) → Option α
  | [] => k d
  | q :: t => if x = Int32.ofInt q.1 then k q.2 else gt_lsw x d k t
def gt_set1 (i : Nat) (v : Value) (lv : gt_L) : gt_L := (i, v) :: lv.filter (fun q => !(q.1 == i) && !(q.1 + 1 == i && q.2.category == 2))
def gt_set2 (i : Nat) (v : Value) (lv : gt_L) : gt_L := (i, v) :: lv.filter (fun q => !(q.1 == i) && (!(q.1 == i + 1) && !(q.1 + 1 == i && q.2.category == 2)))
def gt_ldi {α : Type} (lv : gt_L) (i : Nat) (k : Int32 → Option α) : Option α := match gt_lk lv i with
  | some (.int x) => k x
  | _ => none
def gt_ldl {α : Type} (lv : gt_L) (i : Nat) (k : Int64 → Option α) : Option α := match gt_lk lv i with
  | some (.long x) => k x
  | _ => none
def gt_lda {α : Type} (lv : gt_L) (i : Nat) (k : Value → Option α) : Option α := match gt_lk lv i with
  | some (.ref x) => k (.ref x)
  | some .null => k .null
  | _ => none
theorem gt_ldi_s {α : Type} {lv : gt_L} {i : Nat} {k : Int32 → Option α} {o : α} (h : gt_ldi lv i k = some o) : ∃ x, gt_lk lv i = some (.int x) ∧ k x = some o := by
  unfold gt_ldi at h; split at h
  · rename_i q; exact ⟨_, q, h⟩
  · cases h
theorem gt_ldl_s {α : Type} {lv : gt_L} {i : Nat} {k : Int64 → Option α} {o : α} (h : gt_ldl lv i k = some o) : ∃ x, gt_lk lv i = some (.long x) ∧ k x = some o := by
  unfold gt_ldl at h; split at h
  · rename_i q; exact ⟨_, q, h⟩
  · cases h
theorem gt_lda_s {α : Type} {lv : gt_L} {i : Nat} {k : Value → Option α} {o : α} (h : gt_lda lv i k = some o) : ∃ x, gt_lk lv i = some (va_rf x) ∧ k (va_rf x) = some o := by
  unfold gt_lda at h; split at h
  · rename_i q; exact ⟨some _, q, h⟩
  · rename_i q; exact ⟨none, q, h⟩
  · cases h
/-- a branch -/
def gt_br {α : Type} (c : Jvm.ClassFile.Cond) (x y : Int32) (t f : Option α) : Option α := match c with
  | .eq => if x = y then t else f
  | .ne => if x = y then f else t
  | .lt => if x < y then t else f
  | .ge => if x < y then f else t
  | .gt => if y < x then t else f
  | .le => if y < x then f else t
abbrev gt_C : Type := Nat → gt_L → List Value → gt_S → Option gt_F
def gt_cv {α : Type} (o : Option (Option Value × gt_S)) (k : gt_S → Option α) : Option α := match o with
  | some (none, σ) => k σ
  | _ => none
def gt_ci {α : Type} (o : Option (Option Value × gt_S)) (k : Int32 → gt_S → Option α) : Option α := match o with
  | some (some (.int v), σ) => k v σ
  | _ => none
def gt_cl {α : Type} (o : Option (Option Value × gt_S)) (k : Int64 → gt_S → Option α) : Option α := match o with
  | some (some (.long v), σ) => k v σ
  | _ => none
def gt_ca {α : Type} (o : Option (Option Value × gt_S)) (k : Value → gt_S → Option α) : Option α := match o with
  | some (some (.ref v), σ) => k (.ref v) σ
  | some (some .null, σ) => k .null σ
  | _ => none
/-- a call: by what it gives back -/
def gt_cr (rk : Nat) (o : Option (Option Value × gt_S)) (rest : List Value) (k : List Value → gt_S → Option gt_F) : Option gt_F := match rk with
  | 0 => gt_cv o fun σ => k rest σ
  | 1 => gt_ci o fun v σ => k (.int v :: rest) σ
  | 2 => gt_cl o fun v σ => k (.long v :: rest) σ
  | _ => gt_ca o fun v σ => k (v :: rest) σ
theorem gt_cr_s {rk : Nat} {o : Option (Option Value × gt_S)} {rest : List Value} {k : List Value → gt_S → Option gt_F} {z : gt_F} (h : gt_cr rk o rest k = some z) : ∃ r σ, o = some (r, σ) ∧ k (r.toList ++ rest) σ = some z := by
  unfold gt_cr at h
  split at h
  · unfold gt_cv at h; split at h
    · exact ⟨_, _, rfl, h⟩
    · cases h
  · unfold gt_ci at h; split at h
    · exact ⟨_, _, rfl, h⟩
    · cases h
  · unfold gt_cl at h; split at h
    · exact ⟨_, _, rfl, h⟩
    · cases h
  · unfold gt_ca at h; split at h
    · exact ⟨_, _, rfl, h⟩
    · exact ⟨_, _, rfl, h⟩
    · cases h
def gt_inv (E : gt_E) (kd idx pc : Nat) (lv : gt_L) (st : List Value) (σ : gt_S) (κ : gt_C) : Option gt_F := match gt_lk E.2.2.2.1 idx with
  | some q => if q.1 = kd ∧ q.2.2.1 ≤ st.length ∧ ((st.drop q.2.2.1).map fun v => v.category).sum ≤ 8 then gt_cr q.2.1 (q.2.2.2 (st.take q.2.2.1).reverse σ) (st.drop q.2.2.1) (fun st σ => κ (pc + 3) lv st σ) else none
  | none => none
def gt_stp (ks : gt_KS) (nL : Nat) (E : gt_E) (q : gt_I) (lv : gt_L) (st : List Value) (σ : gt_S) (κ : gt_C) : Option gt_F :=
  match q.2.1 with
  | .iconst n => κ (q.1 + 1) lv (.int (Int32.ofInt n) :: st) σ
  | .bipush n => κ (q.1 + 2) lv (.int (Int8.ofInt n).toInt32 :: st) σ
  | .sipush n => κ (q.1 + 3) lv (.int (Int16.ofInt n).toInt32 :: st) σ
  | .lconst n => κ (q.1 + 1) lv (.long (Int64.ofNat (n : Nat)) :: st) σ
  | .aconst_null => κ (q.1 + 1) lv (.null :: st) σ
  | .ldc_w i => (gt_lk E.2.1 i).bind fun v => κ (q.1 + 3) lv (.int v :: st) σ
  | .ldc i => (gt_lk E.2.1 i).bind fun v => κ (q.1 + 2) lv (.int v :: st) σ
  | .ldc2_w i => (gt_lk E.2.2.1 i).bind fun v => κ (q.1 + 3) lv (.long v :: st) σ
  | .iload_n k => gt_ldi lv k.1 fun x => κ (q.1 + 1) lv (.int x :: st) σ
  | .iload i => gt_ldi lv i fun x => κ (q.1 + 2) lv (.int x :: st) σ
  | .lload_n k => gt_ldl lv k.1 fun x => κ (q.1 + 1) lv (.long x :: st) σ
  | .lload i => gt_ldl lv i fun x => κ (q.1 + 2) lv (.long x :: st) σ
  | .aload_n k => gt_lda lv k.1 fun x => κ (q.1 + 1) lv (x :: st) σ
  | .aload i => gt_lda lv i fun x => κ (q.1 + 2) lv (x :: st) σ
  | .istore_n k => gt_i1 st fun x r => if k.1 < nL then κ (q.1 + 1) (gt_set1 k.1 (.int x) lv) r σ else none
  | .istore i => gt_i1 st fun x r => if i < nL then κ (q.1 + 2) (gt_set1 i (.int x) lv) r σ else none
  | .lstore_n k => gt_l1 st fun x r => if k.1 + 1 < nL then κ (q.1 + 1) (gt_set2 k.1 (.long x) lv) r σ else none
  | .lstore i => gt_l1 st fun x r => if i + 1 < nL then κ (q.1 + 2) (gt_set2 i (.long x) lv) r σ else none
  | .astore_n k => gt_a1 st fun x r => if k.1 < nL then κ (q.1 + 1) (gt_set1 k.1 (.ref x) lv) r σ else none
  | .astore i => gt_a1 st fun x r => if i < nL then κ (q.1 + 2) (gt_set1 i (.ref x) lv) r σ else none
  | .iinc i n => gt_ldi lv i fun x => if i < nL then κ (q.1 + 3) (gt_set1 i (.int (x + Int32.ofInt n)) lv) st σ else none
  | .iadd => gt_i2 st fun x y r => κ (q.1 + 1) lv (.int (x + y) :: r) σ
  | .isub => gt_i2 st fun x y r => κ (q.1 + 1) lv (.int (x - y) :: r) σ
  | .imul => gt_i2 st fun x y r => κ (q.1 + 1) lv (.int (x * y) :: r) σ
  | .iand => gt_i2 st fun x y r => κ (q.1 + 1) lv (.int (x &&& y) :: r) σ
  | .ior => gt_i2 st fun x y r => κ (q.1 + 1) lv (.int (x ||| y) :: r) σ
  | .idiv => gt_i2 st fun x y r => if y = 0 then none else κ (q.1 + 1) lv (.int (x / y) :: r) σ
  | .irem => gt_i2 st fun x y r => if y = 0 then none else κ (q.1 + 1) lv (.int (x - x / y * y) :: r) σ
  | .ineg => gt_i1 st fun x r => κ (q.1 + 1) lv (.int (-x) :: r) σ
  | .ishl => gt_i2 st fun x y r => κ (q.1 + 1) lv (.int (x <<< (y &&& 31)) :: r) σ
  | .ishr => gt_i2 st fun x y r => κ (q.1 + 1) lv (.int (x >>> (y &&& 31)) :: r) σ
  | .ladd => gt_l2 st fun x y r => κ (q.1 + 1) lv (.long (x + y) :: r) σ
  | .lsub => gt_l2 st fun x y r => κ (q.1 + 1) lv (.long (x - y) :: r) σ
  | .lmul => gt_l2 st fun x y r => κ (q.1 + 1) lv (.long (x * y) :: r) σ
  | .land => gt_l2 st fun x y r => κ (q.1 + 1) lv (.long (x &&& y) :: r) σ
  | .lor => gt_l2 st fun x y r => κ (q.1 + 1) lv (.long (x ||| y) :: r) σ
  | .ldiv => gt_l2 st fun x y r => if y = 0 then none else κ (q.1 + 1) lv (.long (x / y) :: r) σ
  | .lrem => gt_l2 st fun x y r => if y = 0 then none else κ (q.1 + 1) lv (.long (x - x / y * y) :: r) σ
  | .lshl => gt_li st fun x y r => κ (q.1 + 1) lv (.long (x <<< (y.toInt64 &&& 63)) :: r) σ
  | .lshr => gt_li st fun x y r => κ (q.1 + 1) lv (.long (x >>> (y.toInt64 &&& 63)) :: r) σ
  | .i2l => gt_i1 st fun x r => κ (q.1 + 1) lv (.long x.toInt64 :: r) σ
  | .l2i => gt_l1 st fun x r => κ (q.1 + 1) lv (.int x.toInt32 :: r) σ
  | .lcmp => gt_l2 st fun x y r => κ (q.1 + 1) lv (.int (lg_cmp x y) :: r) σ
  | .dup => (match st with
    | v :: r => if v.category = 1 then κ (q.1 + 1) lv (v :: v :: r) σ else none
    | _ => none)
  | .dup2 => (match st with
    | v :: w :: r => if v.category = 1 ∧ w.category = 1 then κ (q.1 + 1) lv (v :: w :: v :: w :: r) σ else none
    | _ => none)
  | .pop => (match st with
    | v :: r => if v.category = 1 then κ (q.1 + 1) lv r σ else none
    | _ => none)
  | .goto off => gt_jp q.1 off fun t => κ t lv st σ
  | .ifCond c off => gt_i1 st fun x r => gt_jp q.1 off fun t => gt_br c x 0 (κ t lv r σ) (κ (q.1 + 3) lv r σ)
  | .if_icmp c off => gt_i2 st fun x y r => gt_jp q.1 off fun t => gt_br c x y (κ t lv r σ) (κ (q.1 + 3) lv r σ)
  | .ifnull off => (match st with
    | .null :: r => gt_jp q.1 off fun t => κ t lv r σ
    | .ref _ :: r => κ (q.1 + 3) lv r σ
    | _ => none)
  | .ifnonnull off => (match st with
    | .null :: r => κ (q.1 + 3) lv r σ
    | .ref _ :: r => gt_jp q.1 off fun t => κ t lv r σ
    | _ => none)
  | .tableswitch d lo hi offs => gt_i1 st fun x r => if 0 ≤ lo ∧ hi = lo + offs.size - 1 ∧ hi < 1000 ∧ 0 < offs.size then gt_ts x d (fun o => gt_jp q.1 o fun t => κ t lv r σ) lo offs.toList else none
  | .lookupswitch d ps => gt_i1 st fun x r => if (ps.toList.zip (ps.toList.drop 1)).all (fun (a, next) => a.1 < next.1) = true ∧ ps.toList.all (fun w => decide (-2147483648 ≤ w.1) && decide (w.1 < 2147483648)) = true then gt_lsw x d (fun o => gt_jp q.1 o fun t => κ t lv r σ) ps.toList else none
  | .getfield i => gt_a1 st fun a r => (gt_lk E.1 i).bind fun f => (gt_gf ks σ a f.1 f.2.1).bind fun v => κ (q.1 + 3) lv (v :: r) σ
  | .putfield i => (match st with
    | .int x :: .ref a :: r => (gt_lk E.1 i).bind fun f => (gt_pfI ks σ a f.1 f.2.1 f.2.2 x).bind fun σ' => κ (q.1 + 3) lv r σ'
    | .long x :: .ref a :: r => (gt_lk E.1 i).bind fun f => (gt_pfL ks σ a f.1 f.2.1 f.2.2 x).bind fun σ' => κ (q.1 + 3) lv r σ'
    | _ => none)
  | .iaload => gt_ai st fun a i r => (gt_ldI ks σ a i).bind fun v => κ (q.1 + 1) lv (.int v :: r) σ
  | .baload => gt_ai st fun a i r => (gt_ldZ ks σ a i).bind fun v => κ (q.1 + 1) lv (.int v :: r) σ
  | .laload => gt_ai st fun a i r => (gt_ldL ks σ a i).bind fun v => κ (q.1 + 1) lv (.long v :: r) σ
  | .aaload => gt_ai st fun a i r => (match gt_ldR ks σ a i with
    | some (some v) => κ (q.1 + 1) lv (.ref v :: r) σ
    | some none => κ (q.1 + 1) lv (.null :: r) σ
    | none => none)
  | .iastore => gt_aii st fun a i x r => (gt_stI ks σ a i x).bind fun σ' => κ (q.1 + 1) lv r σ'
  | .bastore => gt_aii st fun a i x r => (gt_stZ ks σ a i x).bind fun σ' => κ (q.1 + 1) lv r σ'
  | .lastore => gt_ail st fun a i x r => (gt_stL ks σ a i x).bind fun σ' => κ (q.1 + 1) lv r σ'
  | .aastore => gt_aiq st fun a i x r => (gt_stR ks σ a i x).bind fun σ' => κ (q.1 + 1) lv r σ'
  | .arraylength => gt_a1 st fun a r => (gt_ln ks σ a).bind fun n => κ (q.1 + 1) lv (.int (Int32.ofNat n) :: r) σ
  | .invokevirtual i => gt_inv E 0 i q.1 lv st σ κ
  | .invokestatic i => gt_inv E 1 i q.1 lv st σ κ
  | .invokespecial i => gt_inv E 2 i q.1 lv st σ κ
  | _ => none
/-! the step is what the machine does -/
theorem gt_lk_mem {α : Type} : ∀ {t : List (Nat × α)} {n : Nat} {v : α}, gt_lk t n = some v → (n, v) ∈ t
  | [], _, _, h => by cases h
  | q :: t, n, v, h => by
    unfold gt_lk at h
    cases hq : Nat.beq q.1 n with
    | true =>
      rw [hq] at h
      cases h
      have := Nat.eq_of_beq_eq_true hq
      subst this
      exact List.mem_cons_self
    | false =>
      rw [hq] at h
      exact List.mem_cons_of_mem _ (gt_lk_mem h)
theorem gt_fv_get (ad : Nat → Nat) (σ : gt_S) (j : Nat) : ∀ (sl : List (Option (Option Nat))) (k0 k : Nat) {x : Option (Option Nat)}, sl[k]? = some x → (gt_fv ad σ j k0 sl)[k]? = some (gt_sv ad σ j (k0 + k) x)
  | [], _, _, _, h => by simp at h
  | y :: t, k0, 0, x, h => by
    simp at h
    subst h
    rfl
  | y :: t, k0, k + 1, x, h => by
    rw [List.getElem?_cons_succ] at h
    unfold gt_fv
    rw [List.getElem?_cons_succ, gt_fv_get ad σ j t (k0 + 1) k h, show k0 + 1 + k = k0 + (k + 1) by omega]
theorem gt_fv_len (ad : Nat → Nat) (σ : gt_S) (j : Nat) : ∀ (sl : List (Option (Option Nat))) (k0 : Nat), (gt_fv ad σ j k0 sl).length = sl.length
  | [], _ => rfl
  | y :: t, k0 => by
    unfold gt_fv
    rw [List.length_cons, gt_fv_len ad σ j t (k0 + 1), List.length_cons]
theorem gt_fv_setI (ad : Nat → Nat) (σ : gt_S) (j : Nat) (v : Int32) : ∀ (sl : List (Option (Option Nat))) (k0 k : Nat), sl[k]? = some none → (gt_fv ad σ j k0 sl).set k (.int v) = gt_fv ad (gt_u σ.1 j (k0 + k) v, σ.2) j k0 sl := by
  intro sl k0 k h
  have hk : k < sl.length := (List.getElem?_eq_some_iff.mp h).1
  apply List.ext_getElem?
  intro i
  by_cases hi : i = k
  · subst hi
    rw [List.getElem?_set_self (by rw [gt_fv_len]; exact hk), gt_fv_get ad _ j sl k0 i h]
    simp [gt_sv, gt_u]
  · rw [List.getElem?_set_ne (Ne.symm hi)]
    cases hs : sl[i]? with
    | none =>
      have : sl.length ≤ i := List.getElem?_eq_none_iff.mp hs
      rw [List.getElem?_eq_none (by rw [gt_fv_len]; exact this), List.getElem?_eq_none (by rw [gt_fv_len]; exact this)]
    | some x =>
      rw [gt_fv_get ad _ j sl k0 i hs, gt_fv_get ad _ j sl k0 i hs]
      rcases x with _ | _ | r
      · simp [gt_sv, gt_u, hi]
      · rfl
      · rfl
theorem gt_fv_setL (ad : Nat → Nat) (σ : gt_S) (j : Nat) (v : Int64) : ∀ (sl : List (Option (Option Nat))) (k0 k : Nat), sl[k]? = some (some none) → (gt_fv ad σ j k0 sl).set k (.long v) = gt_fv ad (σ.1, gt_u σ.2.1 j (k0 + k) v, σ.2.2) j k0 sl := by
  intro sl k0 k h
  have hk : k < sl.length := (List.getElem?_eq_some_iff.mp h).1
  apply List.ext_getElem?
  intro i
  by_cases hi : i = k
  · subst hi
    rw [List.getElem?_set_self (by rw [gt_fv_len]; exact hk), gt_fv_get ad _ j sl k0 i h]
    simp [gt_sv, gt_u]
  · rw [List.getElem?_set_ne (Ne.symm hi)]
    cases hs : sl[i]? with
    | none =>
      have : sl.length ≤ i := List.getElem?_eq_none_iff.mp hs
      rw [List.getElem?_eq_none (by rw [gt_fv_len]; exact this), List.getElem?_eq_none (by rw [gt_fv_len]; exact this)]
    | some x =>
      rw [gt_fv_get ad _ j sl k0 i hs, gt_fv_get ad _ j sl k0 i hs]
      rcases x with _ | _ | r
      · rfl
      · simp [gt_sv, gt_u, hi]
      · rfl
theorem gt_v_sv (ad : Nat → Nat) (σ : gt_S) (j k : Nat) (x : Option (Option Nat)) : gt_v ad (gt_sv id σ j k x) = gt_sv ad σ j k x := by
  rcases x with _ | _ | r <;> rfl
theorem gt_v_rf (ad : Nat → Nat) (x : Option Nat) : gt_v ad (va_rf x) = va_rf (x.map ad) := by
  cases x <;> rfl
theorem gt_set1_m (ad : Nat → Nat) (i : Nat) (v : Value) (lv : gt_L) : (i, gt_v ad v) :: (lv.map (gt_lm ad)).filter (fun q => !(q.1 == i) && !(q.1 + 1 == i && q.2.category == 2)) = (gt_set1 i v lv).map (gt_lm ad) := by
  unfold gt_set1
  rw [List.map_cons, List.filter_map]
  congr 2
  apply List.filter_congr
  intro q _
  simp only [Function.comp, gt_lm, gt_v_cat]
theorem gt_set2_m (ad : Nat → Nat) (i : Nat) (v : Value) (lv : gt_L) : (i, gt_v ad v) :: (lv.map (gt_lm ad)).filter (fun q => !(q.1 == i) && (!(q.1 == i + 1) && !(q.1 + 1 == i && q.2.category == 2))) = (gt_set2 i v lv).map (gt_lm ad) := by
  unfold gt_set2
  rw [List.map_cons, List.filter_map]
  congr 2
  apply List.filter_congr
  intro q _
  simp only [Function.comp, gt_lm, gt_v_cat]
theorem gt_ofInt {a : Int} (h0 : 0 ≤ a) (h1 : a < 2147483648) : (Int32.ofInt a).toInt = a := Int32.toInt_ofInt_of_le (by omega) (by omega)
theorem gt_ts_s {α : Type} {x : Int32} {d : Int} {k : Int → Option α} {o : α} : ∀ (offs : List Int) (lo : Int), 0 ≤ lo → lo + offs.length < 2147483648 → gt_ts x d k lo offs = some o →
    (∃ (n : Nat) (w : Int), offs[n]? = some w ∧ x.toInt = lo + n ∧ k w = some o) ∨ ((∀ n : Nat, n < offs.length → x.toInt ≠ lo + n) ∧ k d = some o)
  | [], lo, _, _, h => Or.inr ⟨fun n hn => absurd hn (Nat.not_lt_zero n), h⟩
  | w :: t, lo, h0, h1, h => by
    unfold gt_ts at h
    rw [List.length_cons] at h1
    by_cases hx : x = Int32.ofInt lo
    · rw [if_pos hx] at h
      refine Or.inl ⟨0, w, rfl, ?_, h⟩
      rw [hx, gt_ofInt h0 (by omega)]
      omega
    · rw [if_neg hx] at h
      rcases gt_ts_s t (lo + 1) (by omega) (by omega) h with ⟨n, w', a1, a2, a3⟩ | ⟨a1, a2⟩
      · exact Or.inl ⟨n + 1, w', by rw [List.getElem?_cons_succ]; exact a1, by omega, a3⟩
      · refine Or.inr ⟨fun n hn => ?_, a2⟩
        cases n with
        | zero =>
          intro q
          apply hx
          apply Int32.toInt_inj.mp
          rw [gt_ofInt h0 (by omega)]
          omega
        | succ n =>
          have := a1 n (by rw [List.length_cons] at hn; omega)
          omega
theorem gt_lsw_s {α : Type} {x : Int32} {d : Int} {k : Int → Option α} {o : α} : ∀ (ps : List (Int × Int)), ps.all (fun w => decide (-2147483648 ≤ w.1) && decide (w.1 < 2147483648)) = true → gt_lsw x d k ps = some o → ∃ off, Op.lookupswitch.offset ps d x.toInt = off ∧ k off = some o
  | [], _, h => ⟨d, rfl, h⟩
  | w :: t, hp, h => by
    rw [List.all_cons, Bool.and_eq_true, Bool.and_eq_true, decide_eq_true_eq, decide_eq_true_eq] at hp
    unfold gt_lsw at h
    rw [Op.lookupswitch.offset_cons]
    have e1 : (Int32.ofInt w.1).toInt = w.1 := Int32.toInt_ofInt_of_le (by omega) (by omega)
    by_cases hx : x = Int32.ofInt w.1
    · rw [if_pos hx] at h
      refine ⟨w.2, ?_, h⟩
      rw [if_pos]
      rw [hx, e1]
    · rw [if_neg hx] at h
      obtain ⟨off, h1, h2⟩ := gt_lsw_s t hp.2 h
      refine ⟨off, ?_, h2⟩
      rw [if_neg]
      · exact h1
      · intro q
        apply hx
        apply Int32.toInt_inj.mp
        rw [e1]
        exact q.symm
def gt_eok (Ts : List Cond) (own : String) (cl : List vw_C) (E : gt_E) : Prop := (∀ q ∈ E.1, gt_fok Ts own cl q) ∧ (∀ q ∈ E.2.1, Cond.constant own q.1 q.2 ∈ Ts) ∧ ∀ q ∈ E.2.2.1, Cond.constantLong own q.1 q.2 ∈ Ts
/-- the judgement: wherever the machine stands there, with these locals, stack and store, it comes to its end -/
def gt_J (Wm : Heap → List Loc → Nat → Array Slot → List Value → Prop) (D : va_G) (cl : List vw_C) (ks : gt_KS) (cA : FieldType → Nat) (ad : Nat → Nat) (A : Nat → Prop) (H0 : Heap) (tx : List (Nat × Nat)) (nL : Nat) (pc : Nat) (lv : gt_L) (st : List Value) (σ : gt_S) : Prop :=
  σ.2.2.2 = tx → ∀ (ls : Array Slot) (H : Heap) (locs : List Loc), lv_has ls nL (lv.map (gt_lm ad)) → va_P D cl (gt_w ks cA ad σ) H → va_S A H0 H locs → Wm H locs pc ls (st.map (gt_v ad))
def gt_inst (cc : ByteArray) (pc idx : Nat) : Nat → Prop
  | 0 => decode cc pc = .ok (.invokevirtual idx, 3)
  | 1 => decode cc pc = .ok (.invokestatic idx, 3)
  | _ => decode cc pc = .ok (.invokespecial idx, 3)
/-- a call is what its row of the table says -/
def gt_ck (J : Nat → gt_L → List Value → gt_S → Prop) (cc : ByteArray) (q : Nat × Nat × Nat × Nat × gt_G) : Prop := ∀ (pc : Nat) (lv : gt_L) (as rest : List Value) (σ σ' : gt_S) (r : Option Value), gt_inst cc pc q.1 q.2.1 → as.length = q.2.2.2.1 → q.2.2.2.2 as σ = some (r, σ') → (rest.map fun v => v.category).sum ≤ 8 → J (pc + 3) lv (r.toList ++ rest) σ' → J pc lv (as.reverse ++ rest) σ
def gt_cok (J : Nat → gt_L → List Value → gt_S → Prop) (cc : ByteArray) (E : gt_E) : Prop := ∀ q ∈ E.2.2.2.1, gt_ck J cc q
section GTJ
variable {p : Program} {l : Launch} {e : Env} {R : Room} {s : State} {m : MethodId} {args : Array Value} {below : List Frame} {meth : Method} {c : Code} {cells slots : Nat} {Q : State → Prop}
variable {cc : ByteArray} {D : va_G} {cl : List vw_C} {ks : gt_KS} {cA : FieldType → Nat} {ad : Nat → Nat} {A : Nat → Prop} {H0 : Heap} {tx : List (Nat × Nat)} {nL : Nat} {own : String} {Ts : List Cond}
/-- what a field's row gives: its value stands above -/
theorem gt_getf {idx ci k t a : Nat} {σ : gt_S} {v : Value} {pc : Nat} {ls : Array Slot} {H : Heap} {locs : List Loc} {rest : List Value} (hx : p.tables.exec = Jvm.exec) (hb : c.code = cc) (hown : s.vm.findClass own = some m.cls) (hts : ∀ w ∈ Ts, w.before args s = true) (hK : va_K D cl (gt_tys cA) s) (hf : gt_fok Ts own cl (idx, ci, k, t)) (hP : va_P D cl (gt_w ks cA ad σ) H) (hg : gt_gf ks σ a ci k = some v) (hdg : decode cc pc = .ok (.getfield idx, 3))
    (kk : W p l e R s m args below meth c H locs cells slots Q (F0 m (pc + 3) ls (gt_v ad v :: rest))) : W p l e R s m args below meth c H locs cells slots Q (F0 m pc ls (.ref (ad a) :: rest)) := by
  obtain ⟨C, T, N, ty, h1, h2, h3, -, -, h6, -⟩ := hf
  unfold gt_gf at hg
  split at hg
  · rename_i q hq
    split at hg
    · rename_i hci
      split at hg
      · rename_i x hx2
        cases hg
        rw [gt_v_sv] at kk
        have he := gt_w_at (cA := cA) (ad := ad) hq
        obtain ⟨q1, q2⟩ := q
        dsimp only at hci hx2
        subst hci
        have hv : (gt_fv ad σ a 0 q2)[k]? = some (gt_sv ad σ a k x) := by
          have := gt_fv_get ad σ a q2 0 k hx2
          rwa [Nat.zero_add] at this
        rcases h6 with h6 | ⟨host, h6⟩
        · exact va_get (D := D) hx hb hts h3 hown hK hP a he h1 k h2 (hts _ h6) (fun _ h9 => h9) hv hdg kk
        · exact va_getN (D := D) hx hb hts h3 hown hK hP a he h1 k h2 (hts _ h6) (fun _ h9 => h9) hv hdg kk
      · cases hg
    · cases hg
  · cases hg
theorem gt_ne_u {α : Type} {f : Nat → Nat → α} {j k : Nat} {v : α} {i : Nat} (h : i ≠ j) : gt_u f j k v i = f i := by
  funext b
  simp [gt_u, h]
theorem gt_putI {idx ci k t a : Nat} {σ σ' : gt_S} {x : Int32} {pc : Nat} {ls : Array Slot} {H : Heap} {locs : List Loc} {rest : List Value} (hx : p.tables.exec = Jvm.exec) (hb : c.code = cc) (hown : s.vm.findClass own = some m.cls) (hts : ∀ w ∈ Ts, w.before args s = true) (hK : va_K D cl (gt_tys cA) s) (hf : gt_fok Ts own cl (idx, ci, k, t)) (hP : va_P D cl (gt_w ks cA ad σ) H) (hD : va_D A (gt_w ks cA ad σ)) (hS : va_S A H0 H locs) (hg : gt_pfI ks σ a ci k t x = some σ') (hdg : decode cc pc = .ok (.putfield idx, 3))
    (kk : σ'.2.2.2 = σ.2.2.2 → ∀ (H : Heap) (locs : List Loc), va_P D cl (gt_w ks cA ad σ') H → va_S A H0 H locs → W p l e R s m args below meth c H locs cells slots Q (F0 m (pc + 3) ls rest)) : W p l e R s m args below meth c H locs cells slots Q (F0 m pc ls (.int x :: .ref (ad a) :: rest)) := by
  obtain ⟨C, T, N, ty, h1, h2, h3, h4, h5, h6, h7⟩ := hf
  dsimp only at h1 h2 h4 h6 h7
  unfold gt_pfI at hg
  split at hg
  · rename_i q hq
    split at hg
    · rename_i hci
      split at hg
      · rename_i hx2
        split at hg
        · rename_i ht
          cases hg
          obtain ⟨q1, q2⟩ := q
          dsimp only at hci hx2
          subst hci
          have he := gt_w_at (cA := cA) (ad := ad) hq
          have hset := gt_w_set (cA := cA) (ad := ad) (σ := σ) (σ' := (gt_u σ.1 a k x, σ.2)) rfl (fun i hi => ⟨gt_ne_u hi, rfl, rfl⟩) hq
          have hfv := gt_fv_setI ad σ a x q2 0 k hx2
          rw [Nat.zero_add] at hfv
          have hl : k < (gt_fv ad σ a 0 q2).length := by rw [gt_fv_len]; exact (List.getElem?_eq_some_iff.mp hx2).1
          have hkk : ∀ (H1 : Heap) (locs1 : List Loc), va_P D cl ((gt_w ks cA ad σ).set a (ad a, .inr (q1, (gt_fv ad σ a 0 q2).set k (.int x)))) H1 → va_D A ((gt_w ks cA ad σ).set a (ad a, .inr (q1, (gt_fv ad σ a 0 q2).set k (.int x)))) → va_S A H0 H1 locs1 → W p l e R s m args below meth c H1 locs1 cells slots Q (F0 m (pc + 3) ls rest) := by
            intro H1 locs1 hP1 _ hS1
            rw [hfv] at hP1
            have hP2 : va_P D cl (gt_w ks cA ad (gt_u σ.1 a k x, σ.2)) H1 := by rw [← hset]; exact hP1
            exact kk rfl H1 locs1 hP2 hS1
          have hfin : (T k).2.2.2 = false ∧ (ty k = .int ∨ (ty k = .boolean ∧ (x = 0 ∨ x = 1))) := by
            rcases h7 with h7 | ⟨a1, a2⟩
            · omega
            · refine ⟨a1, ?_⟩
              rcases a2 with ⟨b1, b2⟩ | ⟨b1, b2⟩ | ⟨b1, b2⟩
              · exact Or.inl b2
              · rcases ht with ht | ht
                · omega
                · exact Or.inr ⟨b2, ht.2⟩
              · omega
          obtain ⟨hfin, hty⟩ := hfin
          have hnar : narrow (ty k) (.int x) = .int x := by
            rcases hty with hty | ⟨hty, rfl | rfl⟩ <;> rw [hty] <;> rfl
          have hfit : fits (ty k) (.int x) = true := by
            rcases hty with hty | ⟨hty, rfl | rfl⟩ <;> rw [hty] <;> rfl
          rcases h6 with h6 | ⟨host, h6⟩
          · exact va_put (D := D) (v := .int x) (ty := ty k) hx hb hts h3 ty h4 h5 hown hK hP hD hS a he h1 k h2 (hts _ h6) (fun _ h9 => h9) hfin (h4 k h2) hnar hfit hl hdg hkk
          · exact va_putN (D := D) (v := .int x) (ty := ty k) hx hb hts h3 ty h4 h5 hown hK hP hD hS a he h1 k h2 (hts _ h6) (fun _ h9 => h9) hfin (h4 k h2) hnar hfit hl hdg hkk
        · cases hg
      · cases hg
    · cases hg
  · cases hg
theorem gt_putL {idx ci k t a : Nat} {σ σ' : gt_S} {x : Int64} {pc : Nat} {ls : Array Slot} {H : Heap} {locs : List Loc} {rest : List Value} (hx : p.tables.exec = Jvm.exec) (hb : c.code = cc) (hown : s.vm.findClass own = some m.cls) (hts : ∀ w ∈ Ts, w.before args s = true) (hK : va_K D cl (gt_tys cA) s) (hf : gt_fok Ts own cl (idx, ci, k, t)) (hP : va_P D cl (gt_w ks cA ad σ) H) (hD : va_D A (gt_w ks cA ad σ)) (hS : va_S A H0 H locs) (hg : gt_pfL ks σ a ci k t x = some σ') (hdg : decode cc pc = .ok (.putfield idx, 3))
    (kk : σ'.2.2.2 = σ.2.2.2 → ∀ (H : Heap) (locs : List Loc), va_P D cl (gt_w ks cA ad σ') H → va_S A H0 H locs → W p l e R s m args below meth c H locs cells slots Q (F0 m (pc + 3) ls rest)) : W p l e R s m args below meth c H locs cells slots Q (F0 m pc ls (.long x :: .ref (ad a) :: rest)) := by
  obtain ⟨C, T, N, ty, h1, h2, h3, h4, h5, h6, h7⟩ := hf
  dsimp only at h1 h2 h4 h6 h7
  unfold gt_pfL at hg
  split at hg
  · rename_i q hq
    split at hg
    · rename_i hci
      split at hg
      · rename_i hx2
        split at hg
        · rename_i ht
          cases hg
          obtain ⟨q1, q2⟩ := q
          dsimp only at hci hx2
          subst hci
          have he := gt_w_at (cA := cA) (ad := ad) hq
          have hset := gt_w_set (cA := cA) (ad := ad) (σ := σ) (σ' := (σ.1, gt_u σ.2.1 a k x, σ.2.2)) rfl (fun i hi => ⟨rfl, gt_ne_u hi, rfl⟩) hq
          have hfv := gt_fv_setL ad σ a x q2 0 k hx2
          rw [Nat.zero_add] at hfv
          have hl : k < (gt_fv ad σ a 0 q2).length := by rw [gt_fv_len]; exact (List.getElem?_eq_some_iff.mp hx2).1
          have hkk : ∀ (H1 : Heap) (locs1 : List Loc), va_P D cl ((gt_w ks cA ad σ).set a (ad a, .inr (q1, (gt_fv ad σ a 0 q2).set k (.long x)))) H1 → va_D A ((gt_w ks cA ad σ).set a (ad a, .inr (q1, (gt_fv ad σ a 0 q2).set k (.long x)))) → va_S A H0 H1 locs1 → W p l e R s m args below meth c H1 locs1 cells slots Q (F0 m (pc + 3) ls rest) := by
            intro H1 locs1 hP1 _ hS1
            rw [hfv] at hP1
            have hP2 : va_P D cl (gt_w ks cA ad (σ.1, gt_u σ.2.1 a k x, σ.2.2)) H1 := by rw [← hset]; exact hP1
            exact kk rfl H1 locs1 hP2 hS1
          have hfin : (T k).2.2.2 = false ∧ ty k = .long := by
            rcases h7 with h7 | ⟨a1, a2⟩
            · omega
            · refine ⟨a1, ?_⟩
              rcases a2 with ⟨b1, b2⟩ | ⟨b1, b2⟩ | ⟨b1, b2⟩
              · omega
              · omega
              · exact b2
          obtain ⟨hfin, hty⟩ := hfin
          have hnar : narrow (ty k) (.long x) = .long x := by rw [hty]; rfl
          have hfit : fits (ty k) (.long x) = true := by rw [hty]; rfl
          rcases h6 with h6 | ⟨host, h6⟩
          · exact va_put (D := D) (v := .long x) (ty := ty k) hx hb hts h3 ty h4 h5 hown hK hP hD hS a he h1 k h2 (hts _ h6) (fun _ h9 => h9) hfin (h4 k h2) hnar hfit hl hdg hkk
          · exact va_putN (D := D) (v := .long x) (ty := ty k) hx hb hts h3 ty h4 h5 hown hK hP hD hS a he h1 k h2 (hts _ h6) (fun _ h9 => h9) hfin (h4 k h2) hnar hfit hl hdg hkk
        · cases hg
      · cases hg
    · cases hg
  · cases hg
theorem gt_ldI_w {a : Nat} {σ : gt_S} {i v : Int32} {pc : Nat} {ls : Array Slot} {H : Heap} {locs : List Loc} {rest : List Value} (hx : p.tables.exec = Jvm.exec) (hb : c.code = cc) (hK : va_K D cl (gt_tys cA) s) (hP : va_P D cl (gt_w ks cA ad σ) H) (hg : gt_ldI ks σ a i = some v) (hdg : decode cc pc = .ok (.iaload, 1))
    (kk : W p l e R s m args below meth c H locs cells slots Q (F0 m (pc + 1) ls (.int v :: rest))) : W p l e R s m args below meth c H locs cells slots Q (F0 m pc ls (.int i :: .ref (ad a) :: rest)) := by
  unfold gt_ldI at hg
  split at hg
  · rename_i n rs hq
    split at hg
    · cases hg
    · rename_i hin
      cases hg
      exact va_iald hx hb hK hP a 0 (gt_w_at (cA := cA) (ad := ad) hq) rfl hin hdg kk
  · cases hg
theorem gt_ldZ_w {a : Nat} {σ : gt_S} {i v : Int32} {pc : Nat} {ls : Array Slot} {H : Heap} {locs : List Loc} {rest : List Value} (hx : p.tables.exec = Jvm.exec) (hb : c.code = cc) (hK : va_K D cl (gt_tys cA) s) (hP : va_P D cl (gt_w ks cA ad σ) H) (hg : gt_ldZ ks σ a i = some v) (hdg : decode cc pc = .ok (.baload, 1))
    (kk : W p l e R s m args below meth c H locs cells slots Q (F0 m (pc + 1) ls (.int v :: rest))) : W p l e R s m args below meth c H locs cells slots Q (F0 m pc ls (.int i :: .ref (ad a) :: rest)) := by
  unfold gt_ldZ at hg
  split at hg
  · rename_i n rs hq
    split at hg
    · cases hg
    · rename_i hin
      cases hg
      exact va_zald hx hb hK hP a 2 (gt_w_at (cA := cA) (ad := ad) hq) rfl hin hdg kk
  · cases hg
theorem gt_ldL_w {a : Nat} {σ : gt_S} {i : Int32} {v : Int64} {pc : Nat} {ls : Array Slot} {H : Heap} {locs : List Loc} {rest : List Value} (hx : p.tables.exec = Jvm.exec) (hb : c.code = cc) (hK : va_K D cl (gt_tys cA) s) (hP : va_P D cl (gt_w ks cA ad σ) H) (hg : gt_ldL ks σ a i = some v) (hdg : decode cc pc = .ok (.laload, 1))
    (kk : W p l e R s m args below meth c H locs cells slots Q (F0 m (pc + 1) ls (.long v :: rest))) : W p l e R s m args below meth c H locs cells slots Q (F0 m pc ls (.int i :: .ref (ad a) :: rest)) := by
  unfold gt_ldL at hg
  split at hg
  · rename_i n rs hq
    split at hg
    · cases hg
    · rename_i hin
      cases hg
      exact va_lald hx hb hK hP a 1 (gt_w_at (cA := cA) (ad := ad) hq) rfl hin hdg kk
  · cases hg
theorem gt_isT_at {cA : FieldType → Nat} {ty : FieldType} (h : gt_isT ty = true) : ∃ t0 : Nat, (gt_tys cA)[t0]? = some (cA ty, ty) ∧ ty.isReference = true ∧ ∀ (ad : Nat → Nat) (σ : gt_S) (j : Nat) (rs : List Nat), gt_ct ad σ j ty rs = .inr (.inr (.inr (.inr (fun k => (gt_rf rs σ j k).map ad)))) := by
  unfold gt_isT at h
  simp only [Bool.or_eq_true, beq_iff_eq] at h
  rcases h with rfl | rfl | rfl | rfl
  · exact ⟨3, rfl, rfl, fun _ _ _ _ => rfl⟩
  · exact ⟨4, rfl, rfl, fun _ _ _ _ => rfl⟩
  · exact ⟨5, rfl, rfl, fun _ _ _ _ => rfl⟩
  · exact ⟨6, rfl, rfl, fun _ _ _ _ => rfl⟩
theorem gt_ldR_w {a : Nat} {σ : gt_S} {i : Int32} {v : Option Nat} {pc : Nat} {ls : Array Slot} {H : Heap} {locs : List Loc} {rest : List Value} (hx : p.tables.exec = Jvm.exec) (hb : c.code = cc) (hK : va_K D cl (gt_tys cA) s) (hP : va_P D cl (gt_w ks cA ad σ) H) (hg : gt_ldR ks σ a i = some v) (hdg : decode cc pc = .ok (.aaload, 1))
    (kk : W p l e R s m args below meth c H locs cells slots Q (F0 m (pc + 1) ls (va_rf (v.map ad) :: rest))) : W p l e R s m args below meth c H locs cells slots Q (F0 m pc ls (.int i :: .ref (ad a) :: rest)) := by
  unfold gt_ldR at hg
  split at hg
  · rename_i ty n rs hq
    split at hg
    · rename_i hT
      split at hg
      · cases hg
      · rename_i hin
        cases hg
        obtain ⟨t0, ht, hr, hct⟩ := gt_isT_at (cA := cA) hT
        have ha := gt_w_at (cA := cA) (ad := ad) hq
        have ha2 : (gt_w ks cA ad σ)[a]? = some (ad a, .inl (cA ty, n, .inr (.inr (.inr (.inr (fun k => (gt_rf rs σ a k).map ad)))))) := by
          rw [ha]
          unfold gt_c
          dsimp only
          rw [hct]
        have hlt : i.toNatClampNeg < n := Nat.not_le.mp fun q => hin (Or.inr q)
        exact W.aald (v := va_rf ((gt_rf rs σ a i.toNatClampNeg).map ad)) (ty := ty) hx hb (hP a _ ha2) ((hK.2 t0 _ ht).1 n (fun j => va_rf ((gt_rf rs σ a j).map ad))) hr (fun q => by cases q) (by show ¬ (i < 0 ∨ (arrV _ _ _).slots.size ≤ _); rw [arrV_size]; exact hin) (by show (arrV _ _ _).slots[_]? = _; rw [arrV_read _ _ hlt]) rfl rfl hdg kk
    · cases hg
  · cases hg
theorem gt_u_self {α : Type} (f : Nat → Nat → α) (j k : Nat) (v : α) : gt_u f j k v j = fun b => if b = k then v else f j b := by
  funext b
  simp [gt_u]
theorem gt_stI_w {a : Nat} {σ σ' : gt_S} {i x : Int32} {pc : Nat} {ls : Array Slot} {H : Heap} {locs : List Loc} {rest : List Value} (hx : p.tables.exec = Jvm.exec) (hb : c.code = cc) (hK : va_K D cl (gt_tys cA) s) (hP : va_P D cl (gt_w ks cA ad σ) H) (hD : va_D A (gt_w ks cA ad σ)) (hS : va_S A H0 H locs) (hg : gt_stI ks σ a i x = some σ') (hdg : decode cc pc = .ok (.iastore, 1))
    (kk : σ'.2.2.2 = σ.2.2.2 → ∀ (H : Heap) (locs : List Loc), va_P D cl (gt_w ks cA ad σ') H → va_S A H0 H locs → W p l e R s m args below meth c H locs cells slots Q (F0 m (pc + 1) ls rest)) : W p l e R s m args below meth c H locs cells slots Q (F0 m pc ls (.int x :: .int i :: .ref (ad a) :: rest)) := by
  unfold gt_stI at hg
  split at hg
  · rename_i n rs hq
    split at hg
    · cases hg
    · rename_i hin
      cases hg
      refine va_iast hx hb hK hP hD hS a 0 (gt_w_at (cA := cA) (ad := ad) hq) rfl hin hdg (fun H1 locs1 hP1 _ hS1 => kk rfl H1 locs1 ?_ hS1)
      rw [← gt_w_set (cA := cA) (ad := ad) (σ := σ) (σ' := (gt_u σ.1 a i.toNatClampNeg x, σ.2)) rfl (fun i hi => ⟨gt_ne_u hi, rfl, rfl⟩) hq]
      unfold gt_c gt_ct
      dsimp only
      rw [gt_u_self]
      exact hP1
  · cases hg
theorem gt_stZ_w {a : Nat} {σ σ' : gt_S} {i x : Int32} {pc : Nat} {ls : Array Slot} {H : Heap} {locs : List Loc} {rest : List Value} (hx : p.tables.exec = Jvm.exec) (hb : c.code = cc) (hK : va_K D cl (gt_tys cA) s) (hP : va_P D cl (gt_w ks cA ad σ) H) (hD : va_D A (gt_w ks cA ad σ)) (hS : va_S A H0 H locs) (hg : gt_stZ ks σ a i x = some σ') (hdg : decode cc pc = .ok (.bastore, 1))
    (kk : σ'.2.2.2 = σ.2.2.2 → ∀ (H : Heap) (locs : List Loc), va_P D cl (gt_w ks cA ad σ') H → va_S A H0 H locs → W p l e R s m args below meth c H locs cells slots Q (F0 m (pc + 1) ls rest)) : W p l e R s m args below meth c H locs cells slots Q (F0 m pc ls (.int x :: .int i :: .ref (ad a) :: rest)) := by
  unfold gt_stZ at hg
  split at hg
  · rename_i n rs hq
    split at hg
    · cases hg
    · rename_i hin
      cases hg
      refine va_zast hx hb hK hP hD hS a 2 (gt_w_at (cA := cA) (ad := ad) hq) rfl hin hdg (fun H1 locs1 hP1 _ hS1 => kk rfl H1 locs1 ?_ hS1)
      rw [← gt_w_set (cA := cA) (ad := ad) (σ := σ) (σ' := (gt_u σ.1 a i.toNatClampNeg (vp_nar .boolean x), σ.2)) rfl (fun i hi => ⟨gt_ne_u hi, rfl, rfl⟩) hq]
      unfold gt_c gt_ct
      dsimp only
      rw [gt_u_self]
      exact hP1
  · cases hg
theorem gt_stL_w {a : Nat} {σ σ' : gt_S} {i : Int32} {x : Int64} {pc : Nat} {ls : Array Slot} {H : Heap} {locs : List Loc} {rest : List Value} (hx : p.tables.exec = Jvm.exec) (hb : c.code = cc) (hK : va_K D cl (gt_tys cA) s) (hP : va_P D cl (gt_w ks cA ad σ) H) (hD : va_D A (gt_w ks cA ad σ)) (hS : va_S A H0 H locs) (hg : gt_stL ks σ a i x = some σ') (hdg : decode cc pc = .ok (.lastore, 1))
    (kk : σ'.2.2.2 = σ.2.2.2 → ∀ (H : Heap) (locs : List Loc), va_P D cl (gt_w ks cA ad σ') H → va_S A H0 H locs → W p l e R s m args below meth c H locs cells slots Q (F0 m (pc + 1) ls rest)) : W p l e R s m args below meth c H locs cells slots Q (F0 m pc ls (.long x :: .int i :: .ref (ad a) :: rest)) := by
  unfold gt_stL at hg
  split at hg
  · rename_i n rs hq
    split at hg
    · cases hg
    · rename_i hin
      cases hg
      refine va_last hx hb hK hP hD hS a 1 (gt_w_at (cA := cA) (ad := ad) hq) rfl hin hdg (fun H1 locs1 hP1 _ hS1 => kk rfl H1 locs1 ?_ hS1)
      rw [← gt_w_set (cA := cA) (ad := ad) (σ := σ) (σ' := (σ.1, gt_u σ.2.1 a i.toNatClampNeg x, σ.2.2)) rfl (fun i hi => ⟨rfl, gt_ne_u hi, rfl⟩) hq]
      unfold gt_c gt_ct
      dsimp only
      rw [gt_u_self]
      exact hP1
  · cases hg
theorem gt_rf_up (ad : Nat → Nat) (f : Nat → Nat → Option Nat) (j k : Nat) (v : Option Nat) : (fun b => (gt_u f j k v j b).map ad) = va_up (fun b => (f j b).map ad) k (v.map ad) := by
  funext b
  by_cases h : b = k
  · simp [gt_u, va_up, h]
  · simp [gt_u, va_up, h]
theorem gt_stR_w {a : Nat} {σ σ' : gt_S} {i : Int32} {x : Option Nat} {pc : Nat} {ls : Array Slot} {H : Heap} {locs : List Loc} {rest : List Value} (hcl : cl[7]? = some (RX7, TX7, 2)) (hx : p.tables.exec = Jvm.exec) (hb : c.code = cc) (hK : va_K D cl (gt_tys cA) s) (hP : va_P D cl (gt_w ks cA ad σ) H) (hD : va_D A (gt_w ks cA ad σ)) (hS : va_S A H0 H locs) (hg : gt_stR ks σ a i x = some σ') (hdg : decode cc pc = .ok (.aastore, 1))
    (kk : σ'.2.2.2 = σ.2.2.2 → ∀ (H : Heap) (locs : List Loc), va_P D cl (gt_w ks cA ad σ') H → va_S A H0 H locs → W p l e R s m args below meth c H locs cells slots Q (F0 m (pc + 1) ls rest)) : W p l e R s m args below meth c H locs cells slots Q (F0 m pc ls (va_rf (x.map ad) :: .int i :: .ref (ad a) :: rest)) := by
  unfold gt_stR at hg
  split at hg
  · rename_i C n hq
    split at hg
    · rename_i hC
      subst hC
      split at hg
      · cases hg
      · rename_i hin
        split at hg
        · cases hg
          refine va_astqN (C := "GiftTable$Text") hx hb hK hP hD hS a 4 (gt_w_at (cA := cA) (ad := ad) hq) rfl hin hdg (fun H1 locs1 hP1 _ hS1 => kk rfl H1 locs1 ?_ hS1)
          rw [← gt_w_set (cA := cA) (ad := ad) (σ := σ) (σ' := (σ.1, σ.2.1, gt_u σ.2.2.1 a i.toNatClampNeg none, σ.2.2.2)) rfl (fun i hi => ⟨rfl, rfl, gt_ne_u hi⟩) hq]
          unfold gt_c gt_ct gt_rf
          dsimp only
          rw [gt_rf_up]
          exact hP1
        · rename_i t
          split at hg
          · rename_i ci sl hq2
            split at hg
            · rename_i hci
              subst hci
              cases hg
              refine va_astq (r := (RX7, TX7, 2)) hx hb hK hP hD hS a 4 t 7 (gt_w_at (cA := cA) (ad := ad) hq) rfl (gt_w_at (cA := cA) (ad := ad) hq2) hcl hin hdg (fun H1 locs1 hP1 _ hS1 => kk rfl H1 locs1 ?_ hS1)
              rw [← gt_w_set (cA := cA) (ad := ad) (σ := σ) (σ' := (σ.1, σ.2.1, gt_u σ.2.2.1 a i.toNatClampNeg (some t), σ.2.2.2)) rfl (fun i hi => ⟨rfl, rfl, gt_ne_u hi⟩) hq]
              unfold gt_c gt_ct gt_rf
              dsimp only
              rw [gt_rf_up]
              exact hP1
            · cases hg
          · cases hg
    · cases hg
  · cases hg
theorem gt_ln_w {a n : Nat} {σ : gt_S} {pc : Nat} {ls : Array Slot} {H : Heap} {locs : List Loc} {rest : List Value} (hx : p.tables.exec = Jvm.exec) (hb : c.code = cc) (hK : va_K D cl (gt_tys cA) s) (hP : va_P D cl (gt_w ks cA ad σ) H) (hg : gt_ln ks σ a = some n) (hdg : decode cc pc = .ok (.arraylength, 1))
    (kk : W p l e R s m args below meth c H locs cells slots Q (F0 m (pc + 1) ls (.int (Int32.ofNat n) :: rest))) : W p l e R s m args below meth c H locs cells slots Q (F0 m pc ls (.ref (ad a) :: rest)) := by
  unfold gt_ln at hg
  split at hg
  · rename_i ty n' rs hq
    split at hg
    · rename_i hty
      cases hg
      rcases hty with rfl | rfl | rfl
      · exact va_alen hx hb hK hP a 0 (gt_w_at (cA := cA) (ad := ad) hq) rfl rfl hdg kk
      · exact va_alen hx hb hK hP a 1 (gt_w_at (cA := cA) (ad := ad) hq) rfl rfl hdg kk
      · exact va_alen hx hb hK hP a 2 (gt_w_at (cA := cA) (ad := ad) hq) rfl rfl hdg kk
    · cases hg
  · cases hg
theorem gt_br_w {cd : Jvm.ClassFile.Cond} {x y : Int32} {t f : Option gt_F} {o : gt_F} (h : gt_br cd x y t f = some o) : (t = some o ∧ (match cd with
  | .eq => x = y
  | .ne => ¬ x = y
  | .lt => x < y
  | .ge => y ≤ x
  | .gt => y < x
  | .le => x ≤ y)) ∨ (f = some o ∧ (match cd with
  | .eq => ¬ x = y
  | .ne => x = y
  | .lt => ¬ x < y
  | .ge => ¬ y ≤ x
  | .gt => ¬ y < x
  | .le => ¬ x ≤ y)) := by
  unfold gt_br at h
  cases cd <;> dsimp only at h ⊢ <;> split at h
  · rename_i q; exact Or.inl ⟨h, q⟩
  · rename_i q; exact Or.inr ⟨h, q⟩
  · rename_i q; exact Or.inr ⟨h, q⟩
  · rename_i q; exact Or.inl ⟨h, q⟩
  · rename_i q; exact Or.inl ⟨h, q⟩
  · rename_i q; exact Or.inr ⟨h, q⟩
  · rename_i q; exact Or.inr ⟨h, Int32.not_le.mpr q⟩
  · rename_i q; exact Or.inl ⟨h, Int32.not_lt.mp q⟩
  · rename_i q; exact Or.inl ⟨h, q⟩
  · rename_i q; exact Or.inr ⟨h, q⟩
  · rename_i q; exact Or.inr ⟨h, Int32.not_le.mpr q⟩
  · rename_i q; exact Or.inl ⟨h, Int32.not_lt.mp q⟩
theorem gt_lv {ad : Nat → Nat} {ls : Array Slot} {nL : Nat} {lv : gt_L} {i : Nat} {v : Value} (h : lv_has ls nL (lv.map (gt_lm ad))) (hv : gt_lk lv i = some v) : ls[i]? = some (.val (gt_v ad v)) := h.2.2 (i, gt_v ad v) (List.mem_map.mpr ⟨(i, v), gt_lk_mem hv, rfl⟩)
set_option maxHeartbeats 4000000 in
set_option maxRecDepth 100000 in
theorem gt_stp_w (hcl : cl[7]? = some (RX7, TX7, 2)) (hx : p.tables.exec = Jvm.exec) (hb : c.code = cc) (hown : s.vm.findClass own = some m.cls) (hts : ∀ w ∈ Ts, w.before args s = true) (hK : va_K D cl (gt_tys cA) s) (hDD : ∀ σ : gt_S, σ.2.2.2 = tx → va_D A (gt_w ks cA ad σ)) {E : gt_E} (hE : gt_eok Ts own cl E)
    (hC : gt_cok (gt_J (fun H locs pc ls st => W p l e R s m args below meth c H locs cells slots Q (F0 m pc ls st)) D cl ks cA ad A H0 tx nL) cc E)
    {q : gt_I} (hq : decode cc q.1 = .ok (q.2.1, q.2.2)) (hlen : gt_lok q = true) {lv : gt_L} {st : List Value} {σ : gt_S} {κ : gt_C} {o : gt_F} (h : gt_stp ks nL E q lv st σ κ = some o)
    (hκ : ∀ pc lv st σ, κ pc lv st σ = some o → gt_J (fun H locs pc ls st => W p l e R s m args below meth c H locs cells slots Q (F0 m pc ls st)) D cl ks cA ad A H0 tx nL pc lv st σ) :
    gt_J (fun H locs pc ls st => W p l e R s m args below meth c H locs cells slots Q (F0 m pc ls st)) D cl ks cA ad A H0 tx nL q.1 lv st σ := by
  obtain ⟨pc, i, len⟩ := q
  dsimp only at hq h ⊢
  have hle : ∀ n : Nat, Nat.beq len n = true → len = n := fun n hn => Nat.eq_of_beq_eq_true hn
  cases i with
  | iconst n =>
    have hl := hle 1 hlen; subst hl
    dsimp only [gt_stp] at h
    intro ht ls H locs hlv hP hS
    exact lv_iconst hx hb hq rfl (hκ _ _ _ _ h ht ls H locs hlv hP hS)
  | bipush n =>
    have hl := hle 2 hlen; subst hl
    dsimp only [gt_stp] at h
    intro ht ls H locs hlv hP hS
    exact lv_bipush hx hb hq rfl (hκ _ _ _ _ h ht ls H locs hlv hP hS)
  | sipush n =>
    have hl := hle 3 hlen; subst hl
    dsimp only [gt_stp] at h
    intro ht ls H locs hlv hP hS
    exact lv_sipush hx hb hq rfl (hκ _ _ _ _ h ht ls H locs hlv hP hS)
  | lconst n =>
    have hl := hle 1 hlen; subst hl
    dsimp only [gt_stp] at h
    intro ht ls H locs hlv hP hS
    exact lv_lconst hx hb hq rfl (hκ _ _ _ _ h ht ls H locs hlv hP hS)
  | aconst_null =>
    have hl := hle 1 hlen; subst hl
    dsimp only [gt_stp] at h
    intro ht ls H locs hlv hP hS
    exact lv_null hx hb hq (hκ _ _ _ _ h ht ls H locs hlv hP hS)
  | ldc k =>
    have hl := hle 2 hlen; subst hl
    dsimp only [gt_stp] at h
    obtain ⟨v, hv, h⟩ := Option.bind_eq_some_iff.mp h
    intro ht ls H locs hlv hP hS
    exact lv_ldc hx hb hown (hts _ (hE.2.1 _ (gt_lk_mem hv))) hq (hκ _ _ _ _ h ht ls H locs hlv hP hS)
  | ldc_w k =>
    have hl := hle 3 hlen; subst hl
    dsimp only [gt_stp] at h
    obtain ⟨v, hv, h⟩ := Option.bind_eq_some_iff.mp h
    intro ht ls H locs hlv hP hS
    exact lv_ldcw hx hb hown (hts _ (hE.2.1 _ (gt_lk_mem hv))) hq (hκ _ _ _ _ h ht ls H locs hlv hP hS)
  | ldc2_w k =>
    have hl := hle 3 hlen; subst hl
    dsimp only [gt_stp] at h
    obtain ⟨v, hv, h⟩ := Option.bind_eq_some_iff.mp h
    intro ht ls H locs hlv hP hS
    exact lv_ldc2 hx hb hown (hts _ (hE.2.2 _ (gt_lk_mem hv))) hq (hκ _ _ _ _ h ht ls H locs hlv hP hS)
  | iload_n k =>
    have hl := hle 1 hlen; subst hl
    dsimp only [gt_stp] at h
    replace h := gt_ldi_s h
    obtain ⟨x, hv, h⟩ := h
    intro ht ls H locs hlv hP hS
    exact lv_iload_n hx hb hq rfl (gt_lv hlv hv) (hκ _ _ _ _ h ht ls H locs hlv hP hS)
  | iload k =>
    have hl := hle 2 hlen; subst hl
    dsimp only [gt_stp] at h
    replace h := gt_ldi_s h
    obtain ⟨x, hv, h⟩ := h
    intro ht ls H locs hlv hP hS
    exact lv_iload hx hb hq (gt_lv hlv hv) (hκ _ _ _ _ h ht ls H locs hlv hP hS)
  | lload_n k =>
    have hl := hle 1 hlen; subst hl
    dsimp only [gt_stp] at h
    replace h := gt_ldl_s h
    obtain ⟨x, hv, h⟩ := h
    intro ht ls H locs hlv hP hS
    exact lv_lload_n hx hb hq rfl (gt_lv hlv hv) (hκ _ _ _ _ h ht ls H locs hlv hP hS)
  | lload k =>
    have hl := hle 2 hlen; subst hl
    dsimp only [gt_stp] at h
    replace h := gt_ldl_s h
    obtain ⟨x, hv, h⟩ := h
    intro ht ls H locs hlv hP hS
    exact lv_lload hx hb hq (gt_lv hlv hv) (hκ _ _ _ _ h ht ls H locs hlv hP hS)
  | aload_n k =>
    have hl := hle 1 hlen; subst hl
    dsimp only [gt_stp] at h
    replace h := gt_lda_s h
    obtain ⟨x, hv, h⟩ := h
    intro ht ls H locs hlv hP hS
    have h1 := gt_lv hlv hv
    have h2 := hκ _ _ _ _ h ht ls H locs hlv hP hS
    cases x with
    | none => exact lv_aload_nN hx hb hq rfl h1 h2
    | some x => exact lv_aload_n hx hb hq rfl h1 h2
  | aload k =>
    have hl := hle 2 hlen; subst hl
    dsimp only [gt_stp] at h
    replace h := gt_lda_s h
    obtain ⟨x, hv, h⟩ := h
    intro ht ls H locs hlv hP hS
    have h1 := gt_lv hlv hv
    have h2 := hκ _ _ _ _ h ht ls H locs hlv hP hS
    cases x with
    | none => exact lv_aloadN hx hb hq h1 h2
    | some x => exact lv_aload hx hb hq h1 h2
  | istore_n k =>
    have hl := hle 1 hlen; subst hl
    dsimp only [gt_stp] at h
    replace h := gt_i1_s h
    obtain ⟨x, r, rfl, h⟩ := h
    split at h
    · rename_i hn
      intro ht ls H locs hlv hP hS
      exact lv_istore_n hx hb hq rfl hlv hn (gt_set1_m ad k.1 (.int x) lv) (fun ls' hlv' => hκ _ _ _ _ h ht ls' H locs hlv' hP hS)
    · cases h
  | istore k =>
    have hl := hle 2 hlen; subst hl
    dsimp only [gt_stp] at h
    replace h := gt_i1_s h
    obtain ⟨x, r, rfl, h⟩ := h
    split at h
    · rename_i hn
      intro ht ls H locs hlv hP hS
      exact lv_istore hx hb hq hlv hn (gt_set1_m ad k (.int x) lv) (fun ls' hlv' => hκ _ _ _ _ h ht ls' H locs hlv' hP hS)
    · cases h
  | lstore_n k =>
    have hl := hle 1 hlen; subst hl
    dsimp only [gt_stp] at h
    replace h := gt_l1_s h
    obtain ⟨x, r, rfl, h⟩ := h
    split at h
    · rename_i hn
      intro ht ls H locs hlv hP hS
      exact lv_lstore_n hx hb hq rfl hlv hn (gt_set2_m ad k.1 (.long x) lv) (fun ls' hlv' => hκ _ _ _ _ h ht ls' H locs hlv' hP hS)
    · cases h
  | lstore k =>
    have hl := hle 2 hlen; subst hl
    dsimp only [gt_stp] at h
    replace h := gt_l1_s h
    obtain ⟨x, r, rfl, h⟩ := h
    split at h
    · rename_i hn
      intro ht ls H locs hlv hP hS
      exact lv_lstore hx hb hq hlv hn (gt_set2_m ad k (.long x) lv) (fun ls' hlv' => hκ _ _ _ _ h ht ls' H locs hlv' hP hS)
    · cases h
  | astore_n k =>
    have hl := hle 1 hlen; subst hl
    dsimp only [gt_stp] at h
    replace h := gt_a1_s h
    obtain ⟨x, r, rfl, h⟩ := h
    split at h
    · rename_i hn
      intro ht ls H locs hlv hP hS
      exact lv_astore_n hx hb hq rfl hlv hn (gt_set1_m ad k.1 (.ref x) lv) (fun ls' hlv' => hκ _ _ _ _ h ht ls' H locs hlv' hP hS)
    · cases h
  | astore k =>
    have hl := hle 2 hlen; subst hl
    dsimp only [gt_stp] at h
    replace h := gt_a1_s h
    obtain ⟨x, r, rfl, h⟩ := h
    split at h
    · rename_i hn
      intro ht ls H locs hlv hP hS
      exact lv_astore hx hb hq hlv hn (gt_set1_m ad k (.ref x) lv) (fun ls' hlv' => hκ _ _ _ _ h ht ls' H locs hlv' hP hS)
    · cases h
  | iinc k n =>
    have hl := hle 3 hlen; subst hl
    dsimp only [gt_stp] at h
    replace h := gt_ldi_s h
    obtain ⟨x, hv, h⟩ := h
    split at h
    · rename_i hn
      intro ht ls H locs hlv hP hS
      obtain ⟨j, hj⟩ := List.getElem?_of_mem (List.mem_map.mpr ⟨(k, .int x), gt_lk_mem hv, rfl⟩ : (k, .int x) ∈ lv.map (gt_lm ad))
      exact lv_iinc hx hb hq hlv hj rfl hn (gt_set1_m ad k (.int (x + Int32.ofInt n)) lv) (fun ls' hlv' => hκ _ _ _ _ h ht ls' H locs hlv' hP hS)
    · cases h
  | iadd =>
    have hl := hle 1 hlen; subst hl
    dsimp only [gt_stp] at h
    replace h := gt_i2_s h
    obtain ⟨x, y, r, rfl, h⟩ := h
    intro ht ls H locs hlv hP hS
    exact lv_iadd hx hb hq (hκ _ _ _ _ h ht ls H locs hlv hP hS)
  | isub =>
    have hl := hle 1 hlen; subst hl
    dsimp only [gt_stp] at h
    replace h := gt_i2_s h
    obtain ⟨x, y, r, rfl, h⟩ := h
    intro ht ls H locs hlv hP hS
    exact lv_isub hx hb hq (hκ _ _ _ _ h ht ls H locs hlv hP hS)
  | imul =>
    have hl := hle 1 hlen; subst hl
    dsimp only [gt_stp] at h
    replace h := gt_i2_s h
    obtain ⟨x, y, r, rfl, h⟩ := h
    intro ht ls H locs hlv hP hS
    exact lv_imul hx hb hq (hκ _ _ _ _ h ht ls H locs hlv hP hS)
  | iand =>
    have hl := hle 1 hlen; subst hl
    dsimp only [gt_stp] at h
    replace h := gt_i2_s h
    obtain ⟨x, y, r, rfl, h⟩ := h
    intro ht ls H locs hlv hP hS
    exact lv_iand hx hb hq (hκ _ _ _ _ h ht ls H locs hlv hP hS)
  | ior =>
    have hl := hle 1 hlen; subst hl
    dsimp only [gt_stp] at h
    replace h := gt_i2_s h
    obtain ⟨x, y, r, rfl, h⟩ := h
    intro ht ls H locs hlv hP hS
    exact lv_ior hx hb hq (hκ _ _ _ _ h ht ls H locs hlv hP hS)
  | idiv =>
    have hl := hle 1 hlen; subst hl
    dsimp only [gt_stp] at h
    replace h := gt_i2_s h
    obtain ⟨x, y, r, rfl, h⟩ := h
    split at h
    · cases h
    · rename_i hn
      intro ht ls H locs hlv hP hS
      exact lv_idiv hx hb hq hn (hκ _ _ _ _ h ht ls H locs hlv hP hS)
  | irem =>
    have hl := hle 1 hlen; subst hl
    dsimp only [gt_stp] at h
    replace h := gt_i2_s h
    obtain ⟨x, y, r, rfl, h⟩ := h
    split at h
    · cases h
    · rename_i hn
      intro ht ls H locs hlv hP hS
      exact lv_irem hx hb hq hn (hκ _ _ _ _ h ht ls H locs hlv hP hS)
  | ineg =>
    have hl := hle 1 hlen; subst hl
    dsimp only [gt_stp] at h
    replace h := gt_i1_s h
    obtain ⟨x, r, rfl, h⟩ := h
    intro ht ls H locs hlv hP hS
    exact lv_ineg hx hb hq (hκ _ _ _ _ h ht ls H locs hlv hP hS)
  | ishl =>
    have hl := hle 1 hlen; subst hl
    dsimp only [gt_stp] at h
    replace h := gt_i2_s h
    obtain ⟨x, y, r, rfl, h⟩ := h
    intro ht ls H locs hlv hP hS
    exact lv_ishl hx hb hq (hκ _ _ _ _ h ht ls H locs hlv hP hS)
  | ishr =>
    have hl := hle 1 hlen; subst hl
    dsimp only [gt_stp] at h
    replace h := gt_i2_s h
    obtain ⟨x, y, r, rfl, h⟩ := h
    intro ht ls H locs hlv hP hS
    exact lv_ishr hx hb hq (hκ _ _ _ _ h ht ls H locs hlv hP hS)
  | ladd =>
    have hl := hle 1 hlen; subst hl
    dsimp only [gt_stp] at h
    replace h := gt_l2_s h
    obtain ⟨x, y, r, rfl, h⟩ := h
    intro ht ls H locs hlv hP hS
    exact lv_ladd hx hb hq (hκ _ _ _ _ h ht ls H locs hlv hP hS)
  | lsub =>
    have hl := hle 1 hlen; subst hl
    dsimp only [gt_stp] at h
    replace h := gt_l2_s h
    obtain ⟨x, y, r, rfl, h⟩ := h
    intro ht ls H locs hlv hP hS
    exact lv_lsub hx hb hq (hκ _ _ _ _ h ht ls H locs hlv hP hS)
  | lmul =>
    have hl := hle 1 hlen; subst hl
    dsimp only [gt_stp] at h
    replace h := gt_l2_s h
    obtain ⟨x, y, r, rfl, h⟩ := h
    intro ht ls H locs hlv hP hS
    exact lv_lmul hx hb hq (hκ _ _ _ _ h ht ls H locs hlv hP hS)
  | land =>
    have hl := hle 1 hlen; subst hl
    dsimp only [gt_stp] at h
    replace h := gt_l2_s h
    obtain ⟨x, y, r, rfl, h⟩ := h
    intro ht ls H locs hlv hP hS
    exact lv_land hx hb hq (hκ _ _ _ _ h ht ls H locs hlv hP hS)
  | lor =>
    have hl := hle 1 hlen; subst hl
    dsimp only [gt_stp] at h
    replace h := gt_l2_s h
    obtain ⟨x, y, r, rfl, h⟩ := h
    intro ht ls H locs hlv hP hS
    exact lv_lor hx hb hq (hκ _ _ _ _ h ht ls H locs hlv hP hS)
  | ldiv =>
    have hl := hle 1 hlen; subst hl
    dsimp only [gt_stp] at h
    replace h := gt_l2_s h
    obtain ⟨x, y, r, rfl, h⟩ := h
    split at h
    · cases h
    · rename_i hn
      intro ht ls H locs hlv hP hS
      exact lv_ldiv hx hb hq hn (hκ _ _ _ _ h ht ls H locs hlv hP hS)
  | lrem =>
    have hl := hle 1 hlen; subst hl
    dsimp only [gt_stp] at h
    replace h := gt_l2_s h
    obtain ⟨x, y, r, rfl, h⟩ := h
    split at h
    · cases h
    · rename_i hn
      intro ht ls H locs hlv hP hS
      exact lv_lrem hx hb hq hn (hκ _ _ _ _ h ht ls H locs hlv hP hS)
  | lshl =>
    have hl := hle 1 hlen; subst hl
    dsimp only [gt_stp] at h
    replace h := gt_li_s h
    obtain ⟨x, y, r, rfl, h⟩ := h
    intro ht ls H locs hlv hP hS
    exact lv_lshl hx hb hq rfl (hκ _ _ _ _ h ht ls H locs hlv hP hS)
  | lshr =>
    have hl := hle 1 hlen; subst hl
    dsimp only [gt_stp] at h
    replace h := gt_li_s h
    obtain ⟨x, y, r, rfl, h⟩ := h
    intro ht ls H locs hlv hP hS
    exact lv_lshr hx hb hq rfl (hκ _ _ _ _ h ht ls H locs hlv hP hS)
  | i2l =>
    have hl := hle 1 hlen; subst hl
    dsimp only [gt_stp] at h
    replace h := gt_i1_s h
    obtain ⟨x, r, rfl, h⟩ := h
    intro ht ls H locs hlv hP hS
    exact lv_i2l hx hb hq rfl (hκ _ _ _ _ h ht ls H locs hlv hP hS)
  | l2i =>
    have hl := hle 1 hlen; subst hl
    dsimp only [gt_stp] at h
    replace h := gt_l1_s h
    obtain ⟨x, r, rfl, h⟩ := h
    intro ht ls H locs hlv hP hS
    exact lv_l2i hx hb hq rfl (hκ _ _ _ _ h ht ls H locs hlv hP hS)
  | lcmp =>
    have hl := hle 1 hlen; subst hl
    dsimp only [gt_stp] at h
    replace h := gt_l2_s h
    obtain ⟨x, y, r, rfl, h⟩ := h
    intro ht ls H locs hlv hP hS
    exact W.lcmp hx hb hq (hκ _ _ _ _ h ht ls H locs hlv hP hS)
  | dup =>
    have hl := hle 1 hlen; subst hl
    dsimp only [gt_stp] at h
    split at h
    · split at h
      · rename_i v r hv
        intro ht ls H locs hlv hP hS
        exact lv_dup hx hb hq (by rw [gt_v_cat]; exact hv) (hκ _ _ _ _ h ht ls H locs hlv hP hS)
      · cases h
    · cases h
  | dup2 =>
    have hl := hle 1 hlen; subst hl
    dsimp only [gt_stp] at h
    split at h
    · split at h
      · rename_i v w r hv
        intro ht ls H locs hlv hP hS
        exact lv_dup2_11 hx hb hq (by rw [gt_v_cat]; exact hv.1) (by rw [gt_v_cat]; exact hv.2) (hκ _ _ _ _ h ht ls H locs hlv hP hS)
      · cases h
    · cases h
  | pop =>
    have hl := hle 1 hlen; subst hl
    dsimp only [gt_stp] at h
    split at h
    · split at h
      · rename_i v r hv
        intro ht ls H locs hlv hP hS
        exact lv_pop hx hb hq (by rw [gt_v_cat]; exact hv) (hκ _ _ _ _ h ht ls H locs hlv hP hS)
      · cases h
    · cases h
  | goto off =>
    have hl := hle 3 hlen; subst hl
    dsimp only [gt_stp] at h
    replace h := gt_jp_s h
    obtain ⟨t, htg, h⟩ := h
    intro ht ls H locs hlv hP hS
    exact lv_goto hx hb hq htg (hκ _ _ _ _ h ht ls H locs hlv hP hS)
  | ifCond cd off =>
    have hl := hle 3 hlen; subst hl
    dsimp only [gt_stp] at h
    replace h := gt_i1_s h
    obtain ⟨x, r, rfl, h⟩ := h
    replace h := gt_jp_s h
    obtain ⟨t, htg, h⟩ := h
    intro ht ls H locs hlv hP hS
    rcases gt_br_w h with ⟨h, hc⟩ | ⟨h, hc⟩
    · have k := hκ _ _ _ _ h ht ls H locs hlv hP hS
      cases cd
      · exact lv_if_eq hx hb hq htg (fun _ => k) (fun q => absurd hc q)
      · exact lv_if_ne hx hb hq htg (fun _ => k) (fun q => absurd q hc)
      · exact lv_if_lt hx hb hq htg (fun _ => k) (fun q => absurd hc q)
      · exact lv_if_ge hx hb hq htg (fun _ => k) (fun q => absurd hc q)
      · exact lv_if_gt hx hb hq htg (fun _ => k) (fun q => absurd hc q)
      · exact lv_if_le hx hb hq htg (fun _ => k) (fun q => absurd hc q)
    · have k := hκ _ _ _ _ h ht ls H locs hlv hP hS
      cases cd
      · exact lv_if_eq hx hb hq htg (fun q => absurd q hc) (fun _ => k)
      · exact lv_if_ne hx hb hq htg (fun q => absurd hc q) (fun _ => k)
      · exact lv_if_lt hx hb hq htg (fun q => absurd q hc) (fun _ => k)
      · exact lv_if_ge hx hb hq htg (fun q => absurd q hc) (fun _ => k)
      · exact lv_if_gt hx hb hq htg (fun q => absurd q hc) (fun _ => k)
      · exact lv_if_le hx hb hq htg (fun q => absurd q hc) (fun _ => k)
  | if_icmp cd off =>
    have hl := hle 3 hlen; subst hl
    dsimp only [gt_stp] at h
    replace h := gt_i2_s h
    obtain ⟨x, y, r, rfl, h⟩ := h
    replace h := gt_jp_s h
    obtain ⟨t, htg, h⟩ := h
    intro ht ls H locs hlv hP hS
    rcases gt_br_w h with ⟨h, hc⟩ | ⟨h, hc⟩
    · have k := hκ _ _ _ _ h ht ls H locs hlv hP hS
      cases cd
      · exact lv_icmp_eq hx hb hq htg (fun _ => k) (fun q => absurd hc q)
      · exact lv_icmp_ne hx hb hq htg (fun _ => k) (fun q => absurd q hc)
      · exact lv_icmp_lt hx hb hq htg (fun _ => k) (fun q => absurd hc q)
      · exact lv_icmp_ge hx hb hq htg (fun _ => k) (fun q => absurd hc q)
      · exact lv_icmp_gt hx hb hq htg (fun _ => k) (fun q => absurd hc q)
      · exact lv_icmp_le hx hb hq htg (fun _ => k) (fun q => absurd hc q)
    · have k := hκ _ _ _ _ h ht ls H locs hlv hP hS
      cases cd
      · exact lv_icmp_eq hx hb hq htg (fun q => absurd q hc) (fun _ => k)
      · exact lv_icmp_ne hx hb hq htg (fun q => absurd hc q) (fun _ => k)
      · exact lv_icmp_lt hx hb hq htg (fun q => absurd q hc) (fun _ => k)
      · exact lv_icmp_ge hx hb hq htg (fun q => absurd q hc) (fun _ => k)
      · exact lv_icmp_gt hx hb hq htg (fun q => absurd q hc) (fun _ => k)
      · exact lv_icmp_le hx hb hq htg (fun q => absurd q hc) (fun _ => k)
  | ifnull off =>
    have hl := hle 3 hlen; subst hl
    dsimp only [gt_stp] at h
    split at h
    · replace h := gt_jp_s h
      obtain ⟨t, htg, h⟩ := h
      intro ht ls H locs hlv hP hS
      exact lv_ifnullN hx hb hq htg (hκ _ _ _ _ h ht ls H locs hlv hP hS)
    · intro ht ls H locs hlv hP hS
      exact lv_ifnull hx hb hq (hκ _ _ _ _ h ht ls H locs hlv hP hS)
    · cases h
  | ifnonnull off =>
    have hl := hle 3 hlen; subst hl
    dsimp only [gt_stp] at h
    split at h
    · intro ht ls H locs hlv hP hS
      exact lv_ifnonnullN hx hb hq (hκ _ _ _ _ h ht ls H locs hlv hP hS)
    · replace h := gt_jp_s h
      obtain ⟨t, htg, h⟩ := h
      intro ht ls H locs hlv hP hS
      exact lv_ifnonnull hx hb hq htg (hκ _ _ _ _ h ht ls H locs hlv hP hS)
    · cases h
  | tableswitch d lo hi offs =>
    dsimp only [gt_stp] at h
    replace h := gt_i1_s h
    obtain ⟨x, r, rfl, h⟩ := h
    split at h
    · rename_i hlo
      obtain ⟨hlo, hhi, hsm, hps⟩ := hlo
      intro ht ls H locs hlv hP hS
      rcases gt_ts_s offs.toList lo hlo (by rw [Array.length_toList]; omega) h with ⟨n, w, a1, a2, a3⟩ | ⟨a1, a2⟩
      · obtain ⟨t, htg, h⟩ := gt_jp_s a3
        have hn : n < offs.size := by
          have := (List.getElem?_eq_some_iff.mp a1).1
          rwa [Array.length_toList] at this
        exact lv_tableIn hx hb hq (by omega) (by omega) (by rw [show (x.toInt - lo).toNat = n by omega, ← Array.getElem?_toList]; exact a1) htg (hκ _ _ _ _ h ht ls H locs hlv hP hS)
      · obtain ⟨t, htg, h⟩ := gt_jp_s a2
        refine lv_tableOut hx hb hq ?_ htg (hκ _ _ _ _ h ht ls H locs hlv hP hS)
        rw [Array.length_toList] at a1
        by_cases h1 : x.toInt < lo
        · exact Or.inl h1
        · refine Or.inr ?_
          by_cases h2 : hi < x.toInt
          · exact h2
          · have := a1 (x.toInt - lo).toNat (by omega)
            omega
    · cases h
  | lookupswitch d ps =>
    dsimp only [gt_stp] at h
    replace h := gt_i1_s h
    obtain ⟨x, r, rfl, h⟩ := h
    split at h
    · rename_i hps
      obtain ⟨off, ho, h⟩ := gt_lsw_s _ hps.2 h
      replace h := gt_jp_s h
      obtain ⟨t, htg, h⟩ := h
      intro ht ls H locs hlv hP hS
      exact lv_lookup hx hb hq hps.1 ho htg (hκ _ _ _ _ h ht ls H locs hlv hP hS)
    · cases h
  | getfield k =>
    have hl := hle 3 hlen; subst hl
    dsimp only [gt_stp] at h
    replace h := gt_a1_s h
    obtain ⟨a, r, rfl, h⟩ := h
    obtain ⟨f, hf, h⟩ := Option.bind_eq_some_iff.mp h
    obtain ⟨v, hv, h⟩ := Option.bind_eq_some_iff.mp h
    intro ht ls H locs hlv hP hS
    exact gt_getf (t := f.2.2) hx hb hown hts hK (hE.1 _ (gt_lk_mem hf)) hP hv hq (hκ _ _ _ _ h ht ls H locs hlv hP hS)
  | putfield k =>
    have hl := hle 3 hlen; subst hl
    dsimp only [gt_stp] at h
    split at h
    · obtain ⟨f, hf, h⟩ := Option.bind_eq_some_iff.mp h
      obtain ⟨v, hv, h⟩ := Option.bind_eq_some_iff.mp h
      intro ht ls H locs hlv hP hS
      exact gt_putI (t := f.2.2) hx hb hown hts hK (hE.1 _ (gt_lk_mem hf)) hP (hDD _ ht) hS hv hq (fun e1 H locs hP hS => hκ _ _ _ _ h (e1.trans ht) ls H locs hlv hP hS)
    · obtain ⟨f, hf, h⟩ := Option.bind_eq_some_iff.mp h
      obtain ⟨v, hv, h⟩ := Option.bind_eq_some_iff.mp h
      intro ht ls H locs hlv hP hS
      exact gt_putL (t := f.2.2) hx hb hown hts hK (hE.1 _ (gt_lk_mem hf)) hP (hDD _ ht) hS hv hq (fun e1 H locs hP hS => hκ _ _ _ _ h (e1.trans ht) ls H locs hlv hP hS)
    · cases h
  | iaload =>
    have hl := hle 1 hlen; subst hl
    dsimp only [gt_stp] at h
    replace h := gt_ai_s h
    obtain ⟨a, j, r, rfl, h⟩ := h
    obtain ⟨v, hv, h⟩ := Option.bind_eq_some_iff.mp h
    intro ht ls H locs hlv hP hS
    exact gt_ldI_w hx hb hK hP hv hq (hκ _ _ _ _ h ht ls H locs hlv hP hS)
  | baload =>
    have hl := hle 1 hlen; subst hl
    dsimp only [gt_stp] at h
    replace h := gt_ai_s h
    obtain ⟨a, j, r, rfl, h⟩ := h
    obtain ⟨v, hv, h⟩ := Option.bind_eq_some_iff.mp h
    intro ht ls H locs hlv hP hS
    exact gt_ldZ_w hx hb hK hP hv hq (hκ _ _ _ _ h ht ls H locs hlv hP hS)
  | laload =>
    have hl := hle 1 hlen; subst hl
    dsimp only [gt_stp] at h
    replace h := gt_ai_s h
    obtain ⟨a, j, r, rfl, h⟩ := h
    obtain ⟨v, hv, h⟩ := Option.bind_eq_some_iff.mp h
    intro ht ls H locs hlv hP hS
    exact gt_ldL_w hx hb hK hP hv hq (hκ _ _ _ _ h ht ls H locs hlv hP hS)
  | aaload =>
    have hl := hle 1 hlen; subst hl
    dsimp only [gt_stp] at h
    replace h := gt_ai_s h
    obtain ⟨a, j, r, rfl, h⟩ := h
    split at h
    · rename_i v hv
      intro ht ls H locs hlv hP hS
      exact gt_ldR_w hx hb hK hP hv hq (hκ _ _ _ _ h ht ls H locs hlv hP hS)
    · rename_i hv
      intro ht ls H locs hlv hP hS
      exact gt_ldR_w hx hb hK hP hv hq (hκ _ _ _ _ h ht ls H locs hlv hP hS)
    · cases h
  | iastore =>
    have hl := hle 1 hlen; subst hl
    dsimp only [gt_stp] at h
    replace h := gt_aii_s h
    obtain ⟨a, j, x, r, rfl, h⟩ := h
    obtain ⟨v, hv, h⟩ := Option.bind_eq_some_iff.mp h
    intro ht ls H locs hlv hP hS
    exact gt_stI_w hx hb hK hP (hDD _ ht) hS hv hq (fun e1 H locs hP hS => hκ _ _ _ _ h (e1.trans ht) ls H locs hlv hP hS)
  | bastore =>
    have hl := hle 1 hlen; subst hl
    dsimp only [gt_stp] at h
    replace h := gt_aii_s h
    obtain ⟨a, j, x, r, rfl, h⟩ := h
    obtain ⟨v, hv, h⟩ := Option.bind_eq_some_iff.mp h
    intro ht ls H locs hlv hP hS
    exact gt_stZ_w hx hb hK hP (hDD _ ht) hS hv hq (fun e1 H locs hP hS => hκ _ _ _ _ h (e1.trans ht) ls H locs hlv hP hS)
  | lastore =>
    have hl := hle 1 hlen; subst hl
    dsimp only [gt_stp] at h
    replace h := gt_ail_s h
    obtain ⟨a, j, x, r, rfl, h⟩ := h
    obtain ⟨v, hv, h⟩ := Option.bind_eq_some_iff.mp h
    intro ht ls H locs hlv hP hS
    exact gt_stL_w hx hb hK hP (hDD _ ht) hS hv hq (fun e1 H locs hP hS => hκ _ _ _ _ h (e1.trans ht) ls H locs hlv hP hS)
  | aastore =>
    have hl := hle 1 hlen; subst hl
    dsimp only [gt_stp] at h
    replace h := gt_aiq_s h
    obtain ⟨a, j, x, r, rfl, h⟩ := h
    obtain ⟨v, hv, h⟩ := Option.bind_eq_some_iff.mp h
    intro ht ls H locs hlv hP hS
    have k := gt_stR_w (rest := r.map (gt_v ad)) (ls := ls) hcl hx hb hK hP (hDD _ ht) hS hv hq (fun e1 H locs hP hS => hκ _ _ _ _ h (e1.trans ht) ls H locs hlv hP hS)
    rw [← gt_v_rf] at k
    exact k
  | arraylength =>
    have hl := hle 1 hlen; subst hl
    dsimp only [gt_stp] at h
    replace h := gt_a1_s h
    obtain ⟨a, r, rfl, h⟩ := h
    obtain ⟨v, hv, h⟩ := Option.bind_eq_some_iff.mp h
    intro ht ls H locs hlv hP hS
    exact gt_ln_w hx hb hK hP hv hq (hκ _ _ _ _ h ht ls H locs hlv hP hS)
  | invokevirtual k =>
    have hl := hle 3 hlen; subst hl
    dsimp only [gt_stp] at h
    unfold gt_inv at h
    split at h
    · rename_i w hw
      split at h
      · rename_i hn
        obtain ⟨r1, σ1, hv, h⟩ := gt_cr_s h
        have k2 := hC (k, w.1, w.2.1, w.2.2.1, w.2.2.2) (gt_lk_mem hw) pc lv _ (st.drop w.2.2.1) σ σ1 r1 (by dsimp only; rw [hn.1]; exact hq) (by rw [List.length_reverse, List.length_take]; exact Nat.min_eq_left hn.2.1) hv hn.2.2 (hκ _ _ _ _ h)
        rwa [List.reverse_reverse, List.take_append_drop] at k2
      · cases h
    · cases h
  | invokestatic k =>
    have hl := hle 3 hlen; subst hl
    dsimp only [gt_stp] at h
    unfold gt_inv at h
    split at h
    · rename_i w hw
      split at h
      · rename_i hn
        obtain ⟨r1, σ1, hv, h⟩ := gt_cr_s h
        have k2 := hC (k, w.1, w.2.1, w.2.2.1, w.2.2.2) (gt_lk_mem hw) pc lv _ (st.drop w.2.2.1) σ σ1 r1 (by dsimp only; rw [hn.1]; exact hq) (by rw [List.length_reverse, List.length_take]; exact Nat.min_eq_left hn.2.1) hv hn.2.2 (hκ _ _ _ _ h)
        rwa [List.reverse_reverse, List.take_append_drop] at k2
      · cases h
    · cases h
  | invokespecial k =>
    have hl := hle 3 hlen; subst hl
    dsimp only [gt_stp] at h
    unfold gt_inv at h
    split at h
    · rename_i w hw
      split at h
      · rename_i hn
        obtain ⟨r1, σ1, hv, h⟩ := gt_cr_s h
        have k2 := hC (k, w.1, w.2.1, w.2.2.1, w.2.2.2) (gt_lk_mem hw) pc lv _ (st.drop w.2.2.1) σ σ1 r1 (by dsimp only; rw [hn.1]; exact hq) (by rw [List.length_reverse, List.length_take]; exact Nat.min_eq_left hn.2.1) hv hn.2.2 (hκ _ _ _ _ h)
        rwa [List.reverse_reverse, List.take_append_drop] at k2
      · cases h
    · cases h
  | _ => exact absurd (show (none : Option gt_F) = some o from h) (by simp)
end GTJ
/-! from stop to stop -/
def gt_sk (pc : Nat) : List gt_I → List gt_I
  | [] => []
  | q :: t => bif Nat.beq q.1 pc then q :: t else gt_sk pc t
def gt_nr : List Nat → gt_L → gt_L
  | [], _ => []
  | i :: t, lv => match gt_lk lv i with
    | some v => (i, v) :: gt_nr t lv
    | none => gt_nr t lv
def gt_st1 (ks : gt_KS) (nL : Nat) (E : gt_E) (q : gt_I) (lv : gt_L) (st : List Value) (σ : gt_S) (κ : gt_C) : Option gt_F := match gt_lk E.2.2.2.2 q.1 with
  | some g => (g lv st σ).bind fun o => κ o.1 o.2.1 o.2.2.1 o.2.2.2
  | none => gt_stp ks nL E q lv st σ κ
def gt_bx (ks : gt_KS) (nL : Nat) (E : gt_E) (sp : List (Nat × List Nat)) : Nat → List gt_I → gt_L → List Value → gt_S → Option gt_F
  | 0, _, _, _, _ => none
  | n + 1, cs, lv, st, σ => match cs with
    | [] => none
    | q :: t => gt_st1 ks nL E q lv st σ (fun pc lv st σ => match gt_lk sp pc with
      | some ix => some (pc, gt_nr ix lv, st, σ)
      | none => gt_bx ks nL E sp n (gt_sk pc t) lv st σ)
def gt_it (ks : gt_KS) (nL : Nat) (E : gt_E) (sp : List (Nat × List Nat)) (cs : List gt_I) : Nat → gt_F → Option gt_F
  | 0, a => some a
  | n + 1, a => (gt_bx ks nL E sp 1000 (gt_sk a.1 cs) a.2.1 a.2.2.1 a.2.2.2).bind (gt_it ks nL E sp cs n)
/-- from here the machine comes there -/
def gt_R (ks : gt_KS) (nL : Nat) (E : gt_E) (sp : List (Nat × List Nat)) (cs : List gt_I) (a b : gt_F) : Prop := ∃ n, gt_it ks nL E sp cs n a = some b
theorem gt_R_rf {ks : gt_KS} {nL : Nat} {E : gt_E} {sp : List (Nat × List Nat)} {cs : List gt_I} (a : gt_F) : gt_R ks nL E sp cs a a := ⟨0, rfl⟩
theorem gt_it_add {ks : gt_KS} {nL : Nat} {E : gt_E} {sp : List (Nat × List Nat)} {cs : List gt_I} : ∀ (n k : Nat) {a b d : gt_F}, gt_it ks nL E sp cs n a = some b → gt_it ks nL E sp cs k b = some d → gt_it ks nL E sp cs (n + k) a = some d
  | 0, k, a, b, d, h1, h2 => by
    cases h1
    rw [Nat.zero_add]
    exact h2
  | n + 1, k, a, b, d, h1, h2 => by
    unfold gt_it at h1
    obtain ⟨x, hx, h1⟩ := Option.bind_eq_some_iff.mp h1
    rw [show n + 1 + k = (n + k) + 1 by omega]
    unfold gt_it
    rw [hx]
    exact gt_it_add n k h1 h2
theorem gt_R.tr {ks : gt_KS} {nL : Nat} {E : gt_E} {sp : List (Nat × List Nat)} {cs : List gt_I} {a b d : gt_F} (h1 : gt_R ks nL E sp cs a b) (h2 : gt_R ks nL E sp cs b d) : gt_R ks nL E sp cs a d := by
  obtain ⟨n, h1⟩ := h1
  obtain ⟨k, h2⟩ := h2
  exact ⟨n + k, gt_it_add n k h1 h2⟩
theorem gt_R.st {ks : gt_KS} {nL : Nat} {E : gt_E} {sp : List (Nat × List Nat)} {cs : List gt_I} {pc : Nat} {lv : gt_L} {st : List Value} {σ : gt_S} {b d : gt_F} (h : gt_bx ks nL E sp 1000 (gt_sk pc cs) lv st σ = some b) (h2 : gt_R ks nL E sp cs b d) : gt_R ks nL E sp cs (pc, lv, st, σ) d := by
  obtain ⟨k, h2⟩ := h2
  refine ⟨k + 1, ?_⟩
  unfold gt_it
  dsimp only
  rw [h]
  exact h2
theorem gt_nr_mem {lv : gt_L} : ∀ {ix : List Nat} {q : Nat × Value}, q ∈ gt_nr ix lv → q ∈ lv
  | [], q, h => by cases h
  | i :: t, q, h => by
    unfold gt_nr at h
    split at h
    · rename_i v hv
      rcases List.mem_cons.mp h with rfl | h
      · exact gt_lk_mem hv
      · exact gt_nr_mem h
    · exact gt_nr_mem h
theorem gt_sk_sub {pc : Nat} : ∀ {cs : List gt_I} {q : gt_I}, q ∈ gt_sk pc cs → q ∈ cs
  | [], q, h => by cases h
  | x :: t, q, h => by
    unfold gt_sk at h
    cases hb : Nat.beq x.1 pc with
    | true =>
      rw [hb] at h
      exact h
    | false =>
      rw [hb] at h
      exact List.mem_cons_of_mem _ (gt_sk_sub h)
theorem gt_sk_hd {pc : Nat} : ∀ {cs : List gt_I} {q : gt_I} {t : List gt_I}, gt_sk pc cs = q :: t → q.1 = pc
  | [], q, t, h => by cases h
  | x :: r, q, t, h => by
    unfold gt_sk at h
    cases hb : Nat.beq x.1 pc with
    | true =>
      rw [hb] at h
      cases h
      exact Nat.eq_of_beq_eq_true hb
    | false =>
      rw [hb] at h
      exact gt_sk_hd h
theorem gt_bx_w {J : Nat → gt_L → List Value → gt_S → Prop} {cc : ByteArray} {ks : gt_KS} {nL : Nat} {E : gt_E} {sp : List (Nat × List Nat)} (hsub : ∀ pc lv lv' st σ, (∀ q ∈ lv', q ∈ lv) → J pc lv' st σ → J pc lv st σ)
    (hst : ∀ (q : gt_I), decode cc q.1 = .ok (q.2.1, q.2.2) → gt_lok q = true → ∀ (lv : gt_L) (st : List Value) (σ : gt_S) (κ : gt_C) (o : gt_F), gt_st1 ks nL E q lv st σ κ = some o → (∀ pc lv st σ, κ pc lv st σ = some o → J pc lv st σ) → J q.1 lv st σ) :
    ∀ (n : Nat) (cs : List gt_I) (lv : gt_L) (st : List Value) (σ : gt_S) (o : gt_F), gt_dok cc cs → gt_bx ks nL E sp n cs lv st σ = some o → J o.1 o.2.1 o.2.2.1 o.2.2.2 → ∀ q t, cs = q :: t → J q.1 lv st σ
  | 0, _, _, _, _, _, _, h, _, _, _, _ => by cases h
  | n + 1, cs, lv, st, σ, o, hd, h, hJ, q, t, hcs => by
    subst hcs
    unfold gt_bx at h
    dsimp only at h
    refine hst q (hd q List.mem_cons_self).1 (hd q List.mem_cons_self).2 lv st σ _ o h ?_
    intro pc lv1 st1 σ1 h1
    split at h1
    · cases h1
      exact hsub _ _ _ _ _ (fun q hq => gt_nr_mem hq) hJ
    · cases hs : gt_sk pc t with
      | nil =>
        rw [hs] at h1
        cases n <;> cases h1
      | cons x r =>
        have e1 := gt_sk_hd hs
        subst e1
        exact gt_bx_w hsub hst n (gt_sk x.1 t) lv1 st1 σ1 o (fun q hq => hd q (List.mem_cons_of_mem _ (gt_sk_sub hq))) h1 hJ x r hs
theorem gt_R_w {J : Nat → gt_L → List Value → gt_S → Prop} {cc : ByteArray} {ks : gt_KS} {nL : Nat} {E : gt_E} {sp : List (Nat × List Nat)} {cs : List gt_I} (hd : gt_dok cc cs) (hsub : ∀ pc lv lv' st σ, (∀ q ∈ lv', q ∈ lv) → J pc lv' st σ → J pc lv st σ)
    (hst : ∀ (q : gt_I), decode cc q.1 = .ok (q.2.1, q.2.2) → gt_lok q = true → ∀ (lv : gt_L) (st : List Value) (σ : gt_S) (κ : gt_C) (o : gt_F), gt_st1 ks nL E q lv st σ κ = some o → (∀ pc lv st σ, κ pc lv st σ = some o → J pc lv st σ) → J q.1 lv st σ) :
    ∀ (n : Nat) (a b : gt_F), gt_it ks nL E sp cs n a = some b → J b.1 b.2.1 b.2.2.1 b.2.2.2 → J a.1 a.2.1 a.2.2.1 a.2.2.2
  | 0, a, b, h, hJ => by cases h; exact hJ
  | n + 1, a, b, h, hJ => by
    unfold gt_it at h
    obtain ⟨x, hx, h⟩ := Option.bind_eq_some_iff.mp h
    have h2 := gt_R_w hd hsub hst n x b h hJ
    cases hs : gt_sk a.1 cs with
    | nil =>
      rw [hs] at hx
      cases hx
    | cons q t =>
      have e1 := gt_sk_hd hs
      rw [← e1]
      exact gt_bx_w hsub hst 1000 _ _ _ _ _ (fun q hq => hd q (gt_sk_sub hq)) hx h2 q t hs
/-! contracts -/
def gt_NN (U : State) : Prop := ∀ w ∈ gt_N, va_Nw w U
theorem gt_NN.warm {s U : State} (hW : s.WarmedH U.vm) (h : gt_NN s) : gt_NN U := by
  intro w hw
  have h1 := h w hw
  have h2 := (List.mem_filter.mp hw).2
  cases w <;> first | exact va_Nw.warmF hW h1 | exact va_Nw.warmM hW h1 | cases h2
theorem gt_NN.same {u U : State} (hv : u.vm = U.vm) (h : gt_NN u) : gt_NN U := by
  intro w hw
  have h1 := h w hw
  have h2 := (List.mem_filter.mp hw).2
  cases w <;> first | cases h2; done | exact va_Nw.same rfl hv h1
theorem gt_NN.use {s : State} (h : gt_NN s) {args : Array Value} : ∀ w ∈ gt_N, w.before args s = true := by
  intro w hw
  have h1 := h w hw
  have h2 := (List.mem_filter.mp hw).2
  cases w <;> first | cases h2; done | exact va_Nw.use rfl h1
def gt_Pc (D : va_G) (ks : gt_KS) (cA : FieldType → Nat) (ad : Nat → Nat) (σ : gt_S) (as : List Value) (sz : Nat) : Array Value → State → Prop := va_Pc (as.map (gt_v ad)) (fun U => U.heap.size = sz ∧ va_P D vwCl (gt_w ks cA ad σ) U.heap ∧ va_K D vwCl (gt_tys cA) U ∧ va_D (fun _ => True) (gt_w ks cA ad σ) ∧ gt_NN U)
def gt_Qc (D : va_G) (ks : gt_KS) (cA : FieldType → Nat) (ad : Nat → Nat) (σ σ' : gt_S) (r : Option Value) (sz : Nat) : Array Value → State → Outcome → State → Prop := fun _ st oc t => oc = .returned (r.map (gt_v ad)) ∧ σ'.2.2.2 = σ.2.2.2 ∧ va_P D vwCl (gt_w ks cA ad σ') t.heap ∧ va_F (va_A (gt_w ks cA ad σ) sz) st t
/-- a method does to the store what f does -/
def gt_M (l : Launch) (ks : gt_KS) (y : MethodName) (ws : List Cond) (rm : Room) (f : gt_G) : Prop := ∀ (D : va_G) (cA : FieldType → Nat) (ad : Nat → Nat) (σ σ' : gt_S) (as : List Value) (r : Option Value) (sz : Nat), f as σ = some (r, σ') → Met l y ws rm (gt_Pc D ks cA ad σ as sz) (gt_Qc D ks cA ad σ σ' r sz) 0 0 (va_A (gt_w ks cA ad σ) sz)
theorem gt_Pc_bl {D : va_G} {ks : gt_KS} {cA : FieldType → Nat} {ad : Nat → Nat} {σ : gt_S} {as : List Value} {sz : Nat} : FrameBlind (gt_Pc D ks cA ad σ as sz) := by
  intro a U g mk q
  obtain ⟨q0, q1, qP, qK, qD, qN⟩ := q
  exact ⟨q0, q1, qP, va_K.moved (u := U) (U := U.calling g mk a) (Vm.Alike.refl U.vm) qK, qD, gt_NN.same (u := U) (U := U.calling g mk a) rfl qN⟩
def gt_W (y : MethodName) (cc : ByteArray) (maxL : Nat) (ret : Option FieldType) : List Cond := Cond.code y cc maxL ret :: gt_T
theorem gt_good {y : MethodName} {cc : ByteArray} {maxL : Nat} {ret : Option FieldType} (h : Cond.code y cc maxL ret ∈ gt_T) : GoodIn gt_T (gt_W y cc maxL ret) := by
  intro w hw
  have hm : w ∈ gt_T := by
    rcases List.mem_cons.mp hw with rfl | hw
    · exact h
    · exact hw
  exact ⟨hm, good_of_word (List.mem_filter.mp hm).2⟩
section GTC
variable {p : Program} {l : Launch} {e : Env} {R : Room} {s : State} {m : MethodId} {args : Array Value} {below : List Frame} {meth : Method} {c : Code} {cells slots : Nat} {Q : State → Prop}
variable {cc : ByteArray} {D : va_G} {ks : gt_KS} {cA : FieldType → Nat} {ad : Nat → Nat} {A : Nat → Prop} {H0 : Heap} {tx : List (Nat × Nat)} {nL : Nat} {own : String}
theorem gt_callg {σ σ' : gt_S} {r : Option Value} {pc : Nat} {ls : Array Slot} {H : Heap} {locs : List Loc} {st0 rest : List Value} {aa : Array Value} (hr : va_Run p l e R s m args below meth c H locs cells slots 0 0 (F0 m pc ls st0) rest (gt_Qc D ks cA ad σ σ' r H.size aa) (va_A (gt_w ks cA ad σ) H.size)) (hS : va_S A H0 H locs) (hF : ∀ q, va_A (gt_w ks cA ad σ) H.size q → A q)
    (kk : σ'.2.2.2 = σ.2.2.2 → ∀ (H1 : Heap) (locs1 : List Loc), va_P D vwCl (gt_w ks cA ad σ') H1 → va_S A H0 H1 locs1 → W p l e R s m args below meth c H1 locs1 cells slots Q (F0 m (pc + 3) ls ((r.map (gt_v ad)).toList ++ rest))) : W p l e R s m args below meth c H locs cells slots Q (F0 m pc ls st0) := by
  intro T hT X
  obtain ⟨v, st₀, t, T', L, h0, X', hL, e1, e2, ⟨hv, htx, hP1, hz, hk⟩, st⟩ := hr T hT X
  cases hv
  rw [h0] at hz hk
  obtain ⟨t2, a1, b1⟩ := kk htx T'.heap (locs ++ L) (by rw [e1]; exact hP1)
    ⟨Nat.le_trans hS.1 (by rw [e1]; exact hz), fun q h1 h2 => by rw [e1, hk q (Nat.lt_of_lt_of_le h1 hS.1) (fun z => h2 (hF q z))]; exact hS.2.1 q h1 h2, fun q hq => by
      rcases List.mem_append.mp hq with h | h
      · exact hS.2.2 q h
      · exact hF _ (hL q h)⟩ T' rfl X'
  exact ⟨t2, st t2 a1, b1⟩
theorem gt_free {σ : gt_S} {H : Heap} {locs : List Loc} (hD : va_D A (gt_w ks cA ad σ)) (hS : va_S A H0 H locs) (hA : ∀ q, H0.size ≤ q → A q) : ∀ q, va_A (gt_w ks cA ad σ) H.size q → A q := by
  intro q h
  rcases h with ⟨k, e, h⟩ | h
  · exact hD.2 k (q, e) h
  · exact hA q (Nat.le_trans hS.1 h)
theorem gt_sum_map (ad : Nat → Nat) (rest : List Value) : ((rest.map (gt_v ad)).map fun v => v.category).sum = (rest.map fun v => v.category).sum := by
  rw [List.map_map]
  congr 1
  apply List.map_congr_left
  intro v _
  exact gt_v_cat ad v
/-- what a caller is -/
def gt_Ctx (p : Program) (s : State) (m : MethodId) (args : Array Value) (c : Code) (cc : ByteArray) (nL : Nat) (own : String) (D : va_G) (ks : gt_KS) (cA : FieldType → Nat) (ad : Nat → Nat) (A : Nat → Prop) (H0 : Heap) (tx : List (Nat × Nat)) : Prop :=
  p.tables.exec = Jvm.exec ∧ c.code = cc ∧ c.maxLocals = nL ∧ s.vm.findClass own = some m.cls ∧ (∀ w ∈ gt_T, w.before args s = true) ∧ va_K D vwCl (gt_tys cA) s ∧ (∀ σ : gt_S, σ.2.2.2 = tx → va_D A (gt_w ks cA ad σ)) ∧ (∀ q, H0.size ≤ q → A q) ∧ gt_NN s
theorem gt_ckV (X : gt_Ctx p s m args c cc nL own D ks cA ad A H0 tx) (hf : cells ≤ R.cells ∧ slots ≤ R.slots) {y : MethodName} {cy : ByteArray} {maxL : Nat} {ret : Option FieldType} {rm : Room} {f : gt_G} {idx n rk : Nat} (hM : gt_M l ks y (gt_W y cy maxL ret) rm f) (hrm : rm.cells = 0 ∧ rm.slots = 0) (hR : rm.frames + 1 ≤ R.frames ∧ 8 + (maxL + 11) + rm.locals ≤ R.locals)
    (hcode : Cond.code y cy maxL ret ∈ gt_T) (hw : ∀ w ∈ ([.methodLink own idx y, .instanceMethod y, .selects y.cls y y, .initialized y.cls] : List Cond), w ∈ gt_T) (hd : y.cls ≠ "java/lang/invoke/MethodHandle" ∧ y.cls ≠ "java/lang/invoke/VarHandle" ∧ (parseMethodDescriptor y.desc).map (fun d => d.parameters.length) = some n)
    (hrc : ∀ (as : List Value) (σ : gt_S) (o : Option Value × gt_S), f as σ = some o → ∃ (b : Nat) (as' : List Value) (ci : Nat) (sl : List (Option (Option Nat))) (T : u_T) (N : Nat), as = .ref b :: as' ∧ gt_kd ks σ.2.2.2 b = some (.inr (ci, sl)) ∧ vwCl[ci]? = some (y.cls, T, N)) :
    gt_ck (gt_J (fun H locs pc ls st => W p l e R s m args below meth c H locs cells slots Q (F0 m pc ls st)) D vwCl ks cA ad A H0 tx nL) cc (idx, 0, rk, n + 1, f) := by
  obtain ⟨hx, hb, hml, hown, hts, hK, hDD, hA, hN⟩ := X
  intro pc lv as rest σ σ' r hdg hlen hfs hsum hJ
  dsimp only at hlen hfs
  obtain ⟨b, as', ci, sl, Tc, N, rfl, hkb, hcb⟩ := hrc as σ _ hfs
  intro ht ls H locs hlv hP hS
  have hD := hDD σ ht
  have hF := gt_free hD hS hA
  have hG : GoodIn gt_T (wsV own idx y.cls y (gt_W y cy maxL ret)) := by
    intro w h
    rcases List.mem_append.mp h with h | h
    · exact ⟨hw w h, good_of_word (List.mem_filter.mp (hw w h)).2⟩
    · exact gt_good hcode w h
  have hcw := cwV (R := R) (s := s) (args := args) (ws := gt_W y cy maxL ret) (rm := rm) (mc := 0) (ms := 0) n hts hG rfl hrm.1 hrm.2 ⟨rfl, hd.1, hd.2.1, hd.2.2⟩ hR
  have hl2 : as'.length = n := by rw [List.length_cons] at hlen; omega
  have hrun := va_runV (As := as'.map (gt_v ad)) (b := ad b) (rest := rest.map (gt_v ad)) (g := F0 m pc ls (((.ref b :: as').reverse ++ rest).map (gt_v ad))) (locs := locs) (below := below) (meth := meth) (e := e) (cells := cells) (slots := slots) (H := H) ⟨hx, hb, hml, hown, hts⟩ (hM D cA ad σ σ' (.ref b :: as') r H.size hfs) hcw
    ⟨gt_Pc_bl, va_recv hK hP (ci := ci) (q0 := b) hcb (gt_w_at hkb), fun U hU hW => ⟨rfl, by rw [hU], by rw [hU]; exact hP, va_K.moved hW.alike hK, hD.weaken (fun _ _ _ _ => trivial), hN.warm hW⟩⟩ rfl (by rw [List.length_map]; exact hl2) hlv.1 (by simp [gt_v]) (lv_room (by rw [gt_sum_map]; exact hsum)) hdg ⟨hf.1, hf.2⟩
  refine gt_callg hrun hS hF (fun htx H1 locs1 hP1 hS1 => ?_)
  have := hJ (htx.trans ht) ls H1 locs1 hlv hP1 hS1
  rw [List.map_append] at this
  cases r <;> exact this
theorem gt_ckS (X : gt_Ctx p s m args c cc nL own D ks cA ad A H0 tx) (hf : cells ≤ R.cells ∧ slots ≤ R.slots) {y : MethodName} {cy : ByteArray} {maxL : Nat} {ret : Option FieldType} {rm : Room} {f : gt_G} {idx n rk : Nat} (hM : gt_M l ks y (gt_W y cy maxL ret) rm f) (hrm : rm.cells = 0 ∧ rm.slots = 0) (hR : rm.frames + 1 ≤ R.frames ∧ 8 + (maxL + 11) + rm.locals ≤ R.locals)
    (hcode : Cond.code y cy maxL ret ∈ gt_T) (hl : Cond.methodLink own idx y ∈ gt_T ∨ ∃ host, Cond.methodLinkNest own idx y host ∈ gt_N) (hst : Cond.static y ∈ gt_T) (hini : Cond.initialized y.cls ∈ gt_T) (hd : y.cls ≠ "java/lang/invoke/MethodHandle" ∧ y.cls ≠ "java/lang/invoke/VarHandle" ∧ (parseMethodDescriptor y.desc).map (fun d => d.parameters.length) = some n) :
    gt_ck (gt_J (fun H locs pc ls st => W p l e R s m args below meth c H locs cells slots Q (F0 m pc ls st)) D vwCl ks cA ad A H0 tx nL) cc (idx, 1, rk, n, f) := by
  obtain ⟨hx, hb, hml, hown, hts, hK, hDD, hA, hN⟩ := X
  intro pc lv as rest σ σ' r hdg hlen hfs hsum hJ
  dsimp only at hlen hfs
  intro ht ls H locs hlv hP hS
  have hD := hDD σ ht
  have hF := gt_free hD hS hA
  have hpre : PreS s H (gt_Pc D ks cA ad σ as H.size) (as.map (gt_v ad)) := ⟨gt_Pc_bl, fun U hU hW => ⟨rfl, by rw [hU], by rw [hU]; exact hP, va_K.moved hW.alike hK, hD.weaken (fun _ _ _ _ => trivial), hN.warm hW⟩⟩
  have hstk : ((as.reverse ++ rest).map (gt_v ad)) = (as.map (gt_v ad)).reverse ++ rest.map (gt_v ad) := by simp
  have hrun : va_Run p l e R s m args below meth c H locs cells slots 0 0 (F0 m pc ls ((as.reverse ++ rest).map (gt_v ad))) (rest.map (gt_v ad)) (gt_Qc D ks cA ad σ σ' r H.size (as.map (gt_v ad)).toArray) (va_A (gt_w ks cA ad σ) H.size) := by
    rcases hl with hl | ⟨host, hl⟩
    · exact va_runS (As := as.map (gt_v ad)) ⟨hx, hb, hml, hown, hts⟩ (hM D cA ad σ σ' as r H.size hfs) ⟨callB_of n hts (gt_good hcode) rfl hrm.1 hrm.2 (hts _ hini) (hts _ hl) hd hR, hts _ hst⟩ hpre rfl (by rw [List.length_map]; exact hlen) hlv.1 hstk (lv_room (by rw [gt_sum_map]; exact hsum)) hdg ⟨hf.1, hf.2⟩
    · exact va_runSN (As := as.map (gt_v ad)) ⟨hx, hb, hml, hown, hts⟩ (hM D cA ad σ σ' as r H.size hfs) ⟨va_cnB n hts (gt_good hcode) rfl hrm.1 hrm.2 (hN _ hl) (hts _ hini) hd hR, hts _ hst, trivial⟩ hpre rfl (by rw [List.length_map]; exact hlen) hlv.1 hstk (lv_room (by rw [gt_sum_map]; exact hsum)) hdg ⟨hf.1, hf.2⟩
  refine gt_callg hrun hS hF (fun htx H1 locs1 hP1 hS1 => ?_)
  have := hJ (htx.trans ht) ls H1 locs1 hlv hP1 hS1
  rw [List.map_append] at this
  cases r <;> exact this
end GTC
end
section
/-! a method's contract out of a run of the small machine -/
def gt_ckA (l : Launch) (ks : gt_KS) (cc : ByteArray) (nL : Nat) (own : String) (R : Room) (q : Nat × Nat × Nat × Nat × gt_G) : Prop := ∀ (p : Program) (e : Env) (s : State) (m : MethodId) (args : Array Value) (below : List Frame) (meth : Method) (c : Code) (Q : State → Prop) (D : va_G) (cA : FieldType → Nat) (ad : Nat → Nat) (A : Nat → Prop) (H0 : Heap) (tx : List (Nat × Nat)), gt_Ctx p s m args c cc nL own D ks cA ad A H0 tx →
  gt_ck (gt_J (fun H locs pc ls st => W p l e R s m args below meth c H locs 0 0 Q (F0 m pc ls st)) D vwCl ks cA ad A H0 tx nL) cc q
/-- a special step is what it says -/
def gt_spA (l : Launch) (ks : gt_KS) (cc : ByteArray) (nL : Nat) (own : String) (R : Room) (q : Nat × (gt_L → List Value → gt_S → Option gt_F)) : Prop := ∀ (p : Program) (e : Env) (s : State) (m : MethodId) (args : Array Value) (below : List Frame) (meth : Method) (c : Code) (Q : State → Prop) (D : va_G) (cA : FieldType → Nat) (ad : Nat → Nat) (A : Nat → Prop) (H0 : Heap) (tx : List (Nat × Nat)), gt_Ctx p s m args c cc nL own D ks cA ad A H0 tx →
  ∀ (lv : gt_L) (st : List Value) (σ : gt_S) (o : gt_F), q.2 lv st σ = some o → gt_J (fun H locs pc ls st => W p l e R s m args below meth c H locs 0 0 Q (F0 m pc ls st)) D vwCl ks cA ad A H0 tx nL o.1 o.2.1 o.2.2.1 o.2.2.2 → gt_J (fun H locs pc ls st => W p l e R s m args below meth c H locs 0 0 Q (F0 m pc ls st)) D vwCl ks cA ad A H0 tx nL q.1 lv st σ
theorem gt_aV {l : Launch} {ks : gt_KS} {cc : ByteArray} {nL : Nat} {own : String} {R : Room} {y : MethodName} {cy : ByteArray} {maxL : Nat} {ret : Option FieldType} {rm : Room} {f : gt_G} {idx n rk : Nat} (hM : gt_M l ks y (gt_W y cy maxL ret) rm f) (hrm : rm.cells = 0 ∧ rm.slots = 0) (hR : rm.frames + 1 ≤ R.frames ∧ 8 + (maxL + 11) + rm.locals ≤ R.locals)
    (hcode : Cond.code y cy maxL ret ∈ gt_T) (hw : ∀ w ∈ ([.methodLink own idx y, .instanceMethod y, .selects y.cls y y, .initialized y.cls] : List Cond), w ∈ gt_T) (hd : y.cls ≠ "java/lang/invoke/MethodHandle" ∧ y.cls ≠ "java/lang/invoke/VarHandle" ∧ (parseMethodDescriptor y.desc).map (fun d => d.parameters.length) = some n)
    (hrc : ∀ (as : List Value) (σ : gt_S) (o : Option Value × gt_S), f as σ = some o → ∃ (b : Nat) (as' : List Value) (ci : Nat) (sl : List (Option (Option Nat))) (T : u_T) (N : Nat), as = .ref b :: as' ∧ gt_kd ks σ.2.2.2 b = some (.inr (ci, sl)) ∧ vwCl[ci]? = some (y.cls, T, N)) : gt_ckA l ks cc nL own R (idx, 0, rk, n + 1, f) :=
  fun _ _ _ _ _ _ _ _ _ _ _ _ _ _ _ X => gt_ckV X ⟨Nat.zero_le _, Nat.zero_le _⟩ hM hrm hR hcode hw hd hrc
theorem gt_aS {l : Launch} {ks : gt_KS} {cc : ByteArray} {nL : Nat} {own : String} {R : Room} {y : MethodName} {cy : ByteArray} {maxL : Nat} {ret : Option FieldType} {rm : Room} {f : gt_G} {idx n rk : Nat} (hM : gt_M l ks y (gt_W y cy maxL ret) rm f) (hrm : rm.cells = 0 ∧ rm.slots = 0) (hR : rm.frames + 1 ≤ R.frames ∧ 8 + (maxL + 11) + rm.locals ≤ R.locals)
    (hcode : Cond.code y cy maxL ret ∈ gt_T) (hl : Cond.methodLink own idx y ∈ gt_T ∨ ∃ host, Cond.methodLinkNest own idx y host ∈ gt_N) (hst : Cond.static y ∈ gt_T) (hini : Cond.initialized y.cls ∈ gt_T) (hd : y.cls ≠ "java/lang/invoke/MethodHandle" ∧ y.cls ≠ "java/lang/invoke/VarHandle" ∧ (parseMethodDescriptor y.desc).map (fun d => d.parameters.length) = some n) : gt_ckA l ks cc nL own R (idx, 1, rk, n, f) :=
  fun _ _ _ _ _ _ _ _ _ _ _ _ _ _ _ X => gt_ckS X ⟨Nat.zero_le _, Nat.zero_le _⟩ hM hrm hR hcode hl hst hini hd
def gt_ro (cc : ByteArray) (ret : Option FieldType) (b : gt_F) (r : Option Value) : Prop := b.2.2.1 = r.toList ∧ match r with
  | none => decode cc b.1 = .ok (.return_, 1) ∧ ret = none
  | some (.int v) => decode cc b.1 = .ok (.ireturn, 1) ∧ (ret = some .int ∨ (ret = some .boolean ∧ (v = 0 ∨ v = 1)))
  | some (.long _) => decode cc b.1 = .ok (.lreturn, 1) ∧ ret = some .long
  | some .null => decode cc b.1 = .ok (.areturn, 1) ∧ ∃ n, ret = some (.object n)
  | some (.ref _) => decode cc b.1 = .ok (.areturn, 1) ∧ ∃ n, ret = some (.object n)
  | _ => False
theorem gt_args_m (ad : Nat → Nat) : ∀ (as : List Value) (k : Nat), lv_args k (as.map (gt_v ad)) = (lv_args k as).map (gt_lm ad)
  | [], _ => rfl
  | v :: t, k => by
    rw [List.map_cons]
    unfold lv_args
    rw [List.map_cons, gt_v_cat, gt_args_m ad t]
    rfl
theorem gt_sl_len (ad : Nat → Nat) : ∀ (as : List Value), (lg_sl (as.map (gt_v ad))).length = (lg_sl as).length
  | [] => rfl
  | v :: t => by
    have ih := gt_sl_len ad t
    unfold lg_sl at ih ⊢
    rw [List.map_cons, List.flatMap_cons, List.flatMap_cons, List.length_append, List.length_append, ih, gt_v_cat]
    congr 1
    split <;> rfl
theorem gt_w_D {B : Nat → Prop} {ks : gt_KS} {cA : FieldType → Nat} {ad : Nat → Nat} {σ σ2 : gt_S} {sz : Nat} (hD : va_D B (gt_w ks cA ad σ)) (ht : σ2.2.2.2 = σ.2.2.2) : va_D (va_A (gt_w ks cA ad σ) sz) (gt_w ks cA ad σ2) := by
  have key : ∀ (k : Nat) (q : Nat × va_E), (gt_w ks cA ad σ2)[k]? = some q → ∃ e, (gt_w ks cA ad σ)[k]? = some (q.1, e) := by
    intro k q hk
    unfold gt_w at hk ⊢
    rw [List.getElem?_map] at hk ⊢
    rw [ht] at hk
    cases hr : (List.range (gt_n ks σ.2.2.2))[k]? with
    | none => rw [hr] at hk; cases hk
    | some x =>
      rw [hr] at hk
      cases hk
      exact ⟨_, rfl⟩
  refine ⟨fun i j x y hi hj hxy => ?_, fun k q hk => ?_⟩
  · obtain ⟨e1, h1⟩ := key i x hi
    obtain ⟨e2, h2⟩ := key j y hj
    exact hD.1 i j _ _ h1 h2 hxy
  · obtain ⟨e1, h1⟩ := key k q hk
    exact Or.inl ⟨k, e1, h1⟩
set_option maxHeartbeats 4000000 in
theorem gt_met {l : Launch} {ks : gt_KS} {y : MethodName} {cc : ByteArray} {maxL : Nat} {ret : Option FieldType} {rm : Room} {f : gt_G} {E : gt_E} {sp : List (Nat × List Nat)} {cs : List gt_I} (hy : plainName y.cls = true) (hd : gt_dok cc cs) (hE : gt_eok (gt_T ++ gt_N) y.cls vwCl E) (hC : ∀ q ∈ E.2.2.2.1, gt_ckA l ks cc maxL y.cls rm q) (hSp : ∀ q ∈ E.2.2.2.2, gt_spA l ks cc maxL y.cls rm q)
    (hf : ∀ (as : List Value) (σ : gt_S) (r : Option Value) (σ' : gt_S), f as σ = some (r, σ') → (lg_sl as).length ≤ maxL ∧ ∃ b : gt_F, gt_R ks maxL E sp cs (0, lv_args 0 as, [], σ) b ∧ b.2.2.2 = σ' ∧ gt_ro cc ret b r) : gt_M l ks y (gt_W y cc maxL ret) rm f := by
  intro D cA ad σ σ' as r sz hfs
  obtain ⟨hla, b, ⟨n, hR⟩, hσ, hro⟩ := hf as σ r σ' hfs
  refine Met.ofW (cc := cc) (maxL := maxL) (ret := ret) hy rfl ?_
  intro p e s m args below meth c s₁ B hml hv
  obtain ⟨rfl, hsz, hP, hK, hD0, hN⟩ := hv
  have hx := B.exec
  have hb := B.bytes
  have hr := B.returns
  have hts0 := atoms_spec (ws := gt_W y cc maxL ret) B.pre
  have hts : ∀ w ∈ gt_T, w.before (as.map (gt_v ad)).toArray s = true := fun w hw => hts0 w (List.mem_cons_of_mem _ hw)
  have hown : s.vm.findClass y.cls = some m.cls := findClass_of_methodNamed B.named
  have hlocks := B.notSynchronized
  subst hsz
  have hDD : ∀ σ2 : gt_S, σ2.2.2.2 = σ.2.2.2 → va_D (va_A (gt_w ks cA ad σ) s.heap.size) (gt_w ks cA ad σ2) := fun σ2 h2 => gt_w_D hD0 h2
  have hA : ∀ q : Nat, s.heap.size ≤ q → va_A (gt_w ks cA ad σ) s.heap.size q := fun q h => Or.inr h
  have X : gt_Ctx p s m (as.map (gt_v ad)).toArray c cc maxL y.cls D ks cA ad (va_A (gt_w ks cA ad σ) s.heap.size) s.heap σ.2.2.2 := ⟨hx, hb, hml, hown, hts, hK, hDD, hA, hN⟩
  have hts2 : ∀ w ∈ gt_T ++ gt_N, w.before (as.map (gt_v ad)).toArray s = true := fun w hw => (List.mem_append.mp hw).elim (hts w) (hN.use w)
  have key := gt_R_w (J := gt_J (fun H locs pc ls st => W p l e rm s m (as.map (gt_v ad)).toArray below meth c H locs 0 0 (MQ below (gt_Qc D ks cA ad σ σ' r s.heap.size) (as.map (gt_v ad)).toArray s 0 0 (va_A (gt_w ks cA ad σ) s.heap.size)) (F0 m pc ls st)) D vwCl ks cA ad (va_A (gt_w ks cA ad σ) s.heap.size) s.heap σ.2.2.2 maxL) (E := E) (sp := sp) hd
    (fun pc lv lv' st σ2 hsub hJ ht ls H locs hlv hP hS => hJ ht ls H locs ⟨hlv.1, hlv.2.1, fun q hq => by
      obtain ⟨x, hx1, rfl⟩ := List.mem_map.mp hq
      exact hlv.2.2 _ (List.mem_map.mpr ⟨x, hsub x hx1, rfl⟩)⟩ hP hS)
    (fun q hq hl lv st σ2 κ o h hκ => by
      unfold gt_st1 at h
      split at h
      · rename_i g hg
        obtain ⟨o2, ho, h⟩ := Option.bind_eq_some_iff.mp h
        exact hSp (q.1, g) (gt_lk_mem hg) p e s m _ below meth c _ D cA ad _ _ _ X lv st σ2 o2 ho (hκ _ _ _ _ h)
      · exact gt_stp_w rfl hx hb hown hts2 hK hDD hE (fun q hq => hC q hq p e s m _ below meth c _ D cA ad _ _ _ X) hq hl h hκ) n _ b hR
  have hl := lv_entry (as.map (gt_v ad)) (n := maxL) (by rw [gt_sl_len]; exact hla)
  rw [lg_entry_eq]
  rw [gt_args_m] at hl
  refine key ?_ rfl _ s.heap [] hl hP va_S.rf
  intro ht ls H locs hlv hPb hS
  rw [hσ] at hPb ht
  obtain ⟨hst, hro⟩ := hro
  rw [hst]
  rcases r with _ | ⟨v | v | v | v | _ | a | v⟩
  · obtain ⟨hdg, hret⟩ := hro
    exact W.vret hx hb (hr.trans hret) (fun t h9 hW => ⟨rfl, ht, by rw [h9]; exact hPb, hS.F h9⟩) hS.2.2 hdg
  · obtain ⟨hdg, hret⟩ := hro
    rcases hret with hret | ⟨hret, hv⟩
    · exact W.iret (v := v) hx hb (hr.trans hret) (fun t h9 hW => ⟨rfl, ht, by rw [h9]; exact hPb, hS.F h9⟩) hS.2.2 hdg
    · exact W.zret (v := v) (ty := .boolean) hx hb (hr.trans hret) (by rcases hv with rfl | rfl <;> rfl) (fun t h9 hW => ⟨rfl, ht, by rw [h9]; exact hPb, hS.F h9⟩) hS.2.2 hdg
  · obtain ⟨hdg, hret⟩ := hro
    exact W.lret (v := v) hx hb (hr.trans hret) (fun t h9 hW => ⟨rfl, ht, by rw [h9]; exact hPb, hS.F h9⟩) hS.2.2 hdg
  · exact hro.elim
  · exact hro.elim
  · obtain ⟨hdg, nm, hret⟩ := hro
    exact W.aret (v := .null) hx hb (hr.trans hret) (Or.inl ⟨_, rfl⟩) (Or.inl rfl) (fun t h9 hW => ⟨rfl, ht, by rw [h9]; exact hPb, hS.F h9⟩) hS.2.2 hdg
  · obtain ⟨hdg, nm, hret⟩ := hro
    exact W.aret (v := .ref (ad a)) hx hb (hr.trans hret) (Or.inl ⟨_, rfl⟩) (Or.inr ⟨_, rfl⟩) (fun t h9 hW => ⟨rfl, ht, by rw [h9]; exact hPb, hS.F h9⟩) hS.2.2 hdg
  · exact hro.elim
end
section
/-! what a method does, as a function: where its run ends. (nL, tables, stops, code list, bytes, return type, class of the receiver) -/
abbrev gt_Y : Type := Nat × gt_E × List (Nat × List Nat) × List gt_I × ByteArray × Option FieldType × Option Nat
def gt_rv (ks : gt_KS) (ci : Option Nat) (as : List Value) (σ : gt_S) : Prop := match ci with
  | none => True
  | some ci => ∃ (b : Nat) (as' : List Value) (sl : List (Option (Option Nat))), as = .ref b :: as' ∧ gt_kd ks σ.2.2.2 b = some (.inr (ci, sl))
def gt_run (ks : gt_KS) (Y : gt_Y) (as : List Value) (σ : gt_S) (o : Option Value × gt_S) : Prop := gt_rv ks Y.2.2.2.2.2.2 as σ ∧ (lg_sl as).length ≤ Y.1 ∧ ∃ b : gt_F, gt_R ks Y.1 Y.2.1 Y.2.2.1 Y.2.2.2.1 (0, lv_args 0 as, [], σ) b ∧ b.2.2.2 = o.2 ∧ gt_ro Y.2.2.2.2.1 Y.2.2.2.2.2.1 b o.1
noncomputable def gt_sem (ks : gt_KS) (Y : gt_Y) : gt_G := fun as σ => @dite (Option (Option Value × gt_S)) (∃ o, gt_run ks Y as σ o) (Classical.propDecidable _) (fun h => some h.choose) (fun _ => none)
theorem gt_sem_s {ks : gt_KS} {Y : gt_Y} {as : List Value} {σ : gt_S} {o : Option Value × gt_S} (h : gt_sem ks Y as σ = some o) : gt_run ks Y as σ o := by
  unfold gt_sem at h
  split at h
  · rename_i hx
    cases h
    exact hx.choose_spec
  · cases h
def gt_isR : Instr → Bool
  | .ireturn => true
  | .lreturn => true
  | .areturn => true
  | .return_ => true
  | _ => false
theorem gt_ro_r {cc : ByteArray} {ret : Option FieldType} {b : gt_F} {r : Option Value} (h : gt_ro cc ret b r) : ∃ i, decode cc b.1 = .ok (i, 1) ∧ gt_isR i = true := by
  obtain ⟨-, h⟩ := h
  split at h
  · exact ⟨_, h.1, rfl⟩
  · exact ⟨_, h.1, rfl⟩
  · exact ⟨_, h.1, rfl⟩
  · exact ⟨_, h.1, rfl⟩
  · exact ⟨_, h.1, rfl⟩
  · exact h.elim
/-- no special step stands at a return -/
def gt_nsp (E : gt_E) (cs : List gt_I) : Bool := cs.all fun q => !(gt_isR q.2.1) || (gt_lk E.2.2.2.2 q.1).isNone
theorem gt_stp_r {ks : gt_KS} {nL : Nat} {E : gt_E} {q : gt_I} {lv : gt_L} {st : List Value} {σ : gt_S} {κ : gt_C} (h : gt_isR q.2.1 = true) : gt_stp ks nL E q lv st σ κ = none := by
  obtain ⟨pc, i, len⟩ := q
  cases i <;> first | rfl | cases h
theorem gt_end {ks : gt_KS} {nL : Nat} {E : gt_E} {sp : List (Nat × List Nat)} {cs : List gt_I} {cc : ByteArray} (hd : gt_dok cc cs) (hn0 : gt_nsp E cs = true) {ret : Option FieldType} {b : gt_F} {r : Option Value} (h : gt_ro cc ret b r) : ∀ (n : Nat) (d : gt_F), gt_it ks nL E sp cs n b = some d → n = 0
  | 0, _, _ => rfl
  | n + 1, d, hn => by
    exfalso
    unfold gt_it at hn
    obtain ⟨x, hx, -⟩ := Option.bind_eq_some_iff.mp hn
    obtain ⟨i, h1, h2⟩ := gt_ro_r h
    cases hs : gt_sk b.1 cs with
    | nil =>
      rw [hs] at hx
      cases hx
    | cons q t =>
      rw [hs] at hx
      have e1 := gt_sk_hd hs
      have hqm := gt_sk_sub (q := q) (by rw [hs]; exact List.mem_cons_self)
      have e2 := (hd q hqm).1
      have e3 := List.all_eq_true.mp hn0 q hqm
      rw [e1, h1] at e2
      obtain ⟨qp, qi, ql⟩ := q
      dsimp only at e2 e3
      cases e2
      rw [h2] at e3
      have e4 : gt_lk E.2.2.2.2 qp = none := by simpa using e3
      unfold gt_bx at hx
      dsimp only at hx
      unfold gt_st1 at hx
      dsimp only at hx
      rw [e4] at hx
      dsimp only at hx
      rw [gt_stp_r h2] at hx
      cases hx
theorem gt_uni {ks : gt_KS} {nL : Nat} {E : gt_E} {sp : List (Nat × List Nat)} {cs : List gt_I} {cc : ByteArray} (hd : gt_dok cc cs) (hn0 : gt_nsp E cs = true) {ret : Option FieldType} {a b b' : gt_F} {r r' : Option Value} (h : gt_ro cc ret b r) (h' : gt_ro cc ret b' r') : ∀ (n k : Nat) (a : gt_F), gt_it ks nL E sp cs n a = some b → gt_it ks nL E sp cs k a = some b' → b = b'
  | 0, k, a, h1, h2 => by
    cases h1
    have := gt_end hd hn0 h k b' h2
    subst this
    cases h2
    rfl
  | n + 1, 0, a, h1, h2 => by
    cases h2
    have := gt_end hd hn0 h' (n + 1) b h1
    omega
  | n + 1, k + 1, a, h1, h2 => by
    unfold gt_it at h1 h2
    obtain ⟨x, hx, h1⟩ := Option.bind_eq_some_iff.mp h1
    obtain ⟨z, hz, h2⟩ := Option.bind_eq_some_iff.mp h2
    rw [hx] at hz
    cases hz
    exact gt_uni (a := a) hd hn0 h h' n k x h1 h2
theorem gt_sem_i {ks : gt_KS} {Y : gt_Y} (hd : gt_dok Y.2.2.2.2.1 Y.2.2.2.1) (hn0 : gt_nsp Y.2.1 Y.2.2.2.1 = true) {as : List Value} {σ : gt_S} {o : Option Value × gt_S} (h : gt_run ks Y as σ o) : gt_sem ks Y as σ = some o := by
  unfold gt_sem
  split
  · rename_i hx
    have h2 := hx.choose_spec
    obtain ⟨-, -, b, ⟨n, hb⟩, h3, h4⟩ := h
    obtain ⟨-, -, b', ⟨n', hb'⟩, h3', h4'⟩ := h2
    have e := gt_uni (a := b) hd hn0 h4 h4' n n' _ hb hb'
    subst e
    congr 1
    have e1 : hx.choose.1 = o.1 := by
      have := h4.1.symm.trans h4'.1
      cases h9 : o.1 <;> cases h8 : hx.choose.1 <;> rw [h9, h8] at this <;> simp at this
      rw [this]
    exact Prod.ext e1 (h3'.symm.trans h3)
  · rename_i hx
    exact absurd ⟨o, h⟩ hx
theorem gt_noS {l : Launch} {ks : gt_KS} {cc : ByteArray} {nL : Nat} {own : String} {R : Room} : ∀ q ∈ ([] : List (Nat × (gt_L → List Value → gt_S → Option gt_F))), gt_spA l ks cc nL own R q := fun _ h => absurd h List.not_mem_nil
theorem gt_metS {l : Launch} {ks : gt_KS} {y : MethodName} {Y : gt_Y} {rm : Room} (hy : plainName y.cls = true) (hd : gt_dok Y.2.2.2.2.1 Y.2.2.2.1) (hE : gt_eok (gt_T ++ gt_N) y.cls vwCl Y.2.1) (hC : ∀ q ∈ Y.2.1.2.2.2.1, gt_ckA l ks Y.2.2.2.2.1 Y.1 y.cls rm q) (hSp : ∀ q ∈ Y.2.1.2.2.2.2, gt_spA l ks Y.2.2.2.2.1 Y.1 y.cls rm q) : gt_M l ks y (gt_W y Y.2.2.2.2.1 Y.1 Y.2.2.2.2.2.1) rm (gt_sem ks Y) :=
  gt_met (E := Y.2.1) (sp := Y.2.2.1) (cs := Y.2.2.2.1) hy hd hE hC hSp (fun _ _ _ _ h => (gt_sem_s h).2)
theorem gt_semrc {ks : gt_KS} {Y : gt_Y} {ci : Nat} {cls : String} {T : u_T} {N : Nat} (hY : Y.2.2.2.2.2.2 = some ci) (hc : vwCl[ci]? = some (cls, T, N)) (as : List Value) (σ : gt_S) (o : Option Value × gt_S) (h : gt_sem ks Y as σ = some o) : ∃ (b : Nat) (as' : List Value) (ci : Nat) (sl : List (Option (Option Nat))) (T : u_T) (N : Nat), as = .ref b :: as' ∧ gt_kd ks σ.2.2.2 b = some (.inr (ci, sl)) ∧ vwCl[ci]? = some (cls, T, N) := by
  have h1 := (gt_sem_s h).1
  unfold gt_rv at h1
  rw [hY] at h1
  obtain ⟨b, as', sl, e1, e2⟩ := h1
  exact ⟨b, as', ci, sl, T, N, e1, e2, hc⟩
theorem gt_nsp0 {E : gt_E} {cs : List gt_I} (h : E.2.2.2.2 = []) : gt_nsp E cs = true := by
  unfold gt_nsp
  rw [List.all_eq_true]
  intro q _
  rw [h]
  simp [gt_lk]
end
section
/-! System.arraycopy -/
def gt_cpy {α : Type} (f : Nat → Nat → α) (a sp b dp n : Nat) : Nat → Nat → α := fun j k => if j = b then va_cpy (f a) (f b) sp dp n k else f j k
def gt_acp (ks : gt_KS) : gt_G := fun as σ => match as with
  | [.ref a, .int sp, .ref b, .int dp, .int n] => (match gt_kd ks σ.2.2.2 a, gt_kd ks σ.2.2.2 b with
    | some (.inl (.int, n0, _)), some (.inl (.int, n1, _)) => if sp < 0 ∨ dp < 0 ∨ n < 0 ∨ n0 < sp.toNatClampNeg + n.toNatClampNeg ∨ n1 < dp.toNatClampNeg + n.toNatClampNeg then none else some (none, (gt_cpy σ.1 a sp.toNatClampNeg b dp.toNatClampNeg n.toNatClampNeg, σ.2))
    | some (.inl (.long, n0, _)), some (.inl (.long, n1, _)) => if sp < 0 ∨ dp < 0 ∨ n < 0 ∨ n0 < sp.toNatClampNeg + n.toNatClampNeg ∨ n1 < dp.toNatClampNeg + n.toNatClampNeg then none else some (none, (σ.1, gt_cpy σ.2.1 a sp.toNatClampNeg b dp.toNatClampNeg n.toNatClampNeg, σ.2.2))
    | _, _ => none)
  | _ => none
theorem gt_cpy_ne {α : Type} {f : Nat → Nat → α} {a sp b dp n i : Nat} (h : i ≠ b) : gt_cpy f a sp b dp n i = f i := by
  funext k
  simp [gt_cpy, h]
theorem gt_cpy_self {α : Type} {f : Nat → Nat → α} {a sp b dp n : Nat} : gt_cpy f a sp b dp n b = va_cpy (f a) (f b) sp dp n := by
  funext k
  simp [gt_cpy]
theorem gt_aCp {l : Launch} {ks : gt_KS} {cc : ByteArray} {nL : Nat} {own : String} {R : Room} {idx : Nat} (hl : Cond.methodLink own idx arraycopyName ∈ gt_T) (hnat : Cond.native arraycopyName ∈ gt_T) (hst : Cond.static arraycopyName ∈ gt_T) (hini : Cond.initialized "java/lang/System" ∈ gt_T) (hf : 1 ≤ R.frames) (hlo : 8 + (nativeFrameWords "java/lang/System" "arraycopy" 5 + 11) ≤ R.locals) : gt_ckA l ks cc nL own R (idx, 1, 0, 5, gt_acp ks) := by
  intro p e s m args below meth c Q D cA ad A H0 tx X
  obtain ⟨hx, hb, hml, hown, hts, hK, hDD, hA, hN⟩ := X
  intro pc lv as rest σ σ' r hdg hlen hfs hsum hJ
  dsimp only at hfs
  unfold gt_acp at hfs
  split at hfs
  · rename_i a sp b dp n
    split at hfs
    · rename_i n0 rs0 n1 rs1 ha hb2
      split at hfs
      · cases hfs
      · rename_i hno
        cases hfs
        intro ht ls H locs hlv hP hS
        refine va_copyi (rest := rest.map (gt_v ad)) hx hb (by rw [hml]; exact hlv.1.symm) hown (hts _ hl) (hts _ hnat) (hts _ hst) (hts _ hini) hK hP (hDD σ ht) hS a b 0 0 (gt_w_at (cA := cA) (ad := ad) ha) (gt_w_at (cA := cA) (ad := ad) hb2) rfl rfl rfl (fun q => hno (Or.inl q)) (fun q => hno (Or.inr (Or.inl q))) (fun q => hno (Or.inr (Or.inr (Or.inl q)))) (Nat.not_lt.mp fun q => hno (Or.inr (Or.inr (Or.inr (Or.inl q))))) (Nat.not_lt.mp fun q => hno (Or.inr (Or.inr (Or.inr (Or.inr q))))) (fun _ _ => rfl) hf (by rw [gt_sum_map]; omega) hdg (fun H1 locs1 hP1 _ hS1 => ?_)
        refine hJ ht ls H1 locs1 hlv ?_ hS1
        rw [← gt_w_set (cA := cA) (ad := ad) (σ := σ) (σ' := (gt_cpy σ.1 a sp.toNatClampNeg b dp.toNatClampNeg n.toNatClampNeg, σ.2)) rfl (fun i hi => ⟨gt_cpy_ne hi, rfl, rfl⟩) hb2]
        unfold gt_c gt_ct
        dsimp only
        rw [gt_cpy_self]
        exact hP1
    · rename_i n0 rs0 n1 rs1 ha hb2
      split at hfs
      · cases hfs
      · rename_i hno
        cases hfs
        intro ht ls H locs hlv hP hS
        refine va_copyl (rest := rest.map (gt_v ad)) hx hb (by rw [hml]; exact hlv.1.symm) hown (hts _ hl) (hts _ hnat) (hts _ hst) (hts _ hini) hK hP (hDD σ ht) hS a b 1 1 (gt_w_at (cA := cA) (ad := ad) ha) (gt_w_at (cA := cA) (ad := ad) hb2) rfl rfl rfl (fun q => hno (Or.inl q)) (fun q => hno (Or.inr (Or.inl q))) (fun q => hno (Or.inr (Or.inr (Or.inl q)))) (Nat.not_lt.mp fun q => hno (Or.inr (Or.inr (Or.inr (Or.inl q))))) (Nat.not_lt.mp fun q => hno (Or.inr (Or.inr (Or.inr (Or.inr q))))) (fun _ _ => rfl) hf (by rw [gt_sum_map]; omega) hdg (fun H1 locs1 hP1 _ hS1 => ?_)
        refine hJ ht ls H1 locs1 hlv ?_ hS1
        rw [← gt_w_set (cA := cA) (ad := ad) (σ := σ) (σ' := (σ.1, gt_cpy σ.2.1 a sp.toNatClampNeg b dp.toNatClampNeg n.toNatClampNeg, σ.2.2)) rfl (fun i hi => ⟨rfl, gt_cpy_ne hi, rfl⟩) hb2]
        unfold gt_c gt_ct
        dsimp only
        rw [gt_cpy_self]
        exact hP1
    · cases hfs
  · cases hfs
/-! Math.max, Math.min -/
def gt_mx : gt_G := fun as σ => match as with
  | [.int x, .int y] => some (some (.int (if x < y then y else x)), σ)
  | _ => none
def gt_mn : gt_G := fun as σ => match as with
  | [.int x, .int y] => some (some (.int (if y < x then y else x)), σ)
  | _ => none
def gt_mxl : gt_G := fun as σ => match as with
  | [.long x, .long y] => some (some (.long (if y < x then x else y)), σ)
  | _ => none
def gt_mnl : gt_G := fun as σ => match as with
  | [.long x, .long y] => some (some (.long (if y < x then y else x)), σ)
  | _ => none
theorem gt_aMx {l : Launch} {ks : gt_KS} {cc : ByteArray} {nL : Nat} {own : String} {R : Room} {idx : Nat} (hl : Cond.methodLink own idx Lib.Math.max.name ∈ gt_T) (hst : Cond.static Lib.Math.max.name ∈ gt_T) (hini : Cond.initialized "java/lang/Math" ∈ gt_T) (hc : Cond.code Lib.Math.max.name Lib.Math.max.code 2 (some .int) ∈ gt_T) (hf : 1 ≤ R.frames) (hlo : 21 ≤ R.locals) : gt_ckA l ks cc nL own R (idx, 1, 1, 2, gt_mx) := by
  intro p e s m args below meth c Q D cA ad A H0 tx X
  obtain ⟨hx, hb, hml, hown, hts, hK, hDD, hA, hN⟩ := X
  intro pc lv as rest σ σ' r hdg hlen hfs hsum hJ
  dsimp only at hfs
  unfold gt_mx at hfs
  split at hfs
  · cases hfs
    intro ht ls H locs hlv hP hS
    exact va_mmax (rest := rest.map (gt_v ad)) hx hb (by rw [hml]; exact hlv.1.symm) hown (hts _ hl) (hts _ hst) (hts _ hini) (hts _ hc) hf (by rw [gt_sum_map]; omega) (Nat.zero_le _) (Nat.zero_le _) hdg (hJ ht ls H locs hlv hP hS)
  · cases hfs
theorem gt_aMn {l : Launch} {ks : gt_KS} {cc : ByteArray} {nL : Nat} {own : String} {R : Room} {idx : Nat} (hl : Cond.methodLink own idx Lib.Math.min.name ∈ gt_T) (hst : Cond.static Lib.Math.min.name ∈ gt_T) (hini : Cond.initialized "java/lang/Math" ∈ gt_T) (hc : Cond.code Lib.Math.min.name Lib.Math.min.code 2 (some .int) ∈ gt_T) (hf : 1 ≤ R.frames) (hlo : 21 ≤ R.locals) : gt_ckA l ks cc nL own R (idx, 1, 1, 2, gt_mn) := by
  intro p e s m args below meth c Q D cA ad A H0 tx X
  obtain ⟨hx, hb, hml, hown, hts, hK, hDD, hA, hN⟩ := X
  intro pc lv as rest σ σ' r hdg hlen hfs hsum hJ
  dsimp only at hfs
  unfold gt_mn at hfs
  split at hfs
  · cases hfs
    intro ht ls H locs hlv hP hS
    exact va_mmin (rest := rest.map (gt_v ad)) hx hb (by rw [hml]; exact hlv.1.symm) hown (hts _ hl) (hts _ hst) (hts _ hini) (hts _ hc) hf (by rw [gt_sum_map]; omega) (Nat.zero_le _) (Nat.zero_le _) hdg (hJ ht ls H locs hlv hP hS)
  · cases hfs
theorem gt_aMxl {l : Launch} {ks : gt_KS} {cc : ByteArray} {nL : Nat} {own : String} {R : Room} {idx : Nat} (hl : Cond.methodLink own idx Lib.MathLoose.max_long.x ∈ gt_T) (hst : Cond.static Lib.MathLoose.max_long.x ∈ gt_T) (hini : Cond.initialized "java/lang/Math" ∈ gt_T) (hc : Cond.code Lib.MathLoose.max_long.x Lib.MathLoose.max_long.code 4 (some .long) ∈ gt_T) (hf : 1 ≤ R.frames) (hlo : 23 ≤ R.locals) : gt_ckA l ks cc nL own R (idx, 1, 2, 2, gt_mxl) := by
  intro p e s m args below meth c Q D cA ad A H0 tx X
  obtain ⟨hx, hb, hml, hown, hts, hK, hDD, hA, hN⟩ := X
  intro pc lv as rest σ σ' r hdg hlen hfs hsum hJ
  dsimp only at hfs
  unfold gt_mxl at hfs
  split at hfs
  · cases hfs
    intro ht ls H locs hlv hP hS
    exact va_mmax_long (rest := rest.map (gt_v ad)) hx hb (by rw [hml]; exact hlv.1.symm) hown (hts _ hl) (hts _ hst) (hts _ hini) (hts _ hc) hf (by rw [gt_sum_map]; omega) (Nat.zero_le _) (Nat.zero_le _) hdg (hJ ht ls H locs hlv hP hS)
  · cases hfs
theorem gt_aMnl {l : Launch} {ks : gt_KS} {cc : ByteArray} {nL : Nat} {own : String} {R : Room} {idx : Nat} (hl : Cond.methodLink own idx Lib.MathLoose.min_long.x ∈ gt_T) (hst : Cond.static Lib.MathLoose.min_long.x ∈ gt_T) (hini : Cond.initialized "java/lang/Math" ∈ gt_T) (hc : Cond.code Lib.MathLoose.min_long.x Lib.MathLoose.min_long.code 4 (some .long) ∈ gt_T) (hf : 1 ≤ R.frames) (hlo : 23 ≤ R.locals) : gt_ckA l ks cc nL own R (idx, 1, 2, 2, gt_mnl) := by
  intro p e s m args below meth c Q D cA ad A H0 tx X
  obtain ⟨hx, hb, hml, hown, hts, hK, hDD, hA, hN⟩ := X
  intro pc lv as rest σ σ' r hdg hlen hfs hsum hJ
  dsimp only at hfs
  unfold gt_mnl at hfs
  split at hfs
  · cases hfs
    intro ht ls H locs hlv hP hS
    exact va_mmin_long (rest := rest.map (gt_v ad)) hx hb (by rw [hml]; exact hlv.1.symm) hown (hts _ hl) (hts _ hst) (hts _ hini) (hts _ hc) hf (by rw [gt_sum_map]; omega) (Nat.zero_le _) (Nat.zero_le _) hdg (hJ ht ls H locs hlv hP hS)
  · cases hfs
end
